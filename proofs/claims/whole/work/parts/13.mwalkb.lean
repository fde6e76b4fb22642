/-! takesE -/
def tb_takesE : List (Nat × Instr × Nat) := [(0, .aload_n 0, 1), (1, .iconst 0, 1), (2, .putfield 77, 3), (5, .aload_n 0, 1), (6, .iconst 0, 1), (7, .putfield 80, 3), (10, .aload_n 0, 1), (11, .getfield 62, 3), (14, .iload_n 1, 1), (15, .aload_n 0, 1), (16, .getfield 74, 3), (19, .iastore, 1), (20, .iconst 1, 1), (21, .istore_n 2, 1), (22, .aload_n 0, 1), (23, .invokevirtual 218, 3), (26, .istore_n 3, 1), (27, .iload_n 2, 1), (28, .ifCond .eq 82, 3), (31, .iload_n 3, 1), (32, .bipush 33, 2), (34, .if_icmp .eq 9, 3), (37, .iload_n 3, 1), (38, .bipush 40, 2), (40, .if_icmp .ne 56, 3), (43, .aload_n 0, 1), (44, .getfield 80, 3), (47, .iconst 4, 1), (48, .if_icmp .ne 5, 3), (51, .iconst 0, 1), (52, .ireturn, 1), (53, .aload_n 0, 1), (54, .dup, 1), (55, .getfield 80, 3), (58, .iconst 1, 1), (59, .iadd, 1), (60, .putfield 80, 3), (63, .aload_n 0, 1), (64, .getfield 71, 3), (67, .aload_n 0, 1), (68, .getfield 77, 3), (71, .iload_n 3, 1), (72, .iastore, 1), (73, .aload_n 0, 1), (74, .dup, 1), (75, .getfield 77, 3), (78, .iconst 1, 1), (79, .iadd, 1), (80, .putfield 77, 3), (83, .aload_n 0, 1), (84, .dup, 1), (85, .getfield 44, 3), (88, .iconst 1, 1), (89, .iadd, 1), (90, .putfield 44, 3), (93, .goto (-71), 3), (96, .aload_n 0, 1), (97, .invokevirtual 243, 3), (100, .ifCond .eq 8, 3), (103, .iconst 0, 1), (104, .istore_n 2, 1), (105, .goto (-83), 3), (108, .iconst 0, 1), (109, .ireturn, 1), (110, .iload_n 3, 1), (111, .bipush 38, 2), (113, .if_icmp .eq 9, 3), (116, .iload_n 3, 1), (117, .bipush 124, 2), (119, .if_icmp .ne 43, 3), (122, .aload_n 0, 1), (123, .iload_n 3, 1), (124, .invokevirtual 246, 3), (127, .aload_n 0, 1), (128, .getfield 71, 3), (131, .aload_n 0, 1), (132, .getfield 77, 3), (135, .iload_n 3, 1), (136, .iastore, 1), (137, .aload_n 0, 1), (138, .dup, 1), (139, .getfield 77, 3), (142, .iconst 1, 1), (143, .iadd, 1), (144, .putfield 77, 3), (147, .iconst 1, 1), (148, .istore_n 2, 1), (149, .aload_n 0, 1), (150, .dup, 1), (151, .getfield 44, 3), (154, .iconst 1, 1), (155, .iadd, 1), (156, .putfield 44, 3), (159, .goto (-137), 3), (162, .aload_n 0, 1), (163, .bipush 124, 2), (165, .invokevirtual 246, 3), (168, .aload_n 0, 1), (169, .getfield 65, 3), (172, .iload_n 1, 1), (173, .aload_n 0, 1), (174, .getfield 74, 3), (177, .iastore, 1), (178, .aload_n 0, 1), (179, .getfield 77, 3), (182, .ifCond .ne 5, 3), (185, .iconst 1, 1), (186, .ireturn, 1), (187, .iload_n 3, 1), (188, .bipush 41, 2), (190, .if_icmp .eq 5, 3), (193, .iconst 0, 1), (194, .ireturn, 1), (195, .aload_n 0, 1), (196, .dup, 1), (197, .getfield 77, 3), (200, .iconst 1, 1), (201, .isub, 1), (202, .putfield 77, 3), (205, .aload_n 0, 1), (206, .dup, 1), (207, .getfield 80, 3), (210, .iconst 1, 1), (211, .isub, 1), (212, .putfield 80, 3), (215, .aload_n 0, 1), (216, .dup, 1), (217, .getfield 44, 3), (220, .iconst 1, 1), (221, .iadd, 1), (222, .putfield 44, 3), (225, .aload_n 0, 1), (226, .invokevirtual 240, 3), (229, .goto (-207), 3)]
theorem td_takesE : tb_takesE.all (fun q => decide (decode cX12_takesE q.1 = .ok (q.2.1, q.2.2))) = true := by decide +kernel
theorem hd_takesE : yX12_takesE.cls = RX12 ∧ yX12_takesE.cls ≠ "java/lang/invoke/MethodHandle" ∧ yX12_takesE.cls ≠ "java/lang/invoke/VarHandle" ∧ (parseMethodDescriptor yX12_takesE.desc).map (fun d => d.parameters.length) = some 1 := by decide +kernel
theorem w_takesE_b122 {p : Program} {l : Launch} {e : Env} {s : State} {m : MethodId} {args : Array Value} {below : List Frame} {meth : Method} {c : Code} {D : va_G} {o : Nat} {ad : Nat → Nat} {cs : ClassId × ClassId × ClassId} {r : Int32} {st' : mm_S} (C : mm_C p s m args meth c cX12_takesE 4 (some .boolean) D cs) (fu : Nat) (K22 : Int32 → Int32 → mm_S → Option (Int32 × mm_S)) (hK22 : ∀ (x1 : Int32) (x2 : Int32) (st : mm_S) (H : Heap) (locs : List Loc) (ls : Array Slot), K22 x1 x2 st = some (r, st') → lv_has ls 4 [(0, .ref o), (1, .int x1), (2, .int x2)] → mm_H D o ad cs s.heap st H locs → W p l e (mm_R 4 86) s m args below meth c H locs 0 0 (MQ below (mm_Qi D o ad cs r st') args s 0 0 (mm_A o ad)) (F0 m 22 ls [])) (x1 : Int32) (x3 : Int32) (st : mm_S) (hf : M_takesE_b122 fu K22 x1 x3 st = some (r, st')) {H : Heap} {locs : List Loc} {ls : Array Slot} (hl : lv_has ls 4 [(0, .ref o), (1, .int x1), (3, .int x3)]) (hM : mm_H D o ad cs s.heap st H locs) : W p l e (mm_R 4 86) s m args below meth c H locs 0 0 (MQ below (mm_Qi D o ad cs r st') args s 0 0 (mm_A o ad)) (F0 m 122 ls []) := by
  unfold M_takesE_b122 at hf
  refine lv_aload_n C.1 C.2.1 (dd_at td_takesE 70 rfl) rfl (lv_at hl 0 rfl) ?_
  refine lv_iload_n C.1 C.2.1 (dd_at td_takesE 71 rfl) rfl (lv_at hl 2 rfl) ?_
  obtain ⟨st28, hx29, hf⟩ := fc_of_bv hf
  refine mm_cv (As := [.int x3]) (rest := []) (n := 1) C hM (c_settle l D o ad cs fu x3 st) (List.mem_of_getElem? (i := 36) rfl) (dd_at td_takesE 72 rfl) hx29 hl.1 hd_settle ⟨Nat.le_of_ble_eq_true rfl, Nat.le_of_ble_eq_true rfl⟩ rfl rfl (Nat.le_of_ble_eq_true rfl) ⟨Nat.le_refl 0, Nat.le_refl 0⟩ (fun H locs hM => ?_)
  refine lv_aload_n C.1 C.2.1 (dd_at td_takesE 73 rfl) rfl (lv_at hl 0 rfl) ?_
  refine mm_gA C hM 20 (dd_at td_takesE 74 rfl) (by decide) (by decide) (by decide) ?_
  refine lv_aload_n C.1 C.2.1 (dd_at td_takesE 75 rfl) rfl (lv_at hl 0 rfl) ?_
  refine mm_gI C hM 22 (dd_at td_takesE 76 rfl) (by decide) (by decide) (by decide) ?_
  refine lv_iload_n C.1 C.2.1 (dd_at td_takesE 77 rfl) rfl (lv_at hl 2 rfl) ?_
  obtain ⟨g30, hf⟩ := fc_of_gd hf
  refine mm_iast C hM 20 (dd_at td_takesE 78 rfl) (by decide) (by decide) (fc_of_ix g30) (fun st31 H locs est31 hM => ?_)
  replace hf := fc_of_nm hf st31 est31
  refine lv_aload_n C.1 C.2.1 (dd_at td_takesE 79 rfl) rfl (lv_at hl 0 rfl) ?_
  refine lv_dup C.1 C.2.1 (dd_at td_takesE 80 rfl) rfl ?_
  refine mm_gI C hM 22 (dd_at td_takesE 81 rfl) (by decide) (by decide) (by decide) ?_
  refine lv_iconst (v := (1 : Int32)) C.1 C.2.1 (dd_at td_takesE 82 rfl) (by decide) ?_
  refine lv_iadd C.1 C.2.1 (dd_at td_takesE 83 rfl) ?_
  refine mm_pI C hM 22 (dd_at td_takesE 84 rfl) (by decide) (by decide) (by decide) rfl rfl (fun st32 H locs est32 hM => ?_)
  replace hf := fc_of_nm hf st32 est32
  refine lv_iconst (v := (1 : Int32)) C.1 C.2.1 (dd_at td_takesE 85 rfl) (by decide) ?_
  refine lv_istore_n (lv' := [(2, .int (1 : Int32)), (0, .ref o), (1, .int x1), (3, .int x3)]) C.1 C.2.1 (dd_at td_takesE 86 rfl) rfl hl (by decide) rfl (fun ls hl => ?_)
  refine lv_aload_n C.1 C.2.1 (dd_at td_takesE 87 rfl) rfl (lv_at hl 1 rfl) ?_
  refine lv_dup C.1 C.2.1 (dd_at td_takesE 88 rfl) rfl ?_
  refine mm_gI C hM 11 (dd_at td_takesE 89 rfl) (by decide) (by decide) (by decide) ?_
  refine lv_iconst (v := (1 : Int32)) C.1 C.2.1 (dd_at td_takesE 90 rfl) (by decide) ?_
  refine lv_iadd C.1 C.2.1 (dd_at td_takesE 91 rfl) ?_
  refine mm_pI C hM 11 (dd_at td_takesE 92 rfl) (by decide) (by decide) (by decide) rfl rfl (fun st33 H locs est33 hM => ?_)
  replace hf := fc_of_nm hf st33 est33
  refine lv_goto (tgt := 22) C.1 C.2.1 (dd_at td_takesE 93 rfl) (by decide) ?_
  exact hK22 x1 (1 : Int32) st33 _ _ _ hf (lv_sub hl [1, 2, 0] rfl) hM
theorem w_takesE_b43 {p : Program} {l : Launch} {e : Env} {s : State} {m : MethodId} {args : Array Value} {below : List Frame} {meth : Method} {c : Code} {D : va_G} {o : Nat} {ad : Nat → Nat} {cs : ClassId × ClassId × ClassId} {r : Int32} {st' : mm_S} (C : mm_C p s m args meth c cX12_takesE 4 (some .boolean) D cs) (fu : Nat) (K22 : Int32 → Int32 → mm_S → Option (Int32 × mm_S)) (hK22 : ∀ (x1 : Int32) (x2 : Int32) (st : mm_S) (H : Heap) (locs : List Loc) (ls : Array Slot), K22 x1 x2 st = some (r, st') → lv_has ls 4 [(0, .ref o), (1, .int x1), (2, .int x2)] → mm_H D o ad cs s.heap st H locs → W p l e (mm_R 4 86) s m args below meth c H locs 0 0 (MQ below (mm_Qi D o ad cs r st') args s 0 0 (mm_A o ad)) (F0 m 22 ls [])) (x1 : Int32) (x2 : Int32) (x3 : Int32) (st : mm_S) (hf : M_takesE_b43 fu K22 x1 x2 x3 st = some (r, st')) {H : Heap} {locs : List Loc} {ls : Array Slot} (hl : lv_has ls 4 [(0, .ref o), (1, .int x1), (2, .int x2), (3, .int x3)]) (hM : mm_H D o ad cs s.heap st H locs) : W p l e (mm_R 4 86) s m args below meth c H locs 0 0 (MQ below (mm_Qi D o ad cs r st') args s 0 0 (mm_A o ad)) (F0 m 43 ls []) := by
  unfold M_takesE_b43 at hf
  refine lv_aload_n C.1 C.2.1 (dd_at td_takesE 25 rfl) rfl (lv_at hl 0 rfl) ?_
  refine mm_gI C hM 23 (dd_at td_takesE 26 rfl) (by decide) (by decide) (by decide) ?_
  refine lv_iconst (v := (4 : Int32)) C.1 C.2.1 (dd_at td_takesE 27 rfl) (by decide) ?_
  refine lv_icmp_ne (tgt := 53) C.1 C.2.1 (dd_at td_takesE 28 rfl) (by decide) (fun c34 => ?_) (fun c34 => ?_)
  · replace hf := fc_of_f hf c34
    refine lv_aload_n C.1 C.2.1 (dd_at td_takesE 31 rfl) rfl (lv_at hl 0 rfl) ?_
    refine lv_dup C.1 C.2.1 (dd_at td_takesE 32 rfl) rfl ?_
    refine mm_gI C hM 23 (dd_at td_takesE 33 rfl) (by decide) (by decide) (by decide) ?_
    refine lv_iconst (v := (1 : Int32)) C.1 C.2.1 (dd_at td_takesE 34 rfl) (by decide) ?_
    refine lv_iadd C.1 C.2.1 (dd_at td_takesE 35 rfl) ?_
    refine mm_pI C hM 23 (dd_at td_takesE 36 rfl) (by decide) (by decide) (by decide) rfl rfl (fun st35 H locs est35 hM => ?_)
    replace hf := fc_of_nm hf st35 est35
    refine lv_aload_n C.1 C.2.1 (dd_at td_takesE 37 rfl) rfl (lv_at hl 0 rfl) ?_
    refine mm_gA C hM 20 (dd_at td_takesE 38 rfl) (by decide) (by decide) (by decide) ?_
    refine lv_aload_n C.1 C.2.1 (dd_at td_takesE 39 rfl) rfl (lv_at hl 0 rfl) ?_
    refine mm_gI C hM 22 (dd_at td_takesE 40 rfl) (by decide) (by decide) (by decide) ?_
    refine lv_iload_n C.1 C.2.1 (dd_at td_takesE 41 rfl) rfl (lv_at hl 3 rfl) ?_
    obtain ⟨g36, hf⟩ := fc_of_gd hf
    refine mm_iast C hM 20 (dd_at td_takesE 42 rfl) (by decide) (by decide) (fc_of_ix g36) (fun st37 H locs est37 hM => ?_)
    replace hf := fc_of_nm hf st37 est37
    refine lv_aload_n C.1 C.2.1 (dd_at td_takesE 43 rfl) rfl (lv_at hl 0 rfl) ?_
    refine lv_dup C.1 C.2.1 (dd_at td_takesE 44 rfl) rfl ?_
    refine mm_gI C hM 22 (dd_at td_takesE 45 rfl) (by decide) (by decide) (by decide) ?_
    refine lv_iconst (v := (1 : Int32)) C.1 C.2.1 (dd_at td_takesE 46 rfl) (by decide) ?_
    refine lv_iadd C.1 C.2.1 (dd_at td_takesE 47 rfl) ?_
    refine mm_pI C hM 22 (dd_at td_takesE 48 rfl) (by decide) (by decide) (by decide) rfl rfl (fun st38 H locs est38 hM => ?_)
    replace hf := fc_of_nm hf st38 est38
    refine lv_aload_n C.1 C.2.1 (dd_at td_takesE 49 rfl) rfl (lv_at hl 0 rfl) ?_
    refine lv_dup C.1 C.2.1 (dd_at td_takesE 50 rfl) rfl ?_
    refine mm_gI C hM 11 (dd_at td_takesE 51 rfl) (by decide) (by decide) (by decide) ?_
    refine lv_iconst (v := (1 : Int32)) C.1 C.2.1 (dd_at td_takesE 52 rfl) (by decide) ?_
    refine lv_iadd C.1 C.2.1 (dd_at td_takesE 53 rfl) ?_
    refine mm_pI C hM 11 (dd_at td_takesE 54 rfl) (by decide) (by decide) (by decide) rfl rfl (fun st39 H locs est39 hM => ?_)
    replace hf := fc_of_nm hf st39 est39
    refine lv_goto (tgt := 22) C.1 C.2.1 (dd_at td_takesE 55 rfl) (by decide) ?_
    exact hK22 x1 x2 st39 _ _ _ hf (lv_sub hl [0, 1, 2] rfl) hM
  · replace hf := fc_of_t hf c34
    refine lv_iconst (v := (0 : Int32)) C.1 C.2.1 (dd_at td_takesE 29 rfl) (by decide) ?_
    exact mm_rz C hM (dd_at td_takesE 30 rfl) rfl hf
theorem w_takesE_b22F {p : Program} {l : Launch} {e : Env} {s : State} {m : MethodId} {args : Array Value} {below : List Frame} {meth : Method} {c : Code} {D : va_G} {o : Nat} {ad : Nat → Nat} {cs : ClassId × ClassId × ClassId} {r : Int32} {st' : mm_S} (C : mm_C p s m args meth c cX12_takesE 4 (some .boolean) D cs) (fu : Nat) (K22 : Int32 → Int32 → mm_S → Option (Int32 × mm_S)) (hK22 : ∀ (x1 : Int32) (x2 : Int32) (st : mm_S) (H : Heap) (locs : List Loc) (ls : Array Slot), K22 x1 x2 st = some (r, st') → lv_has ls 4 [(0, .ref o), (1, .int x1), (2, .int x2)] → mm_H D o ad cs s.heap st H locs → W p l e (mm_R 4 86) s m args below meth c H locs 0 0 (MQ below (mm_Qi D o ad cs r st') args s 0 0 (mm_A o ad)) (F0 m 22 ls [])) (x1 : Int32) (x2 : Int32) (st : mm_S) (hf : M_takesE_b22F fu K22 x1 x2 st = some (r, st')) {H : Heap} {locs : List Loc} {ls : Array Slot} (hl : lv_has ls 4 [(0, .ref o), (1, .int x1), (2, .int x2)]) (hM : mm_H D o ad cs s.heap st H locs) : W p l e (mm_R 4 86) s m args below meth c H locs 0 0 (MQ below (mm_Qi D o ad cs r st') args s 0 0 (mm_A o ad)) (F0 m 22 ls []) := by
  unfold M_takesE_b22F at hf
  refine lv_aload_n C.1 C.2.1 (dd_at td_takesE 14 rfl) rfl (lv_at hl 0 rfl) ?_
  obtain ⟨r7, st5, hx6, hf⟩ := fc_of_bn hf
  refine mm_ci (As := []) (rest := []) (n := 0) C hM (c_next l D o ad cs fu st) (List.mem_of_getElem? (i := 33) rfl) (dd_at td_takesE 15 rfl) hx6 hl.1 hd_next ⟨Nat.le_of_ble_eq_true rfl, Nat.le_of_ble_eq_true rfl⟩ rfl rfl (Nat.le_of_ble_eq_true rfl) ⟨Nat.le_refl 0, Nat.le_refl 0⟩ (fun H locs hM => ?_)
  refine lv_istore_n (lv' := [(3, .int r7), (0, .ref o), (1, .int x1), (2, .int x2)]) C.1 C.2.1 (dd_at td_takesE 16 rfl) rfl hl (by decide) rfl (fun ls hl => ?_)
  refine lv_iload_n C.1 C.2.1 (dd_at td_takesE 17 rfl) rfl (lv_at hl 3 rfl) ?_
  refine lv_if_eq (tgt := 110) C.1 C.2.1 (dd_at td_takesE 18 rfl) (by decide) (fun c8 => ?_) (fun c8 => ?_)
  · replace hf := fc_of_t hf c8
    refine lv_iload_n C.1 C.2.1 (dd_at td_takesE 64 rfl) rfl (lv_at hl 0 rfl) ?_
    refine lv_bipush (v := (38 : Int32)) C.1 C.2.1 (dd_at td_takesE 65 rfl) (by decide) ?_
    refine lv_icmp_eq (tgt := 122) C.1 C.2.1 (dd_at td_takesE 66 rfl) (by decide) (fun c9 => ?_) (fun c9 => ?_)
    · replace hf := fc_of_t hf c9
      exact w_takesE_b122 C fu K22 hK22 x1 r7 st5 hf (lv_sub hl [1, 2, 0] rfl) hM
    · replace hf := fc_of_f hf c9
      refine lv_iload_n C.1 C.2.1 (dd_at td_takesE 67 rfl) rfl (lv_at hl 0 rfl) ?_
      refine lv_bipush (v := (124 : Int32)) C.1 C.2.1 (dd_at td_takesE 68 rfl) (by decide) ?_
      refine lv_icmp_ne (tgt := 162) C.1 C.2.1 (dd_at td_takesE 69 rfl) (by decide) (fun c10 => ?_) (fun c10 => ?_)
      · replace hf := fc_of_f hf c10
        refine lv_aload_n C.1 C.2.1 (dd_at td_takesE 94 rfl) rfl (lv_at hl 1 rfl) ?_
        refine lv_bipush (v := (124 : Int32)) C.1 C.2.1 (dd_at td_takesE 95 rfl) (by decide) ?_
        obtain ⟨st11, hx12, hf⟩ := fc_of_bv hf
        refine mm_cv (As := [.int (124 : Int32)]) (rest := []) (n := 1) C hM (c_settle l D o ad cs fu (124 : Int32) st5) (List.mem_of_getElem? (i := 36) rfl) (dd_at td_takesE 96 rfl) hx12 hl.1 hd_settle ⟨Nat.le_of_ble_eq_true rfl, Nat.le_of_ble_eq_true rfl⟩ rfl rfl (Nat.le_of_ble_eq_true rfl) ⟨Nat.le_refl 0, Nat.le_refl 0⟩ (fun H locs hM => ?_)
        refine lv_aload_n C.1 C.2.1 (dd_at td_takesE 97 rfl) rfl (lv_at hl 1 rfl) ?_
        refine mm_gA C hM 18 (dd_at td_takesE 98 rfl) (by decide) (by decide) (by decide) ?_
        refine lv_iload_n C.1 C.2.1 (dd_at td_takesE 99 rfl) rfl (lv_at hl 2 rfl) ?_
        refine lv_aload_n C.1 C.2.1 (dd_at td_takesE 100 rfl) rfl (lv_at hl 1 rfl) ?_
        refine mm_gI C hM 21 (dd_at td_takesE 101 rfl) (by decide) (by decide) (by decide) ?_
        obtain ⟨g13, hf⟩ := fc_of_gd hf
        refine mm_iast C hM 18 (dd_at td_takesE 102 rfl) (by decide) (by decide) (fc_of_ix g13) (fun st14 H locs est14 hM => ?_)
        replace hf := fc_of_nm hf st14 est14
        refine lv_aload_n C.1 C.2.1 (dd_at td_takesE 103 rfl) rfl (lv_at hl 1 rfl) ?_
        refine mm_gI C hM 22 (dd_at td_takesE 104 rfl) (by decide) (by decide) (by decide) ?_
        refine lv_if_ne (tgt := 187) C.1 C.2.1 (dd_at td_takesE 105 rfl) (by decide) (fun c15 => ?_) (fun c15 => ?_)
        · replace hf := fc_of_f hf c15
          refine lv_iload_n C.1 C.2.1 (dd_at td_takesE 108 rfl) rfl (lv_at hl 0 rfl) ?_
          refine lv_bipush (v := (41 : Int32)) C.1 C.2.1 (dd_at td_takesE 109 rfl) (by decide) ?_
          refine lv_icmp_eq (tgt := 195) C.1 C.2.1 (dd_at td_takesE 110 rfl) (by decide) (fun c16 => ?_) (fun c16 => ?_)
          · replace hf := fc_of_t hf c16
            refine lv_aload_n C.1 C.2.1 (dd_at td_takesE 113 rfl) rfl (lv_at hl 1 rfl) ?_
            refine lv_dup C.1 C.2.1 (dd_at td_takesE 114 rfl) rfl ?_
            refine mm_gI C hM 22 (dd_at td_takesE 115 rfl) (by decide) (by decide) (by decide) ?_
            refine lv_iconst (v := (1 : Int32)) C.1 C.2.1 (dd_at td_takesE 116 rfl) (by decide) ?_
            refine lv_isub C.1 C.2.1 (dd_at td_takesE 117 rfl) ?_
            refine mm_pI C hM 22 (dd_at td_takesE 118 rfl) (by decide) (by decide) (by decide) rfl rfl (fun st17 H locs est17 hM => ?_)
            replace hf := fc_of_nm hf st17 est17
            refine lv_aload_n C.1 C.2.1 (dd_at td_takesE 119 rfl) rfl (lv_at hl 1 rfl) ?_
            refine lv_dup C.1 C.2.1 (dd_at td_takesE 120 rfl) rfl ?_
            refine mm_gI C hM 23 (dd_at td_takesE 121 rfl) (by decide) (by decide) (by decide) ?_
            refine lv_iconst (v := (1 : Int32)) C.1 C.2.1 (dd_at td_takesE 122 rfl) (by decide) ?_
            refine lv_isub C.1 C.2.1 (dd_at td_takesE 123 rfl) ?_
            refine mm_pI C hM 23 (dd_at td_takesE 124 rfl) (by decide) (by decide) (by decide) rfl rfl (fun st18 H locs est18 hM => ?_)
            replace hf := fc_of_nm hf st18 est18
            refine lv_aload_n C.1 C.2.1 (dd_at td_takesE 125 rfl) rfl (lv_at hl 1 rfl) ?_
            refine lv_dup C.1 C.2.1 (dd_at td_takesE 126 rfl) rfl ?_
            refine mm_gI C hM 11 (dd_at td_takesE 127 rfl) (by decide) (by decide) (by decide) ?_
            refine lv_iconst (v := (1 : Int32)) C.1 C.2.1 (dd_at td_takesE 128 rfl) (by decide) ?_
            refine lv_iadd C.1 C.2.1 (dd_at td_takesE 129 rfl) ?_
            refine mm_pI C hM 11 (dd_at td_takesE 130 rfl) (by decide) (by decide) (by decide) rfl rfl (fun st19 H locs est19 hM => ?_)
            replace hf := fc_of_nm hf st19 est19
            refine lv_aload_n C.1 C.2.1 (dd_at td_takesE 131 rfl) rfl (lv_at hl 1 rfl) ?_
            obtain ⟨st20, hx21, hf⟩ := fc_of_bv hf
            refine mm_cv (As := []) (rest := []) (n := 0) C hM (c_whole l D o ad cs fu st19) (List.mem_of_getElem? (i := 47) rfl) (dd_at td_takesE 132 rfl) hx21 hl.1 hd_whole ⟨Nat.le_of_ble_eq_true rfl, Nat.le_of_ble_eq_true rfl⟩ rfl rfl (Nat.le_of_ble_eq_true rfl) ⟨Nat.le_refl 0, Nat.le_refl 0⟩ (fun H locs hM => ?_)
            refine lv_goto (tgt := 22) C.1 C.2.1 (dd_at td_takesE 133 rfl) (by decide) ?_
            exact hK22 x1 x2 st20 _ _ _ hf (lv_sub hl [1, 2, 3] rfl) hM
          · replace hf := fc_of_f hf c16
            refine lv_iconst (v := (0 : Int32)) C.1 C.2.1 (dd_at td_takesE 111 rfl) (by decide) ?_
            exact mm_rz C hM (dd_at td_takesE 112 rfl) rfl hf
        · replace hf := fc_of_t hf c15
          refine lv_iconst (v := (1 : Int32)) C.1 C.2.1 (dd_at td_takesE 106 rfl) (by decide) ?_
          exact mm_rz C hM (dd_at td_takesE 107 rfl) rfl hf
      · replace hf := fc_of_t hf c10
        exact w_takesE_b122 C fu K22 hK22 x1 r7 st5 hf (lv_sub hl [1, 2, 0] rfl) hM
  · replace hf := fc_of_f hf c8
    refine lv_iload_n C.1 C.2.1 (dd_at td_takesE 19 rfl) rfl (lv_at hl 0 rfl) ?_
    refine lv_bipush (v := (33 : Int32)) C.1 C.2.1 (dd_at td_takesE 20 rfl) (by decide) ?_
    refine lv_icmp_eq (tgt := 43) C.1 C.2.1 (dd_at td_takesE 21 rfl) (by decide) (fun c22 => ?_) (fun c22 => ?_)
    · replace hf := fc_of_t hf c22
      exact w_takesE_b43 C fu K22 hK22 x1 x2 r7 st5 hf (lv_sub hl [1, 2, 3, 0] rfl) hM
    · replace hf := fc_of_f hf c22
      refine lv_iload_n C.1 C.2.1 (dd_at td_takesE 22 rfl) rfl (lv_at hl 0 rfl) ?_
      refine lv_bipush (v := (40 : Int32)) C.1 C.2.1 (dd_at td_takesE 23 rfl) (by decide) ?_
      refine lv_icmp_ne (tgt := 96) C.1 C.2.1 (dd_at td_takesE 24 rfl) (by decide) (fun c23 => ?_) (fun c23 => ?_)
      · replace hf := fc_of_f hf c23
        refine lv_aload_n C.1 C.2.1 (dd_at td_takesE 56 rfl) rfl (lv_at hl 1 rfl) ?_
        obtain ⟨r26, st24, hx25, hf⟩ := fc_of_bn hf
        refine mm_ci (As := []) (rest := []) (n := 0) C hM (c_takesTest l D o ad cs fu st5) (List.mem_of_getElem? (i := 43) rfl) (dd_at td_takesE 57 rfl) hx25 hl.1 hd_takesTest ⟨Nat.le_of_ble_eq_true rfl, Nat.le_of_ble_eq_true rfl⟩ rfl rfl (Nat.le_of_ble_eq_true rfl) ⟨Nat.le_refl 0, Nat.le_refl 0⟩ (fun H locs hM => ?_)
        refine lv_if_eq (tgt := 108) C.1 C.2.1 (dd_at td_takesE 58 rfl) (by decide) (fun c27 => ?_) (fun c27 => ?_)
        · replace hf := fc_of_t hf c27
          refine lv_iconst (v := (0 : Int32)) C.1 C.2.1 (dd_at td_takesE 62 rfl) (by decide) ?_
          exact mm_rz C hM (dd_at td_takesE 63 rfl) rfl hf
        · replace hf := fc_of_f hf c27
          refine lv_iconst (v := (0 : Int32)) C.1 C.2.1 (dd_at td_takesE 59 rfl) (by decide) ?_
          refine lv_istore_n (lv' := [(2, .int (0 : Int32)), (3, .int r7), (0, .ref o), (1, .int x1)]) C.1 C.2.1 (dd_at td_takesE 60 rfl) rfl hl (by decide) rfl (fun ls hl => ?_)
          refine lv_goto (tgt := 22) C.1 C.2.1 (dd_at td_takesE 61 rfl) (by decide) ?_
          exact hK22 x1 (0 : Int32) st24 _ _ _ hf (lv_sub hl [2, 3, 0] rfl) hM
      · replace hf := fc_of_t hf c23
        exact w_takesE_b43 C fu K22 hK22 x1 x2 r7 st5 hf (lv_sub hl [1, 2, 3, 0] rfl) hM
theorem w_takesE_b22 {p : Program} {l : Launch} {e : Env} {s : State} {m : MethodId} {args : Array Value} {below : List Frame} {meth : Method} {c : Code} {D : va_G} {o : Nat} {ad : Nat → Nat} {cs : ClassId × ClassId × ClassId} {r : Int32} {st' : mm_S} (C : mm_C p s m args meth c cX12_takesE 4 (some .boolean) D cs) (fu : Nat) (n : Nat) : ∀ (x1 : Int32) (x2 : Int32) (st : mm_S), M_takesE_b22 fu n x1 x2 st = some (r, st') → ∀ (H : Heap) (locs : List Loc) (ls : Array Slot), lv_has ls 4 [(0, .ref o), (1, .int x1), (2, .int x2)] → mm_H D o ad cs s.heap st H locs → W p l e (mm_R 4 86) s m args below meth c H locs 0 0 (MQ below (mm_Qi D o ad cs r st') args s 0 0 (mm_A o ad)) (F0 m 22 ls []) := by
  induction n with
  | zero => exact fun _ _ _ hf => fc_no hf
  | succ n ih =>
    intro x1 x2 st hf H locs ls hl hM
    exact w_takesE_b22F C fu (fun x1 x2 st => M_takesE_b22 fu n x1 x2 st) (fun x1 x2 st H locs ls hf hl hM => ih x1 x2 st hf H locs ls hl hM) x1 x2 st hf hl hM
theorem w_takesE {p : Program} {l : Launch} {e : Env} {s : State} {m : MethodId} {args : Array Value} {below : List Frame} {meth : Method} {c : Code} {D : va_G} {o : Nat} {ad : Nat → Nat} {cs : ClassId × ClassId × ClassId} {r : Int32} {st' : mm_S} (C : mm_C p s m args meth c cX12_takesE 4 (some .boolean) D cs) (fu : Nat) (x1 : Int32) (st : mm_S) (hf : M_takesE fu x1 st = some (r, st')) {H : Heap} {locs : List Loc} {ls : Array Slot} (hl : lv_has ls 4 [(0, .ref o), (1, .int x1)]) (hM : mm_H D o ad cs s.heap st H locs) : W p l e (mm_R 4 86) s m args below meth c H locs 0 0 (MQ below (mm_Qi D o ad cs r st') args s 0 0 (mm_A o ad)) (F0 m 0 ls []) := by
  unfold M_takesE at hf
  refine lv_aload_n C.1 C.2.1 (dd_at td_takesE 0 rfl) rfl (lv_at hl 0 rfl) ?_
  refine lv_iconst (v := (0 : Int32)) C.1 C.2.1 (dd_at td_takesE 1 rfl) (by decide) ?_
  refine mm_pI C hM 22 (dd_at td_takesE 2 rfl) (by decide) (by decide) (by decide) rfl rfl (fun st1 H locs est1 hM => ?_)
  replace hf := fc_of_nm hf st1 est1
  refine lv_aload_n C.1 C.2.1 (dd_at td_takesE 3 rfl) rfl (lv_at hl 0 rfl) ?_
  refine lv_iconst (v := (0 : Int32)) C.1 C.2.1 (dd_at td_takesE 4 rfl) (by decide) ?_
  refine mm_pI C hM 23 (dd_at td_takesE 5 rfl) (by decide) (by decide) (by decide) rfl rfl (fun st2 H locs est2 hM => ?_)
  replace hf := fc_of_nm hf st2 est2
  refine lv_aload_n C.1 C.2.1 (dd_at td_takesE 6 rfl) rfl (lv_at hl 0 rfl) ?_
  refine mm_gA C hM 17 (dd_at td_takesE 7 rfl) (by decide) (by decide) (by decide) ?_
  refine lv_iload_n C.1 C.2.1 (dd_at td_takesE 8 rfl) rfl (lv_at hl 1 rfl) ?_
  refine lv_aload_n C.1 C.2.1 (dd_at td_takesE 9 rfl) rfl (lv_at hl 0 rfl) ?_
  refine mm_gI C hM 21 (dd_at td_takesE 10 rfl) (by decide) (by decide) (by decide) ?_
  obtain ⟨g3, hf⟩ := fc_of_gd hf
  refine mm_iast C hM 17 (dd_at td_takesE 11 rfl) (by decide) (by decide) (fc_of_ix g3) (fun st4 H locs est4 hM => ?_)
  replace hf := fc_of_nm hf st4 est4
  refine lv_iconst (v := (1 : Int32)) C.1 C.2.1 (dd_at td_takesE 12 rfl) (by decide) ?_
  refine lv_istore_n (lv' := [(2, .int (1 : Int32)), (0, .ref o), (1, .int x1)]) C.1 C.2.1 (dd_at td_takesE 13 rfl) rfl hl (by decide) rfl (fun ls hl => ?_)
  exact w_takesE_b22 C fu fu x1 (1 : Int32) st4 hf _ _ _ (lv_sub hl [1, 2, 0] rfl) hM
theorem c_takesE (l : Launch) (D : va_G) (o : Nat) (ad : Nat → Nat) (cs : ClassId × ClassId × ClassId) (fu : Nat) (x1 : Int32) (st : mm_S) : mm_Mi l D o ad cs yX12_takesE cX12_takesE 4 (some .boolean) 4 86 [.int x1] st (M_takesE fu x1 st) := by
  intro r st' hf
  refine mm_enter (cc := cX12_takesE) (nL := 4) (ret := some .boolean) (by decide) rfl (Nat.le_of_ble_eq_true rfl) ?_
  intro p e s m args below meth c ls C hl hM
  exact w_takesE C fu x1 st hf hl hM

/-! takesHead -/
def tb_takesHead : List (Nat × Instr × Nat) := [(0, .aload_n 0, 1), (1, .invokevirtual 218, 3), (4, .lookupswitch 56 #[(102, 28), (115, 42)], 28), (32, .aload_n 0, 1), (33, .getfield 56, 3), (36, .iload_n 1, 1), (37, .iconst 0, 1), (38, .iastore, 1), (39, .aload_n 0, 1), (40, .iconst 0, 1), (41, .iconst 4, 1), (42, .invokevirtual 249, 3), (45, .ireturn, 1), (46, .aload_n 0, 1), (47, .getfield 56, 3), (50, .iload_n 1, 1), (51, .iconst 1, 1), (52, .iastore, 1), (53, .aload_n 0, 1), (54, .iconst 4, 1), (55, .iconst 5, 1), (56, .invokevirtual 249, 3), (59, .ireturn, 1), (60, .aload_n 0, 1), (61, .getfield 56, 3), (64, .iload_n 1, 1), (65, .iconst 2, 1), (66, .iastore, 1), (67, .aload_n 0, 1), (68, .bipush 9, 2), (70, .iconst 4, 1), (71, .invokevirtual 249, 3), (74, .ireturn, 1)]
theorem td_takesHead : tb_takesHead.all (fun q => decide (decode cX12_takesHead q.1 = .ok (q.2.1, q.2.2))) = true := by decide +kernel
theorem hd_takesHead : yX12_takesHead.cls = RX12 ∧ yX12_takesHead.cls ≠ "java/lang/invoke/MethodHandle" ∧ yX12_takesHead.cls ≠ "java/lang/invoke/VarHandle" ∧ (parseMethodDescriptor yX12_takesHead.desc).map (fun d => d.parameters.length) = some 1 := by decide +kernel
theorem w_takesHead {p : Program} {l : Launch} {e : Env} {s : State} {m : MethodId} {args : Array Value} {below : List Frame} {meth : Method} {c : Code} {D : va_G} {o : Nat} {ad : Nat → Nat} {cs : ClassId × ClassId × ClassId} {r : Int32} {st' : mm_S} (C : mm_C p s m args meth c cX12_takesHead 2 (some .boolean) D cs) (fu : Nat) (x1 : Int32) (st : mm_S) (hf : M_takesHead fu x1 st = some (r, st')) {H : Heap} {locs : List Loc} {ls : Array Slot} (hl : lv_has ls 2 [(0, .ref o), (1, .int x1)]) (hM : mm_H D o ad cs s.heap st H locs) : W p l e (mm_R 3 64) s m args below meth c H locs 0 0 (MQ below (mm_Qi D o ad cs r st') args s 0 0 (mm_A o ad)) (F0 m 0 ls []) := by
  unfold M_takesHead at hf
  refine lv_aload_n C.1 C.2.1 (dd_at td_takesHead 0 rfl) rfl (lv_at hl 0 rfl) ?_
  obtain ⟨r3, st1, hx2, hf⟩ := fc_of_bn hf
  refine mm_ci (As := []) (rest := []) (n := 0) C hM (c_next l D o ad cs fu st) (List.mem_of_getElem? (i := 33) rfl) (dd_at td_takesHead 1 rfl) hx2 hl.1 hd_next ⟨Nat.le_of_ble_eq_true rfl, Nat.le_of_ble_eq_true rfl⟩ rfl rfl (Nat.le_of_ble_eq_true rfl) ⟨Nat.le_refl 0, Nat.le_refl 0⟩ (fun H locs hM => ?_)
  by_cases c4 : r3 = (102 : Int32)
  · replace hf := fc_of_t hf c4
    refine lv_lookup (off := 28) (tgt := 32) C.1 C.2.1 (dd_at td_takesHead 2 rfl) (by decide) (by rw [c4]; decide) (by decide) ?_
    refine lv_aload_n C.1 C.2.1 (dd_at td_takesHead 3 rfl) rfl (lv_at hl 0 rfl) ?_
    refine mm_gA C hM 15 (dd_at td_takesHead 4 rfl) (by decide) (by decide) (by decide) ?_
    refine lv_iload_n C.1 C.2.1 (dd_at td_takesHead 5 rfl) rfl (lv_at hl 1 rfl) ?_
    refine lv_iconst (v := (0 : Int32)) C.1 C.2.1 (dd_at td_takesHead 6 rfl) (by decide) ?_
    obtain ⟨g5, hf⟩ := fc_of_gd hf
    refine mm_iast C hM 15 (dd_at td_takesHead 7 rfl) (by decide) (by decide) (fc_of_ix g5) (fun st6 H locs est6 hM => ?_)
    replace hf := fc_of_nm hf st6 est6
    refine lv_aload_n C.1 C.2.1 (dd_at td_takesHead 8 rfl) rfl (lv_at hl 0 rfl) ?_
    refine lv_iconst (v := (0 : Int32)) C.1 C.2.1 (dd_at td_takesHead 9 rfl) (by decide) ?_
    refine lv_iconst (v := (4 : Int32)) C.1 C.2.1 (dd_at td_takesHead 10 rfl) (by decide) ?_
    obtain ⟨r9, st7, hx8, hf⟩ := fc_of_bn hf
    refine mm_ci (As := [.int (0 : Int32), .int (4 : Int32)]) (rest := []) (n := 2) C hM (c_takesWord l D o ad cs fu (0 : Int32) (4 : Int32) st6) (List.mem_of_getElem? (i := 44) rfl) (dd_at td_takesHead 11 rfl) hx8 hl.1 hd_takesWord ⟨Nat.le_of_ble_eq_true rfl, Nat.le_of_ble_eq_true rfl⟩ rfl rfl (Nat.le_of_ble_eq_true rfl) ⟨Nat.le_refl 0, Nat.le_refl 0⟩ (fun H locs hM => ?_)
    obtain ⟨g10, hf⟩ := fc_of_gd hf
    exact mm_rz C hM (dd_at td_takesHead 12 rfl) (fc_of_zb g10) hf
  · replace hf := fc_of_f hf c4
    by_cases c11 : r3 = (115 : Int32)
    · replace hf := fc_of_t hf c11
      refine lv_lookup (off := 42) (tgt := 46) C.1 C.2.1 (dd_at td_takesHead 2 rfl) (by decide) (by rw [c11]; decide) (by decide) ?_
      refine lv_aload_n C.1 C.2.1 (dd_at td_takesHead 13 rfl) rfl (lv_at hl 0 rfl) ?_
      refine mm_gA C hM 15 (dd_at td_takesHead 14 rfl) (by decide) (by decide) (by decide) ?_
      refine lv_iload_n C.1 C.2.1 (dd_at td_takesHead 15 rfl) rfl (lv_at hl 1 rfl) ?_
      refine lv_iconst (v := (1 : Int32)) C.1 C.2.1 (dd_at td_takesHead 16 rfl) (by decide) ?_
      obtain ⟨g12, hf⟩ := fc_of_gd hf
      refine mm_iast C hM 15 (dd_at td_takesHead 17 rfl) (by decide) (by decide) (fc_of_ix g12) (fun st13 H locs est13 hM => ?_)
      replace hf := fc_of_nm hf st13 est13
      refine lv_aload_n C.1 C.2.1 (dd_at td_takesHead 18 rfl) rfl (lv_at hl 0 rfl) ?_
      refine lv_iconst (v := (4 : Int32)) C.1 C.2.1 (dd_at td_takesHead 19 rfl) (by decide) ?_
      refine lv_iconst (v := (5 : Int32)) C.1 C.2.1 (dd_at td_takesHead 20 rfl) (by decide) ?_
      obtain ⟨r16, st14, hx15, hf⟩ := fc_of_bn hf
      refine mm_ci (As := [.int (4 : Int32), .int (5 : Int32)]) (rest := []) (n := 2) C hM (c_takesWord l D o ad cs fu (4 : Int32) (5 : Int32) st13) (List.mem_of_getElem? (i := 44) rfl) (dd_at td_takesHead 21 rfl) hx15 hl.1 hd_takesWord ⟨Nat.le_of_ble_eq_true rfl, Nat.le_of_ble_eq_true rfl⟩ rfl rfl (Nat.le_of_ble_eq_true rfl) ⟨Nat.le_refl 0, Nat.le_refl 0⟩ (fun H locs hM => ?_)
      obtain ⟨g17, hf⟩ := fc_of_gd hf
      exact mm_rz C hM (dd_at td_takesHead 22 rfl) (fc_of_zb g17) hf
    · replace hf := fc_of_f hf c11
      refine lv_lookup (off := 56) (tgt := 60) C.1 C.2.1 (dd_at td_takesHead 2 rfl) (by decide) (by show Op.lookupswitch.offset [(102, 28), (115, 42)] 56 _ = _; rw [lv_osw c4 (by decide), lv_osw c11 (by decide)]; rfl) (by decide) ?_
      refine lv_aload_n C.1 C.2.1 (dd_at td_takesHead 23 rfl) rfl (lv_at hl 0 rfl) ?_
      refine mm_gA C hM 15 (dd_at td_takesHead 24 rfl) (by decide) (by decide) (by decide) ?_
      refine lv_iload_n C.1 C.2.1 (dd_at td_takesHead 25 rfl) rfl (lv_at hl 1 rfl) ?_
      refine lv_iconst (v := (2 : Int32)) C.1 C.2.1 (dd_at td_takesHead 26 rfl) (by decide) ?_
      obtain ⟨g18, hf⟩ := fc_of_gd hf
      refine mm_iast C hM 15 (dd_at td_takesHead 27 rfl) (by decide) (by decide) (fc_of_ix g18) (fun st19 H locs est19 hM => ?_)
      replace hf := fc_of_nm hf st19 est19
      refine lv_aload_n C.1 C.2.1 (dd_at td_takesHead 28 rfl) rfl (lv_at hl 0 rfl) ?_
      refine lv_bipush (v := (9 : Int32)) C.1 C.2.1 (dd_at td_takesHead 29 rfl) (by decide) ?_
      refine lv_iconst (v := (4 : Int32)) C.1 C.2.1 (dd_at td_takesHead 30 rfl) (by decide) ?_
      obtain ⟨r22, st20, hx21, hf⟩ := fc_of_bn hf
      refine mm_ci (As := [.int (9 : Int32), .int (4 : Int32)]) (rest := []) (n := 2) C hM (c_takesWord l D o ad cs fu (9 : Int32) (4 : Int32) st19) (List.mem_of_getElem? (i := 44) rfl) (dd_at td_takesHead 31 rfl) hx21 hl.1 hd_takesWord ⟨Nat.le_of_ble_eq_true rfl, Nat.le_of_ble_eq_true rfl⟩ rfl rfl (Nat.le_of_ble_eq_true rfl) ⟨Nat.le_refl 0, Nat.le_refl 0⟩ (fun H locs hM => ?_)
      obtain ⟨g23, hf⟩ := fc_of_gd hf
      exact mm_rz C hM (dd_at td_takesHead 32 rfl) (fc_of_zb g23) hf
theorem c_takesHead (l : Launch) (D : va_G) (o : Nat) (ad : Nat → Nat) (cs : ClassId × ClassId × ClassId) (fu : Nat) (x1 : Int32) (st : mm_S) : mm_Mi l D o ad cs yX12_takesHead cX12_takesHead 2 (some .boolean) 3 64 [.int x1] st (M_takesHead fu x1 st) := by
  intro r st' hf
  refine mm_enter (cc := cX12_takesHead) (nL := 2) (ret := some .boolean) (by decide) rfl (Nat.le_of_ble_eq_true rfl) ?_
  intro p e s m args below meth c ls C hl hM
  exact w_takesHead C fu x1 st hf hl hM

/-! takesClause -/
def tb_takesClause : List (Nat × Instr × Nat) := [(0, .aload_n 0, 1), (1, .iload_n 1, 1), (2, .invokevirtual 252, 3), (5, .ifCond .eq 10, 3), (8, .aload_n 0, 1), (9, .invokevirtual 237, 3), (12, .ifCond .ne 5, 3), (15, .iconst 0, 1), (16, .ireturn, 1), (17, .aload_n 0, 1), (18, .getfield 59, 3), (21, .iload_n 1, 1), (22, .aload_n 0, 1), (23, .getfield 47, 3), (26, .iastore, 1), (27, .aload_n 0, 1), (28, .getfield 56, 3), (31, .iload_n 1, 1), (32, .iaload, 1), (33, .iconst 2, 1), (34, .if_icmp .eq 20, 3), (37, .aload_n 0, 1), (38, .bipush 32, 2), (40, .invokevirtual 222, 3), (43, .ifCond .eq 15, 3), (46, .aload_n 0, 1), (47, .iload_n 1, 1), (48, .invokevirtual 255, 3), (51, .ifCond .eq 7, 3), (54, .iconst 1, 1), (55, .goto 4, 3), (58, .iconst 0, 1), (59, .ireturn, 1)]
theorem td_takesClause : tb_takesClause.all (fun q => decide (decode cX12_takesClause q.1 = .ok (q.2.1, q.2.2))) = true := by decide +kernel
theorem hd_takesClause : yX12_takesClause.cls = RX12 ∧ yX12_takesClause.cls ≠ "java/lang/invoke/MethodHandle" ∧ yX12_takesClause.cls ≠ "java/lang/invoke/VarHandle" ∧ (parseMethodDescriptor yX12_takesClause.desc).map (fun d => d.parameters.length) = some 1 := by decide +kernel
theorem w_takesClause {p : Program} {l : Launch} {e : Env} {s : State} {m : MethodId} {args : Array Value} {below : List Frame} {meth : Method} {c : Code} {D : va_G} {o : Nat} {ad : Nat → Nat} {cs : ClassId × ClassId × ClassId} {r : Int32} {st' : mm_S} (C : mm_C p s m args meth c cX12_takesClause 2 (some .boolean) D cs) (fu : Nat) (x1 : Int32) (st : mm_S) (hf : M_takesClause fu x1 st = some (r, st')) {H : Heap} {locs : List Loc} {ls : Array Slot} (hl : lv_has ls 2 [(0, .ref o), (1, .int x1)]) (hM : mm_H D o ad cs s.heap st H locs) : W p l e (mm_R 5 109) s m args below meth c H locs 0 0 (MQ below (mm_Qi D o ad cs r st') args s 0 0 (mm_A o ad)) (F0 m 0 ls []) := by
  unfold M_takesClause at hf
  refine lv_aload_n C.1 C.2.1 (dd_at td_takesClause 0 rfl) rfl (lv_at hl 0 rfl) ?_
  refine lv_iload_n C.1 C.2.1 (dd_at td_takesClause 1 rfl) rfl (lv_at hl 1 rfl) ?_
  obtain ⟨r3, st1, hx2, hf⟩ := fc_of_bn hf
  refine mm_ci (As := [.int x1]) (rest := []) (n := 1) C hM (c_takesHead l D o ad cs fu x1 st) (List.mem_of_getElem? (i := 41) rfl) (dd_at td_takesClause 2 rfl) hx2 hl.1 hd_takesHead ⟨Nat.le_of_ble_eq_true rfl, Nat.le_of_ble_eq_true rfl⟩ rfl rfl (Nat.le_of_ble_eq_true rfl) ⟨Nat.le_refl 0, Nat.le_refl 0⟩ (fun H locs hM => ?_)
  refine lv_if_eq (tgt := 15) C.1 C.2.1 (dd_at td_takesClause 3 rfl) (by decide) (fun c4 => ?_) (fun c4 => ?_)
  · replace hf := fc_of_t hf c4
    refine lv_iconst (v := (0 : Int32)) C.1 C.2.1 (dd_at td_takesClause 7 rfl) (by decide) ?_
    exact mm_rz C hM (dd_at td_takesClause 8 rfl) rfl hf
  · replace hf := fc_of_f hf c4
    refine lv_aload_n C.1 C.2.1 (dd_at td_takesClause 4 rfl) rfl (lv_at hl 0 rfl) ?_
    obtain ⟨r7, st5, hx6, hf⟩ := fc_of_bn hf
    refine mm_ci (As := []) (rest := []) (n := 0) C hM (c_takesNumber l D o ad cs fu st1) (List.mem_of_getElem? (i := 42) rfl) (dd_at td_takesClause 5 rfl) hx6 hl.1 hd_takesNumber ⟨Nat.le_of_ble_eq_true rfl, Nat.le_of_ble_eq_true rfl⟩ rfl rfl (Nat.le_of_ble_eq_true rfl) ⟨Nat.le_refl 0, Nat.le_refl 0⟩ (fun H locs hM => ?_)
    refine lv_if_ne (tgt := 17) C.1 C.2.1 (dd_at td_takesClause 6 rfl) (by decide) (fun c8 => ?_) (fun c8 => ?_)
    · replace hf := fc_of_f hf c8
      refine lv_aload_n C.1 C.2.1 (dd_at td_takesClause 9 rfl) rfl (lv_at hl 0 rfl) ?_
      refine mm_gA C hM 16 (dd_at td_takesClause 10 rfl) (by decide) (by decide) (by decide) ?_
      refine lv_iload_n C.1 C.2.1 (dd_at td_takesClause 11 rfl) rfl (lv_at hl 1 rfl) ?_
      refine lv_aload_n C.1 C.2.1 (dd_at td_takesClause 12 rfl) rfl (lv_at hl 0 rfl) ?_
      refine mm_gI C hM 12 (dd_at td_takesClause 13 rfl) (by decide) (by decide) (by decide) ?_
      obtain ⟨g9, hf⟩ := fc_of_gd hf
      refine mm_iast C hM 16 (dd_at td_takesClause 14 rfl) (by decide) (by decide) (fc_of_ix g9) (fun st10 H locs est10 hM => ?_)
      replace hf := fc_of_nm hf st10 est10
      refine lv_aload_n C.1 C.2.1 (dd_at td_takesClause 15 rfl) rfl (lv_at hl 0 rfl) ?_
      refine mm_gA C hM 15 (dd_at td_takesClause 16 rfl) (by decide) (by decide) (by decide) ?_
      refine lv_iload_n C.1 C.2.1 (dd_at td_takesClause 17 rfl) rfl (lv_at hl 1 rfl) ?_
      obtain ⟨g11, hf⟩ := fc_of_gd hf
      refine mm_iald C hM 15 (dd_at td_takesClause 18 rfl) (by decide) (by decide) (fc_of_ix g11) ?_
      refine lv_iconst (v := (2 : Int32)) C.1 C.2.1 (dd_at td_takesClause 19 rfl) (by decide) ?_
      refine lv_icmp_eq (tgt := 54) C.1 C.2.1 (dd_at td_takesClause 20 rfl) (by decide) (fun c12 => ?_) (fun c12 => ?_)
      · replace hf := fc_of_t hf c12
        refine lv_iconst (v := (1 : Int32)) C.1 C.2.1 (dd_at td_takesClause 29 rfl) (by decide) ?_
        refine lv_goto (tgt := 59) C.1 C.2.1 (dd_at td_takesClause 30 rfl) (by decide) ?_
        exact mm_rz C hM (dd_at td_takesClause 32 rfl) rfl hf
      · replace hf := fc_of_f hf c12
        refine lv_aload_n C.1 C.2.1 (dd_at td_takesClause 21 rfl) rfl (lv_at hl 0 rfl) ?_
        refine lv_bipush (v := (32 : Int32)) C.1 C.2.1 (dd_at td_takesClause 22 rfl) (by decide) ?_
        obtain ⟨r15, st13, hx14, hf⟩ := fc_of_bn hf
        refine mm_ci (As := [.int (32 : Int32)]) (rest := []) (n := 1) C hM (c_takes l D o ad cs fu (32 : Int32) st10) (List.mem_of_getElem? (i := 38) rfl) (dd_at td_takesClause 23 rfl) hx14 hl.1 hd_takes ⟨Nat.le_of_ble_eq_true rfl, Nat.le_of_ble_eq_true rfl⟩ rfl rfl (Nat.le_of_ble_eq_true rfl) ⟨Nat.le_refl 0, Nat.le_refl 0⟩ (fun H locs hM => ?_)
        refine lv_if_eq (tgt := 58) C.1 C.2.1 (dd_at td_takesClause 24 rfl) (by decide) (fun c16 => ?_) (fun c16 => ?_)
        · replace hf := fc_of_t hf c16
          refine lv_iconst (v := (0 : Int32)) C.1 C.2.1 (dd_at td_takesClause 31 rfl) (by decide) ?_
          exact mm_rz C hM (dd_at td_takesClause 32 rfl) rfl hf
        · replace hf := fc_of_f hf c16
          refine lv_aload_n C.1 C.2.1 (dd_at td_takesClause 25 rfl) rfl (lv_at hl 0 rfl) ?_
          refine lv_iload_n C.1 C.2.1 (dd_at td_takesClause 26 rfl) rfl (lv_at hl 1 rfl) ?_
          obtain ⟨r19, st17, hx18, hf⟩ := fc_of_bn hf
          refine mm_ci (As := [.int x1]) (rest := []) (n := 1) C hM (c_takesE l D o ad cs fu x1 st13) (List.mem_of_getElem? (i := 40) rfl) (dd_at td_takesClause 27 rfl) hx18 hl.1 hd_takesE ⟨Nat.le_of_ble_eq_true rfl, Nat.le_of_ble_eq_true rfl⟩ rfl rfl (Nat.le_of_ble_eq_true rfl) ⟨Nat.le_refl 0, Nat.le_refl 0⟩ (fun H locs hM => ?_)
          refine lv_if_eq (tgt := 58) C.1 C.2.1 (dd_at td_takesClause 28 rfl) (by decide) (fun c20 => ?_) (fun c20 => ?_)
          · replace hf := fc_of_t hf c20
            refine lv_iconst (v := (0 : Int32)) C.1 C.2.1 (dd_at td_takesClause 31 rfl) (by decide) ?_
            exact mm_rz C hM (dd_at td_takesClause 32 rfl) rfl hf
          · replace hf := fc_of_f hf c20
            refine lv_iconst (v := (1 : Int32)) C.1 C.2.1 (dd_at td_takesClause 29 rfl) (by decide) ?_
            refine lv_goto (tgt := 59) C.1 C.2.1 (dd_at td_takesClause 30 rfl) (by decide) ?_
            exact mm_rz C hM (dd_at td_takesClause 32 rfl) rfl hf
    · replace hf := fc_of_t hf c8
      refine lv_iconst (v := (0 : Int32)) C.1 C.2.1 (dd_at td_takesClause 7 rfl) (by decide) ?_
      exact mm_rz C hM (dd_at td_takesClause 8 rfl) rfl hf
theorem c_takesClause (l : Launch) (D : va_G) (o : Nat) (ad : Nat → Nat) (cs : ClassId × ClassId × ClassId) (fu : Nat) (x1 : Int32) (st : mm_S) : mm_Mi l D o ad cs yX12_takesClause cX12_takesClause 2 (some .boolean) 5 109 [.int x1] st (M_takesClause fu x1 st) := by
  intro r st' hf
  refine mm_enter (cc := cX12_takesClause) (nL := 2) (ret := some .boolean) (by decide) rfl (Nat.le_of_ble_eq_true rfl) ?_
  intro p e s m args below meth c ls C hl hM
  exact w_takesClause C fu x1 st hf hl hM

/-! goesText -/
def tb_goesText : List (Nat × Instr × Nat) := [(0, .aload_n 0, 1), (1, .iconst 0, 1), (2, .putfield 44, 3), (5, .aload_n 0, 1), (6, .bipush 100, 2), (8, .iload_n 1, 1), (9, .imul, 1), (10, .putfield 74, 3), (13, .iconst 0, 1), (14, .istore_n 2, 1), (15, .aload_n 0, 1), (16, .bipush 10, 2), (18, .iload_n 1, 1), (19, .imul, 1), (20, .iload_n 2, 1), (21, .iadd, 1), (22, .invokevirtual 258, 3), (25, .ifCond .ne 5, 3), (28, .iconst 0, 1), (29, .ireturn, 1), (30, .iinc 2 1, 3), (33, .aload_n 0, 1), (34, .getfield 53, 3), (37, .iload_n 1, 1), (38, .iload_n 2, 1), (39, .iastore, 1), (40, .aload_n 0, 1), (41, .getfield 44, 3), (44, .aload_n 0, 1), (45, .getfield 41, 3), (48, .if_icmp .ne 5, 3), (51, .iconst 1, 1), (52, .ireturn, 1), (53, .iload_n 2, 1), (54, .bipush 10, 2), (56, .if_icmp .eq 12, 3), (59, .aload_n 0, 1), (60, .bipush 59, 2), (62, .invokevirtual 222, 3), (65, .ifCond .ne (-50), 3), (68, .iconst 0, 1), (69, .ireturn, 1)]
theorem td_goesText : tb_goesText.all (fun q => decide (decode cX12_goesText q.1 = .ok (q.2.1, q.2.2))) = true := by decide +kernel
theorem hd_goesText : yX12_goesText.cls = RX12 ∧ yX12_goesText.cls ≠ "java/lang/invoke/MethodHandle" ∧ yX12_goesText.cls ≠ "java/lang/invoke/VarHandle" ∧ (parseMethodDescriptor yX12_goesText.desc).map (fun d => d.parameters.length) = some 1 := by decide +kernel
theorem w_goesText_b15F {p : Program} {l : Launch} {e : Env} {s : State} {m : MethodId} {args : Array Value} {below : List Frame} {meth : Method} {c : Code} {D : va_G} {o : Nat} {ad : Nat → Nat} {cs : ClassId × ClassId × ClassId} {r : Int32} {st' : mm_S} (C : mm_C p s m args meth c cX12_goesText 3 (some .boolean) D cs) (fu : Nat) (K15 : Int32 → Int32 → mm_S → Option (Int32 × mm_S)) (hK15 : ∀ (x1 : Int32) (x2 : Int32) (st : mm_S) (H : Heap) (locs : List Loc) (ls : Array Slot), K15 x1 x2 st = some (r, st') → lv_has ls 3 [(0, .ref o), (1, .int x1), (2, .int x2)] → mm_H D o ad cs s.heap st H locs → W p l e (mm_R 6 130) s m args below meth c H locs 0 0 (MQ below (mm_Qi D o ad cs r st') args s 0 0 (mm_A o ad)) (F0 m 15 ls [])) (x1 : Int32) (x2 : Int32) (st : mm_S) (hf : M_goesText_b15F fu K15 x1 x2 st = some (r, st')) {H : Heap} {locs : List Loc} {ls : Array Slot} (hl : lv_has ls 3 [(0, .ref o), (1, .int x1), (2, .int x2)]) (hM : mm_H D o ad cs s.heap st H locs) : W p l e (mm_R 6 130) s m args below meth c H locs 0 0 (MQ below (mm_Qi D o ad cs r st') args s 0 0 (mm_A o ad)) (F0 m 15 ls []) := by
  unfold M_goesText_b15F at hf
  refine lv_aload_n C.1 C.2.1 (dd_at td_goesText 10 rfl) rfl (lv_at hl 0 rfl) ?_
  refine lv_bipush (v := (10 : Int32)) C.1 C.2.1 (dd_at td_goesText 11 rfl) (by decide) ?_
  refine lv_iload_n C.1 C.2.1 (dd_at td_goesText 12 rfl) rfl (lv_at hl 1 rfl) ?_
  refine lv_imul C.1 C.2.1 (dd_at td_goesText 13 rfl) ?_
  refine lv_iload_n C.1 C.2.1 (dd_at td_goesText 14 rfl) rfl (lv_at hl 2 rfl) ?_
  refine lv_iadd C.1 C.2.1 (dd_at td_goesText 15 rfl) ?_
  obtain ⟨r5, st3, hx4, hf⟩ := fc_of_bn hf
  refine mm_ci (As := [.int (((10 : Int32) * x1) + x2)]) (rest := []) (n := 1) C hM (c_takesClause l D o ad cs fu (((10 : Int32) * x1) + x2) st) (List.mem_of_getElem? (i := 39) rfl) (dd_at td_goesText 16 rfl) hx4 hl.1 hd_takesClause ⟨Nat.le_of_ble_eq_true rfl, Nat.le_of_ble_eq_true rfl⟩ rfl rfl (Nat.le_of_ble_eq_true rfl) ⟨Nat.le_refl 0, Nat.le_refl 0⟩ (fun H locs hM => ?_)
  refine lv_if_ne (tgt := 30) C.1 C.2.1 (dd_at td_goesText 17 rfl) (by decide) (fun c6 => ?_) (fun c6 => ?_)
  · replace hf := fc_of_f hf c6
    obtain ⟨v7, ev7⟩ : ∃ y : Int32, y = x2 + (1 : Int32) := ⟨_, rfl⟩
    replace hf := fc_of_nm hf v7 ev7
    refine lv_iinc (v := v7) (lv' := [(2, .int v7), (0, .ref o), (1, .int x1)]) C.1 C.2.1 (dd_at td_goesText 20 rfl) hl (k := 2) rfl (by rw [ev7]; rfl) (by decide) rfl (fun ls hl => ?_)
    refine lv_aload_n C.1 C.2.1 (dd_at td_goesText 21 rfl) rfl (lv_at hl 1 rfl) ?_
    refine mm_gA C hM 14 (dd_at td_goesText 22 rfl) (by decide) (by decide) (by decide) ?_
    refine lv_iload_n C.1 C.2.1 (dd_at td_goesText 23 rfl) rfl (lv_at hl 2 rfl) ?_
    refine lv_iload_n C.1 C.2.1 (dd_at td_goesText 24 rfl) rfl (lv_at hl 0 rfl) ?_
    obtain ⟨g8, hf⟩ := fc_of_gd hf
    refine mm_iast C hM 14 (dd_at td_goesText 25 rfl) (by decide) (by decide) (fc_of_ix g8) (fun st9 H locs est9 hM => ?_)
    replace hf := fc_of_nm hf st9 est9
    refine lv_aload_n C.1 C.2.1 (dd_at td_goesText 26 rfl) rfl (lv_at hl 1 rfl) ?_
    refine mm_gI C hM 11 (dd_at td_goesText 27 rfl) (by decide) (by decide) (by decide) ?_
    refine lv_aload_n C.1 C.2.1 (dd_at td_goesText 28 rfl) rfl (lv_at hl 1 rfl) ?_
    refine mm_gI C hM 10 (dd_at td_goesText 29 rfl) (by decide) (by decide) (by decide) ?_
    refine lv_icmp_ne (tgt := 53) C.1 C.2.1 (dd_at td_goesText 30 rfl) (by decide) (fun c10 => ?_) (fun c10 => ?_)
    · replace hf := fc_of_f hf c10
      refine lv_iload_n C.1 C.2.1 (dd_at td_goesText 33 rfl) rfl (lv_at hl 0 rfl) ?_
      refine lv_bipush (v := (10 : Int32)) C.1 C.2.1 (dd_at td_goesText 34 rfl) (by decide) ?_
      refine lv_icmp_eq (tgt := 68) C.1 C.2.1 (dd_at td_goesText 35 rfl) (by decide) (fun c11 => ?_) (fun c11 => ?_)
      · replace hf := fc_of_t hf c11
        refine lv_iconst (v := (0 : Int32)) C.1 C.2.1 (dd_at td_goesText 40 rfl) (by decide) ?_
        exact mm_rz C hM (dd_at td_goesText 41 rfl) rfl hf
      · replace hf := fc_of_f hf c11
        refine lv_aload_n C.1 C.2.1 (dd_at td_goesText 36 rfl) rfl (lv_at hl 1 rfl) ?_
        refine lv_bipush (v := (59 : Int32)) C.1 C.2.1 (dd_at td_goesText 37 rfl) (by decide) ?_
        obtain ⟨r14, st12, hx13, hf⟩ := fc_of_bn hf
        refine mm_ci (As := [.int (59 : Int32)]) (rest := []) (n := 1) C hM (c_takes l D o ad cs fu (59 : Int32) st9) (List.mem_of_getElem? (i := 38) rfl) (dd_at td_goesText 38 rfl) hx13 hl.1 hd_takes ⟨Nat.le_of_ble_eq_true rfl, Nat.le_of_ble_eq_true rfl⟩ rfl rfl (Nat.le_of_ble_eq_true rfl) ⟨Nat.le_refl 0, Nat.le_refl 0⟩ (fun H locs hM => ?_)
        refine lv_if_ne (tgt := 15) C.1 C.2.1 (dd_at td_goesText 39 rfl) (by decide) (fun c15 => ?_) (fun c15 => ?_)
        · replace hf := fc_of_f hf c15
          exact hK15 x1 v7 st12 _ _ _ hf (lv_sub hl [1, 2, 0] rfl) hM
        · replace hf := fc_of_t hf c15
          refine lv_iconst (v := (0 : Int32)) C.1 C.2.1 (dd_at td_goesText 40 rfl) (by decide) ?_
          exact mm_rz C hM (dd_at td_goesText 41 rfl) rfl hf
    · replace hf := fc_of_t hf c10
      refine lv_iconst (v := (1 : Int32)) C.1 C.2.1 (dd_at td_goesText 31 rfl) (by decide) ?_
      exact mm_rz C hM (dd_at td_goesText 32 rfl) rfl hf
  · replace hf := fc_of_t hf c6
    refine lv_iconst (v := (0 : Int32)) C.1 C.2.1 (dd_at td_goesText 18 rfl) (by decide) ?_
    exact mm_rz C hM (dd_at td_goesText 19 rfl) rfl hf
theorem w_goesText_b15 {p : Program} {l : Launch} {e : Env} {s : State} {m : MethodId} {args : Array Value} {below : List Frame} {meth : Method} {c : Code} {D : va_G} {o : Nat} {ad : Nat → Nat} {cs : ClassId × ClassId × ClassId} {r : Int32} {st' : mm_S} (C : mm_C p s m args meth c cX12_goesText 3 (some .boolean) D cs) (fu : Nat) (n : Nat) : ∀ (x1 : Int32) (x2 : Int32) (st : mm_S), M_goesText_b15 fu n x1 x2 st = some (r, st') → ∀ (H : Heap) (locs : List Loc) (ls : Array Slot), lv_has ls 3 [(0, .ref o), (1, .int x1), (2, .int x2)] → mm_H D o ad cs s.heap st H locs → W p l e (mm_R 6 130) s m args below meth c H locs 0 0 (MQ below (mm_Qi D o ad cs r st') args s 0 0 (mm_A o ad)) (F0 m 15 ls []) := by
  induction n with
  | zero => exact fun _ _ _ hf => fc_no hf
  | succ n ih =>
    intro x1 x2 st hf H locs ls hl hM
    exact w_goesText_b15F C fu (fun x1 x2 st => M_goesText_b15 fu n x1 x2 st) (fun x1 x2 st H locs ls hf hl hM => ih x1 x2 st hf H locs ls hl hM) x1 x2 st hf hl hM
theorem w_goesText {p : Program} {l : Launch} {e : Env} {s : State} {m : MethodId} {args : Array Value} {below : List Frame} {meth : Method} {c : Code} {D : va_G} {o : Nat} {ad : Nat → Nat} {cs : ClassId × ClassId × ClassId} {r : Int32} {st' : mm_S} (C : mm_C p s m args meth c cX12_goesText 3 (some .boolean) D cs) (fu : Nat) (x1 : Int32) (st : mm_S) (hf : M_goesText fu x1 st = some (r, st')) {H : Heap} {locs : List Loc} {ls : Array Slot} (hl : lv_has ls 3 [(0, .ref o), (1, .int x1)]) (hM : mm_H D o ad cs s.heap st H locs) : W p l e (mm_R 6 130) s m args below meth c H locs 0 0 (MQ below (mm_Qi D o ad cs r st') args s 0 0 (mm_A o ad)) (F0 m 0 ls []) := by
  unfold M_goesText at hf
  refine lv_aload_n C.1 C.2.1 (dd_at td_goesText 0 rfl) rfl (lv_at hl 0 rfl) ?_
  refine lv_iconst (v := (0 : Int32)) C.1 C.2.1 (dd_at td_goesText 1 rfl) (by decide) ?_
  refine mm_pI C hM 11 (dd_at td_goesText 2 rfl) (by decide) (by decide) (by decide) rfl rfl (fun st1 H locs est1 hM => ?_)
  replace hf := fc_of_nm hf st1 est1
  refine lv_aload_n C.1 C.2.1 (dd_at td_goesText 3 rfl) rfl (lv_at hl 0 rfl) ?_
  refine lv_bipush (v := (100 : Int32)) C.1 C.2.1 (dd_at td_goesText 4 rfl) (by decide) ?_
  refine lv_iload_n C.1 C.2.1 (dd_at td_goesText 5 rfl) rfl (lv_at hl 1 rfl) ?_
  refine lv_imul C.1 C.2.1 (dd_at td_goesText 6 rfl) ?_
  refine mm_pI C hM 21 (dd_at td_goesText 7 rfl) (by decide) (by decide) (by decide) rfl rfl (fun st2 H locs est2 hM => ?_)
  replace hf := fc_of_nm hf st2 est2
  refine lv_iconst (v := (0 : Int32)) C.1 C.2.1 (dd_at td_goesText 8 rfl) (by decide) ?_
  refine lv_istore_n (lv' := [(2, .int (0 : Int32)), (0, .ref o), (1, .int x1)]) C.1 C.2.1 (dd_at td_goesText 9 rfl) rfl hl (by decide) rfl (fun ls hl => ?_)
  exact w_goesText_b15 C fu fu x1 (0 : Int32) st2 hf _ _ _ (lv_sub hl [1, 2, 0] rfl) hM
theorem c_goesText (l : Launch) (D : va_G) (o : Nat) (ad : Nat → Nat) (cs : ClassId × ClassId × ClassId) (fu : Nat) (x1 : Int32) (st : mm_S) : mm_Mi l D o ad cs yX12_goesText cX12_goesText 3 (some .boolean) 6 130 [.int x1] st (M_goesText fu x1 st) := by
  intro r st' hf
  refine mm_enter (cc := cX12_goesText) (nL := 3) (ret := some .boolean) (by decide) rfl (Nat.le_of_ble_eq_true rfl) ?_
  intro p e s m args below meth c ls C hl hM
  exact w_goesText C fu x1 st hf hl hM

/-! archive -/
def tb_archive : List (Nat × Instr × Nat) := [(0, .aload_n 0, 1), (1, .getfield 35, 3), (4, .bipush 6, 2), (6, .if_icmp .ne 6, 3), (9, .bipush (-4), 2), (11, .ireturn, 1), (12, .aload_n 0, 1), (13, .aload_n 0, 1), (14, .getfield 35, 3), (17, .invokevirtual 261, 3), (20, .istore_n 1, 1), (21, .aload_n 0, 1), (22, .iconst 0, 1), (23, .putfield 41, 3), (26, .iload_n 1, 1), (27, .ifCond .ne 11, 3), (30, .bipush (-10), 2), (32, .aload_n 0, 1), (33, .getfield 44, 3), (36, .isub, 1), (37, .ireturn, 1), (38, .aload_n 0, 1), (39, .aload_n 0, 1), (40, .getfield 35, 3), (43, .putfield 38, 3), (46, .aload_n 0, 1), (47, .dup, 1), (48, .getfield 35, 3), (51, .iconst 1, 1), (52, .iadd, 1), (53, .putfield 35, 3), (56, .aload_n 0, 1), (57, .getfield 38, 3), (60, .ireturn, 1)]
theorem td_archive : tb_archive.all (fun q => decide (decode cX12_archive q.1 = .ok (q.2.1, q.2.2))) = true := by decide +kernel
theorem w_archive {p : Program} {l : Launch} {e : Env} {s : State} {m : MethodId} {args : Array Value} {below : List Frame} {meth : Method} {c : Code} {D : va_G} {o : Nat} {ad : Nat → Nat} {cs : ClassId × ClassId × ClassId} {r : Int32} {st' : mm_S} (C : mm_C p s m args meth c cX12_archive 2 (some .int) D cs) (fu : Nat) (st : mm_S) (hf : M_archive fu st = some (r, st')) {H : Heap} {locs : List Loc} {ls : Array Slot} (hl : lv_has ls 2 [(0, .ref o)]) (hM : mm_H D o ad cs s.heap st H locs) : W p l e (mm_R 7 152) s m args below meth c H locs 0 0 (MQ below (mm_Qi D o ad cs r st') args s 0 0 (mm_A o ad)) (F0 m 0 ls []) := by
  unfold M_archive at hf
  refine lv_aload_n C.1 C.2.1 (dd_at td_archive 0 rfl) rfl (lv_at hl 0 rfl) ?_
  refine mm_gI C hM 8 (dd_at td_archive 1 rfl) (by decide) (by decide) (by decide) ?_
  refine lv_bipush (v := (6 : Int32)) C.1 C.2.1 (dd_at td_archive 2 rfl) (by decide) ?_
  refine lv_icmp_ne (tgt := 12) C.1 C.2.1 (dd_at td_archive 3 rfl) (by decide) (fun c1 => ?_) (fun c1 => ?_)
  · replace hf := fc_of_f hf c1
    refine lv_aload_n C.1 C.2.1 (dd_at td_archive 6 rfl) rfl (lv_at hl 0 rfl) ?_
    refine lv_aload_n C.1 C.2.1 (dd_at td_archive 7 rfl) rfl (lv_at hl 0 rfl) ?_
    refine mm_gI C hM 8 (dd_at td_archive 8 rfl) (by decide) (by decide) (by decide) ?_
    obtain ⟨r4, st2, hx3, hf⟩ := fc_of_bn hf
    refine mm_ci (As := [.int (mm_I st 8)]) (rest := []) (n := 1) C hM (c_goesText l D o ad cs fu (mm_I st 8) st) (List.mem_of_getElem? (i := 12) rfl) (dd_at td_archive 9 rfl) hx3 hl.1 hd_goesText ⟨Nat.le_of_ble_eq_true rfl, Nat.le_of_ble_eq_true rfl⟩ rfl rfl (Nat.le_of_ble_eq_true rfl) ⟨Nat.le_refl 0, Nat.le_refl 0⟩ (fun H locs hM => ?_)
    refine lv_istore_n (lv' := [(1, .int r4), (0, .ref o)]) C.1 C.2.1 (dd_at td_archive 10 rfl) rfl hl (by decide) rfl (fun ls hl => ?_)
    refine lv_aload_n C.1 C.2.1 (dd_at td_archive 11 rfl) rfl (lv_at hl 1 rfl) ?_
    refine lv_iconst (v := (0 : Int32)) C.1 C.2.1 (dd_at td_archive 12 rfl) (by decide) ?_
    refine mm_pI C hM 10 (dd_at td_archive 13 rfl) (by decide) (by decide) (by decide) rfl rfl (fun st5 H locs est5 hM => ?_)
    replace hf := fc_of_nm hf st5 est5
    refine lv_iload_n C.1 C.2.1 (dd_at td_archive 14 rfl) rfl (lv_at hl 0 rfl) ?_
    refine lv_if_ne (tgt := 38) C.1 C.2.1 (dd_at td_archive 15 rfl) (by decide) (fun c6 => ?_) (fun c6 => ?_)
    · replace hf := fc_of_f hf c6
      refine lv_aload_n C.1 C.2.1 (dd_at td_archive 21 rfl) rfl (lv_at hl 1 rfl) ?_
      refine lv_aload_n C.1 C.2.1 (dd_at td_archive 22 rfl) rfl (lv_at hl 1 rfl) ?_
      refine mm_gI C hM 8 (dd_at td_archive 23 rfl) (by decide) (by decide) (by decide) ?_
      refine mm_pI C hM 9 (dd_at td_archive 24 rfl) (by decide) (by decide) (by decide) rfl rfl (fun st7 H locs est7 hM => ?_)
      replace hf := fc_of_nm hf st7 est7
      refine lv_aload_n C.1 C.2.1 (dd_at td_archive 25 rfl) rfl (lv_at hl 1 rfl) ?_
      refine lv_dup C.1 C.2.1 (dd_at td_archive 26 rfl) rfl ?_
      refine mm_gI C hM 8 (dd_at td_archive 27 rfl) (by decide) (by decide) (by decide) ?_
      refine lv_iconst (v := (1 : Int32)) C.1 C.2.1 (dd_at td_archive 28 rfl) (by decide) ?_
      refine lv_iadd C.1 C.2.1 (dd_at td_archive 29 rfl) ?_
      refine mm_pI C hM 8 (dd_at td_archive 30 rfl) (by decide) (by decide) (by decide) rfl rfl (fun st8 H locs est8 hM => ?_)
      replace hf := fc_of_nm hf st8 est8
      refine lv_aload_n C.1 C.2.1 (dd_at td_archive 31 rfl) rfl (lv_at hl 1 rfl) ?_
      refine mm_gI C hM 9 (dd_at td_archive 32 rfl) (by decide) (by decide) (by decide) ?_
      exact mm_ri C hM (dd_at td_archive 33 rfl) hf
    · replace hf := fc_of_t hf c6
      refine lv_bipush (v := (-10 : Int32)) C.1 C.2.1 (dd_at td_archive 16 rfl) (by decide) ?_
      refine lv_aload_n C.1 C.2.1 (dd_at td_archive 17 rfl) rfl (lv_at hl 1 rfl) ?_
      refine mm_gI C hM 11 (dd_at td_archive 18 rfl) (by decide) (by decide) (by decide) ?_
      refine lv_isub C.1 C.2.1 (dd_at td_archive 19 rfl) ?_
      exact mm_ri C hM (dd_at td_archive 20 rfl) hf
  · replace hf := fc_of_t hf c1
    refine lv_bipush (v := (-4 : Int32)) C.1 C.2.1 (dd_at td_archive 4 rfl) (by decide) ?_
    exact mm_ri C hM (dd_at td_archive 5 rfl) hf
theorem c_archive (l : Launch) (D : va_G) (o : Nat) (ad : Nat → Nat) (cs : ClassId × ClassId × ClassId) (fu : Nat) (st : mm_S) : mm_Mi l D o ad cs yX12_archive cX12_archive 2 (some .int) 7 152 [] st (M_archive fu st) := by
  intro r st' hf
  refine mm_enter (cc := cX12_archive) (nL := 2) (ret := some .int) (by decide) rfl (Nat.le_of_ble_eq_true rfl) ?_
  intro p e s m args below meth c ls C hl hM
  exact w_archive C fu st hf hl hM

/-! begin -/
def tb_begin : List (Nat × Instr × Nat) := [(0, .aload_n 0, 1), (1, .getfield 38, 3), (4, .ifCond .ge 7, 3), (7, .iconst 0, 1), (8, .goto 10, 3), (11, .bipush 10, 2), (13, .aload_n 0, 1), (14, .getfield 38, 3), (17, .imul, 1), (18, .ireturn, 1)]
theorem td_begin : tb_begin.all (fun q => decide (decode cX12_begin q.1 = .ok (q.2.1, q.2.2))) = true := by decide +kernel
theorem hd_begin : yX12_begin.cls = RX12 ∧ yX12_begin.cls ≠ "java/lang/invoke/MethodHandle" ∧ yX12_begin.cls ≠ "java/lang/invoke/VarHandle" ∧ (parseMethodDescriptor yX12_begin.desc).map (fun d => d.parameters.length) = some 0 := by decide +kernel
theorem w_begin {p : Program} {l : Launch} {e : Env} {s : State} {m : MethodId} {args : Array Value} {below : List Frame} {meth : Method} {c : Code} {D : va_G} {o : Nat} {ad : Nat → Nat} {cs : ClassId × ClassId × ClassId} {r : Int32} {st' : mm_S} (C : mm_C p s m args meth c cX12_begin 1 (some .int) D cs) (fu : Nat) (st : mm_S) (hf : M_begin fu st = some (r, st')) {H : Heap} {locs : List Loc} {ls : Array Slot} (hl : lv_has ls 1 [(0, .ref o)]) (hM : mm_H D o ad cs s.heap st H locs) : W p l e (mm_R 0 0) s m args below meth c H locs 0 0 (MQ below (mm_Qi D o ad cs r st') args s 0 0 (mm_A o ad)) (F0 m 0 ls []) := by
  unfold M_begin at hf
  refine lv_aload_n C.1 C.2.1 (dd_at td_begin 0 rfl) rfl (lv_at hl 0 rfl) ?_
  refine mm_gI C hM 9 (dd_at td_begin 1 rfl) (by decide) (by decide) (by decide) ?_
  refine lv_if_ge (tgt := 11) C.1 C.2.1 (dd_at td_begin 2 rfl) (by decide) (fun c1 => ?_) (fun c1 => ?_)
  · replace hf := fc_of_t hf c1
    refine lv_bipush (v := (10 : Int32)) C.1 C.2.1 (dd_at td_begin 5 rfl) (by decide) ?_
    refine lv_aload_n C.1 C.2.1 (dd_at td_begin 6 rfl) rfl (lv_at hl 0 rfl) ?_
    refine mm_gI C hM 9 (dd_at td_begin 7 rfl) (by decide) (by decide) (by decide) ?_
    refine lv_imul C.1 C.2.1 (dd_at td_begin 8 rfl) ?_
    exact mm_ri C hM (dd_at td_begin 9 rfl) hf
  · replace hf := fc_of_f hf c1
    refine lv_iconst (v := (0 : Int32)) C.1 C.2.1 (dd_at td_begin 3 rfl) (by decide) ?_
    refine lv_goto (tgt := 18) C.1 C.2.1 (dd_at td_begin 4 rfl) (by decide) ?_
    exact mm_ri C hM (dd_at td_begin 9 rfl) hf
theorem c_begin (l : Launch) (D : va_G) (o : Nat) (ad : Nat → Nat) (cs : ClassId × ClassId × ClassId) (fu : Nat) (st : mm_S) : mm_Mi l D o ad cs yX12_begin cX12_begin 1 (some .int) 0 0 [] st (M_begin fu st) := by
  intro r st' hf
  refine mm_enter (cc := cX12_begin) (nL := 1) (ret := some .int) (by decide) rfl (Nat.le_of_ble_eq_true rfl) ?_
  intro p e s m args below meth c ls C hl hM
  exact w_begin C fu st hf hl hM

/-! behind -/
def tb_behind : List (Nat × Instr × Nat) := [(0, .aload_n 0, 1), (1, .getfield 38, 3), (4, .ifCond .ge 7, 3), (7, .iconst 0, 1), (8, .goto 20, 3), (11, .bipush 10, 2), (13, .aload_n 0, 1), (14, .getfield 38, 3), (17, .imul, 1), (18, .aload_n 0, 1), (19, .getfield 53, 3), (22, .aload_n 0, 1), (23, .getfield 38, 3), (26, .iaload, 1), (27, .iadd, 1), (28, .ireturn, 1)]
theorem td_behind : tb_behind.all (fun q => decide (decode cX12_behind q.1 = .ok (q.2.1, q.2.2))) = true := by decide +kernel
theorem hd_behind : yX12_behind.cls = RX12 ∧ yX12_behind.cls ≠ "java/lang/invoke/MethodHandle" ∧ yX12_behind.cls ≠ "java/lang/invoke/VarHandle" ∧ (parseMethodDescriptor yX12_behind.desc).map (fun d => d.parameters.length) = some 0 := by decide +kernel
theorem w_behind {p : Program} {l : Launch} {e : Env} {s : State} {m : MethodId} {args : Array Value} {below : List Frame} {meth : Method} {c : Code} {D : va_G} {o : Nat} {ad : Nat → Nat} {cs : ClassId × ClassId × ClassId} {r : Int32} {st' : mm_S} (C : mm_C p s m args meth c cX12_behind 1 (some .int) D cs) (fu : Nat) (st : mm_S) (hf : M_behind fu st = some (r, st')) {H : Heap} {locs : List Loc} {ls : Array Slot} (hl : lv_has ls 1 [(0, .ref o)]) (hM : mm_H D o ad cs s.heap st H locs) : W p l e (mm_R 0 0) s m args below meth c H locs 0 0 (MQ below (mm_Qi D o ad cs r st') args s 0 0 (mm_A o ad)) (F0 m 0 ls []) := by
  unfold M_behind at hf
  refine lv_aload_n C.1 C.2.1 (dd_at td_behind 0 rfl) rfl (lv_at hl 0 rfl) ?_
  refine mm_gI C hM 9 (dd_at td_behind 1 rfl) (by decide) (by decide) (by decide) ?_
  refine lv_if_ge (tgt := 11) C.1 C.2.1 (dd_at td_behind 2 rfl) (by decide) (fun c1 => ?_) (fun c1 => ?_)
  · replace hf := fc_of_t hf c1
    refine lv_bipush (v := (10 : Int32)) C.1 C.2.1 (dd_at td_behind 5 rfl) (by decide) ?_
    refine lv_aload_n C.1 C.2.1 (dd_at td_behind 6 rfl) rfl (lv_at hl 0 rfl) ?_
    refine mm_gI C hM 9 (dd_at td_behind 7 rfl) (by decide) (by decide) (by decide) ?_
    refine lv_imul C.1 C.2.1 (dd_at td_behind 8 rfl) ?_
    refine lv_aload_n C.1 C.2.1 (dd_at td_behind 9 rfl) rfl (lv_at hl 0 rfl) ?_
    refine mm_gA C hM 14 (dd_at td_behind 10 rfl) (by decide) (by decide) (by decide) ?_
    refine lv_aload_n C.1 C.2.1 (dd_at td_behind 11 rfl) rfl (lv_at hl 0 rfl) ?_
    refine mm_gI C hM 9 (dd_at td_behind 12 rfl) (by decide) (by decide) (by decide) ?_
    obtain ⟨g2, hf⟩ := fc_of_gd hf
    refine mm_iald C hM 14 (dd_at td_behind 13 rfl) (by decide) (by decide) (fc_of_ix g2) ?_
    refine lv_iadd C.1 C.2.1 (dd_at td_behind 14 rfl) ?_
    exact mm_ri C hM (dd_at td_behind 15 rfl) hf
  · replace hf := fc_of_f hf c1
    refine lv_iconst (v := (0 : Int32)) C.1 C.2.1 (dd_at td_behind 3 rfl) (by decide) ?_
    refine lv_goto (tgt := 28) C.1 C.2.1 (dd_at td_behind 4 rfl) (by decide) ?_
    exact mm_ri C hM (dd_at td_behind 15 rfl) hf
theorem c_behind (l : Launch) (D : va_G) (o : Nat) (ad : Nat → Nat) (cs : ClassId × ClassId × ClassId) (fu : Nat) (st : mm_S) : mm_Mi l D o ad cs yX12_behind cX12_behind 1 (some .int) 0 0 [] st (M_behind fu st) := by
  intro r st' hf
  refine mm_enter (cc := cX12_behind) (nL := 1) (ret := some .int) (by decide) rfl (Nat.le_of_ble_eq_true rfl) ?_
  intro p e s m args below meth c ls C hl hM
  exact w_behind C fu st hf hl hM

/-! keep -/
def tb_keep : List (Nat × Instr × Nat) := [(0, .iconst 1, 1), (1, .istore_n 1, 1), (2, .aload_n 0, 1), (3, .invokevirtual 264, 3), (6, .istore_n 2, 1), (7, .iload_n 2, 1), (8, .aload_n 0, 1), (9, .invokevirtual 267, 3), (12, .if_icmp .ge 30, 3), (15, .aload_n 0, 1), (16, .getfield 56, 3), (19, .iload_n 2, 1), (20, .iaload, 1), (21, .iconst 2, 1), (22, .if_icmp .ne 12, 3), (25, .aload_n 0, 1), (26, .getfield 59, 3), (29, .iload_n 2, 1), (30, .iaload, 1), (31, .goto 4, 3), (34, .iload_n 1, 1), (35, .istore_n 1, 1), (36, .iinc 2 1, 3), (39, .goto (-32), 3), (42, .iload_n 1, 1), (43, .ireturn, 1)]
theorem td_keep : tb_keep.all (fun q => decide (decode cX12_keep q.1 = .ok (q.2.1, q.2.2))) = true := by decide +kernel
theorem hd_keep : yX12_keep.cls = RX12 ∧ yX12_keep.cls ≠ "java/lang/invoke/MethodHandle" ∧ yX12_keep.cls ≠ "java/lang/invoke/VarHandle" ∧ (parseMethodDescriptor yX12_keep.desc).map (fun d => d.parameters.length) = some 0 := by decide +kernel
theorem w_keep_b35 {p : Program} {l : Launch} {e : Env} {s : State} {m : MethodId} {args : Array Value} {below : List Frame} {meth : Method} {c : Code} {D : va_G} {o : Nat} {ad : Nat → Nat} {cs : ClassId × ClassId × ClassId} {r : Int32} {st' : mm_S} (C : mm_C p s m args meth c cX12_keep 3 (some .int) D cs) (fu : Nat) (K7 : Int32 → Int32 → mm_S → Option (Int32 × mm_S)) (hK7 : ∀ (x1 : Int32) (x2 : Int32) (st : mm_S) (H : Heap) (locs : List Loc) (ls : Array Slot), K7 x1 x2 st = some (r, st') → lv_has ls 3 [(0, .ref o), (1, .int x1), (2, .int x2)] → mm_H D o ad cs s.heap st H locs → W p l e (mm_R 1 20) s m args below meth c H locs 0 0 (MQ below (mm_Qi D o ad cs r st') args s 0 0 (mm_A o ad)) (F0 m 7 ls [])) (x2 : Int32) (s0 : Int32) (st : mm_S) (hf : M_keep_b35 fu K7 x2 s0 st = some (r, st')) {H : Heap} {locs : List Loc} {ls : Array Slot} (hl : lv_has ls 3 [(0, .ref o), (2, .int x2)]) (hM : mm_H D o ad cs s.heap st H locs) : W p l e (mm_R 1 20) s m args below meth c H locs 0 0 (MQ below (mm_Qi D o ad cs r st') args s 0 0 (mm_A o ad)) (F0 m 35 ls [.int s0]) := by
  unfold M_keep_b35 at hf
  refine lv_istore_n (lv' := [(1, .int s0), (0, .ref o), (2, .int x2)]) C.1 C.2.1 (dd_at td_keep 21 rfl) rfl hl (by decide) rfl (fun ls hl => ?_)
  obtain ⟨v11, ev11⟩ : ∃ y : Int32, y = x2 + (1 : Int32) := ⟨_, rfl⟩
  replace hf := fc_of_nm hf v11 ev11
  refine lv_iinc (v := v11) (lv' := [(2, .int v11), (1, .int s0), (0, .ref o)]) C.1 C.2.1 (dd_at td_keep 22 rfl) hl (k := 2) rfl (by rw [ev11]; rfl) (by decide) rfl (fun ls hl => ?_)
  refine lv_goto (tgt := 7) C.1 C.2.1 (dd_at td_keep 23 rfl) (by decide) ?_
  exact hK7 s0 v11 st _ _ _ hf (lv_sub hl [2, 1, 0] rfl) hM
theorem w_keep_b7F {p : Program} {l : Launch} {e : Env} {s : State} {m : MethodId} {args : Array Value} {below : List Frame} {meth : Method} {c : Code} {D : va_G} {o : Nat} {ad : Nat → Nat} {cs : ClassId × ClassId × ClassId} {r : Int32} {st' : mm_S} (C : mm_C p s m args meth c cX12_keep 3 (some .int) D cs) (fu : Nat) (K7 : Int32 → Int32 → mm_S → Option (Int32 × mm_S)) (hK7 : ∀ (x1 : Int32) (x2 : Int32) (st : mm_S) (H : Heap) (locs : List Loc) (ls : Array Slot), K7 x1 x2 st = some (r, st') → lv_has ls 3 [(0, .ref o), (1, .int x1), (2, .int x2)] → mm_H D o ad cs s.heap st H locs → W p l e (mm_R 1 20) s m args below meth c H locs 0 0 (MQ below (mm_Qi D o ad cs r st') args s 0 0 (mm_A o ad)) (F0 m 7 ls [])) (x1 : Int32) (x2 : Int32) (st : mm_S) (hf : M_keep_b7F fu K7 x1 x2 st = some (r, st')) {H : Heap} {locs : List Loc} {ls : Array Slot} (hl : lv_has ls 3 [(0, .ref o), (1, .int x1), (2, .int x2)]) (hM : mm_H D o ad cs s.heap st H locs) : W p l e (mm_R 1 20) s m args below meth c H locs 0 0 (MQ below (mm_Qi D o ad cs r st') args s 0 0 (mm_A o ad)) (F0 m 7 ls []) := by
  unfold M_keep_b7F at hf
  refine lv_iload_n C.1 C.2.1 (dd_at td_keep 5 rfl) rfl (lv_at hl 2 rfl) ?_
  refine lv_aload_n C.1 C.2.1 (dd_at td_keep 6 rfl) rfl (lv_at hl 0 rfl) ?_
  obtain ⟨r6, st4, hx5, hf⟩ := fc_of_bn hf
  refine mm_ci (As := []) (rest := [.int x2]) (n := 0) C hM (c_behind l D o ad cs fu st) (List.mem_of_getElem? (i := 2) rfl) (dd_at td_keep 7 rfl) hx5 hl.1 hd_behind ⟨Nat.le_of_ble_eq_true rfl, Nat.le_of_ble_eq_true rfl⟩ rfl rfl (Nat.le_of_ble_eq_true rfl) ⟨Nat.le_refl 0, Nat.le_refl 0⟩ (fun H locs hM => ?_)
  refine lv_icmp_ge (tgt := 42) C.1 C.2.1 (dd_at td_keep 8 rfl) (by decide) (fun c7 => ?_) (fun c7 => ?_)
  · replace hf := fc_of_t hf c7
    refine lv_iload_n C.1 C.2.1 (dd_at td_keep 24 rfl) rfl (lv_at hl 1 rfl) ?_
    exact mm_ri C hM (dd_at td_keep 25 rfl) hf
  · replace hf := fc_of_f hf c7
    refine lv_aload_n C.1 C.2.1 (dd_at td_keep 9 rfl) rfl (lv_at hl 0 rfl) ?_
    refine mm_gA C hM 15 (dd_at td_keep 10 rfl) (by decide) (by decide) (by decide) ?_
    refine lv_iload_n C.1 C.2.1 (dd_at td_keep 11 rfl) rfl (lv_at hl 2 rfl) ?_
    obtain ⟨g8, hf⟩ := fc_of_gd hf
    refine mm_iald C hM 15 (dd_at td_keep 12 rfl) (by decide) (by decide) (fc_of_ix g8) ?_
    refine lv_iconst (v := (2 : Int32)) C.1 C.2.1 (dd_at td_keep 13 rfl) (by decide) ?_
    refine lv_icmp_ne (tgt := 34) C.1 C.2.1 (dd_at td_keep 14 rfl) (by decide) (fun c9 => ?_) (fun c9 => ?_)
    · replace hf := fc_of_f hf c9
      refine lv_iload_n C.1 C.2.1 (dd_at td_keep 20 rfl) rfl (lv_at hl 1 rfl) ?_
      exact w_keep_b35 C fu K7 hK7 x2 x1 st4 hf (lv_sub hl [0, 2] rfl) hM
    · replace hf := fc_of_t hf c9
      refine lv_aload_n C.1 C.2.1 (dd_at td_keep 15 rfl) rfl (lv_at hl 0 rfl) ?_
      refine mm_gA C hM 16 (dd_at td_keep 16 rfl) (by decide) (by decide) (by decide) ?_
      refine lv_iload_n C.1 C.2.1 (dd_at td_keep 17 rfl) rfl (lv_at hl 2 rfl) ?_
      obtain ⟨g10, hf⟩ := fc_of_gd hf
      refine mm_iald C hM 16 (dd_at td_keep 18 rfl) (by decide) (by decide) (fc_of_ix g10) ?_
      refine lv_goto (tgt := 35) C.1 C.2.1 (dd_at td_keep 19 rfl) (by decide) ?_
      exact w_keep_b35 C fu K7 hK7 x2 (mm_G st4 16 x2.toNatClampNeg) st4 hf (lv_sub hl [0, 2] rfl) hM
theorem w_keep_b7 {p : Program} {l : Launch} {e : Env} {s : State} {m : MethodId} {args : Array Value} {below : List Frame} {meth : Method} {c : Code} {D : va_G} {o : Nat} {ad : Nat → Nat} {cs : ClassId × ClassId × ClassId} {r : Int32} {st' : mm_S} (C : mm_C p s m args meth c cX12_keep 3 (some .int) D cs) (fu : Nat) (n : Nat) : ∀ (x1 : Int32) (x2 : Int32) (st : mm_S), M_keep_b7 fu n x1 x2 st = some (r, st') → ∀ (H : Heap) (locs : List Loc) (ls : Array Slot), lv_has ls 3 [(0, .ref o), (1, .int x1), (2, .int x2)] → mm_H D o ad cs s.heap st H locs → W p l e (mm_R 1 20) s m args below meth c H locs 0 0 (MQ below (mm_Qi D o ad cs r st') args s 0 0 (mm_A o ad)) (F0 m 7 ls []) := by
  induction n with
  | zero => exact fun _ _ _ hf => fc_no hf
  | succ n ih =>
    intro x1 x2 st hf H locs ls hl hM
    exact w_keep_b7F C fu (fun x1 x2 st => M_keep_b7 fu n x1 x2 st) (fun x1 x2 st H locs ls hf hl hM => ih x1 x2 st hf H locs ls hl hM) x1 x2 st hf hl hM
theorem w_keep {p : Program} {l : Launch} {e : Env} {s : State} {m : MethodId} {args : Array Value} {below : List Frame} {meth : Method} {c : Code} {D : va_G} {o : Nat} {ad : Nat → Nat} {cs : ClassId × ClassId × ClassId} {r : Int32} {st' : mm_S} (C : mm_C p s m args meth c cX12_keep 3 (some .int) D cs) (fu : Nat) (st : mm_S) (hf : M_keep fu st = some (r, st')) {H : Heap} {locs : List Loc} {ls : Array Slot} (hl : lv_has ls 3 [(0, .ref o)]) (hM : mm_H D o ad cs s.heap st H locs) : W p l e (mm_R 1 20) s m args below meth c H locs 0 0 (MQ below (mm_Qi D o ad cs r st') args s 0 0 (mm_A o ad)) (F0 m 0 ls []) := by
  unfold M_keep at hf
  refine lv_iconst (v := (1 : Int32)) C.1 C.2.1 (dd_at td_keep 0 rfl) (by decide) ?_
  refine lv_istore_n (lv' := [(1, .int (1 : Int32)), (0, .ref o)]) C.1 C.2.1 (dd_at td_keep 1 rfl) rfl hl (by decide) rfl (fun ls hl => ?_)
  refine lv_aload_n C.1 C.2.1 (dd_at td_keep 2 rfl) rfl (lv_at hl 1 rfl) ?_
  obtain ⟨r3, st1, hx2, hf⟩ := fc_of_bn hf
  refine mm_ci (As := []) (rest := []) (n := 0) C hM (c_begin l D o ad cs fu st) (List.mem_of_getElem? (i := 1) rfl) (dd_at td_keep 3 rfl) hx2 hl.1 hd_begin ⟨Nat.le_of_ble_eq_true rfl, Nat.le_of_ble_eq_true rfl⟩ rfl rfl (Nat.le_of_ble_eq_true rfl) ⟨Nat.le_refl 0, Nat.le_refl 0⟩ (fun H locs hM => ?_)
  refine lv_istore_n (lv' := [(2, .int r3), (1, .int (1 : Int32)), (0, .ref o)]) C.1 C.2.1 (dd_at td_keep 4 rfl) rfl hl (by decide) rfl (fun ls hl => ?_)
  exact w_keep_b7 C fu fu (1 : Int32) r3 st1 hf _ _ _ (lv_sub hl [2, 1, 0] rfl) hM
theorem c_keep (l : Launch) (D : va_G) (o : Nat) (ad : Nat → Nat) (cs : ClassId × ClassId × ClassId) (fu : Nat) (st : mm_S) : mm_Mi l D o ad cs yX12_keep cX12_keep 3 (some .int) 1 20 [] st (M_keep fu st) := by
  intro r st' hf
  refine mm_enter (cc := cX12_keep) (nL := 3) (ret := some .int) (by decide) rfl (Nat.le_of_ble_eq_true rfl) ?_
  intro p e s m args below meth c ls C hl hM
  exact w_keep C fu st hf hl hM

/-! factOf -/
def tb_factOf : List (Nat × Instr × Nat) := [(0, .iload_n 1, 1), (1, .tableswitch 64 0 4 #[35, 37, 44, 51, 56], 35), (36, .iload_n 2, 1), (37, .ireturn, 1), (38, .aload_n 0, 1), (39, .getfield 22, 3), (42, .iload_n 2, 1), (43, .iaload, 1), (44, .ireturn, 1), (45, .aload_n 0, 1), (46, .getfield 26, 3), (49, .iload_n 2, 1), (50, .iaload, 1), (51, .ireturn, 1), (52, .iload_n 3, 1), (53, .bipush 10, 2), (55, .irem, 1), (56, .ireturn, 1), (57, .iload_n 3, 1), (58, .bipush 10, 2), (60, .idiv, 1), (61, .bipush 10, 2), (63, .irem, 1), (64, .ireturn, 1), (65, .iload 4, 2), (67, .ireturn, 1)]
theorem td_factOf : tb_factOf.all (fun q => decide (decode cX12_factOf q.1 = .ok (q.2.1, q.2.2))) = true := by decide +kernel
theorem hd_factOf : yX12_factOf.cls = RX12 ∧ yX12_factOf.cls ≠ "java/lang/invoke/MethodHandle" ∧ yX12_factOf.cls ≠ "java/lang/invoke/VarHandle" ∧ (parseMethodDescriptor yX12_factOf.desc).map (fun d => d.parameters.length) = some 4 := by decide +kernel
theorem w_factOf {p : Program} {l : Launch} {e : Env} {s : State} {m : MethodId} {args : Array Value} {below : List Frame} {meth : Method} {c : Code} {D : va_G} {o : Nat} {ad : Nat → Nat} {cs : ClassId × ClassId × ClassId} {r : Int32} {st' : mm_S} (C : mm_C p s m args meth c cX12_factOf 5 (some .int) D cs) (fu : Nat) (x1 : Int32) (x2 : Int32) (x3 : Int32) (x4 : Int32) (st : mm_S) (hf : M_factOf fu x1 x2 x3 x4 st = some (r, st')) {H : Heap} {locs : List Loc} {ls : Array Slot} (hl : lv_has ls 5 [(0, .ref o), (1, .int x1), (2, .int x2), (3, .int x3), (4, .int x4)]) (hM : mm_H D o ad cs s.heap st H locs) : W p l e (mm_R 0 0) s m args below meth c H locs 0 0 (MQ below (mm_Qi D o ad cs r st') args s 0 0 (mm_A o ad)) (F0 m 0 ls []) := by
  unfold M_factOf at hf
  refine lv_iload_n C.1 C.2.1 (dd_at td_factOf 0 rfl) rfl (lv_at hl 1 rfl) ?_
  by_cases c1 : x1 = (0 : Int32)
  · replace hf := fc_of_t hf c1
    refine lv_tableIn (off := 35) (tgt := 36) C.1 C.2.1 (dd_at td_factOf 1 rfl) (by rw [c1]; decide) (by rw [c1]; decide) (by rw [c1]; decide) (by decide) ?_
    refine lv_iload_n C.1 C.2.1 (dd_at td_factOf 2 rfl) rfl (lv_at hl 2 rfl) ?_
    exact mm_ri C hM (dd_at td_factOf 3 rfl) hf
  · replace hf := fc_of_f hf c1
    by_cases c2 : x1 = (1 : Int32)
    · replace hf := fc_of_t hf c2
      refine lv_tableIn (off := 37) (tgt := 38) C.1 C.2.1 (dd_at td_factOf 1 rfl) (by rw [c2]; decide) (by rw [c2]; decide) (by rw [c2]; decide) (by decide) ?_
      refine lv_aload_n C.1 C.2.1 (dd_at td_factOf 4 rfl) rfl (lv_at hl 0 rfl) ?_
      refine mm_gA C hM 4 (dd_at td_factOf 5 rfl) (by decide) (by decide) (by decide) ?_
      refine lv_iload_n C.1 C.2.1 (dd_at td_factOf 6 rfl) rfl (lv_at hl 2 rfl) ?_
      obtain ⟨g3, hf⟩ := fc_of_gd hf
      refine mm_iald C hM 4 (dd_at td_factOf 7 rfl) (by decide) (by decide) (fc_of_ix g3) ?_
      exact mm_ri C hM (dd_at td_factOf 8 rfl) hf
    · replace hf := fc_of_f hf c2
      by_cases c4 : x1 = (2 : Int32)
      · replace hf := fc_of_t hf c4
        refine lv_tableIn (off := 44) (tgt := 45) C.1 C.2.1 (dd_at td_factOf 1 rfl) (by rw [c4]; decide) (by rw [c4]; decide) (by rw [c4]; decide) (by decide) ?_
        refine lv_aload_n C.1 C.2.1 (dd_at td_factOf 9 rfl) rfl (lv_at hl 0 rfl) ?_
        refine mm_gA C hM 5 (dd_at td_factOf 10 rfl) (by decide) (by decide) (by decide) ?_
        refine lv_iload_n C.1 C.2.1 (dd_at td_factOf 11 rfl) rfl (lv_at hl 2 rfl) ?_
        obtain ⟨g5, hf⟩ := fc_of_gd hf
        refine mm_iald C hM 5 (dd_at td_factOf 12 rfl) (by decide) (by decide) (fc_of_ix g5) ?_
        exact mm_ri C hM (dd_at td_factOf 13 rfl) hf
      · replace hf := fc_of_f hf c4
        by_cases c6 : x1 = (3 : Int32)
        · replace hf := fc_of_t hf c6
          refine lv_tableIn (off := 51) (tgt := 52) C.1 C.2.1 (dd_at td_factOf 1 rfl) (by rw [c6]; decide) (by rw [c6]; decide) (by rw [c6]; decide) (by decide) ?_
          refine lv_iload_n C.1 C.2.1 (dd_at td_factOf 14 rfl) rfl (lv_at hl 3 rfl) ?_
          refine lv_bipush (v := (10 : Int32)) C.1 C.2.1 (dd_at td_factOf 15 rfl) (by decide) ?_
          refine lv_irem C.1 C.2.1 (dd_at td_factOf 16 rfl) (by decide) ?_
          exact mm_ri C hM (dd_at td_factOf 17 rfl) hf
        · replace hf := fc_of_f hf c6
          by_cases c7 : x1 = (4 : Int32)
          · replace hf := fc_of_t hf c7
            refine lv_tableIn (off := 56) (tgt := 57) C.1 C.2.1 (dd_at td_factOf 1 rfl) (by rw [c7]; decide) (by rw [c7]; decide) (by rw [c7]; decide) (by decide) ?_
            refine lv_iload_n C.1 C.2.1 (dd_at td_factOf 18 rfl) rfl (lv_at hl 3 rfl) ?_
            refine lv_bipush (v := (10 : Int32)) C.1 C.2.1 (dd_at td_factOf 19 rfl) (by decide) ?_
            refine lv_idiv C.1 C.2.1 (dd_at td_factOf 20 rfl) (by decide) ?_
            refine lv_bipush (v := (10 : Int32)) C.1 C.2.1 (dd_at td_factOf 21 rfl) (by decide) ?_
            refine lv_irem C.1 C.2.1 (dd_at td_factOf 22 rfl) (by decide) ?_
            exact mm_ri C hM (dd_at td_factOf 23 rfl) hf
          · replace hf := fc_of_f hf c7
            refine lv_tableOut (tgt := 65) C.1 C.2.1 (dd_at td_factOf 1 rfl) (by have q0 := lv_neT c1 (a := 0) (by decide); have q1 := lv_neT c2 (a := 1) (by decide); have q2 := lv_neT c4 (a := 2) (by decide); have q3 := lv_neT c6 (a := 3) (by decide); have q4 := lv_neT c7 (a := 4) (by decide); omega) (by decide) ?_
            refine lv_iload C.1 C.2.1 (dd_at td_factOf 24 rfl) (lv_at hl 4 rfl) ?_
            exact mm_ri C hM (dd_at td_factOf 25 rfl) hf
theorem c_factOf (l : Launch) (D : va_G) (o : Nat) (ad : Nat → Nat) (cs : ClassId × ClassId × ClassId) (fu : Nat) (x1 : Int32) (x2 : Int32) (x3 : Int32) (x4 : Int32) (st : mm_S) : mm_Mi l D o ad cs yX12_factOf cX12_factOf 5 (some .int) 0 0 [.int x1, .int x2, .int x3, .int x4] st (M_factOf fu x1 x2 x3 x4 st) := by
  intro r st' hf
  refine mm_enter (cc := cX12_factOf) (nL := 5) (ret := some .int) (by decide) rfl (Nat.le_of_ble_eq_true rfl) ?_
  intro p e s m args below meth c ls C hl hM
  exact w_factOf C fu x1 x2 x3 x4 st hf hl hM

/-! holds -/
def tb_holds : List (Nat × Instr × Nat) := [(0, .iconst 0, 1), (1, .istore 5, 2), (3, .aload_n 0, 1), (4, .getfield 62, 3), (7, .iload_n 1, 1), (8, .iaload, 1), (9, .istore 6, 2), (11, .iload 6, 2), (13, .aload_n 0, 1), (14, .getfield 65, 3), (17, .iload_n 1, 1), (18, .iaload, 1), (19, .if_icmp .ge 236, 3), (22, .aload_n 0, 1), (23, .getfield 68, 3), (26, .iload 6, 2), (28, .iaload, 1), (29, .istore 7, 2), (31, .iload 7, 2), (33, .bipush (-33), 2), (35, .if_icmp .ne 32, 3), (38, .aload_n 0, 1), (39, .getfield 86, 3), (42, .iload 5, 2), (44, .iconst 1, 1), (45, .isub, 1), (46, .aload_n 0, 1), (47, .getfield 86, 3), (50, .iload 5, 2), (52, .iconst 1, 1), (53, .isub, 1), (54, .baload, 1), (55, .ifCond .ne 7, 3), (58, .iconst 1, 1), (59, .goto 4, 3), (62, .iconst 0, 1), (63, .bastore, 1), (64, .goto 185, 3), (67, .iload 7, 2), (69, .ifCond .ge 82, 3), (72, .iinc 5 (-1), 3), (75, .aload_n 0, 1), (76, .getfield 86, 3), (79, .iload 5, 2), (81, .iconst 1, 1), (82, .isub, 1), (83, .iload 7, 2), (85, .bipush (-38), 2), (87, .if_icmp .ne 33, 3), (90, .aload_n 0, 1), (91, .getfield 86, 3), (94, .iload 5, 2), (96, .iconst 1, 1), (97, .isub, 1), (98, .baload, 1), (99, .ifCond .eq 17, 3), (102, .aload_n 0, 1), (103, .getfield 86, 3), (106, .iload 5, 2), (108, .baload, 1), (109, .ifCond .eq 7, 3), (112, .iconst 1, 1), (113, .goto 34, 3), (116, .iconst 0, 1), (117, .goto 30, 3), (120, .aload_n 0, 1), (121, .getfield 86, 3), (124, .iload 5, 2), (126, .iconst 1, 1), (127, .isub, 1), (128, .baload, 1), (129, .ifCond .ne 13, 3), (132, .aload_n 0, 1), (133, .getfield 86, 3), (136, .iload 5, 2), (138, .baload, 1), (139, .ifCond .eq 7, 3), (142, .iconst 1, 1), (143, .goto 4, 3), (146, .iconst 0, 1), (147, .bastore, 1), (148, .goto 101, 3), (151, .aload_n 0, 1), (152, .iload 7, 2), (154, .sipush 1000, 3), (157, .idiv, 1), (158, .iload_n 2, 1), (159, .iload_n 3, 1), (160, .iload 4, 2), (162, .invokevirtual 270, 3), (165, .istore 8, 2), (167, .iload 7, 2), (169, .bipush 100, 2), (171, .idiv, 1), (172, .bipush 10, 2), (174, .irem, 1), (175, .istore 9, 2), (177, .aload_n 0, 1), (178, .getfield 86, 3), (181, .iload 5, 2), (183, .iload 9, 2), (185, .ifCond .ne 21, 3), (188, .iload 8, 2), (190, .iload 7, 2), (192, .bipush 100, 2), (194, .irem, 1), (195, .if_icmp .ge 7, 3), (198, .iconst 1, 1), (199, .goto 46, 3), (202, .iconst 0, 1), (203, .goto 42, 3), (206, .iload 9, 2), (208, .iconst 1, 1), (209, .if_icmp .ne 21, 3), (212, .iload 8, 2), (214, .iload 7, 2), (216, .bipush 100, 2), (218, .irem, 1), (219, .if_icmp .ne 7, 3), (222, .iconst 1, 1), (223, .goto 22, 3), (226, .iconst 0, 1), (227, .goto 18, 3), (230, .iload 8, 2), (232, .iload 7, 2), (234, .bipush 100, 2), (236, .irem, 1), (237, .if_icmp .le 7, 3), (240, .iconst 1, 1), (241, .goto 4, 3), (244, .iconst 0, 1), (245, .bastore, 1), (246, .iinc 5 1, 3), (249, .iinc 6 1, 3), (252, .goto (-241), 3), (255, .aload_n 0, 1), (256, .getfield 86, 3), (259, .iconst 0, 1), (260, .baload, 1), (261, .ireturn, 1)]
theorem td_holds : tb_holds.all (fun q => decide (decode cX12_holds q.1 = .ok (q.2.1, q.2.2))) = true := by decide +kernel
theorem hd_holds : yX12_holds.cls = RX12 ∧ yX12_holds.cls ≠ "java/lang/invoke/MethodHandle" ∧ yX12_holds.cls ≠ "java/lang/invoke/VarHandle" ∧ (parseMethodDescriptor yX12_holds.desc).map (fun d => d.parameters.length) = some 4 := by decide +kernel
theorem w_holds_b249 {p : Program} {l : Launch} {e : Env} {s : State} {m : MethodId} {args : Array Value} {below : List Frame} {meth : Method} {c : Code} {D : va_G} {o : Nat} {ad : Nat → Nat} {cs : ClassId × ClassId × ClassId} {r : Int32} {st' : mm_S} (C : mm_C p s m args meth c cX12_holds 10 (some .boolean) D cs) (fu : Nat) (K11 : Int32 → Int32 → Int32 → Int32 → Int32 → Int32 → mm_S → Option (Int32 × mm_S)) (hK11 : ∀ (x1 : Int32) (x2 : Int32) (x3 : Int32) (x4 : Int32) (x5 : Int32) (x6 : Int32) (st : mm_S) (H : Heap) (locs : List Loc) (ls : Array Slot), K11 x1 x2 x3 x4 x5 x6 st = some (r, st') → lv_has ls 10 [(0, .ref o), (1, .int x1), (2, .int x2), (3, .int x3), (4, .int x4), (5, .int x5), (6, .int x6)] → mm_H D o ad cs s.heap st H locs → W p l e (mm_R 1 24) s m args below meth c H locs 0 0 (MQ below (mm_Qi D o ad cs r st') args s 0 0 (mm_A o ad)) (F0 m 11 ls [])) (x1 : Int32) (x2 : Int32) (x3 : Int32) (x4 : Int32) (x5 : Int32) (x6 : Int32) (st : mm_S) (hf : M_holds_b249 fu K11 x1 x2 x3 x4 x5 x6 st = some (r, st')) {H : Heap} {locs : List Loc} {ls : Array Slot} (hl : lv_has ls 10 [(0, .ref o), (1, .int x1), (2, .int x2), (3, .int x3), (4, .int x4), (5, .int x5), (6, .int x6)]) (hM : mm_H D o ad cs s.heap st H locs) : W p l e (mm_R 1 24) s m args below meth c H locs 0 0 (MQ below (mm_Qi D o ad cs r st') args s 0 0 (mm_A o ad)) (F0 m 249 ls []) := by
  unfold M_holds_b249 at hf
  obtain ⟨v39, ev39⟩ : ∃ y : Int32, y = x6 + (1 : Int32) := ⟨_, rfl⟩
  replace hf := fc_of_nm hf v39 ev39
  refine lv_iinc (v := v39) (lv' := [(6, .int v39), (0, .ref o), (1, .int x1), (2, .int x2), (3, .int x3), (4, .int x4), (5, .int x5)]) C.1 C.2.1 (dd_at td_holds 133 rfl) hl (k := 6) rfl (by rw [ev39]; rfl) (by decide) rfl (fun ls hl => ?_)
  refine lv_goto (tgt := 11) C.1 C.2.1 (dd_at td_holds 134 rfl) (by decide) ?_
  exact hK11 x1 x2 x3 x4 x5 v39 st _ _ _ hf (lv_sub hl [1, 2, 3, 4, 5, 6, 0] rfl) hM
theorem w_holds_b245 {p : Program} {l : Launch} {e : Env} {s : State} {m : MethodId} {args : Array Value} {below : List Frame} {meth : Method} {c : Code} {D : va_G} {o : Nat} {ad : Nat → Nat} {cs : ClassId × ClassId × ClassId} {r : Int32} {st' : mm_S} (C : mm_C p s m args meth c cX12_holds 10 (some .boolean) D cs) (fu : Nat) (K11 : Int32 → Int32 → Int32 → Int32 → Int32 → Int32 → mm_S → Option (Int32 × mm_S)) (hK11 : ∀ (x1 : Int32) (x2 : Int32) (x3 : Int32) (x4 : Int32) (x5 : Int32) (x6 : Int32) (st : mm_S) (H : Heap) (locs : List Loc) (ls : Array Slot), K11 x1 x2 x3 x4 x5 x6 st = some (r, st') → lv_has ls 10 [(0, .ref o), (1, .int x1), (2, .int x2), (3, .int x3), (4, .int x4), (5, .int x5), (6, .int x6)] → mm_H D o ad cs s.heap st H locs → W p l e (mm_R 1 24) s m args below meth c H locs 0 0 (MQ below (mm_Qi D o ad cs r st') args s 0 0 (mm_A o ad)) (F0 m 11 ls [])) (x1 : Int32) (x2 : Int32) (x3 : Int32) (x4 : Int32) (x5 : Int32) (x6 : Int32) (s0 : Int32) (s1 : Int32) (st : mm_S) (hf : M_holds_b245 fu K11 x1 x2 x3 x4 x5 x6 s0 s1 st = some (r, st')) {H : Heap} {locs : List Loc} {ls : Array Slot} (hl : lv_has ls 10 [(0, .ref o), (1, .int x1), (2, .int x2), (3, .int x3), (4, .int x4), (5, .int x5), (6, .int x6)]) (hM : mm_H D o ad cs s.heap st H locs) : W p l e (mm_R 1 24) s m args below meth c H locs 0 0 (MQ below (mm_Qi D o ad cs r st') args s 0 0 (mm_A o ad)) (F0 m 245 ls [.int s0, .int s1, .ref (ad 25)]) := by
  unfold M_holds_b245 at hf
  obtain ⟨g32, hf⟩ := fc_of_gd hf
  refine mm_zast C hM 25 (dd_at td_holds 131 rfl) (by decide) (by decide) (fc_of_ix g32) (fun st33 H locs est33 hM => ?_)
  replace hf := fc_of_nm hf st33 est33
  obtain ⟨v34, ev34⟩ : ∃ y : Int32, y = x5 + (1 : Int32) := ⟨_, rfl⟩
  replace hf := fc_of_nm hf v34 ev34
  refine lv_iinc (v := v34) (lv' := [(5, .int v34), (0, .ref o), (1, .int x1), (2, .int x2), (3, .int x3), (4, .int x4), (6, .int x6)]) C.1 C.2.1 (dd_at td_holds 132 rfl) hl (k := 5) rfl (by rw [ev34]; rfl) (by decide) rfl (fun ls hl => ?_)
  exact w_holds_b249 C fu K11 hK11 x1 x2 x3 x4 v34 x6 st33 hf (lv_sub hl [1, 2, 3, 4, 5, 0, 6] rfl) hM
theorem w_holds_b147 {p : Program} {l : Launch} {e : Env} {s : State} {m : MethodId} {args : Array Value} {below : List Frame} {meth : Method} {c : Code} {D : va_G} {o : Nat} {ad : Nat → Nat} {cs : ClassId × ClassId × ClassId} {r : Int32} {st' : mm_S} (C : mm_C p s m args meth c cX12_holds 10 (some .boolean) D cs) (fu : Nat) (K11 : Int32 → Int32 → Int32 → Int32 → Int32 → Int32 → mm_S → Option (Int32 × mm_S)) (hK11 : ∀ (x1 : Int32) (x2 : Int32) (x3 : Int32) (x4 : Int32) (x5 : Int32) (x6 : Int32) (st : mm_S) (H : Heap) (locs : List Loc) (ls : Array Slot), K11 x1 x2 x3 x4 x5 x6 st = some (r, st') → lv_has ls 10 [(0, .ref o), (1, .int x1), (2, .int x2), (3, .int x3), (4, .int x4), (5, .int x5), (6, .int x6)] → mm_H D o ad cs s.heap st H locs → W p l e (mm_R 1 24) s m args below meth c H locs 0 0 (MQ below (mm_Qi D o ad cs r st') args s 0 0 (mm_A o ad)) (F0 m 11 ls [])) (x1 : Int32) (x2 : Int32) (x3 : Int32) (x4 : Int32) (x5 : Int32) (x6 : Int32) (s0 : Int32) (s1 : Int32) (st : mm_S) (hf : M_holds_b147 fu K11 x1 x2 x3 x4 x5 x6 s0 s1 st = some (r, st')) {H : Heap} {locs : List Loc} {ls : Array Slot} (hl : lv_has ls 10 [(0, .ref o), (1, .int x1), (2, .int x2), (3, .int x3), (4, .int x4), (5, .int x5), (6, .int x6)]) (hM : mm_H D o ad cs s.heap st H locs) : W p l e (mm_R 1 24) s m args below meth c H locs 0 0 (MQ below (mm_Qi D o ad cs r st') args s 0 0 (mm_A o ad)) (F0 m 147 ls [.int s0, .int s1, .ref (ad 25)]) := by
  unfold M_holds_b147 at hf
  obtain ⟨g35, hf⟩ := fc_of_gd hf
  refine mm_zast C hM 25 (dd_at td_holds 80 rfl) (by decide) (by decide) (fc_of_ix g35) (fun st36 H locs est36 hM => ?_)
  replace hf := fc_of_nm hf st36 est36
  refine lv_goto (tgt := 249) C.1 C.2.1 (dd_at td_holds 81 rfl) (by decide) ?_
  exact w_holds_b249 C fu K11 hK11 x1 x2 x3 x4 x5 x6 st36 hf (lv_sub hl [0, 1, 2, 3, 4, 5, 6] rfl) hM
theorem w_holds_b142 {p : Program} {l : Launch} {e : Env} {s : State} {m : MethodId} {args : Array Value} {below : List Frame} {meth : Method} {c : Code} {D : va_G} {o : Nat} {ad : Nat → Nat} {cs : ClassId × ClassId × ClassId} {r : Int32} {st' : mm_S} (C : mm_C p s m args meth c cX12_holds 10 (some .boolean) D cs) (fu : Nat) (K11 : Int32 → Int32 → Int32 → Int32 → Int32 → Int32 → mm_S → Option (Int32 × mm_S)) (hK11 : ∀ (x1 : Int32) (x2 : Int32) (x3 : Int32) (x4 : Int32) (x5 : Int32) (x6 : Int32) (st : mm_S) (H : Heap) (locs : List Loc) (ls : Array Slot), K11 x1 x2 x3 x4 x5 x6 st = some (r, st') → lv_has ls 10 [(0, .ref o), (1, .int x1), (2, .int x2), (3, .int x3), (4, .int x4), (5, .int x5), (6, .int x6)] → mm_H D o ad cs s.heap st H locs → W p l e (mm_R 1 24) s m args below meth c H locs 0 0 (MQ below (mm_Qi D o ad cs r st') args s 0 0 (mm_A o ad)) (F0 m 11 ls [])) (x1 : Int32) (x2 : Int32) (x3 : Int32) (x4 : Int32) (x5 : Int32) (x6 : Int32) (s0 : Int32) (st : mm_S) (hf : M_holds_b142 fu K11 x1 x2 x3 x4 x5 x6 s0 st = some (r, st')) {H : Heap} {locs : List Loc} {ls : Array Slot} (hl : lv_has ls 10 [(0, .ref o), (1, .int x1), (2, .int x2), (3, .int x3), (4, .int x4), (5, .int x5), (6, .int x6)]) (hM : mm_H D o ad cs s.heap st H locs) : W p l e (mm_R 1 24) s m args below meth c H locs 0 0 (MQ below (mm_Qi D o ad cs r st') args s 0 0 (mm_A o ad)) (F0 m 142 ls [.int s0, .ref (ad 25)]) := by
  unfold M_holds_b142 at hf
  refine lv_iconst (v := (1 : Int32)) C.1 C.2.1 (dd_at td_holds 77 rfl) (by decide) ?_
  refine lv_goto (tgt := 147) C.1 C.2.1 (dd_at td_holds 78 rfl) (by decide) ?_
  exact w_holds_b147 C fu K11 hK11 x1 x2 x3 x4 x5 x6 (1 : Int32) s0 st hf (lv_sub hl [0, 1, 2, 3, 4, 5, 6] rfl) hM
theorem w_holds_b116 {p : Program} {l : Launch} {e : Env} {s : State} {m : MethodId} {args : Array Value} {below : List Frame} {meth : Method} {c : Code} {D : va_G} {o : Nat} {ad : Nat → Nat} {cs : ClassId × ClassId × ClassId} {r : Int32} {st' : mm_S} (C : mm_C p s m args meth c cX12_holds 10 (some .boolean) D cs) (fu : Nat) (K11 : Int32 → Int32 → Int32 → Int32 → Int32 → Int32 → mm_S → Option (Int32 × mm_S)) (hK11 : ∀ (x1 : Int32) (x2 : Int32) (x3 : Int32) (x4 : Int32) (x5 : Int32) (x6 : Int32) (st : mm_S) (H : Heap) (locs : List Loc) (ls : Array Slot), K11 x1 x2 x3 x4 x5 x6 st = some (r, st') → lv_has ls 10 [(0, .ref o), (1, .int x1), (2, .int x2), (3, .int x3), (4, .int x4), (5, .int x5), (6, .int x6)] → mm_H D o ad cs s.heap st H locs → W p l e (mm_R 1 24) s m args below meth c H locs 0 0 (MQ below (mm_Qi D o ad cs r st') args s 0 0 (mm_A o ad)) (F0 m 11 ls [])) (x1 : Int32) (x2 : Int32) (x3 : Int32) (x4 : Int32) (x5 : Int32) (x6 : Int32) (s0 : Int32) (st : mm_S) (hf : M_holds_b116 fu K11 x1 x2 x3 x4 x5 x6 s0 st = some (r, st')) {H : Heap} {locs : List Loc} {ls : Array Slot} (hl : lv_has ls 10 [(0, .ref o), (1, .int x1), (2, .int x2), (3, .int x3), (4, .int x4), (5, .int x5), (6, .int x6)]) (hM : mm_H D o ad cs s.heap st H locs) : W p l e (mm_R 1 24) s m args below meth c H locs 0 0 (MQ below (mm_Qi D o ad cs r st') args s 0 0 (mm_A o ad)) (F0 m 116 ls [.int s0, .ref (ad 25)]) := by
  unfold M_holds_b116 at hf
  refine lv_iconst (v := (0 : Int32)) C.1 C.2.1 (dd_at td_holds 63 rfl) (by decide) ?_
  refine lv_goto (tgt := 147) C.1 C.2.1 (dd_at td_holds 64 rfl) (by decide) ?_
  exact w_holds_b147 C fu K11 hK11 x1 x2 x3 x4 x5 x6 (0 : Int32) s0 st hf (lv_sub hl [0, 1, 2, 3, 4, 5, 6] rfl) hM
theorem w_holds_b63 {p : Program} {l : Launch} {e : Env} {s : State} {m : MethodId} {args : Array Value} {below : List Frame} {meth : Method} {c : Code} {D : va_G} {o : Nat} {ad : Nat → Nat} {cs : ClassId × ClassId × ClassId} {r : Int32} {st' : mm_S} (C : mm_C p s m args meth c cX12_holds 10 (some .boolean) D cs) (fu : Nat) (K11 : Int32 → Int32 → Int32 → Int32 → Int32 → Int32 → mm_S → Option (Int32 × mm_S)) (hK11 : ∀ (x1 : Int32) (x2 : Int32) (x3 : Int32) (x4 : Int32) (x5 : Int32) (x6 : Int32) (st : mm_S) (H : Heap) (locs : List Loc) (ls : Array Slot), K11 x1 x2 x3 x4 x5 x6 st = some (r, st') → lv_has ls 10 [(0, .ref o), (1, .int x1), (2, .int x2), (3, .int x3), (4, .int x4), (5, .int x5), (6, .int x6)] → mm_H D o ad cs s.heap st H locs → W p l e (mm_R 1 24) s m args below meth c H locs 0 0 (MQ below (mm_Qi D o ad cs r st') args s 0 0 (mm_A o ad)) (F0 m 11 ls [])) (x1 : Int32) (x2 : Int32) (x3 : Int32) (x4 : Int32) (x5 : Int32) (x6 : Int32) (s0 : Int32) (s1 : Int32) (st : mm_S) (hf : M_holds_b63 fu K11 x1 x2 x3 x4 x5 x6 s0 s1 st = some (r, st')) {H : Heap} {locs : List Loc} {ls : Array Slot} (hl : lv_has ls 10 [(0, .ref o), (1, .int x1), (2, .int x2), (3, .int x3), (4, .int x4), (5, .int x5), (6, .int x6)]) (hM : mm_H D o ad cs s.heap st H locs) : W p l e (mm_R 1 24) s m args below meth c H locs 0 0 (MQ below (mm_Qi D o ad cs r st') args s 0 0 (mm_A o ad)) (F0 m 63 ls [.int s0, .int s1, .ref (ad 25)]) := by
  unfold M_holds_b63 at hf
  obtain ⟨g37, hf⟩ := fc_of_gd hf
  refine mm_zast C hM 25 (dd_at td_holds 36 rfl) (by decide) (by decide) (fc_of_ix g37) (fun st38 H locs est38 hM => ?_)
  replace hf := fc_of_nm hf st38 est38
  refine lv_goto (tgt := 249) C.1 C.2.1 (dd_at td_holds 37 rfl) (by decide) ?_
  exact w_holds_b249 C fu K11 hK11 x1 x2 x3 x4 x5 x6 st38 hf (lv_sub hl [0, 1, 2, 3, 4, 5, 6] rfl) hM
theorem w_holds_b11F {p : Program} {l : Launch} {e : Env} {s : State} {m : MethodId} {args : Array Value} {below : List Frame} {meth : Method} {c : Code} {D : va_G} {o : Nat} {ad : Nat → Nat} {cs : ClassId × ClassId × ClassId} {r : Int32} {st' : mm_S} (C : mm_C p s m args meth c cX12_holds 10 (some .boolean) D cs) (fu : Nat) (K11 : Int32 → Int32 → Int32 → Int32 → Int32 → Int32 → mm_S → Option (Int32 × mm_S)) (hK11 : ∀ (x1 : Int32) (x2 : Int32) (x3 : Int32) (x4 : Int32) (x5 : Int32) (x6 : Int32) (st : mm_S) (H : Heap) (locs : List Loc) (ls : Array Slot), K11 x1 x2 x3 x4 x5 x6 st = some (r, st') → lv_has ls 10 [(0, .ref o), (1, .int x1), (2, .int x2), (3, .int x3), (4, .int x4), (5, .int x5), (6, .int x6)] → mm_H D o ad cs s.heap st H locs → W p l e (mm_R 1 24) s m args below meth c H locs 0 0 (MQ below (mm_Qi D o ad cs r st') args s 0 0 (mm_A o ad)) (F0 m 11 ls [])) (x1 : Int32) (x2 : Int32) (x3 : Int32) (x4 : Int32) (x5 : Int32) (x6 : Int32) (st : mm_S) (hf : M_holds_b11F fu K11 x1 x2 x3 x4 x5 x6 st = some (r, st')) {H : Heap} {locs : List Loc} {ls : Array Slot} (hl : lv_has ls 10 [(0, .ref o), (1, .int x1), (2, .int x2), (3, .int x3), (4, .int x4), (5, .int x5), (6, .int x6)]) (hM : mm_H D o ad cs s.heap st H locs) : W p l e (mm_R 1 24) s m args below meth c H locs 0 0 (MQ below (mm_Qi D o ad cs r st') args s 0 0 (mm_A o ad)) (F0 m 11 ls []) := by
  unfold M_holds_b11F at hf
  refine lv_iload C.1 C.2.1 (dd_at td_holds 7 rfl) (lv_at hl 6 rfl) ?_
  refine lv_aload_n C.1 C.2.1 (dd_at td_holds 8 rfl) rfl (lv_at hl 0 rfl) ?_
  refine mm_gA C hM 18 (dd_at td_holds 9 rfl) (by decide) (by decide) (by decide) ?_
  refine lv_iload_n C.1 C.2.1 (dd_at td_holds 10 rfl) rfl (lv_at hl 1 rfl) ?_
  obtain ⟨g3, hf⟩ := fc_of_gd hf
  refine mm_iald C hM 18 (dd_at td_holds 11 rfl) (by decide) (by decide) (fc_of_ix g3) ?_
  refine lv_icmp_ge (tgt := 255) C.1 C.2.1 (dd_at td_holds 12 rfl) (by decide) (fun c4 => ?_) (fun c4 => ?_)
  · replace hf := fc_of_t hf c4
    refine lv_aload_n C.1 C.2.1 (dd_at td_holds 135 rfl) rfl (lv_at hl 0 rfl) ?_
    refine mm_gA C hM 25 (dd_at td_holds 136 rfl) (by decide) (by decide) (by decide) ?_
    refine lv_iconst (v := (0 : Int32)) C.1 C.2.1 (dd_at td_holds 137 rfl) (by decide) ?_
    obtain ⟨g5, hf⟩ := fc_of_gd hf
    refine mm_zald C hM 25 (dd_at td_holds 138 rfl) (by decide) (by decide) (fc_of_ix g5) ?_
    obtain ⟨g6, hf⟩ := fc_of_gd hf
    exact mm_rz C hM (dd_at td_holds 139 rfl) (fc_of_zb g6) hf
  · replace hf := fc_of_f hf c4
    refine lv_aload_n C.1 C.2.1 (dd_at td_holds 13 rfl) rfl (lv_at hl 0 rfl) ?_
    refine mm_gA C hM 19 (dd_at td_holds 14 rfl) (by decide) (by decide) (by decide) ?_
    refine lv_iload C.1 C.2.1 (dd_at td_holds 15 rfl) (lv_at hl 6 rfl) ?_
    obtain ⟨g7, hf⟩ := fc_of_gd hf
    refine mm_iald C hM 19 (dd_at td_holds 16 rfl) (by decide) (by decide) (fc_of_ix g7) ?_
    refine lv_topi (fun v8 ev8 => ?_)
    replace hf := fc_of_nm hf v8 ev8
    refine lv_istore (lv' := [(7, .int v8), (0, .ref o), (1, .int x1), (2, .int x2), (3, .int x3), (4, .int x4), (5, .int x5), (6, .int x6)]) C.1 C.2.1 (dd_at td_holds 17 rfl) hl (by decide) rfl (fun ls hl => ?_)
    refine lv_iload C.1 C.2.1 (dd_at td_holds 18 rfl) (lv_at hl 0 rfl) ?_
    refine lv_bipush (v := (-33 : Int32)) C.1 C.2.1 (dd_at td_holds 19 rfl) (by decide) ?_
    refine lv_icmp_ne (tgt := 67) C.1 C.2.1 (dd_at td_holds 20 rfl) (by decide) (fun c9 => ?_) (fun c9 => ?_)
    · replace hf := fc_of_f hf c9
      refine lv_iload C.1 C.2.1 (dd_at td_holds 38 rfl) (lv_at hl 0 rfl) ?_
      refine lv_if_ge (tgt := 151) C.1 C.2.1 (dd_at td_holds 39 rfl) (by decide) (fun c10 => ?_) (fun c10 => ?_)
      · replace hf := fc_of_t hf c10
        refine lv_aload_n C.1 C.2.1 (dd_at td_holds 82 rfl) rfl (lv_at hl 1 rfl) ?_
        refine lv_iload C.1 C.2.1 (dd_at td_holds 83 rfl) (lv_at hl 0 rfl) ?_
        refine lv_sipush (v := (1000 : Int32)) C.1 C.2.1 (dd_at td_holds 84 rfl) (by decide) ?_
        refine lv_idiv C.1 C.2.1 (dd_at td_holds 85 rfl) (by decide) ?_
        refine lv_iload_n C.1 C.2.1 (dd_at td_holds 86 rfl) rfl (lv_at hl 3 rfl) ?_
        refine lv_iload_n C.1 C.2.1 (dd_at td_holds 87 rfl) rfl (lv_at hl 4 rfl) ?_
        refine lv_iload C.1 C.2.1 (dd_at td_holds 88 rfl) (lv_at hl 5 rfl) ?_
        obtain ⟨r13, st11, hx12, hf⟩ := fc_of_bn hf
        refine mm_ci (As := [.int (v8 / (1000 : Int32)), .int x2, .int x3, .int x4]) (rest := []) (n := 4) C hM (c_factOf l D o ad cs fu (v8 / (1000 : Int32)) x2 x3 x4 st) (List.mem_of_getElem? (i := 9) rfl) (dd_at td_holds 89 rfl) hx12 hl.1 hd_factOf ⟨Nat.le_of_ble_eq_true rfl, Nat.le_of_ble_eq_true rfl⟩ rfl rfl (Nat.le_of_ble_eq_true rfl) ⟨Nat.le_refl 0, Nat.le_refl 0⟩ (fun H locs hM => ?_)
        refine lv_istore (lv' := [(8, .int r13), (7, .int v8), (0, .ref o), (1, .int x1), (2, .int x2), (3, .int x3), (4, .int x4), (5, .int x5), (6, .int x6)]) C.1 C.2.1 (dd_at td_holds 90 rfl) hl (by decide) rfl (fun ls hl => ?_)
        refine lv_iload C.1 C.2.1 (dd_at td_holds 91 rfl) (lv_at hl 1 rfl) ?_
        refine lv_bipush (v := (100 : Int32)) C.1 C.2.1 (dd_at td_holds 92 rfl) (by decide) ?_
        refine lv_idiv C.1 C.2.1 (dd_at td_holds 93 rfl) (by decide) ?_
        refine lv_bipush (v := (10 : Int32)) C.1 C.2.1 (dd_at td_holds 94 rfl) (by decide) ?_
        refine lv_irem C.1 C.2.1 (dd_at td_holds 95 rfl) (by decide) ?_
        refine lv_topi (fun v14 ev14 => ?_)
        replace hf := fc_of_nm hf v14 ev14
        refine lv_istore (lv' := [(9, .int v14), (8, .int r13), (7, .int v8), (0, .ref o), (1, .int x1), (2, .int x2), (3, .int x3), (4, .int x4), (5, .int x5), (6, .int x6)]) C.1 C.2.1 (dd_at td_holds 96 rfl) hl (by decide) rfl (fun ls hl => ?_)
        refine lv_aload_n C.1 C.2.1 (dd_at td_holds 97 rfl) rfl (lv_at hl 3 rfl) ?_
        refine mm_gA C hM 25 (dd_at td_holds 98 rfl) (by decide) (by decide) (by decide) ?_
        refine lv_iload C.1 C.2.1 (dd_at td_holds 99 rfl) (lv_at hl 8 rfl) ?_
        refine lv_iload C.1 C.2.1 (dd_at td_holds 100 rfl) (lv_at hl 0 rfl) ?_
        refine lv_if_ne (tgt := 206) C.1 C.2.1 (dd_at td_holds 101 rfl) (by decide) (fun c15 => ?_) (fun c15 => ?_)
        · replace hf := fc_of_f hf c15
          refine lv_iload C.1 C.2.1 (dd_at td_holds 111 rfl) (lv_at hl 0 rfl) ?_
          refine lv_iconst (v := (1 : Int32)) C.1 C.2.1 (dd_at td_holds 112 rfl) (by decide) ?_
          refine lv_icmp_ne (tgt := 230) C.1 C.2.1 (dd_at td_holds 113 rfl) (by decide) (fun c16 => ?_) (fun c16 => ?_)
          · replace hf := fc_of_f hf c16
            refine lv_iload C.1 C.2.1 (dd_at td_holds 123 rfl) (lv_at hl 1 rfl) ?_
            refine lv_iload C.1 C.2.1 (dd_at td_holds 124 rfl) (lv_at hl 2 rfl) ?_
            refine lv_bipush (v := (100 : Int32)) C.1 C.2.1 (dd_at td_holds 125 rfl) (by decide) ?_
            refine lv_irem C.1 C.2.1 (dd_at td_holds 126 rfl) (by decide) ?_
            refine lv_icmp_le (tgt := 244) C.1 C.2.1 (dd_at td_holds 127 rfl) (by decide) (fun c17 => ?_) (fun c17 => ?_)
            · replace hf := fc_of_t hf c17
              refine lv_iconst (v := (0 : Int32)) C.1 C.2.1 (dd_at td_holds 130 rfl) (by decide) ?_
              exact w_holds_b245 C fu K11 hK11 x1 x2 x3 x4 x5 x6 (0 : Int32) x5 st11 hf (lv_sub hl [3, 4, 5, 6, 7, 8, 9] rfl) hM
            · replace hf := fc_of_f hf c17
              refine lv_iconst (v := (1 : Int32)) C.1 C.2.1 (dd_at td_holds 128 rfl) (by decide) ?_
              refine lv_goto (tgt := 245) C.1 C.2.1 (dd_at td_holds 129 rfl) (by decide) ?_
              exact w_holds_b245 C fu K11 hK11 x1 x2 x3 x4 x5 x6 (1 : Int32) x5 st11 hf (lv_sub hl [3, 4, 5, 6, 7, 8, 9] rfl) hM
          · replace hf := fc_of_t hf c16
            refine lv_iload C.1 C.2.1 (dd_at td_holds 114 rfl) (lv_at hl 1 rfl) ?_
            refine lv_iload C.1 C.2.1 (dd_at td_holds 115 rfl) (lv_at hl 2 rfl) ?_
            refine lv_bipush (v := (100 : Int32)) C.1 C.2.1 (dd_at td_holds 116 rfl) (by decide) ?_
            refine lv_irem C.1 C.2.1 (dd_at td_holds 117 rfl) (by decide) ?_
            refine lv_icmp_ne (tgt := 226) C.1 C.2.1 (dd_at td_holds 118 rfl) (by decide) (fun c18 => ?_) (fun c18 => ?_)
            · replace hf := fc_of_f hf c18
              refine lv_iconst (v := (0 : Int32)) C.1 C.2.1 (dd_at td_holds 121 rfl) (by decide) ?_
              refine lv_goto (tgt := 245) C.1 C.2.1 (dd_at td_holds 122 rfl) (by decide) ?_
              exact w_holds_b245 C fu K11 hK11 x1 x2 x3 x4 x5 x6 (0 : Int32) x5 st11 hf (lv_sub hl [3, 4, 5, 6, 7, 8, 9] rfl) hM
            · replace hf := fc_of_t hf c18
              refine lv_iconst (v := (1 : Int32)) C.1 C.2.1 (dd_at td_holds 119 rfl) (by decide) ?_
              refine lv_goto (tgt := 245) C.1 C.2.1 (dd_at td_holds 120 rfl) (by decide) ?_
              exact w_holds_b245 C fu K11 hK11 x1 x2 x3 x4 x5 x6 (1 : Int32) x5 st11 hf (lv_sub hl [3, 4, 5, 6, 7, 8, 9] rfl) hM
        · replace hf := fc_of_t hf c15
          refine lv_iload C.1 C.2.1 (dd_at td_holds 102 rfl) (lv_at hl 1 rfl) ?_
          refine lv_iload C.1 C.2.1 (dd_at td_holds 103 rfl) (lv_at hl 2 rfl) ?_
          refine lv_bipush (v := (100 : Int32)) C.1 C.2.1 (dd_at td_holds 104 rfl) (by decide) ?_
          refine lv_irem C.1 C.2.1 (dd_at td_holds 105 rfl) (by decide) ?_
          refine lv_icmp_ge (tgt := 202) C.1 C.2.1 (dd_at td_holds 106 rfl) (by decide) (fun c19 => ?_) (fun c19 => ?_)
          · replace hf := fc_of_t hf c19
            refine lv_iconst (v := (0 : Int32)) C.1 C.2.1 (dd_at td_holds 109 rfl) (by decide) ?_
            refine lv_goto (tgt := 245) C.1 C.2.1 (dd_at td_holds 110 rfl) (by decide) ?_
            exact w_holds_b245 C fu K11 hK11 x1 x2 x3 x4 x5 x6 (0 : Int32) x5 st11 hf (lv_sub hl [3, 4, 5, 6, 7, 8, 9] rfl) hM
          · replace hf := fc_of_f hf c19
            refine lv_iconst (v := (1 : Int32)) C.1 C.2.1 (dd_at td_holds 107 rfl) (by decide) ?_
            refine lv_goto (tgt := 245) C.1 C.2.1 (dd_at td_holds 108 rfl) (by decide) ?_
            exact w_holds_b245 C fu K11 hK11 x1 x2 x3 x4 x5 x6 (1 : Int32) x5 st11 hf (lv_sub hl [3, 4, 5, 6, 7, 8, 9] rfl) hM
      · replace hf := fc_of_f hf c10
        obtain ⟨v20, ev20⟩ : ∃ y : Int32, y = x5 + (-1 : Int32) := ⟨_, rfl⟩
        replace hf := fc_of_nm hf v20 ev20
        refine lv_iinc (v := v20) (lv' := [(5, .int v20), (7, .int v8), (0, .ref o), (1, .int x1), (2, .int x2), (3, .int x3), (4, .int x4), (6, .int x6)]) C.1 C.2.1 (dd_at td_holds 40 rfl) hl (k := 6) rfl (by rw [ev20]; rfl) (by decide) rfl (fun ls hl => ?_)
        refine lv_aload_n C.1 C.2.1 (dd_at td_holds 41 rfl) rfl (lv_at hl 2 rfl) ?_
        refine mm_gA C hM 25 (dd_at td_holds 42 rfl) (by decide) (by decide) (by decide) ?_
        refine lv_iload C.1 C.2.1 (dd_at td_holds 43 rfl) (lv_at hl 0 rfl) ?_
        refine lv_iconst (v := (1 : Int32)) C.1 C.2.1 (dd_at td_holds 44 rfl) (by decide) ?_
        refine lv_isub C.1 C.2.1 (dd_at td_holds 45 rfl) ?_
        refine lv_iload C.1 C.2.1 (dd_at td_holds 46 rfl) (lv_at hl 1 rfl) ?_
        refine lv_bipush (v := (-38 : Int32)) C.1 C.2.1 (dd_at td_holds 47 rfl) (by decide) ?_
        refine lv_icmp_ne (tgt := 120) C.1 C.2.1 (dd_at td_holds 48 rfl) (by decide) (fun c21 => ?_) (fun c21 => ?_)
        · replace hf := fc_of_f hf c21
          refine lv_aload_n C.1 C.2.1 (dd_at td_holds 65 rfl) rfl (lv_at hl 2 rfl) ?_
          refine mm_gA C hM 25 (dd_at td_holds 66 rfl) (by decide) (by decide) (by decide) ?_
          refine lv_iload C.1 C.2.1 (dd_at td_holds 67 rfl) (lv_at hl 0 rfl) ?_
          refine lv_iconst (v := (1 : Int32)) C.1 C.2.1 (dd_at td_holds 68 rfl) (by decide) ?_
          refine lv_isub C.1 C.2.1 (dd_at td_holds 69 rfl) ?_
          obtain ⟨g22, hf⟩ := fc_of_gd hf
          refine mm_zald C hM 25 (dd_at td_holds 70 rfl) (by decide) (by decide) (fc_of_ix g22) ?_
          refine lv_if_ne (tgt := 142) C.1 C.2.1 (dd_at td_holds 71 rfl) (by decide) (fun c23 => ?_) (fun c23 => ?_)
          · replace hf := fc_of_f hf c23
            exact w_holds_b142 C fu K11 hK11 x1 x2 x3 x4 v20 x6 (v20 - (1 : Int32)) st hf (lv_sub hl [2, 3, 4, 5, 6, 0, 7] rfl) hM
          · replace hf := fc_of_t hf c23
            refine lv_aload_n C.1 C.2.1 (dd_at td_holds 72 rfl) rfl (lv_at hl 2 rfl) ?_
            refine mm_gA C hM 25 (dd_at td_holds 73 rfl) (by decide) (by decide) (by decide) ?_
            refine lv_iload C.1 C.2.1 (dd_at td_holds 74 rfl) (lv_at hl 0 rfl) ?_
            obtain ⟨g24, hf⟩ := fc_of_gd hf
            refine mm_zald C hM 25 (dd_at td_holds 75 rfl) (by decide) (by decide) (fc_of_ix g24) ?_
            refine lv_if_eq (tgt := 146) C.1 C.2.1 (dd_at td_holds 76 rfl) (by decide) (fun c25 => ?_) (fun c25 => ?_)
            · replace hf := fc_of_t hf c25
              refine lv_iconst (v := (0 : Int32)) C.1 C.2.1 (dd_at td_holds 79 rfl) (by decide) ?_
              exact w_holds_b147 C fu K11 hK11 x1 x2 x3 x4 v20 x6 (0 : Int32) (v20 - (1 : Int32)) st hf (lv_sub hl [2, 3, 4, 5, 6, 0, 7] rfl) hM
            · replace hf := fc_of_f hf c25
              exact w_holds_b142 C fu K11 hK11 x1 x2 x3 x4 v20 x6 (v20 - (1 : Int32)) st hf (lv_sub hl [2, 3, 4, 5, 6, 0, 7] rfl) hM
        · replace hf := fc_of_t hf c21
          refine lv_aload_n C.1 C.2.1 (dd_at td_holds 49 rfl) rfl (lv_at hl 2 rfl) ?_
          refine mm_gA C hM 25 (dd_at td_holds 50 rfl) (by decide) (by decide) (by decide) ?_
          refine lv_iload C.1 C.2.1 (dd_at td_holds 51 rfl) (lv_at hl 0 rfl) ?_
          refine lv_iconst (v := (1 : Int32)) C.1 C.2.1 (dd_at td_holds 52 rfl) (by decide) ?_
          refine lv_isub C.1 C.2.1 (dd_at td_holds 53 rfl) ?_
          obtain ⟨g26, hf⟩ := fc_of_gd hf
          refine mm_zald C hM 25 (dd_at td_holds 54 rfl) (by decide) (by decide) (fc_of_ix g26) ?_
          refine lv_if_eq (tgt := 116) C.1 C.2.1 (dd_at td_holds 55 rfl) (by decide) (fun c27 => ?_) (fun c27 => ?_)
          · replace hf := fc_of_t hf c27
            exact w_holds_b116 C fu K11 hK11 x1 x2 x3 x4 v20 x6 (v20 - (1 : Int32)) st hf (lv_sub hl [2, 3, 4, 5, 6, 0, 7] rfl) hM
          · replace hf := fc_of_f hf c27
            refine lv_aload_n C.1 C.2.1 (dd_at td_holds 56 rfl) rfl (lv_at hl 2 rfl) ?_
            refine mm_gA C hM 25 (dd_at td_holds 57 rfl) (by decide) (by decide) (by decide) ?_
            refine lv_iload C.1 C.2.1 (dd_at td_holds 58 rfl) (lv_at hl 0 rfl) ?_
            obtain ⟨g28, hf⟩ := fc_of_gd hf
            refine mm_zald C hM 25 (dd_at td_holds 59 rfl) (by decide) (by decide) (fc_of_ix g28) ?_
            refine lv_if_eq (tgt := 116) C.1 C.2.1 (dd_at td_holds 60 rfl) (by decide) (fun c29 => ?_) (fun c29 => ?_)
            · replace hf := fc_of_t hf c29
              exact w_holds_b116 C fu K11 hK11 x1 x2 x3 x4 v20 x6 (v20 - (1 : Int32)) st hf (lv_sub hl [2, 3, 4, 5, 6, 0, 7] rfl) hM
            · replace hf := fc_of_f hf c29
              refine lv_iconst (v := (1 : Int32)) C.1 C.2.1 (dd_at td_holds 61 rfl) (by decide) ?_
              refine lv_goto (tgt := 147) C.1 C.2.1 (dd_at td_holds 62 rfl) (by decide) ?_
              exact w_holds_b147 C fu K11 hK11 x1 x2 x3 x4 v20 x6 (1 : Int32) (v20 - (1 : Int32)) st hf (lv_sub hl [2, 3, 4, 5, 6, 0, 7] rfl) hM
    · replace hf := fc_of_t hf c9
      refine lv_aload_n C.1 C.2.1 (dd_at td_holds 21 rfl) rfl (lv_at hl 1 rfl) ?_
      refine mm_gA C hM 25 (dd_at td_holds 22 rfl) (by decide) (by decide) (by decide) ?_
      refine lv_iload C.1 C.2.1 (dd_at td_holds 23 rfl) (lv_at hl 6 rfl) ?_
      refine lv_iconst (v := (1 : Int32)) C.1 C.2.1 (dd_at td_holds 24 rfl) (by decide) ?_
      refine lv_isub C.1 C.2.1 (dd_at td_holds 25 rfl) ?_
      refine lv_aload_n C.1 C.2.1 (dd_at td_holds 26 rfl) rfl (lv_at hl 1 rfl) ?_
      refine mm_gA C hM 25 (dd_at td_holds 27 rfl) (by decide) (by decide) (by decide) ?_
      refine lv_iload C.1 C.2.1 (dd_at td_holds 28 rfl) (lv_at hl 6 rfl) ?_
      refine lv_iconst (v := (1 : Int32)) C.1 C.2.1 (dd_at td_holds 29 rfl) (by decide) ?_
      refine lv_isub C.1 C.2.1 (dd_at td_holds 30 rfl) ?_
      obtain ⟨g30, hf⟩ := fc_of_gd hf
      refine mm_zald C hM 25 (dd_at td_holds 31 rfl) (by decide) (by decide) (fc_of_ix g30) ?_
      refine lv_if_ne (tgt := 62) C.1 C.2.1 (dd_at td_holds 32 rfl) (by decide) (fun c31 => ?_) (fun c31 => ?_)
      · replace hf := fc_of_f hf c31
        refine lv_iconst (v := (0 : Int32)) C.1 C.2.1 (dd_at td_holds 35 rfl) (by decide) ?_
        exact w_holds_b63 C fu K11 hK11 x1 x2 x3 x4 x5 x6 (0 : Int32) (x5 - (1 : Int32)) st hf (lv_sub hl [1, 2, 3, 4, 5, 6, 7] rfl) hM
      · replace hf := fc_of_t hf c31
        refine lv_iconst (v := (1 : Int32)) C.1 C.2.1 (dd_at td_holds 33 rfl) (by decide) ?_
        refine lv_goto (tgt := 63) C.1 C.2.1 (dd_at td_holds 34 rfl) (by decide) ?_
        exact w_holds_b63 C fu K11 hK11 x1 x2 x3 x4 x5 x6 (1 : Int32) (x5 - (1 : Int32)) st hf (lv_sub hl [1, 2, 3, 4, 5, 6, 7] rfl) hM
theorem w_holds_b11 {p : Program} {l : Launch} {e : Env} {s : State} {m : MethodId} {args : Array Value} {below : List Frame} {meth : Method} {c : Code} {D : va_G} {o : Nat} {ad : Nat → Nat} {cs : ClassId × ClassId × ClassId} {r : Int32} {st' : mm_S} (C : mm_C p s m args meth c cX12_holds 10 (some .boolean) D cs) (fu : Nat) (n : Nat) : ∀ (x1 : Int32) (x2 : Int32) (x3 : Int32) (x4 : Int32) (x5 : Int32) (x6 : Int32) (st : mm_S), M_holds_b11 fu n x1 x2 x3 x4 x5 x6 st = some (r, st') → ∀ (H : Heap) (locs : List Loc) (ls : Array Slot), lv_has ls 10 [(0, .ref o), (1, .int x1), (2, .int x2), (3, .int x3), (4, .int x4), (5, .int x5), (6, .int x6)] → mm_H D o ad cs s.heap st H locs → W p l e (mm_R 1 24) s m args below meth c H locs 0 0 (MQ below (mm_Qi D o ad cs r st') args s 0 0 (mm_A o ad)) (F0 m 11 ls []) := by
  induction n with
  | zero => exact fun _ _ _ _ _ _ _ hf => fc_no hf
  | succ n ih =>
    intro x1 x2 x3 x4 x5 x6 st hf H locs ls hl hM
    exact w_holds_b11F C fu (fun x1 x2 x3 x4 x5 x6 st => M_holds_b11 fu n x1 x2 x3 x4 x5 x6 st) (fun x1 x2 x3 x4 x5 x6 st H locs ls hf hl hM => ih x1 x2 x3 x4 x5 x6 st hf H locs ls hl hM) x1 x2 x3 x4 x5 x6 st hf hl hM
theorem w_holds {p : Program} {l : Launch} {e : Env} {s : State} {m : MethodId} {args : Array Value} {below : List Frame} {meth : Method} {c : Code} {D : va_G} {o : Nat} {ad : Nat → Nat} {cs : ClassId × ClassId × ClassId} {r : Int32} {st' : mm_S} (C : mm_C p s m args meth c cX12_holds 10 (some .boolean) D cs) (fu : Nat) (x1 : Int32) (x2 : Int32) (x3 : Int32) (x4 : Int32) (st : mm_S) (hf : M_holds fu x1 x2 x3 x4 st = some (r, st')) {H : Heap} {locs : List Loc} {ls : Array Slot} (hl : lv_has ls 10 [(0, .ref o), (1, .int x1), (2, .int x2), (3, .int x3), (4, .int x4)]) (hM : mm_H D o ad cs s.heap st H locs) : W p l e (mm_R 1 24) s m args below meth c H locs 0 0 (MQ below (mm_Qi D o ad cs r st') args s 0 0 (mm_A o ad)) (F0 m 0 ls []) := by
  unfold M_holds at hf
  refine lv_iconst (v := (0 : Int32)) C.1 C.2.1 (dd_at td_holds 0 rfl) (by decide) ?_
  refine lv_istore (lv' := [(5, .int (0 : Int32)), (0, .ref o), (1, .int x1), (2, .int x2), (3, .int x3), (4, .int x4)]) C.1 C.2.1 (dd_at td_holds 1 rfl) hl (by decide) rfl (fun ls hl => ?_)
  refine lv_aload_n C.1 C.2.1 (dd_at td_holds 2 rfl) rfl (lv_at hl 1 rfl) ?_
  refine mm_gA C hM 17 (dd_at td_holds 3 rfl) (by decide) (by decide) (by decide) ?_
  refine lv_iload_n C.1 C.2.1 (dd_at td_holds 4 rfl) rfl (lv_at hl 2 rfl) ?_
  obtain ⟨g1, hf⟩ := fc_of_gd hf
  refine mm_iald C hM 17 (dd_at td_holds 5 rfl) (by decide) (by decide) (fc_of_ix g1) ?_
  refine lv_topi (fun v2 ev2 => ?_)
  replace hf := fc_of_nm hf v2 ev2
  refine lv_istore (lv' := [(6, .int v2), (5, .int (0 : Int32)), (0, .ref o), (1, .int x1), (2, .int x2), (3, .int x3), (4, .int x4)]) C.1 C.2.1 (dd_at td_holds 6 rfl) hl (by decide) rfl (fun ls hl => ?_)
  exact w_holds_b11 C fu fu x1 x2 x3 x4 (0 : Int32) v2 st hf _ _ _ (lv_sub hl [2, 3, 4, 5, 6, 1, 0] rfl) hM
theorem c_holds (l : Launch) (D : va_G) (o : Nat) (ad : Nat → Nat) (cs : ClassId × ClassId × ClassId) (fu : Nat) (x1 : Int32) (x2 : Int32) (x3 : Int32) (x4 : Int32) (st : mm_S) : mm_Mi l D o ad cs yX12_holds cX12_holds 10 (some .boolean) 1 24 [.int x1, .int x2, .int x3, .int x4] st (M_holds fu x1 x2 x3 x4 st) := by
  intro r st' hf
  refine mm_enter (cc := cX12_holds) (nL := 10) (ret := some .boolean) (by decide) rfl (Nat.le_of_ble_eq_true rfl) ?_
  intro p e s m args below meth c ls C hl hM
  exact w_holds C fu x1 x2 x3 x4 st hf hl hM

/-! base -/
def tb_base : List (Nat × Instr × Nat) := [(0, .bipush 10, 2), (2, .istore 4, 2), (4, .aload_n 0, 1), (5, .invokevirtual 264, 3), (8, .istore 5, 2), (10, .iload 5, 2), (12, .aload_n 0, 1), (13, .invokevirtual 267, 3), (16, .if_icmp .ge 68, 3), (19, .aload_n 0, 1), (20, .getfield 56, 3), (23, .iload 5, 2), (25, .iaload, 1), (26, .iconst 1, 1), (27, .if_icmp .gt 51, 3), (30, .aload_n 0, 1), (31, .iload 5, 2), (33, .iload_n 1, 1), (34, .iload_n 2, 1), (35, .iload_n 3, 1), (36, .invokevirtual 274, 3), (39, .ifCond .ne 6, 3), (42, .goto 36, 3), (45, .iload 4, 2), (47, .aload_n 0, 1), (48, .getfield 56, 3), (51, .iload 5, 2), (53, .iaload, 1), (54, .ifCond .ne 13, 3), (57, .aload_n 0, 1), (58, .getfield 59, 3), (61, .iload 5, 2), (63, .iaload, 1), (64, .goto 11, 3), (67, .aload_n 0, 1), (68, .getfield 59, 3), (71, .iload 5, 2), (73, .iaload, 1), (74, .ineg, 1), (75, .iadd, 1), (76, .istore 4, 2), (78, .iinc 5 1, 3), (81, .goto (-71), 3), (84, .iload 4, 2), (86, .ireturn, 1)]
theorem td_base : tb_base.all (fun q => decide (decode cX12_base q.1 = .ok (q.2.1, q.2.2))) = true := by decide +kernel
theorem hd_base : yX12_base.cls = RX12 ∧ yX12_base.cls ≠ "java/lang/invoke/MethodHandle" ∧ yX12_base.cls ≠ "java/lang/invoke/VarHandle" ∧ (parseMethodDescriptor yX12_base.desc).map (fun d => d.parameters.length) = some 3 := by decide +kernel
theorem w_base_b78 {p : Program} {l : Launch} {e : Env} {s : State} {m : MethodId} {args : Array Value} {below : List Frame} {meth : Method} {c : Code} {D : va_G} {o : Nat} {ad : Nat → Nat} {cs : ClassId × ClassId × ClassId} {r : Int32} {st' : mm_S} (C : mm_C p s m args meth c cX12_base 6 (some .int) D cs) (fu : Nat) (K10 : Int32 → Int32 → Int32 → Int32 → Int32 → mm_S → Option (Int32 × mm_S)) (hK10 : ∀ (x1 : Int32) (x2 : Int32) (x3 : Int32) (x4 : Int32) (x5 : Int32) (st : mm_S) (H : Heap) (locs : List Loc) (ls : Array Slot), K10 x1 x2 x3 x4 x5 st = some (r, st') → lv_has ls 6 [(0, .ref o), (1, .int x1), (2, .int x2), (3, .int x3), (4, .int x4), (5, .int x5)] → mm_H D o ad cs s.heap st H locs → W p l e (mm_R 2 53) s m args below meth c H locs 0 0 (MQ below (mm_Qi D o ad cs r st') args s 0 0 (mm_A o ad)) (F0 m 10 ls [])) (x1 : Int32) (x2 : Int32) (x3 : Int32) (x4 : Int32) (x5 : Int32) (st : mm_S) (hf : M_base_b78 fu K10 x1 x2 x3 x4 x5 st = some (r, st')) {H : Heap} {locs : List Loc} {ls : Array Slot} (hl : lv_has ls 6 [(0, .ref o), (1, .int x1), (2, .int x2), (3, .int x3), (4, .int x4), (5, .int x5)]) (hM : mm_H D o ad cs s.heap st H locs) : W p l e (mm_R 2 53) s m args below meth c H locs 0 0 (MQ below (mm_Qi D o ad cs r st') args s 0 0 (mm_A o ad)) (F0 m 78 ls []) := by
  unfold M_base_b78 at hf
  obtain ⟨v18, ev18⟩ : ∃ y : Int32, y = x5 + (1 : Int32) := ⟨_, rfl⟩
  replace hf := fc_of_nm hf v18 ev18
  refine lv_iinc (v := v18) (lv' := [(5, .int v18), (0, .ref o), (1, .int x1), (2, .int x2), (3, .int x3), (4, .int x4)]) C.1 C.2.1 (dd_at td_base 41 rfl) hl (k := 5) rfl (by rw [ev18]; rfl) (by decide) rfl (fun ls hl => ?_)
  refine lv_goto (tgt := 10) C.1 C.2.1 (dd_at td_base 42 rfl) (by decide) ?_
  exact hK10 x1 x2 x3 x4 v18 st _ _ _ hf (lv_sub hl [1, 2, 3, 4, 5, 0] rfl) hM
theorem w_base_b75 {p : Program} {l : Launch} {e : Env} {s : State} {m : MethodId} {args : Array Value} {below : List Frame} {meth : Method} {c : Code} {D : va_G} {o : Nat} {ad : Nat → Nat} {cs : ClassId × ClassId × ClassId} {r : Int32} {st' : mm_S} (C : mm_C p s m args meth c cX12_base 6 (some .int) D cs) (fu : Nat) (K10 : Int32 → Int32 → Int32 → Int32 → Int32 → mm_S → Option (Int32 × mm_S)) (hK10 : ∀ (x1 : Int32) (x2 : Int32) (x3 : Int32) (x4 : Int32) (x5 : Int32) (st : mm_S) (H : Heap) (locs : List Loc) (ls : Array Slot), K10 x1 x2 x3 x4 x5 st = some (r, st') → lv_has ls 6 [(0, .ref o), (1, .int x1), (2, .int x2), (3, .int x3), (4, .int x4), (5, .int x5)] → mm_H D o ad cs s.heap st H locs → W p l e (mm_R 2 53) s m args below meth c H locs 0 0 (MQ below (mm_Qi D o ad cs r st') args s 0 0 (mm_A o ad)) (F0 m 10 ls [])) (x1 : Int32) (x2 : Int32) (x3 : Int32) (x5 : Int32) (s0 : Int32) (s1 : Int32) (st : mm_S) (hf : M_base_b75 fu K10 x1 x2 x3 x5 s0 s1 st = some (r, st')) {H : Heap} {locs : List Loc} {ls : Array Slot} (hl : lv_has ls 6 [(0, .ref o), (1, .int x1), (2, .int x2), (3, .int x3), (5, .int x5)]) (hM : mm_H D o ad cs s.heap st H locs) : W p l e (mm_R 2 53) s m args below meth c H locs 0 0 (MQ below (mm_Qi D o ad cs r st') args s 0 0 (mm_A o ad)) (F0 m 75 ls [.int s0, .int s1]) := by
  unfold M_base_b75 at hf
  refine lv_iadd C.1 C.2.1 (dd_at td_base 39 rfl) ?_
  refine lv_topi (fun v19 ev19 => ?_)
  replace hf := fc_of_nm hf v19 ev19
  refine lv_istore (lv' := [(4, .int v19), (0, .ref o), (1, .int x1), (2, .int x2), (3, .int x3), (5, .int x5)]) C.1 C.2.1 (dd_at td_base 40 rfl) hl (by decide) rfl (fun ls hl => ?_)
  exact w_base_b78 C fu K10 hK10 x1 x2 x3 v19 x5 st hf (lv_sub hl [1, 2, 3, 4, 0, 5] rfl) hM
theorem w_base_b10F {p : Program} {l : Launch} {e : Env} {s : State} {m : MethodId} {args : Array Value} {below : List Frame} {meth : Method} {c : Code} {D : va_G} {o : Nat} {ad : Nat → Nat} {cs : ClassId × ClassId × ClassId} {r : Int32} {st' : mm_S} (C : mm_C p s m args meth c cX12_base 6 (some .int) D cs) (fu : Nat) (K10 : Int32 → Int32 → Int32 → Int32 → Int32 → mm_S → Option (Int32 × mm_S)) (hK10 : ∀ (x1 : Int32) (x2 : Int32) (x3 : Int32) (x4 : Int32) (x5 : Int32) (st : mm_S) (H : Heap) (locs : List Loc) (ls : Array Slot), K10 x1 x2 x3 x4 x5 st = some (r, st') → lv_has ls 6 [(0, .ref o), (1, .int x1), (2, .int x2), (3, .int x3), (4, .int x4), (5, .int x5)] → mm_H D o ad cs s.heap st H locs → W p l e (mm_R 2 53) s m args below meth c H locs 0 0 (MQ below (mm_Qi D o ad cs r st') args s 0 0 (mm_A o ad)) (F0 m 10 ls [])) (x1 : Int32) (x2 : Int32) (x3 : Int32) (x4 : Int32) (x5 : Int32) (st : mm_S) (hf : M_base_b10F fu K10 x1 x2 x3 x4 x5 st = some (r, st')) {H : Heap} {locs : List Loc} {ls : Array Slot} (hl : lv_has ls 6 [(0, .ref o), (1, .int x1), (2, .int x2), (3, .int x3), (4, .int x4), (5, .int x5)]) (hM : mm_H D o ad cs s.heap st H locs) : W p l e (mm_R 2 53) s m args below meth c H locs 0 0 (MQ below (mm_Qi D o ad cs r st') args s 0 0 (mm_A o ad)) (F0 m 10 ls []) := by
  unfold M_base_b10F at hf
  refine lv_iload C.1 C.2.1 (dd_at td_base 5 rfl) (lv_at hl 5 rfl) ?_
  refine lv_aload_n C.1 C.2.1 (dd_at td_base 6 rfl) rfl (lv_at hl 0 rfl) ?_
  obtain ⟨r6, st4, hx5, hf⟩ := fc_of_bn hf
  refine mm_ci (As := []) (rest := [.int x5]) (n := 0) C hM (c_behind l D o ad cs fu st) (List.mem_of_getElem? (i := 2) rfl) (dd_at td_base 7 rfl) hx5 hl.1 hd_behind ⟨Nat.le_of_ble_eq_true rfl, Nat.le_of_ble_eq_true rfl⟩ rfl rfl (Nat.le_of_ble_eq_true rfl) ⟨Nat.le_refl 0, Nat.le_refl 0⟩ (fun H locs hM => ?_)
  refine lv_icmp_ge (tgt := 84) C.1 C.2.1 (dd_at td_base 8 rfl) (by decide) (fun c7 => ?_) (fun c7 => ?_)
  · replace hf := fc_of_t hf c7
    refine lv_iload C.1 C.2.1 (dd_at td_base 43 rfl) (lv_at hl 4 rfl) ?_
    exact mm_ri C hM (dd_at td_base 44 rfl) hf
  · replace hf := fc_of_f hf c7
    refine lv_aload_n C.1 C.2.1 (dd_at td_base 9 rfl) rfl (lv_at hl 0 rfl) ?_
    refine mm_gA C hM 15 (dd_at td_base 10 rfl) (by decide) (by decide) (by decide) ?_
    refine lv_iload C.1 C.2.1 (dd_at td_base 11 rfl) (lv_at hl 5 rfl) ?_
    obtain ⟨g8, hf⟩ := fc_of_gd hf
    refine mm_iald C hM 15 (dd_at td_base 12 rfl) (by decide) (by decide) (fc_of_ix g8) ?_
    refine lv_iconst (v := (1 : Int32)) C.1 C.2.1 (dd_at td_base 13 rfl) (by decide) ?_
    refine lv_icmp_gt (tgt := 78) C.1 C.2.1 (dd_at td_base 14 rfl) (by decide) (fun c9 => ?_) (fun c9 => ?_)
    · replace hf := fc_of_t hf c9
      exact w_base_b78 C fu K10 hK10 x1 x2 x3 x4 x5 st4 hf (lv_sub hl [0, 1, 2, 3, 4, 5] rfl) hM
    · replace hf := fc_of_f hf c9
      refine lv_aload_n C.1 C.2.1 (dd_at td_base 15 rfl) rfl (lv_at hl 0 rfl) ?_
      refine lv_iload C.1 C.2.1 (dd_at td_base 16 rfl) (lv_at hl 5 rfl) ?_
      refine lv_iload_n C.1 C.2.1 (dd_at td_base 17 rfl) rfl (lv_at hl 1 rfl) ?_
      refine lv_iload_n C.1 C.2.1 (dd_at td_base 18 rfl) rfl (lv_at hl 2 rfl) ?_
      refine lv_iload_n C.1 C.2.1 (dd_at td_base 19 rfl) rfl (lv_at hl 3 rfl) ?_
      obtain ⟨r12, st10, hx11, hf⟩ := fc_of_bn hf
      refine mm_ci (As := [.int x5, .int x1, .int x2, .int x3]) (rest := []) (n := 4) C hM (c_holds l D o ad cs fu x5 x1 x2 x3 st4) (List.mem_of_getElem? (i := 15) rfl) (dd_at td_base 20 rfl) hx11 hl.1 hd_holds ⟨Nat.le_of_ble_eq_true rfl, Nat.le_of_ble_eq_true rfl⟩ rfl rfl (Nat.le_of_ble_eq_true rfl) ⟨Nat.le_refl 0, Nat.le_refl 0⟩ (fun H locs hM => ?_)
      refine lv_if_ne (tgt := 45) C.1 C.2.1 (dd_at td_base 21 rfl) (by decide) (fun c13 => ?_) (fun c13 => ?_)
      · replace hf := fc_of_f hf c13
        refine lv_iload C.1 C.2.1 (dd_at td_base 23 rfl) (lv_at hl 4 rfl) ?_
        refine lv_aload_n C.1 C.2.1 (dd_at td_base 24 rfl) rfl (lv_at hl 0 rfl) ?_
        refine mm_gA C hM 15 (dd_at td_base 25 rfl) (by decide) (by decide) (by decide) ?_
        refine lv_iload C.1 C.2.1 (dd_at td_base 26 rfl) (lv_at hl 5 rfl) ?_
        obtain ⟨g14, hf⟩ := fc_of_gd hf
        refine mm_iald C hM 15 (dd_at td_base 27 rfl) (by decide) (by decide) (fc_of_ix g14) ?_
        refine lv_if_ne (tgt := 67) C.1 C.2.1 (dd_at td_base 28 rfl) (by decide) (fun c15 => ?_) (fun c15 => ?_)
        · replace hf := fc_of_f hf c15
          refine lv_aload_n C.1 C.2.1 (dd_at td_base 34 rfl) rfl (lv_at hl 0 rfl) ?_
          refine mm_gA C hM 16 (dd_at td_base 35 rfl) (by decide) (by decide) (by decide) ?_
          refine lv_iload C.1 C.2.1 (dd_at td_base 36 rfl) (lv_at hl 5 rfl) ?_
          obtain ⟨g16, hf⟩ := fc_of_gd hf
          refine mm_iald C hM 16 (dd_at td_base 37 rfl) (by decide) (by decide) (fc_of_ix g16) ?_
          refine lv_ineg C.1 C.2.1 (dd_at td_base 38 rfl) ?_
          exact w_base_b75 C fu K10 hK10 x1 x2 x3 x5 (-(mm_G st10 16 x5.toNatClampNeg)) x4 st10 hf (lv_sub hl [0, 1, 2, 3, 5] rfl) hM
        · replace hf := fc_of_t hf c15
          refine lv_aload_n C.1 C.2.1 (dd_at td_base 29 rfl) rfl (lv_at hl 0 rfl) ?_
          refine mm_gA C hM 16 (dd_at td_base 30 rfl) (by decide) (by decide) (by decide) ?_
          refine lv_iload C.1 C.2.1 (dd_at td_base 31 rfl) (lv_at hl 5 rfl) ?_
          obtain ⟨g17, hf⟩ := fc_of_gd hf
          refine mm_iald C hM 16 (dd_at td_base 32 rfl) (by decide) (by decide) (fc_of_ix g17) ?_
          refine lv_goto (tgt := 75) C.1 C.2.1 (dd_at td_base 33 rfl) (by decide) ?_
          exact w_base_b75 C fu K10 hK10 x1 x2 x3 x5 (mm_G st10 16 x5.toNatClampNeg) x4 st10 hf (lv_sub hl [0, 1, 2, 3, 5] rfl) hM
      · replace hf := fc_of_t hf c13
        refine lv_goto (tgt := 78) C.1 C.2.1 (dd_at td_base 22 rfl) (by decide) ?_
        exact w_base_b78 C fu K10 hK10 x1 x2 x3 x4 x5 st10 hf (lv_sub hl [0, 1, 2, 3, 4, 5] rfl) hM
theorem w_base_b10 {p : Program} {l : Launch} {e : Env} {s : State} {m : MethodId} {args : Array Value} {below : List Frame} {meth : Method} {c : Code} {D : va_G} {o : Nat} {ad : Nat → Nat} {cs : ClassId × ClassId × ClassId} {r : Int32} {st' : mm_S} (C : mm_C p s m args meth c cX12_base 6 (some .int) D cs) (fu : Nat) (n : Nat) : ∀ (x1 : Int32) (x2 : Int32) (x3 : Int32) (x4 : Int32) (x5 : Int32) (st : mm_S), M_base_b10 fu n x1 x2 x3 x4 x5 st = some (r, st') → ∀ (H : Heap) (locs : List Loc) (ls : Array Slot), lv_has ls 6 [(0, .ref o), (1, .int x1), (2, .int x2), (3, .int x3), (4, .int x4), (5, .int x5)] → mm_H D o ad cs s.heap st H locs → W p l e (mm_R 2 53) s m args below meth c H locs 0 0 (MQ below (mm_Qi D o ad cs r st') args s 0 0 (mm_A o ad)) (F0 m 10 ls []) := by
  induction n with
  | zero => exact fun _ _ _ _ _ _ hf => fc_no hf
  | succ n ih =>
    intro x1 x2 x3 x4 x5 st hf H locs ls hl hM
    exact w_base_b10F C fu (fun x1 x2 x3 x4 x5 st => M_base_b10 fu n x1 x2 x3 x4 x5 st) (fun x1 x2 x3 x4 x5 st H locs ls hf hl hM => ih x1 x2 x3 x4 x5 st hf H locs ls hl hM) x1 x2 x3 x4 x5 st hf hl hM
theorem w_base {p : Program} {l : Launch} {e : Env} {s : State} {m : MethodId} {args : Array Value} {below : List Frame} {meth : Method} {c : Code} {D : va_G} {o : Nat} {ad : Nat → Nat} {cs : ClassId × ClassId × ClassId} {r : Int32} {st' : mm_S} (C : mm_C p s m args meth c cX12_base 6 (some .int) D cs) (fu : Nat) (x1 : Int32) (x2 : Int32) (x3 : Int32) (st : mm_S) (hf : M_base fu x1 x2 x3 st = some (r, st')) {H : Heap} {locs : List Loc} {ls : Array Slot} (hl : lv_has ls 6 [(0, .ref o), (1, .int x1), (2, .int x2), (3, .int x3)]) (hM : mm_H D o ad cs s.heap st H locs) : W p l e (mm_R 2 53) s m args below meth c H locs 0 0 (MQ below (mm_Qi D o ad cs r st') args s 0 0 (mm_A o ad)) (F0 m 0 ls []) := by
  unfold M_base at hf
  refine lv_bipush (v := (10 : Int32)) C.1 C.2.1 (dd_at td_base 0 rfl) (by decide) ?_
  refine lv_istore (lv' := [(4, .int (10 : Int32)), (0, .ref o), (1, .int x1), (2, .int x2), (3, .int x3)]) C.1 C.2.1 (dd_at td_base 1 rfl) hl (by decide) rfl (fun ls hl => ?_)
  refine lv_aload_n C.1 C.2.1 (dd_at td_base 2 rfl) rfl (lv_at hl 1 rfl) ?_
  obtain ⟨r3, st1, hx2, hf⟩ := fc_of_bn hf
  refine mm_ci (As := []) (rest := []) (n := 0) C hM (c_begin l D o ad cs fu st) (List.mem_of_getElem? (i := 1) rfl) (dd_at td_base 3 rfl) hx2 hl.1 hd_begin ⟨Nat.le_of_ble_eq_true rfl, Nat.le_of_ble_eq_true rfl⟩ rfl rfl (Nat.le_of_ble_eq_true rfl) ⟨Nat.le_refl 0, Nat.le_refl 0⟩ (fun H locs hM => ?_)
  refine lv_istore (lv' := [(5, .int r3), (4, .int (10 : Int32)), (0, .ref o), (1, .int x1), (2, .int x2), (3, .int x3)]) C.1 C.2.1 (dd_at td_base 4 rfl) hl (by decide) rfl (fun ls hl => ?_)
  exact w_base_b10 C fu fu x1 x2 x3 (10 : Int32) r3 st1 hf _ _ _ (lv_sub hl [2, 3, 4, 5, 1, 0] rfl) hM
theorem c_base (l : Launch) (D : va_G) (o : Nat) (ad : Nat → Nat) (cs : ClassId × ClassId × ClassId) (fu : Nat) (x1 : Int32) (x2 : Int32) (x3 : Int32) (st : mm_S) : mm_Mi l D o ad cs yX12_base cX12_base 6 (some .int) 2 53 [.int x1, .int x2, .int x3] st (M_base fu x1 x2 x3 st) := by
  intro r st' hf
  refine mm_enter (cc := cX12_base) (nL := 6) (ret := some .int) (by decide) rfl (Nat.le_of_ble_eq_true rfl) ?_
  intro p e s m args below meth c ls C hl hM
  exact w_base C fu x1 x2 x3 st hf hl hM

