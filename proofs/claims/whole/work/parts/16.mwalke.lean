/-! ends -/
def tb_ends : List (Nat × Instr × Nat) := [(0, .aload_n 0, 1), (1, .iload_n 1, 1), (2, .iconst 0, 1), (3, .iconst 1, 1), (4, .invokevirtual 207, 3), (7, .ifCond .ne 7, 3), (10, .ldc_w 287, 3), (13, .ireturn, 1), (14, .iload_n 1, 1), (15, .ifCond .ne 11, 3), (18, .aload_n 0, 1), (19, .iconst 0, 1), (20, .invokevirtual 334, 3), (23, .goto 10, 3), (26, .aload_n 0, 1), (27, .sipush 255, 3), (30, .invokevirtual 334, 3), (33, .ireturn, 1)]
theorem td_ends : tb_ends.all (fun q => decide (decode cX12_ends q.1 = .ok (q.2.1, q.2.2))) = true := by decide +kernel
theorem w_ends {p : Program} {l : Launch} {e : Env} {s : State} {m : MethodId} {args : Array Value} {below : List Frame} {meth : Method} {c : Code} {D : va_G} {o : Nat} {ad : Nat → Nat} {cs : ClassId × ClassId × ClassId} {r : Int32} {st' : mm_S} (C : mm_C p s m args meth c cX12_ends 2 (some .int) D cs) (fu : Nat) (x1 : Int32) (st : mm_S) (hf : M_ends fu x1 st = some (r, st')) {H : Heap} {locs : List Loc} {ls : Array Slot} (hl : lv_has ls 2 [(0, .ref o), (1, .int x1)]) (hM : mm_H D o ad cs s.heap st H locs) : W p l e (mm_R 5 128) s m args below meth c H locs 0 0 (MQ below (mm_Qi D o ad cs r st') args s 0 0 (mm_A o ad)) (F0 m 0 ls []) := by
  unfold M_ends at hf
  refine lv_aload_n C.1 C.2.1 (dd_at td_ends 0 rfl) rfl (lv_at hl 0 rfl) ?_
  refine lv_iload_n C.1 C.2.1 (dd_at td_ends 1 rfl) rfl (lv_at hl 1 rfl) ?_
  refine lv_iconst (v := (0 : Int32)) C.1 C.2.1 (dd_at td_ends 2 rfl) (by decide) ?_
  refine lv_iconst (v := (1 : Int32)) C.1 C.2.1 (dd_at td_ends 3 rfl) (by decide) ?_
  obtain ⟨r3, st1, hx2, hf⟩ := fc_of_bn hf
  refine mm_ci (As := [.int x1, .int (0 : Int32), .int (1 : Int32)]) (rest := []) (n := 3) C hM (c_in l D o ad cs fu x1 (0 : Int32) (1 : Int32) st) (List.mem_of_getElem? (i := 18) rfl) (dd_at td_ends 4 rfl) hx2 hl.1 hd_in ⟨Nat.le_of_ble_eq_true rfl, Nat.le_of_ble_eq_true rfl⟩ rfl rfl (Nat.le_of_ble_eq_true rfl) ⟨Nat.le_refl 0, Nat.le_refl 0⟩ (fun H locs hM => ?_)
  refine lv_if_ne (tgt := 14) C.1 C.2.1 (dd_at td_ends 5 rfl) (by decide) (fun c4 => ?_) (fun c4 => ?_)
  · replace hf := fc_of_f hf c4
    refine lv_iload_n C.1 C.2.1 (dd_at td_ends 8 rfl) rfl (lv_at hl 1 rfl) ?_
    refine lv_if_ne (tgt := 26) C.1 C.2.1 (dd_at td_ends 9 rfl) (by decide) (fun c5 => ?_) (fun c5 => ?_)
    · replace hf := fc_of_f hf c5
      refine lv_aload_n C.1 C.2.1 (dd_at td_ends 14 rfl) rfl (lv_at hl 0 rfl) ?_
      refine lv_sipush (v := (255 : Int32)) C.1 C.2.1 (dd_at td_ends 15 rfl) (by decide) ?_
      obtain ⟨r8, st6, hx7, hf⟩ := fc_of_bn hf
      refine mm_ci (As := [.int (255 : Int32)]) (rest := []) (n := 1) C hM (c_gainBy l D o ad cs fu (255 : Int32) st1) (List.mem_of_getElem? (i := 10) rfl) (dd_at td_ends 16 rfl) hx7 hl.1 hd_gainBy ⟨Nat.le_of_ble_eq_true rfl, Nat.le_of_ble_eq_true rfl⟩ rfl rfl (Nat.le_of_ble_eq_true rfl) ⟨Nat.le_refl 0, Nat.le_refl 0⟩ (fun H locs hM => ?_)
      exact mm_ri C hM (dd_at td_ends 17 rfl) hf
    · replace hf := fc_of_t hf c5
      refine lv_aload_n C.1 C.2.1 (dd_at td_ends 10 rfl) rfl (lv_at hl 0 rfl) ?_
      refine lv_iconst (v := (0 : Int32)) C.1 C.2.1 (dd_at td_ends 11 rfl) (by decide) ?_
      obtain ⟨r11, st9, hx10, hf⟩ := fc_of_bn hf
      refine mm_ci (As := [.int (0 : Int32)]) (rest := []) (n := 1) C hM (c_gainBy l D o ad cs fu (0 : Int32) st1) (List.mem_of_getElem? (i := 10) rfl) (dd_at td_ends 12 rfl) hx10 hl.1 hd_gainBy ⟨Nat.le_of_ble_eq_true rfl, Nat.le_of_ble_eq_true rfl⟩ rfl rfl (Nat.le_of_ble_eq_true rfl) ⟨Nat.le_refl 0, Nat.le_refl 0⟩ (fun H locs hM => ?_)
      refine lv_goto (tgt := 33) C.1 C.2.1 (dd_at td_ends 13 rfl) (by decide) ?_
      exact mm_ri C hM (dd_at td_ends 17 rfl) hf
  · replace hf := fc_of_t hf c4
    refine lv_ldcw (v := (-10000001 : Int32)) C.1 C.2.1 C.2.2.2.2.1 (C.2.2.2.2.2.1 (.constant RX12 287 (-10000001 : Int32)) (mm_Wk (by decide +kernel))) (dd_at td_ends 6 rfl) ?_
    exact mm_ri C hM (dd_at td_ends 7 rfl) hf
theorem c_ends (l : Launch) (D : va_G) (o : Nat) (ad : Nat → Nat) (cs : ClassId × ClassId × ClassId) (fu : Nat) (x1 : Int32) (st : mm_S) : mm_Mi l D o ad cs yX12_ends cX12_ends 2 (some .int) 5 128 [.int x1] st (M_ends fu x1 st) := by
  intro r st' hf
  refine mm_enter (cc := cX12_ends) (nL := 2) (ret := some .int) (by decide) rfl (Nat.le_of_ble_eq_true rfl) ?_
  intro p e s m args below meth c ls C hl hM
  exact w_ends C fu x1 st hf hl hM

/-! see -/
def tb_see : List (Nat × Instr × Nat) := [(0, .iload_n 1, 1), (1, .iconst (-1), 1), (2, .if_icmp .ne 10, 3), (5, .aload_n 0, 1), (6, .iconst 0, 1), (7, .putfield 106, 3), (10, .iconst 0, 1), (11, .ireturn, 1), (12, .aload_n 0, 1), (13, .iload_n 1, 1), (14, .invokevirtual 215, 3), (17, .ifCond .ne 5, 3), (20, .iconst (-1), 1), (21, .ireturn, 1), (22, .aload_n 0, 1), (23, .iload_n 2, 1), (24, .iconst 0, 1), (25, .sipush 999, 3), (28, .invokevirtual 207, 3), (31, .ifCond .eq 14, 3), (34, .aload_n 0, 1), (35, .iload_n 3, 1), (36, .iconst 0, 1), (37, .bipush 20, 2), (39, .invokevirtual 207, 3), (42, .ifCond .ne 6, 3), (45, .bipush (-2), 2), (47, .ireturn, 1), (48, .aload_n 0, 1), (49, .getfield 106, 3), (52, .iconst 5, 1), (53, .if_icmp .ne 6, 3), (56, .bipush (-4), 2), (58, .ireturn, 1), (59, .aload_n 0, 1), (60, .getfield 112, 3), (63, .aload_n 0, 1), (64, .getfield 106, 3), (67, .iload_n 1, 1), (68, .iastore, 1), (69, .aload_n 0, 1), (70, .getfield 115, 3), (73, .aload_n 0, 1), (74, .getfield 106, 3), (77, .iload_n 2, 1), (78, .iastore, 1), (79, .aload_n 0, 1), (80, .getfield 118, 3), (83, .aload_n 0, 1), (84, .getfield 106, 3), (87, .iload_n 3, 1), (88, .iastore, 1), (89, .aload_n 0, 1), (90, .dup, 1), (91, .getfield 106, 3), (94, .iconst 1, 1), (95, .iadd, 1), (96, .putfield 106, 3), (99, .aload_n 0, 1), (100, .getfield 106, 3), (103, .ireturn, 1)]
theorem td_see : tb_see.all (fun q => decide (decode cX12_see q.1 = .ok (q.2.1, q.2.2))) = true := by decide +kernel
theorem w_see {p : Program} {l : Launch} {e : Env} {s : State} {m : MethodId} {args : Array Value} {below : List Frame} {meth : Method} {c : Code} {D : va_G} {o : Nat} {ad : Nat → Nat} {cs : ClassId × ClassId × ClassId} {r : Int32} {st' : mm_S} (C : mm_C p s m args meth c cX12_see 4 (some .int) D cs) (fu : Nat) (x1 : Int32) (x2 : Int32) (x3 : Int32) (st : mm_S) (hf : M_see fu x1 x2 x3 st = some (r, st')) {H : Heap} {locs : List Loc} {ls : Array Slot} (hl : lv_has ls 4 [(0, .ref o), (1, .int x1), (2, .int x2), (3, .int x3)]) (hM : mm_H D o ad cs s.heap st H locs) : W p l e (mm_R 2 44) s m args below meth c H locs 0 0 (MQ below (mm_Qi D o ad cs r st') args s 0 0 (mm_A o ad)) (F0 m 0 ls []) := by
  unfold M_see at hf
  refine lv_iload_n C.1 C.2.1 (dd_at td_see 0 rfl) rfl (lv_at hl 1 rfl) ?_
  refine lv_iconst (v := (-1 : Int32)) C.1 C.2.1 (dd_at td_see 1 rfl) (by decide) ?_
  refine lv_icmp_ne (tgt := 12) C.1 C.2.1 (dd_at td_see 2 rfl) (by decide) (fun c1 => ?_) (fun c1 => ?_)
  · replace hf := fc_of_f hf c1
    refine lv_aload_n C.1 C.2.1 (dd_at td_see 8 rfl) rfl (lv_at hl 0 rfl) ?_
    refine lv_iload_n C.1 C.2.1 (dd_at td_see 9 rfl) rfl (lv_at hl 1 rfl) ?_
    obtain ⟨r4, st2, hx3, hf⟩ := fc_of_bn hf
    refine mm_ci (As := [.int x1]) (rest := []) (n := 1) C hM (c_isNeed l D o ad cs fu x1 st) (List.mem_of_getElem? (i := 22) rfl) (dd_at td_see 10 rfl) hx3 hl.1 hd_isNeed ⟨Nat.le_of_ble_eq_true rfl, Nat.le_of_ble_eq_true rfl⟩ rfl rfl (Nat.le_of_ble_eq_true rfl) ⟨Nat.le_refl 0, Nat.le_refl 0⟩ (fun H locs hM => ?_)
    refine lv_if_ne (tgt := 22) C.1 C.2.1 (dd_at td_see 11 rfl) (by decide) (fun c5 => ?_) (fun c5 => ?_)
    · replace hf := fc_of_f hf c5
      refine lv_aload_n C.1 C.2.1 (dd_at td_see 14 rfl) rfl (lv_at hl 0 rfl) ?_
      refine lv_iload_n C.1 C.2.1 (dd_at td_see 15 rfl) rfl (lv_at hl 2 rfl) ?_
      refine lv_iconst (v := (0 : Int32)) C.1 C.2.1 (dd_at td_see 16 rfl) (by decide) ?_
      refine lv_sipush (v := (999 : Int32)) C.1 C.2.1 (dd_at td_see 17 rfl) (by decide) ?_
      obtain ⟨r8, st6, hx7, hf⟩ := fc_of_bn hf
      refine mm_ci (As := [.int x2, .int (0 : Int32), .int (999 : Int32)]) (rest := []) (n := 3) C hM (c_in l D o ad cs fu x2 (0 : Int32) (999 : Int32) st2) (List.mem_of_getElem? (i := 18) rfl) (dd_at td_see 18 rfl) hx7 hl.1 hd_in ⟨Nat.le_of_ble_eq_true rfl, Nat.le_of_ble_eq_true rfl⟩ rfl rfl (Nat.le_of_ble_eq_true rfl) ⟨Nat.le_refl 0, Nat.le_refl 0⟩ (fun H locs hM => ?_)
      refine lv_if_eq (tgt := 45) C.1 C.2.1 (dd_at td_see 19 rfl) (by decide) (fun c9 => ?_) (fun c9 => ?_)
      · replace hf := fc_of_t hf c9
        refine lv_bipush (v := (-2 : Int32)) C.1 C.2.1 (dd_at td_see 26 rfl) (by decide) ?_
        exact mm_ri C hM (dd_at td_see 27 rfl) hf
      · replace hf := fc_of_f hf c9
        refine lv_aload_n C.1 C.2.1 (dd_at td_see 20 rfl) rfl (lv_at hl 0 rfl) ?_
        refine lv_iload_n C.1 C.2.1 (dd_at td_see 21 rfl) rfl (lv_at hl 3 rfl) ?_
        refine lv_iconst (v := (0 : Int32)) C.1 C.2.1 (dd_at td_see 22 rfl) (by decide) ?_
        refine lv_bipush (v := (20 : Int32)) C.1 C.2.1 (dd_at td_see 23 rfl) (by decide) ?_
        obtain ⟨r12, st10, hx11, hf⟩ := fc_of_bn hf
        refine mm_ci (As := [.int x3, .int (0 : Int32), .int (20 : Int32)]) (rest := []) (n := 3) C hM (c_in l D o ad cs fu x3 (0 : Int32) (20 : Int32) st6) (List.mem_of_getElem? (i := 18) rfl) (dd_at td_see 24 rfl) hx11 hl.1 hd_in ⟨Nat.le_of_ble_eq_true rfl, Nat.le_of_ble_eq_true rfl⟩ rfl rfl (Nat.le_of_ble_eq_true rfl) ⟨Nat.le_refl 0, Nat.le_refl 0⟩ (fun H locs hM => ?_)
        refine lv_if_ne (tgt := 48) C.1 C.2.1 (dd_at td_see 25 rfl) (by decide) (fun c13 => ?_) (fun c13 => ?_)
        · replace hf := fc_of_f hf c13
          refine lv_aload_n C.1 C.2.1 (dd_at td_see 28 rfl) rfl (lv_at hl 0 rfl) ?_
          refine mm_gI C hM 31 (dd_at td_see 29 rfl) (by decide) (by decide) (by decide) ?_
          refine lv_iconst (v := (5 : Int32)) C.1 C.2.1 (dd_at td_see 30 rfl) (by decide) ?_
          refine lv_icmp_ne (tgt := 59) C.1 C.2.1 (dd_at td_see 31 rfl) (by decide) (fun c14 => ?_) (fun c14 => ?_)
          · replace hf := fc_of_f hf c14
            refine lv_aload_n C.1 C.2.1 (dd_at td_see 34 rfl) rfl (lv_at hl 0 rfl) ?_
            refine mm_gA C hM 33 (dd_at td_see 35 rfl) (by decide) (by decide) (by decide) ?_
            refine lv_aload_n C.1 C.2.1 (dd_at td_see 36 rfl) rfl (lv_at hl 0 rfl) ?_
            refine mm_gI C hM 31 (dd_at td_see 37 rfl) (by decide) (by decide) (by decide) ?_
            refine lv_iload_n C.1 C.2.1 (dd_at td_see 38 rfl) rfl (lv_at hl 1 rfl) ?_
            obtain ⟨g15, hf⟩ := fc_of_gd hf
            refine mm_iast C hM 33 (dd_at td_see 39 rfl) (by decide) (by decide) (fc_of_ix g15) (fun st16 H locs est16 hM => ?_)
            replace hf := fc_of_nm hf st16 est16
            refine lv_aload_n C.1 C.2.1 (dd_at td_see 40 rfl) rfl (lv_at hl 0 rfl) ?_
            refine mm_gA C hM 34 (dd_at td_see 41 rfl) (by decide) (by decide) (by decide) ?_
            refine lv_aload_n C.1 C.2.1 (dd_at td_see 42 rfl) rfl (lv_at hl 0 rfl) ?_
            refine mm_gI C hM 31 (dd_at td_see 43 rfl) (by decide) (by decide) (by decide) ?_
            refine lv_iload_n C.1 C.2.1 (dd_at td_see 44 rfl) rfl (lv_at hl 2 rfl) ?_
            obtain ⟨g17, hf⟩ := fc_of_gd hf
            refine mm_iast C hM 34 (dd_at td_see 45 rfl) (by decide) (by decide) (fc_of_ix g17) (fun st18 H locs est18 hM => ?_)
            replace hf := fc_of_nm hf st18 est18
            refine lv_aload_n C.1 C.2.1 (dd_at td_see 46 rfl) rfl (lv_at hl 0 rfl) ?_
            refine mm_gA C hM 35 (dd_at td_see 47 rfl) (by decide) (by decide) (by decide) ?_
            refine lv_aload_n C.1 C.2.1 (dd_at td_see 48 rfl) rfl (lv_at hl 0 rfl) ?_
            refine mm_gI C hM 31 (dd_at td_see 49 rfl) (by decide) (by decide) (by decide) ?_
            refine lv_iload_n C.1 C.2.1 (dd_at td_see 50 rfl) rfl (lv_at hl 3 rfl) ?_
            obtain ⟨g19, hf⟩ := fc_of_gd hf
            refine mm_iast C hM 35 (dd_at td_see 51 rfl) (by decide) (by decide) (fc_of_ix g19) (fun st20 H locs est20 hM => ?_)
            replace hf := fc_of_nm hf st20 est20
            refine lv_aload_n C.1 C.2.1 (dd_at td_see 52 rfl) rfl (lv_at hl 0 rfl) ?_
            refine lv_dup C.1 C.2.1 (dd_at td_see 53 rfl) rfl ?_
            refine mm_gI C hM 31 (dd_at td_see 54 rfl) (by decide) (by decide) (by decide) ?_
            refine lv_iconst (v := (1 : Int32)) C.1 C.2.1 (dd_at td_see 55 rfl) (by decide) ?_
            refine lv_iadd C.1 C.2.1 (dd_at td_see 56 rfl) ?_
            refine mm_pI C hM 31 (dd_at td_see 57 rfl) (by decide) (by decide) (by decide) rfl rfl (fun st21 H locs est21 hM => ?_)
            replace hf := fc_of_nm hf st21 est21
            refine lv_aload_n C.1 C.2.1 (dd_at td_see 58 rfl) rfl (lv_at hl 0 rfl) ?_
            refine mm_gI C hM 31 (dd_at td_see 59 rfl) (by decide) (by decide) (by decide) ?_
            exact mm_ri C hM (dd_at td_see 60 rfl) hf
          · replace hf := fc_of_t hf c14
            refine lv_bipush (v := (-4 : Int32)) C.1 C.2.1 (dd_at td_see 32 rfl) (by decide) ?_
            exact mm_ri C hM (dd_at td_see 33 rfl) hf
        · replace hf := fc_of_t hf c13
          refine lv_bipush (v := (-2 : Int32)) C.1 C.2.1 (dd_at td_see 26 rfl) (by decide) ?_
          exact mm_ri C hM (dd_at td_see 27 rfl) hf
    · replace hf := fc_of_t hf c5
      refine lv_iconst (v := (-1 : Int32)) C.1 C.2.1 (dd_at td_see 12 rfl) (by decide) ?_
      exact mm_ri C hM (dd_at td_see 13 rfl) hf
  · replace hf := fc_of_t hf c1
    refine lv_aload_n C.1 C.2.1 (dd_at td_see 3 rfl) rfl (lv_at hl 0 rfl) ?_
    refine lv_iconst (v := (0 : Int32)) C.1 C.2.1 (dd_at td_see 4 rfl) (by decide) ?_
    refine mm_pI C hM 31 (dd_at td_see 5 rfl) (by decide) (by decide) (by decide) rfl rfl (fun st22 H locs est22 hM => ?_)
    replace hf := fc_of_nm hf st22 est22
    refine lv_iconst (v := (0 : Int32)) C.1 C.2.1 (dd_at td_see 6 rfl) (by decide) ?_
    exact mm_ri C hM (dd_at td_see 7 rfl) hf
theorem c_see (l : Launch) (D : va_G) (o : Nat) (ad : Nat → Nat) (cs : ClassId × ClassId × ClassId) (fu : Nat) (x1 : Int32) (x2 : Int32) (x3 : Int32) (st : mm_S) : mm_Mi l D o ad cs yX12_see cX12_see 4 (some .int) 2 44 [.int x1, .int x2, .int x3] st (M_see fu x1 x2 x3 st) := by
  intro r st' hf
  refine mm_enter (cc := cX12_see) (nL := 4) (ret := some .int) (by decide) rfl (Nat.le_of_ble_eq_true rfl) ?_
  intro p e s m args below meth c ls C hl hM
  exact w_see C fu x1 x2 x3 st hf hl hM

/-! isSeen -/
def tb_isSeen : List (Nat × Instr × Nat) := [(0, .iconst 0, 1), (1, .istore_n 2, 1), (2, .iload_n 2, 1), (3, .aload_n 0, 1), (4, .getfield 106, 3), (7, .if_icmp .ge 42, 3), (10, .aload_n 0, 1), (11, .aload_n 0, 1), (12, .getfield 112, 3), (15, .iload_n 2, 1), (16, .iaload, 1), (17, .aload_n 0, 1), (18, .getfield 19, 3), (21, .aload_n 0, 1), (22, .getfield 118, 3), (25, .iload_n 2, 1), (26, .iaload, 1), (27, .iadd, 1), (28, .iload_n 1, 1), (29, .invokevirtual 282, 3), (32, .aload_n 0, 1), (33, .getfield 115, 3), (36, .iload_n 2, 1), (37, .iaload, 1), (38, .if_icmp .eq 5, 3), (41, .iconst 0, 1), (42, .ireturn, 1), (43, .iinc 2 1, 3), (46, .goto (-44), 3), (49, .iconst 1, 1), (50, .ireturn, 1)]
theorem td_isSeen : tb_isSeen.all (fun q => decide (decode cX12_isSeen q.1 = .ok (q.2.1, q.2.2))) = true := by decide +kernel
theorem hd_isSeen : yX12_isSeen.cls = RX12 ∧ yX12_isSeen.cls ≠ "java/lang/invoke/MethodHandle" ∧ yX12_isSeen.cls ≠ "java/lang/invoke/VarHandle" ∧ (parseMethodDescriptor yX12_isSeen.desc).map (fun d => d.parameters.length) = some 1 := by decide +kernel
theorem w_isSeen_b2F {p : Program} {l : Launch} {e : Env} {s : State} {m : MethodId} {args : Array Value} {below : List Frame} {meth : Method} {c : Code} {D : va_G} {o : Nat} {ad : Nat → Nat} {cs : ClassId × ClassId × ClassId} {r : Int32} {st' : mm_S} (C : mm_C p s m args meth c cX12_isSeen 3 (some .boolean) D cs) (fu : Nat) (K2 : Int32 → Int32 → mm_S → Option (Int32 × mm_S)) (hK2 : ∀ (x1 : Int32) (x2 : Int32) (st : mm_S) (H : Heap) (locs : List Loc) (ls : Array Slot), K2 x1 x2 st = some (r, st') → lv_has ls 3 [(0, .ref o), (1, .int x1), (2, .int x2)] → mm_H D o ad cs s.heap st H locs → W p l e (mm_R 4 104) s m args below meth c H locs 0 0 (MQ below (mm_Qi D o ad cs r st') args s 0 0 (mm_A o ad)) (F0 m 2 ls [])) (x1 : Int32) (x2 : Int32) (st : mm_S) (hf : M_isSeen_b2F fu K2 x1 x2 st = some (r, st')) {H : Heap} {locs : List Loc} {ls : Array Slot} (hl : lv_has ls 3 [(0, .ref o), (1, .int x1), (2, .int x2)]) (hM : mm_H D o ad cs s.heap st H locs) : W p l e (mm_R 4 104) s m args below meth c H locs 0 0 (MQ below (mm_Qi D o ad cs r st') args s 0 0 (mm_A o ad)) (F0 m 2 ls []) := by
  unfold M_isSeen_b2F at hf
  refine lv_iload_n C.1 C.2.1 (dd_at td_isSeen 2 rfl) rfl (lv_at hl 2 rfl) ?_
  refine lv_aload_n C.1 C.2.1 (dd_at td_isSeen 3 rfl) rfl (lv_at hl 0 rfl) ?_
  refine mm_gI C hM 31 (dd_at td_isSeen 4 rfl) (by decide) (by decide) (by decide) ?_
  refine lv_icmp_ge (tgt := 49) C.1 C.2.1 (dd_at td_isSeen 5 rfl) (by decide) (fun c1 => ?_) (fun c1 => ?_)
  · replace hf := fc_of_t hf c1
    refine lv_iconst (v := (1 : Int32)) C.1 C.2.1 (dd_at td_isSeen 29 rfl) (by decide) ?_
    exact mm_rz C hM (dd_at td_isSeen 30 rfl) rfl hf
  · replace hf := fc_of_f hf c1
    refine lv_aload_n C.1 C.2.1 (dd_at td_isSeen 6 rfl) rfl (lv_at hl 0 rfl) ?_
    refine lv_aload_n C.1 C.2.1 (dd_at td_isSeen 7 rfl) rfl (lv_at hl 0 rfl) ?_
    refine mm_gA C hM 33 (dd_at td_isSeen 8 rfl) (by decide) (by decide) (by decide) ?_
    refine lv_iload_n C.1 C.2.1 (dd_at td_isSeen 9 rfl) rfl (lv_at hl 2 rfl) ?_
    obtain ⟨g2, hf⟩ := fc_of_gd hf
    refine mm_iald C hM 33 (dd_at td_isSeen 10 rfl) (by decide) (by decide) (fc_of_ix g2) ?_
    refine lv_aload_n C.1 C.2.1 (dd_at td_isSeen 11 rfl) rfl (lv_at hl 0 rfl) ?_
    refine mm_gI C hM 3 (dd_at td_isSeen 12 rfl) (by decide) (by decide) (by decide) ?_
    refine lv_aload_n C.1 C.2.1 (dd_at td_isSeen 13 rfl) rfl (lv_at hl 0 rfl) ?_
    refine mm_gA C hM 35 (dd_at td_isSeen 14 rfl) (by decide) (by decide) (by decide) ?_
    refine lv_iload_n C.1 C.2.1 (dd_at td_isSeen 15 rfl) rfl (lv_at hl 2 rfl) ?_
    obtain ⟨g3, hf⟩ := fc_of_gd hf
    refine mm_iald C hM 35 (dd_at td_isSeen 16 rfl) (by decide) (by decide) (fc_of_ix g3) ?_
    refine lv_iadd C.1 C.2.1 (dd_at td_isSeen 17 rfl) ?_
    refine lv_iload_n C.1 C.2.1 (dd_at td_isSeen 18 rfl) rfl (lv_at hl 1 rfl) ?_
    obtain ⟨r6, st4, hx5, hf⟩ := fc_of_bn hf
    refine mm_ci (As := [.int (mm_G st 33 x2.toNatClampNeg), .int ((mm_I st 3) + (mm_G st 35 x2.toNatClampNeg)), .int x1]) (rest := []) (n := 3) C hM (c_worthOf l D o ad cs fu (mm_G st 33 x2.toNatClampNeg) ((mm_I st 3) + (mm_G st 35 x2.toNatClampNeg)) x1 st) (List.mem_of_getElem? (i := 48) rfl) (dd_at td_isSeen 19 rfl) hx5 hl.1 hd_worthOf ⟨Nat.le_of_ble_eq_true rfl, Nat.le_of_ble_eq_true rfl⟩ rfl rfl (Nat.le_of_ble_eq_true rfl) ⟨Nat.le_refl 0, Nat.le_refl 0⟩ (fun H locs hM => ?_)
    refine lv_aload_n C.1 C.2.1 (dd_at td_isSeen 20 rfl) rfl (lv_at hl 0 rfl) ?_
    refine mm_gA C hM 34 (dd_at td_isSeen 21 rfl) (by decide) (by decide) (by decide) ?_
    refine lv_iload_n C.1 C.2.1 (dd_at td_isSeen 22 rfl) rfl (lv_at hl 2 rfl) ?_
    obtain ⟨g7, hf⟩ := fc_of_gd hf
    refine mm_iald C hM 34 (dd_at td_isSeen 23 rfl) (by decide) (by decide) (fc_of_ix g7) ?_
    refine lv_icmp_eq (tgt := 43) C.1 C.2.1 (dd_at td_isSeen 24 rfl) (by decide) (fun c8 => ?_) (fun c8 => ?_)
    · replace hf := fc_of_t hf c8
      obtain ⟨v9, ev9⟩ : ∃ y : Int32, y = x2 + (1 : Int32) := ⟨_, rfl⟩
      replace hf := fc_of_nm hf v9 ev9
      refine lv_iinc (v := v9) (lv' := [(2, .int v9), (0, .ref o), (1, .int x1)]) C.1 C.2.1 (dd_at td_isSeen 27 rfl) hl (k := 2) rfl (by rw [ev9]; rfl) (by decide) rfl (fun ls hl => ?_)
      refine lv_goto (tgt := 2) C.1 C.2.1 (dd_at td_isSeen 28 rfl) (by decide) ?_
      exact hK2 x1 v9 st4 _ _ _ hf (lv_sub hl [1, 2, 0] rfl) hM
    · replace hf := fc_of_f hf c8
      refine lv_iconst (v := (0 : Int32)) C.1 C.2.1 (dd_at td_isSeen 25 rfl) (by decide) ?_
      exact mm_rz C hM (dd_at td_isSeen 26 rfl) rfl hf
theorem w_isSeen_b2 {p : Program} {l : Launch} {e : Env} {s : State} {m : MethodId} {args : Array Value} {below : List Frame} {meth : Method} {c : Code} {D : va_G} {o : Nat} {ad : Nat → Nat} {cs : ClassId × ClassId × ClassId} {r : Int32} {st' : mm_S} (C : mm_C p s m args meth c cX12_isSeen 3 (some .boolean) D cs) (fu : Nat) (n : Nat) : ∀ (x1 : Int32) (x2 : Int32) (st : mm_S), M_isSeen_b2 fu n x1 x2 st = some (r, st') → ∀ (H : Heap) (locs : List Loc) (ls : Array Slot), lv_has ls 3 [(0, .ref o), (1, .int x1), (2, .int x2)] → mm_H D o ad cs s.heap st H locs → W p l e (mm_R 4 104) s m args below meth c H locs 0 0 (MQ below (mm_Qi D o ad cs r st') args s 0 0 (mm_A o ad)) (F0 m 2 ls []) := by
  induction n with
  | zero => exact fun _ _ _ hf => fc_no hf
  | succ n ih =>
    intro x1 x2 st hf H locs ls hl hM
    exact w_isSeen_b2F C fu (fun x1 x2 st => M_isSeen_b2 fu n x1 x2 st) (fun x1 x2 st H locs ls hf hl hM => ih x1 x2 st hf H locs ls hl hM) x1 x2 st hf hl hM
theorem w_isSeen {p : Program} {l : Launch} {e : Env} {s : State} {m : MethodId} {args : Array Value} {below : List Frame} {meth : Method} {c : Code} {D : va_G} {o : Nat} {ad : Nat → Nat} {cs : ClassId × ClassId × ClassId} {r : Int32} {st' : mm_S} (C : mm_C p s m args meth c cX12_isSeen 3 (some .boolean) D cs) (fu : Nat) (x1 : Int32) (st : mm_S) (hf : M_isSeen fu x1 st = some (r, st')) {H : Heap} {locs : List Loc} {ls : Array Slot} (hl : lv_has ls 3 [(0, .ref o), (1, .int x1)]) (hM : mm_H D o ad cs s.heap st H locs) : W p l e (mm_R 4 104) s m args below meth c H locs 0 0 (MQ below (mm_Qi D o ad cs r st') args s 0 0 (mm_A o ad)) (F0 m 0 ls []) := by
  unfold M_isSeen at hf
  refine lv_iconst (v := (0 : Int32)) C.1 C.2.1 (dd_at td_isSeen 0 rfl) (by decide) ?_
  refine lv_istore_n (lv' := [(2, .int (0 : Int32)), (0, .ref o), (1, .int x1)]) C.1 C.2.1 (dd_at td_isSeen 1 rfl) rfl hl (by decide) rfl (fun ls hl => ?_)
  exact w_isSeen_b2 C fu fu x1 (0 : Int32) st hf _ _ _ (lv_sub hl [1, 2, 0] rfl) hM
theorem c_isSeen (l : Launch) (D : va_G) (o : Nat) (ad : Nat → Nat) (cs : ClassId × ClassId × ClassId) (fu : Nat) (x1 : Int32) (st : mm_S) : mm_Mi l D o ad cs yX12_isSeen cX12_isSeen 3 (some .boolean) 4 104 [.int x1] st (M_isSeen fu x1 st) := by
  intro r st' hf
  refine mm_enter (cc := cX12_isSeen) (nL := 3) (ret := some .boolean) (by decide) rfl (Nat.le_of_ble_eq_true rfl) ?_
  intro p e s m args below meth c ls C hl hM
  exact w_isSeen C fu x1 st hf hl hM

/-! can -/
def tb_can : List (Nat × Instr × Nat) := [(0, .aload_n 0, 1), (1, .iload_n 1, 1), (2, .invokevirtual 215, 3), (5, .ifCond .eq 13, 3), (8, .aload_n 0, 1), (9, .iload_n 2, 1), (10, .iconst 0, 1), (11, .iconst 1, 1), (12, .invokevirtual 207, 3), (15, .ifCond .ne 5, 3), (18, .iconst (-1), 1), (19, .ireturn, 1), (20, .aload_n 0, 1), (21, .getfield 26, 3), (24, .iload_n 1, 1), (25, .iaload, 1), (26, .istore_n 3, 1), (27, .iconst 0, 1), (28, .istore 4, 2), (30, .bipush (-5), 2), (32, .istore 5, 2), (34, .bipush 9, 2), (36, .istore 6, 2), (38, .iload 6, 2), (40, .ifCond .lt 38, 3), (43, .aload_n 0, 1), (44, .getfield 26, 3), (47, .iload_n 1, 1), (48, .iload 6, 2), (50, .iastore, 1), (51, .aload_n 0, 1), (52, .aload_n 0, 1), (53, .getfield 13, 3), (56, .invokevirtual 340, 3), (59, .ifCond .ne 6, 3), (62, .goto 10, 3), (65, .iinc 4 1, 3), (68, .iload 6, 2), (70, .istore 5, 2), (72, .iinc 6 (-1), 3), (75, .goto (-37), 3), (78, .aload_n 0, 1), (79, .getfield 26, 3), (82, .iload_n 1, 1), (83, .iload_n 3, 1), (84, .iastore, 1), (85, .iload_n 2, 1), (86, .ifCond .ne 8, 3), (89, .iload 4, 2), (91, .goto 5, 3), (94, .iload 5, 2), (96, .ireturn, 1)]
theorem td_can : tb_can.all (fun q => decide (decode cX12_can q.1 = .ok (q.2.1, q.2.2))) = true := by decide +kernel
theorem w_can_b72 {p : Program} {l : Launch} {e : Env} {s : State} {m : MethodId} {args : Array Value} {below : List Frame} {meth : Method} {c : Code} {D : va_G} {o : Nat} {ad : Nat → Nat} {cs : ClassId × ClassId × ClassId} {r : Int32} {st' : mm_S} (C : mm_C p s m args meth c cX12_can 7 (some .int) D cs) (fu : Nat) (K38 : Int32 → Int32 → Int32 → Int32 → Int32 → Int32 → mm_S → Option (Int32 × mm_S)) (hK38 : ∀ (x1 : Int32) (x2 : Int32) (x3 : Int32) (x4 : Int32) (x5 : Int32) (x6 : Int32) (st : mm_S) (H : Heap) (locs : List Loc) (ls : Array Slot), K38 x1 x2 x3 x4 x5 x6 st = some (r, st') → lv_has ls 7 [(0, .ref o), (1, .int x1), (2, .int x2), (3, .int x3), (4, .int x4), (5, .int x5), (6, .int x6)] → mm_H D o ad cs s.heap st H locs → W p l e (mm_R 5 126) s m args below meth c H locs 0 0 (MQ below (mm_Qi D o ad cs r st') args s 0 0 (mm_A o ad)) (F0 m 38 ls [])) (x1 : Int32) (x2 : Int32) (x3 : Int32) (x4 : Int32) (x5 : Int32) (x6 : Int32) (st : mm_S) (hf : M_can_b72 fu K38 x1 x2 x3 x4 x5 x6 st = some (r, st')) {H : Heap} {locs : List Loc} {ls : Array Slot} (hl : lv_has ls 7 [(0, .ref o), (1, .int x1), (2, .int x2), (3, .int x3), (4, .int x4), (5, .int x5), (6, .int x6)]) (hM : mm_H D o ad cs s.heap st H locs) : W p l e (mm_R 5 126) s m args below meth c H locs 0 0 (MQ below (mm_Qi D o ad cs r st') args s 0 0 (mm_A o ad)) (F0 m 72 ls []) := by
  unfold M_can_b72 at hf
  obtain ⟨v22, ev22⟩ : ∃ y : Int32, y = x6 + (-1 : Int32) := ⟨_, rfl⟩
  replace hf := fc_of_nm hf v22 ev22
  refine lv_iinc (v := v22) (lv' := [(6, .int v22), (0, .ref o), (1, .int x1), (2, .int x2), (3, .int x3), (4, .int x4), (5, .int x5)]) C.1 C.2.1 (dd_at td_can 39 rfl) hl (k := 6) rfl (by rw [ev22]; rfl) (by decide) rfl (fun ls hl => ?_)
  refine lv_goto (tgt := 38) C.1 C.2.1 (dd_at td_can 40 rfl) (by decide) ?_
  exact hK38 x1 x2 x3 x4 x5 v22 st _ _ _ hf (lv_sub hl [1, 2, 3, 4, 5, 6, 0] rfl) hM
theorem w_can_b38F {p : Program} {l : Launch} {e : Env} {s : State} {m : MethodId} {args : Array Value} {below : List Frame} {meth : Method} {c : Code} {D : va_G} {o : Nat} {ad : Nat → Nat} {cs : ClassId × ClassId × ClassId} {r : Int32} {st' : mm_S} (C : mm_C p s m args meth c cX12_can 7 (some .int) D cs) (fu : Nat) (K38 : Int32 → Int32 → Int32 → Int32 → Int32 → Int32 → mm_S → Option (Int32 × mm_S)) (hK38 : ∀ (x1 : Int32) (x2 : Int32) (x3 : Int32) (x4 : Int32) (x5 : Int32) (x6 : Int32) (st : mm_S) (H : Heap) (locs : List Loc) (ls : Array Slot), K38 x1 x2 x3 x4 x5 x6 st = some (r, st') → lv_has ls 7 [(0, .ref o), (1, .int x1), (2, .int x2), (3, .int x3), (4, .int x4), (5, .int x5), (6, .int x6)] → mm_H D o ad cs s.heap st H locs → W p l e (mm_R 5 126) s m args below meth c H locs 0 0 (MQ below (mm_Qi D o ad cs r st') args s 0 0 (mm_A o ad)) (F0 m 38 ls [])) (x1 : Int32) (x2 : Int32) (x3 : Int32) (x4 : Int32) (x5 : Int32) (x6 : Int32) (st : mm_S) (hf : M_can_b38F fu K38 x1 x2 x3 x4 x5 x6 st = some (r, st')) {H : Heap} {locs : List Loc} {ls : Array Slot} (hl : lv_has ls 7 [(0, .ref o), (1, .int x1), (2, .int x2), (3, .int x3), (4, .int x4), (5, .int x5), (6, .int x6)]) (hM : mm_H D o ad cs s.heap st H locs) : W p l e (mm_R 5 126) s m args below meth c H locs 0 0 (MQ below (mm_Qi D o ad cs r st') args s 0 0 (mm_A o ad)) (F0 m 38 ls []) := by
  unfold M_can_b38F at hf
  refine lv_iload C.1 C.2.1 (dd_at td_can 23 rfl) (lv_at hl 6 rfl) ?_
  refine lv_if_lt (tgt := 78) C.1 C.2.1 (dd_at td_can 24 rfl) (by decide) (fun c11 => ?_) (fun c11 => ?_)
  · replace hf := fc_of_t hf c11
    refine lv_aload_n C.1 C.2.1 (dd_at td_can 41 rfl) rfl (lv_at hl 0 rfl) ?_
    refine mm_gA C hM 5 (dd_at td_can 42 rfl) (by decide) (by decide) (by decide) ?_
    refine lv_iload_n C.1 C.2.1 (dd_at td_can 43 rfl) rfl (lv_at hl 1 rfl) ?_
    refine lv_iload_n C.1 C.2.1 (dd_at td_can 44 rfl) rfl (lv_at hl 3 rfl) ?_
    obtain ⟨g12, hf⟩ := fc_of_gd hf
    refine mm_iast C hM 5 (dd_at td_can 45 rfl) (by decide) (by decide) (fc_of_ix g12) (fun st13 H locs est13 hM => ?_)
    replace hf := fc_of_nm hf st13 est13
    refine lv_iload_n C.1 C.2.1 (dd_at td_can 46 rfl) rfl (lv_at hl 2 rfl) ?_
    refine lv_if_ne (tgt := 94) C.1 C.2.1 (dd_at td_can 47 rfl) (by decide) (fun c14 => ?_) (fun c14 => ?_)
    · replace hf := fc_of_f hf c14
      refine lv_iload C.1 C.2.1 (dd_at td_can 50 rfl) (lv_at hl 5 rfl) ?_
      exact mm_ri C hM (dd_at td_can 51 rfl) hf
    · replace hf := fc_of_t hf c14
      refine lv_iload C.1 C.2.1 (dd_at td_can 48 rfl) (lv_at hl 4 rfl) ?_
      refine lv_goto (tgt := 96) C.1 C.2.1 (dd_at td_can 49 rfl) (by decide) ?_
      exact mm_ri C hM (dd_at td_can 51 rfl) hf
  · replace hf := fc_of_f hf c11
    refine lv_aload_n C.1 C.2.1 (dd_at td_can 25 rfl) rfl (lv_at hl 0 rfl) ?_
    refine mm_gA C hM 5 (dd_at td_can 26 rfl) (by decide) (by decide) (by decide) ?_
    refine lv_iload_n C.1 C.2.1 (dd_at td_can 27 rfl) rfl (lv_at hl 1 rfl) ?_
    refine lv_iload C.1 C.2.1 (dd_at td_can 28 rfl) (lv_at hl 6 rfl) ?_
    obtain ⟨g15, hf⟩ := fc_of_gd hf
    refine mm_iast C hM 5 (dd_at td_can 29 rfl) (by decide) (by decide) (fc_of_ix g15) (fun st16 H locs est16 hM => ?_)
    replace hf := fc_of_nm hf st16 est16
    refine lv_aload_n C.1 C.2.1 (dd_at td_can 30 rfl) rfl (lv_at hl 0 rfl) ?_
    refine lv_aload_n C.1 C.2.1 (dd_at td_can 31 rfl) rfl (lv_at hl 0 rfl) ?_
    refine mm_gI C hM 1 (dd_at td_can 32 rfl) (by decide) (by decide) (by decide) ?_
    obtain ⟨r19, st17, hx18, hf⟩ := fc_of_bn hf
    refine mm_ci (As := [.int (mm_I st16 1)]) (rest := []) (n := 1) C hM (c_isSeen l D o ad cs fu (mm_I st16 1) st16) (List.mem_of_getElem? (i := 23) rfl) (dd_at td_can 33 rfl) hx18 hl.1 hd_isSeen ⟨Nat.le_of_ble_eq_true rfl, Nat.le_of_ble_eq_true rfl⟩ rfl rfl (Nat.le_of_ble_eq_true rfl) ⟨Nat.le_refl 0, Nat.le_refl 0⟩ (fun H locs hM => ?_)
    refine lv_if_ne (tgt := 65) C.1 C.2.1 (dd_at td_can 34 rfl) (by decide) (fun c20 => ?_) (fun c20 => ?_)
    · replace hf := fc_of_f hf c20
      obtain ⟨v21, ev21⟩ : ∃ y : Int32, y = x4 + (1 : Int32) := ⟨_, rfl⟩
      replace hf := fc_of_nm hf v21 ev21
      refine lv_iinc (v := v21) (lv' := [(4, .int v21), (0, .ref o), (1, .int x1), (2, .int x2), (3, .int x3), (5, .int x5), (6, .int x6)]) C.1 C.2.1 (dd_at td_can 36 rfl) hl (k := 4) rfl (by rw [ev21]; rfl) (by decide) rfl (fun ls hl => ?_)
      refine lv_iload C.1 C.2.1 (dd_at td_can 37 rfl) (lv_at hl 6 rfl) ?_
      refine lv_istore (lv' := [(5, .int x6), (4, .int v21), (0, .ref o), (1, .int x1), (2, .int x2), (3, .int x3), (6, .int x6)]) C.1 C.2.1 (dd_at td_can 38 rfl) hl (by decide) rfl (fun ls hl => ?_)
      exact w_can_b72 C fu K38 hK38 x1 x2 x3 v21 x6 x6 st17 hf (lv_sub hl [2, 3, 4, 5, 1, 0, 6] rfl) hM
    · replace hf := fc_of_t hf c20
      refine lv_goto (tgt := 72) C.1 C.2.1 (dd_at td_can 35 rfl) (by decide) ?_
      exact w_can_b72 C fu K38 hK38 x1 x2 x3 x4 x5 x6 st17 hf (lv_sub hl [0, 1, 2, 3, 4, 5, 6] rfl) hM
theorem w_can_b38 {p : Program} {l : Launch} {e : Env} {s : State} {m : MethodId} {args : Array Value} {below : List Frame} {meth : Method} {c : Code} {D : va_G} {o : Nat} {ad : Nat → Nat} {cs : ClassId × ClassId × ClassId} {r : Int32} {st' : mm_S} (C : mm_C p s m args meth c cX12_can 7 (some .int) D cs) (fu : Nat) (n : Nat) : ∀ (x1 : Int32) (x2 : Int32) (x3 : Int32) (x4 : Int32) (x5 : Int32) (x6 : Int32) (st : mm_S), M_can_b38 fu n x1 x2 x3 x4 x5 x6 st = some (r, st') → ∀ (H : Heap) (locs : List Loc) (ls : Array Slot), lv_has ls 7 [(0, .ref o), (1, .int x1), (2, .int x2), (3, .int x3), (4, .int x4), (5, .int x5), (6, .int x6)] → mm_H D o ad cs s.heap st H locs → W p l e (mm_R 5 126) s m args below meth c H locs 0 0 (MQ below (mm_Qi D o ad cs r st') args s 0 0 (mm_A o ad)) (F0 m 38 ls []) := by
  induction n with
  | zero => exact fun _ _ _ _ _ _ _ hf => fc_no hf
  | succ n ih =>
    intro x1 x2 x3 x4 x5 x6 st hf H locs ls hl hM
    exact w_can_b38F C fu (fun x1 x2 x3 x4 x5 x6 st => M_can_b38 fu n x1 x2 x3 x4 x5 x6 st) (fun x1 x2 x3 x4 x5 x6 st H locs ls hf hl hM => ih x1 x2 x3 x4 x5 x6 st hf H locs ls hl hM) x1 x2 x3 x4 x5 x6 st hf hl hM
theorem w_can {p : Program} {l : Launch} {e : Env} {s : State} {m : MethodId} {args : Array Value} {below : List Frame} {meth : Method} {c : Code} {D : va_G} {o : Nat} {ad : Nat → Nat} {cs : ClassId × ClassId × ClassId} {r : Int32} {st' : mm_S} (C : mm_C p s m args meth c cX12_can 7 (some .int) D cs) (fu : Nat) (x1 : Int32) (x2 : Int32) (st : mm_S) (hf : M_can fu x1 x2 st = some (r, st')) {H : Heap} {locs : List Loc} {ls : Array Slot} (hl : lv_has ls 7 [(0, .ref o), (1, .int x1), (2, .int x2)]) (hM : mm_H D o ad cs s.heap st H locs) : W p l e (mm_R 5 126) s m args below meth c H locs 0 0 (MQ below (mm_Qi D o ad cs r st') args s 0 0 (mm_A o ad)) (F0 m 0 ls []) := by
  unfold M_can at hf
  refine lv_aload_n C.1 C.2.1 (dd_at td_can 0 rfl) rfl (lv_at hl 0 rfl) ?_
  refine lv_iload_n C.1 C.2.1 (dd_at td_can 1 rfl) rfl (lv_at hl 1 rfl) ?_
  obtain ⟨r3, st1, hx2, hf⟩ := fc_of_bn hf
  refine mm_ci (As := [.int x1]) (rest := []) (n := 1) C hM (c_isNeed l D o ad cs fu x1 st) (List.mem_of_getElem? (i := 22) rfl) (dd_at td_can 2 rfl) hx2 hl.1 hd_isNeed ⟨Nat.le_of_ble_eq_true rfl, Nat.le_of_ble_eq_true rfl⟩ rfl rfl (Nat.le_of_ble_eq_true rfl) ⟨Nat.le_refl 0, Nat.le_refl 0⟩ (fun H locs hM => ?_)
  refine lv_if_eq (tgt := 18) C.1 C.2.1 (dd_at td_can 3 rfl) (by decide) (fun c4 => ?_) (fun c4 => ?_)
  · replace hf := fc_of_t hf c4
    refine lv_iconst (v := (-1 : Int32)) C.1 C.2.1 (dd_at td_can 10 rfl) (by decide) ?_
    exact mm_ri C hM (dd_at td_can 11 rfl) hf
  · replace hf := fc_of_f hf c4
    refine lv_aload_n C.1 C.2.1 (dd_at td_can 4 rfl) rfl (lv_at hl 0 rfl) ?_
    refine lv_iload_n C.1 C.2.1 (dd_at td_can 5 rfl) rfl (lv_at hl 2 rfl) ?_
    refine lv_iconst (v := (0 : Int32)) C.1 C.2.1 (dd_at td_can 6 rfl) (by decide) ?_
    refine lv_iconst (v := (1 : Int32)) C.1 C.2.1 (dd_at td_can 7 rfl) (by decide) ?_
    obtain ⟨r7, st5, hx6, hf⟩ := fc_of_bn hf
    refine mm_ci (As := [.int x2, .int (0 : Int32), .int (1 : Int32)]) (rest := []) (n := 3) C hM (c_in l D o ad cs fu x2 (0 : Int32) (1 : Int32) st1) (List.mem_of_getElem? (i := 18) rfl) (dd_at td_can 8 rfl) hx6 hl.1 hd_in ⟨Nat.le_of_ble_eq_true rfl, Nat.le_of_ble_eq_true rfl⟩ rfl rfl (Nat.le_of_ble_eq_true rfl) ⟨Nat.le_refl 0, Nat.le_refl 0⟩ (fun H locs hM => ?_)
    refine lv_if_ne (tgt := 20) C.1 C.2.1 (dd_at td_can 9 rfl) (by decide) (fun c8 => ?_) (fun c8 => ?_)
    · replace hf := fc_of_f hf c8
      refine lv_aload_n C.1 C.2.1 (dd_at td_can 12 rfl) rfl (lv_at hl 0 rfl) ?_
      refine mm_gA C hM 5 (dd_at td_can 13 rfl) (by decide) (by decide) (by decide) ?_
      refine lv_iload_n C.1 C.2.1 (dd_at td_can 14 rfl) rfl (lv_at hl 1 rfl) ?_
      obtain ⟨g9, hf⟩ := fc_of_gd hf
      refine mm_iald C hM 5 (dd_at td_can 15 rfl) (by decide) (by decide) (fc_of_ix g9) ?_
      refine lv_topi (fun v10 ev10 => ?_)
      replace hf := fc_of_nm hf v10 ev10
      refine lv_istore_n (lv' := [(3, .int v10), (0, .ref o), (1, .int x1), (2, .int x2)]) C.1 C.2.1 (dd_at td_can 16 rfl) rfl hl (by decide) rfl (fun ls hl => ?_)
      refine lv_iconst (v := (0 : Int32)) C.1 C.2.1 (dd_at td_can 17 rfl) (by decide) ?_
      refine lv_istore (lv' := [(4, .int (0 : Int32)), (3, .int v10), (0, .ref o), (1, .int x1), (2, .int x2)]) C.1 C.2.1 (dd_at td_can 18 rfl) hl (by decide) rfl (fun ls hl => ?_)
      refine lv_bipush (v := (-5 : Int32)) C.1 C.2.1 (dd_at td_can 19 rfl) (by decide) ?_
      refine lv_istore (lv' := [(5, .int (-5 : Int32)), (4, .int (0 : Int32)), (3, .int v10), (0, .ref o), (1, .int x1), (2, .int x2)]) C.1 C.2.1 (dd_at td_can 20 rfl) hl (by decide) rfl (fun ls hl => ?_)
      refine lv_bipush (v := (9 : Int32)) C.1 C.2.1 (dd_at td_can 21 rfl) (by decide) ?_
      refine lv_istore (lv' := [(6, .int (9 : Int32)), (5, .int (-5 : Int32)), (4, .int (0 : Int32)), (3, .int v10), (0, .ref o), (1, .int x1), (2, .int x2)]) C.1 C.2.1 (dd_at td_can 22 rfl) hl (by decide) rfl (fun ls hl => ?_)
      exact w_can_b38 C fu fu x1 x2 v10 (0 : Int32) (-5 : Int32) (9 : Int32) st5 hf _ _ _ (lv_sub hl [4, 5, 6, 3, 2, 1, 0] rfl) hM
    · replace hf := fc_of_t hf c8
      refine lv_iconst (v := (-1 : Int32)) C.1 C.2.1 (dd_at td_can 10 rfl) (by decide) ?_
      exact mm_ri C hM (dd_at td_can 11 rfl) hf
theorem c_can (l : Launch) (D : va_G) (o : Nat) (ad : Nat → Nat) (cs : ClassId × ClassId × ClassId) (fu : Nat) (x1 : Int32) (x2 : Int32) (st : mm_S) : mm_Mi l D o ad cs yX12_can cX12_can 7 (some .int) 5 126 [.int x1, .int x2] st (M_can fu x1 x2 st) := by
  intro r st' hf
  refine mm_enter (cc := cX12_can) (nL := 7) (ret := some .int) (by decide) rfl (Nat.le_of_ble_eq_true rfl) ?_
  intro p e s m args below meth c ls C hl hM
  exact w_can C fu x1 x2 st hf hl hM

/-! darked -/
def tb_darked : List (Nat × Instr × Nat) := [(0, .aload_n 0, 1), (1, .iload_n 1, 1), (2, .iconst 0, 1), (3, .iconst 1, 1), (4, .invokevirtual 207, 3), (7, .ifCond .ne 5, 3), (10, .iconst (-1), 1), (11, .ireturn, 1), (12, .iconst 0, 1), (13, .istore_n 2, 1), (14, .bipush (-5), 2), (16, .istore_n 3, 1), (17, .bipush 8, 2), (19, .istore 4, 2), (21, .iload 4, 2), (23, .ifCond .lt 27, 3), (26, .aload_n 0, 1), (27, .iload 4, 2), (29, .invokevirtual 340, 3), (32, .ifCond .ne 6, 3), (35, .goto 9, 3), (38, .iinc 2 1, 3), (41, .iload 4, 2), (43, .istore_n 3, 1), (44, .iinc 4 (-1), 3), (47, .goto (-26), 3), (50, .iload_n 1, 1), (51, .ifCond .ne 7, 3), (54, .iload_n 2, 1), (55, .goto 4, 3), (58, .iload_n 3, 1), (59, .ireturn, 1)]
theorem td_darked : tb_darked.all (fun q => decide (decode cX12_darked q.1 = .ok (q.2.1, q.2.2))) = true := by decide +kernel
theorem w_darked_b44 {p : Program} {l : Launch} {e : Env} {s : State} {m : MethodId} {args : Array Value} {below : List Frame} {meth : Method} {c : Code} {D : va_G} {o : Nat} {ad : Nat → Nat} {cs : ClassId × ClassId × ClassId} {r : Int32} {st' : mm_S} (C : mm_C p s m args meth c cX12_darked 5 (some .int) D cs) (fu : Nat) (K21 : Int32 → Int32 → Int32 → Int32 → mm_S → Option (Int32 × mm_S)) (hK21 : ∀ (x1 : Int32) (x2 : Int32) (x3 : Int32) (x4 : Int32) (st : mm_S) (H : Heap) (locs : List Loc) (ls : Array Slot), K21 x1 x2 x3 x4 st = some (r, st') → lv_has ls 5 [(0, .ref o), (1, .int x1), (2, .int x2), (3, .int x3), (4, .int x4)] → mm_H D o ad cs s.heap st H locs → W p l e (mm_R 5 126) s m args below meth c H locs 0 0 (MQ below (mm_Qi D o ad cs r st') args s 0 0 (mm_A o ad)) (F0 m 21 ls [])) (x1 : Int32) (x2 : Int32) (x3 : Int32) (x4 : Int32) (st : mm_S) (hf : M_darked_b44 fu K21 x1 x2 x3 x4 st = some (r, st')) {H : Heap} {locs : List Loc} {ls : Array Slot} (hl : lv_has ls 5 [(0, .ref o), (1, .int x1), (2, .int x2), (3, .int x3), (4, .int x4)]) (hM : mm_H D o ad cs s.heap st H locs) : W p l e (mm_R 5 126) s m args below meth c H locs 0 0 (MQ below (mm_Qi D o ad cs r st') args s 0 0 (mm_A o ad)) (F0 m 44 ls []) := by
  unfold M_darked_b44 at hf
  obtain ⟨v12, ev12⟩ : ∃ y : Int32, y = x4 + (-1 : Int32) := ⟨_, rfl⟩
  replace hf := fc_of_nm hf v12 ev12
  refine lv_iinc (v := v12) (lv' := [(4, .int v12), (0, .ref o), (1, .int x1), (2, .int x2), (3, .int x3)]) C.1 C.2.1 (dd_at td_darked 24 rfl) hl (k := 4) rfl (by rw [ev12]; rfl) (by decide) rfl (fun ls hl => ?_)
  refine lv_goto (tgt := 21) C.1 C.2.1 (dd_at td_darked 25 rfl) (by decide) ?_
  exact hK21 x1 x2 x3 v12 st _ _ _ hf (lv_sub hl [1, 2, 3, 4, 0] rfl) hM
theorem w_darked_b21F {p : Program} {l : Launch} {e : Env} {s : State} {m : MethodId} {args : Array Value} {below : List Frame} {meth : Method} {c : Code} {D : va_G} {o : Nat} {ad : Nat → Nat} {cs : ClassId × ClassId × ClassId} {r : Int32} {st' : mm_S} (C : mm_C p s m args meth c cX12_darked 5 (some .int) D cs) (fu : Nat) (K21 : Int32 → Int32 → Int32 → Int32 → mm_S → Option (Int32 × mm_S)) (hK21 : ∀ (x1 : Int32) (x2 : Int32) (x3 : Int32) (x4 : Int32) (st : mm_S) (H : Heap) (locs : List Loc) (ls : Array Slot), K21 x1 x2 x3 x4 st = some (r, st') → lv_has ls 5 [(0, .ref o), (1, .int x1), (2, .int x2), (3, .int x3), (4, .int x4)] → mm_H D o ad cs s.heap st H locs → W p l e (mm_R 5 126) s m args below meth c H locs 0 0 (MQ below (mm_Qi D o ad cs r st') args s 0 0 (mm_A o ad)) (F0 m 21 ls [])) (x1 : Int32) (x2 : Int32) (x3 : Int32) (x4 : Int32) (st : mm_S) (hf : M_darked_b21F fu K21 x1 x2 x3 x4 st = some (r, st')) {H : Heap} {locs : List Loc} {ls : Array Slot} (hl : lv_has ls 5 [(0, .ref o), (1, .int x1), (2, .int x2), (3, .int x3), (4, .int x4)]) (hM : mm_H D o ad cs s.heap st H locs) : W p l e (mm_R 5 126) s m args below meth c H locs 0 0 (MQ below (mm_Qi D o ad cs r st') args s 0 0 (mm_A o ad)) (F0 m 21 ls []) := by
  unfold M_darked_b21F at hf
  refine lv_iload C.1 C.2.1 (dd_at td_darked 14 rfl) (lv_at hl 4 rfl) ?_
  refine lv_if_lt (tgt := 50) C.1 C.2.1 (dd_at td_darked 15 rfl) (by decide) (fun c5 => ?_) (fun c5 => ?_)
  · replace hf := fc_of_t hf c5
    refine lv_iload_n C.1 C.2.1 (dd_at td_darked 26 rfl) rfl (lv_at hl 1 rfl) ?_
    refine lv_if_ne (tgt := 58) C.1 C.2.1 (dd_at td_darked 27 rfl) (by decide) (fun c6 => ?_) (fun c6 => ?_)
    · replace hf := fc_of_f hf c6
      refine lv_iload_n C.1 C.2.1 (dd_at td_darked 30 rfl) rfl (lv_at hl 3 rfl) ?_
      exact mm_ri C hM (dd_at td_darked 31 rfl) hf
    · replace hf := fc_of_t hf c6
      refine lv_iload_n C.1 C.2.1 (dd_at td_darked 28 rfl) rfl (lv_at hl 2 rfl) ?_
      refine lv_goto (tgt := 59) C.1 C.2.1 (dd_at td_darked 29 rfl) (by decide) ?_
      exact mm_ri C hM (dd_at td_darked 31 rfl) hf
  · replace hf := fc_of_f hf c5
    refine lv_aload_n C.1 C.2.1 (dd_at td_darked 16 rfl) rfl (lv_at hl 0 rfl) ?_
    refine lv_iload C.1 C.2.1 (dd_at td_darked 17 rfl) (lv_at hl 4 rfl) ?_
    obtain ⟨r9, st7, hx8, hf⟩ := fc_of_bn hf
    refine mm_ci (As := [.int x4]) (rest := []) (n := 1) C hM (c_isSeen l D o ad cs fu x4 st) (List.mem_of_getElem? (i := 23) rfl) (dd_at td_darked 18 rfl) hx8 hl.1 hd_isSeen ⟨Nat.le_of_ble_eq_true rfl, Nat.le_of_ble_eq_true rfl⟩ rfl rfl (Nat.le_of_ble_eq_true rfl) ⟨Nat.le_refl 0, Nat.le_refl 0⟩ (fun H locs hM => ?_)
    refine lv_if_ne (tgt := 38) C.1 C.2.1 (dd_at td_darked 19 rfl) (by decide) (fun c10 => ?_) (fun c10 => ?_)
    · replace hf := fc_of_f hf c10
      obtain ⟨v11, ev11⟩ : ∃ y : Int32, y = x2 + (1 : Int32) := ⟨_, rfl⟩
      replace hf := fc_of_nm hf v11 ev11
      refine lv_iinc (v := v11) (lv' := [(2, .int v11), (0, .ref o), (1, .int x1), (3, .int x3), (4, .int x4)]) C.1 C.2.1 (dd_at td_darked 21 rfl) hl (k := 2) rfl (by rw [ev11]; rfl) (by decide) rfl (fun ls hl => ?_)
      refine lv_iload C.1 C.2.1 (dd_at td_darked 22 rfl) (lv_at hl 4 rfl) ?_
      refine lv_istore_n (lv' := [(3, .int x4), (2, .int v11), (0, .ref o), (1, .int x1), (4, .int x4)]) C.1 C.2.1 (dd_at td_darked 23 rfl) rfl hl (by decide) rfl (fun ls hl => ?_)
      exact w_darked_b44 C fu K21 hK21 x1 v11 x4 x4 st7 hf (lv_sub hl [2, 3, 1, 0, 4] rfl) hM
    · replace hf := fc_of_t hf c10
      refine lv_goto (tgt := 44) C.1 C.2.1 (dd_at td_darked 20 rfl) (by decide) ?_
      exact w_darked_b44 C fu K21 hK21 x1 x2 x3 x4 st7 hf (lv_sub hl [0, 1, 2, 3, 4] rfl) hM
theorem w_darked_b21 {p : Program} {l : Launch} {e : Env} {s : State} {m : MethodId} {args : Array Value} {below : List Frame} {meth : Method} {c : Code} {D : va_G} {o : Nat} {ad : Nat → Nat} {cs : ClassId × ClassId × ClassId} {r : Int32} {st' : mm_S} (C : mm_C p s m args meth c cX12_darked 5 (some .int) D cs) (fu : Nat) (n : Nat) : ∀ (x1 : Int32) (x2 : Int32) (x3 : Int32) (x4 : Int32) (st : mm_S), M_darked_b21 fu n x1 x2 x3 x4 st = some (r, st') → ∀ (H : Heap) (locs : List Loc) (ls : Array Slot), lv_has ls 5 [(0, .ref o), (1, .int x1), (2, .int x2), (3, .int x3), (4, .int x4)] → mm_H D o ad cs s.heap st H locs → W p l e (mm_R 5 126) s m args below meth c H locs 0 0 (MQ below (mm_Qi D o ad cs r st') args s 0 0 (mm_A o ad)) (F0 m 21 ls []) := by
  induction n with
  | zero => exact fun _ _ _ _ _ hf => fc_no hf
  | succ n ih =>
    intro x1 x2 x3 x4 st hf H locs ls hl hM
    exact w_darked_b21F C fu (fun x1 x2 x3 x4 st => M_darked_b21 fu n x1 x2 x3 x4 st) (fun x1 x2 x3 x4 st H locs ls hf hl hM => ih x1 x2 x3 x4 st hf H locs ls hl hM) x1 x2 x3 x4 st hf hl hM
theorem w_darked {p : Program} {l : Launch} {e : Env} {s : State} {m : MethodId} {args : Array Value} {below : List Frame} {meth : Method} {c : Code} {D : va_G} {o : Nat} {ad : Nat → Nat} {cs : ClassId × ClassId × ClassId} {r : Int32} {st' : mm_S} (C : mm_C p s m args meth c cX12_darked 5 (some .int) D cs) (fu : Nat) (x1 : Int32) (st : mm_S) (hf : M_darked fu x1 st = some (r, st')) {H : Heap} {locs : List Loc} {ls : Array Slot} (hl : lv_has ls 5 [(0, .ref o), (1, .int x1)]) (hM : mm_H D o ad cs s.heap st H locs) : W p l e (mm_R 5 126) s m args below meth c H locs 0 0 (MQ below (mm_Qi D o ad cs r st') args s 0 0 (mm_A o ad)) (F0 m 0 ls []) := by
  unfold M_darked at hf
  refine lv_aload_n C.1 C.2.1 (dd_at td_darked 0 rfl) rfl (lv_at hl 0 rfl) ?_
  refine lv_iload_n C.1 C.2.1 (dd_at td_darked 1 rfl) rfl (lv_at hl 1 rfl) ?_
  refine lv_iconst (v := (0 : Int32)) C.1 C.2.1 (dd_at td_darked 2 rfl) (by decide) ?_
  refine lv_iconst (v := (1 : Int32)) C.1 C.2.1 (dd_at td_darked 3 rfl) (by decide) ?_
  obtain ⟨r3, st1, hx2, hf⟩ := fc_of_bn hf
  refine mm_ci (As := [.int x1, .int (0 : Int32), .int (1 : Int32)]) (rest := []) (n := 3) C hM (c_in l D o ad cs fu x1 (0 : Int32) (1 : Int32) st) (List.mem_of_getElem? (i := 18) rfl) (dd_at td_darked 4 rfl) hx2 hl.1 hd_in ⟨Nat.le_of_ble_eq_true rfl, Nat.le_of_ble_eq_true rfl⟩ rfl rfl (Nat.le_of_ble_eq_true rfl) ⟨Nat.le_refl 0, Nat.le_refl 0⟩ (fun H locs hM => ?_)
  refine lv_if_ne (tgt := 12) C.1 C.2.1 (dd_at td_darked 5 rfl) (by decide) (fun c4 => ?_) (fun c4 => ?_)
  · replace hf := fc_of_f hf c4
    refine lv_iconst (v := (0 : Int32)) C.1 C.2.1 (dd_at td_darked 8 rfl) (by decide) ?_
    refine lv_istore_n (lv' := [(2, .int (0 : Int32)), (0, .ref o), (1, .int x1)]) C.1 C.2.1 (dd_at td_darked 9 rfl) rfl hl (by decide) rfl (fun ls hl => ?_)
    refine lv_bipush (v := (-5 : Int32)) C.1 C.2.1 (dd_at td_darked 10 rfl) (by decide) ?_
    refine lv_istore_n (lv' := [(3, .int (-5 : Int32)), (2, .int (0 : Int32)), (0, .ref o), (1, .int x1)]) C.1 C.2.1 (dd_at td_darked 11 rfl) rfl hl (by decide) rfl (fun ls hl => ?_)
    refine lv_bipush (v := (8 : Int32)) C.1 C.2.1 (dd_at td_darked 12 rfl) (by decide) ?_
    refine lv_istore (lv' := [(4, .int (8 : Int32)), (3, .int (-5 : Int32)), (2, .int (0 : Int32)), (0, .ref o), (1, .int x1)]) C.1 C.2.1 (dd_at td_darked 13 rfl) hl (by decide) rfl (fun ls hl => ?_)
    exact w_darked_b21 C fu fu x1 (0 : Int32) (-5 : Int32) (8 : Int32) st1 hf _ _ _ (lv_sub hl [3, 4, 2, 1, 0] rfl) hM
  · replace hf := fc_of_t hf c4
    refine lv_iconst (v := (-1 : Int32)) C.1 C.2.1 (dd_at td_darked 6 rfl) (by decide) ?_
    exact mm_ri C hM (dd_at td_darked 7 rfl) hf
theorem c_darked (l : Launch) (D : va_G) (o : Nat) (ad : Nat → Nat) (cs : ClassId × ClassId × ClassId) (fu : Nat) (x1 : Int32) (st : mm_S) : mm_Mi l D o ad cs yX12_darked cX12_darked 5 (some .int) 5 126 [.int x1] st (M_darked fu x1 st) := by
  intro r st' hf
  refine mm_enter (cc := cX12_darked) (nL := 5) (ret := some .int) (by decide) rfl (Nat.le_of_ble_eq_true rfl) ?_
  intro p e s m args below meth c ls C hl hM
  exact w_darked C fu x1 st hf hl hM

/-! book -/
def tb_book : List (Nat × Instr × Nat) := [(0, .iload_n 1, 1), (1, .iconst (-1), 1), (2, .if_icmp .ne 10, 3), (5, .aload_n 0, 1), (6, .iconst 0, 1), (7, .putfield 109, 3), (10, .iconst 0, 1), (11, .ireturn, 1), (12, .aload_n 0, 1), (13, .iload_n 1, 1), (14, .invokevirtual 215, 3), (17, .ifCond .ne 5, 3), (20, .iconst (-1), 1), (21, .ireturn, 1), (22, .aload_n 0, 1), (23, .iload_n 2, 1), (24, .iconst 0, 1), (25, .sipush 9999, 3), (28, .invokevirtual 207, 3), (31, .ifCond .ne 6, 3), (34, .bipush (-2), 2), (36, .ireturn, 1), (37, .aload_n 0, 1), (38, .getfield 109, 3), (41, .bipush 8, 2), (43, .if_icmp .ne 6, 3), (46, .bipush (-4), 2), (48, .ireturn, 1), (49, .aload_n 0, 1), (50, .getfield 121, 3), (53, .aload_n 0, 1), (54, .getfield 109, 3), (57, .iload_n 1, 1), (58, .iastore, 1), (59, .aload_n 0, 1), (60, .getfield 124, 3), (63, .aload_n 0, 1), (64, .getfield 109, 3), (67, .iload_n 2, 1), (68, .iastore, 1), (69, .aload_n 0, 1), (70, .dup, 1), (71, .getfield 109, 3), (74, .iconst 1, 1), (75, .iadd, 1), (76, .putfield 109, 3), (79, .aload_n 0, 1), (80, .getfield 109, 3), (83, .ireturn, 1)]
theorem td_book : tb_book.all (fun q => decide (decode cX12_book q.1 = .ok (q.2.1, q.2.2))) = true := by decide +kernel
theorem w_book {p : Program} {l : Launch} {e : Env} {s : State} {m : MethodId} {args : Array Value} {below : List Frame} {meth : Method} {c : Code} {D : va_G} {o : Nat} {ad : Nat → Nat} {cs : ClassId × ClassId × ClassId} {r : Int32} {st' : mm_S} (C : mm_C p s m args meth c cX12_book 3 (some .int) D cs) (fu : Nat) (x1 : Int32) (x2 : Int32) (st : mm_S) (hf : M_book fu x1 x2 st = some (r, st')) {H : Heap} {locs : List Loc} {ls : Array Slot} (hl : lv_has ls 3 [(0, .ref o), (1, .int x1), (2, .int x2)]) (hM : mm_H D o ad cs s.heap st H locs) : W p l e (mm_R 2 44) s m args below meth c H locs 0 0 (MQ below (mm_Qi D o ad cs r st') args s 0 0 (mm_A o ad)) (F0 m 0 ls []) := by
  unfold M_book at hf
  refine lv_iload_n C.1 C.2.1 (dd_at td_book 0 rfl) rfl (lv_at hl 1 rfl) ?_
  refine lv_iconst (v := (-1 : Int32)) C.1 C.2.1 (dd_at td_book 1 rfl) (by decide) ?_
  refine lv_icmp_ne (tgt := 12) C.1 C.2.1 (dd_at td_book 2 rfl) (by decide) (fun c1 => ?_) (fun c1 => ?_)
  · replace hf := fc_of_f hf c1
    refine lv_aload_n C.1 C.2.1 (dd_at td_book 8 rfl) rfl (lv_at hl 0 rfl) ?_
    refine lv_iload_n C.1 C.2.1 (dd_at td_book 9 rfl) rfl (lv_at hl 1 rfl) ?_
    obtain ⟨r4, st2, hx3, hf⟩ := fc_of_bn hf
    refine mm_ci (As := [.int x1]) (rest := []) (n := 1) C hM (c_isNeed l D o ad cs fu x1 st) (List.mem_of_getElem? (i := 22) rfl) (dd_at td_book 10 rfl) hx3 hl.1 hd_isNeed ⟨Nat.le_of_ble_eq_true rfl, Nat.le_of_ble_eq_true rfl⟩ rfl rfl (Nat.le_of_ble_eq_true rfl) ⟨Nat.le_refl 0, Nat.le_refl 0⟩ (fun H locs hM => ?_)
    refine lv_if_ne (tgt := 22) C.1 C.2.1 (dd_at td_book 11 rfl) (by decide) (fun c5 => ?_) (fun c5 => ?_)
    · replace hf := fc_of_f hf c5
      refine lv_aload_n C.1 C.2.1 (dd_at td_book 14 rfl) rfl (lv_at hl 0 rfl) ?_
      refine lv_iload_n C.1 C.2.1 (dd_at td_book 15 rfl) rfl (lv_at hl 2 rfl) ?_
      refine lv_iconst (v := (0 : Int32)) C.1 C.2.1 (dd_at td_book 16 rfl) (by decide) ?_
      refine lv_sipush (v := (9999 : Int32)) C.1 C.2.1 (dd_at td_book 17 rfl) (by decide) ?_
      obtain ⟨r8, st6, hx7, hf⟩ := fc_of_bn hf
      refine mm_ci (As := [.int x2, .int (0 : Int32), .int (9999 : Int32)]) (rest := []) (n := 3) C hM (c_in l D o ad cs fu x2 (0 : Int32) (9999 : Int32) st2) (List.mem_of_getElem? (i := 18) rfl) (dd_at td_book 18 rfl) hx7 hl.1 hd_in ⟨Nat.le_of_ble_eq_true rfl, Nat.le_of_ble_eq_true rfl⟩ rfl rfl (Nat.le_of_ble_eq_true rfl) ⟨Nat.le_refl 0, Nat.le_refl 0⟩ (fun H locs hM => ?_)
      refine lv_if_ne (tgt := 37) C.1 C.2.1 (dd_at td_book 19 rfl) (by decide) (fun c9 => ?_) (fun c9 => ?_)
      · replace hf := fc_of_f hf c9
        refine lv_aload_n C.1 C.2.1 (dd_at td_book 22 rfl) rfl (lv_at hl 0 rfl) ?_
        refine mm_gI C hM 32 (dd_at td_book 23 rfl) (by decide) (by decide) (by decide) ?_
        refine lv_bipush (v := (8 : Int32)) C.1 C.2.1 (dd_at td_book 24 rfl) (by decide) ?_
        refine lv_icmp_ne (tgt := 49) C.1 C.2.1 (dd_at td_book 25 rfl) (by decide) (fun c10 => ?_) (fun c10 => ?_)
        · replace hf := fc_of_f hf c10
          refine lv_aload_n C.1 C.2.1 (dd_at td_book 28 rfl) rfl (lv_at hl 0 rfl) ?_
          refine mm_gA C hM 36 (dd_at td_book 29 rfl) (by decide) (by decide) (by decide) ?_
          refine lv_aload_n C.1 C.2.1 (dd_at td_book 30 rfl) rfl (lv_at hl 0 rfl) ?_
          refine mm_gI C hM 32 (dd_at td_book 31 rfl) (by decide) (by decide) (by decide) ?_
          refine lv_iload_n C.1 C.2.1 (dd_at td_book 32 rfl) rfl (lv_at hl 1 rfl) ?_
          obtain ⟨g11, hf⟩ := fc_of_gd hf
          refine mm_iast C hM 36 (dd_at td_book 33 rfl) (by decide) (by decide) (fc_of_ix g11) (fun st12 H locs est12 hM => ?_)
          replace hf := fc_of_nm hf st12 est12
          refine lv_aload_n C.1 C.2.1 (dd_at td_book 34 rfl) rfl (lv_at hl 0 rfl) ?_
          refine mm_gA C hM 37 (dd_at td_book 35 rfl) (by decide) (by decide) (by decide) ?_
          refine lv_aload_n C.1 C.2.1 (dd_at td_book 36 rfl) rfl (lv_at hl 0 rfl) ?_
          refine mm_gI C hM 32 (dd_at td_book 37 rfl) (by decide) (by decide) (by decide) ?_
          refine lv_iload_n C.1 C.2.1 (dd_at td_book 38 rfl) rfl (lv_at hl 2 rfl) ?_
          obtain ⟨g13, hf⟩ := fc_of_gd hf
          refine mm_iast C hM 37 (dd_at td_book 39 rfl) (by decide) (by decide) (fc_of_ix g13) (fun st14 H locs est14 hM => ?_)
          replace hf := fc_of_nm hf st14 est14
          refine lv_aload_n C.1 C.2.1 (dd_at td_book 40 rfl) rfl (lv_at hl 0 rfl) ?_
          refine lv_dup C.1 C.2.1 (dd_at td_book 41 rfl) rfl ?_
          refine mm_gI C hM 32 (dd_at td_book 42 rfl) (by decide) (by decide) (by decide) ?_
          refine lv_iconst (v := (1 : Int32)) C.1 C.2.1 (dd_at td_book 43 rfl) (by decide) ?_
          refine lv_iadd C.1 C.2.1 (dd_at td_book 44 rfl) ?_
          refine mm_pI C hM 32 (dd_at td_book 45 rfl) (by decide) (by decide) (by decide) rfl rfl (fun st15 H locs est15 hM => ?_)
          replace hf := fc_of_nm hf st15 est15
          refine lv_aload_n C.1 C.2.1 (dd_at td_book 46 rfl) rfl (lv_at hl 0 rfl) ?_
          refine mm_gI C hM 32 (dd_at td_book 47 rfl) (by decide) (by decide) (by decide) ?_
          exact mm_ri C hM (dd_at td_book 48 rfl) hf
        · replace hf := fc_of_t hf c10
          refine lv_bipush (v := (-4 : Int32)) C.1 C.2.1 (dd_at td_book 26 rfl) (by decide) ?_
          exact mm_ri C hM (dd_at td_book 27 rfl) hf
      · replace hf := fc_of_t hf c9
        refine lv_bipush (v := (-2 : Int32)) C.1 C.2.1 (dd_at td_book 20 rfl) (by decide) ?_
        exact mm_ri C hM (dd_at td_book 21 rfl) hf
    · replace hf := fc_of_t hf c5
      refine lv_iconst (v := (-1 : Int32)) C.1 C.2.1 (dd_at td_book 12 rfl) (by decide) ?_
      exact mm_ri C hM (dd_at td_book 13 rfl) hf
  · replace hf := fc_of_t hf c1
    refine lv_aload_n C.1 C.2.1 (dd_at td_book 3 rfl) rfl (lv_at hl 0 rfl) ?_
    refine lv_iconst (v := (0 : Int32)) C.1 C.2.1 (dd_at td_book 4 rfl) (by decide) ?_
    refine mm_pI C hM 32 (dd_at td_book 5 rfl) (by decide) (by decide) (by decide) rfl rfl (fun st16 H locs est16 hM => ?_)
    replace hf := fc_of_nm hf st16 est16
    refine lv_iconst (v := (0 : Int32)) C.1 C.2.1 (dd_at td_book 6 rfl) (by decide) ?_
    exact mm_ri C hM (dd_at td_book 7 rfl) hf
theorem c_book (l : Launch) (D : va_G) (o : Nat) (ad : Nat → Nat) (cs : ClassId × ClassId × ClassId) (fu : Nat) (x1 : Int32) (x2 : Int32) (st : mm_S) : mm_Mi l D o ad cs yX12_book cX12_book 3 (some .int) 2 44 [.int x1, .int x2] st (M_book fu x1 x2 st) := by
  intro r st' hf
  refine mm_enter (cc := cX12_book) (nL := 3) (ret := some .int) (by decide) rfl (Nat.le_of_ble_eq_true rfl) ?_
  intro p e s m args below meth c ls C hl hM
  exact w_book C fu x1 x2 st hf hl hM

/-! looked -/
def tb_looked : List (Nat × Instr × Nat) := [(0, .iconst 0, 1), (1, .istore_n 1, 1), (2, .iload_n 1, 1), (3, .aload_n 0, 1), (4, .getfield 109, 3), (7, .if_icmp .ge 31, 3), (10, .aload_n 0, 1), (11, .getfield 29, 3), (14, .aload_n 0, 1), (15, .getfield 121, 3), (18, .iload_n 1, 1), (19, .iaload, 1), (20, .iaload, 1), (21, .aload_n 0, 1), (22, .getfield 124, 3), (25, .iload_n 1, 1), (26, .iaload, 1), (27, .if_icmp .eq 5, 3), (30, .iload_n 1, 1), (31, .ireturn, 1), (32, .iinc 1 1, 3), (35, .goto (-33), 3), (38, .bipush (-5), 2), (40, .ireturn, 1)]
theorem td_looked : tb_looked.all (fun q => decide (decode cX12_looked q.1 = .ok (q.2.1, q.2.2))) = true := by decide +kernel
theorem w_looked_b2F {p : Program} {l : Launch} {e : Env} {s : State} {m : MethodId} {args : Array Value} {below : List Frame} {meth : Method} {c : Code} {D : va_G} {o : Nat} {ad : Nat → Nat} {cs : ClassId × ClassId × ClassId} {r : Int32} {st' : mm_S} (C : mm_C p s m args meth c cX12_looked 2 (some .int) D cs) (fu : Nat) (K2 : Int32 → mm_S → Option (Int32 × mm_S)) (hK2 : ∀ (x1 : Int32) (st : mm_S) (H : Heap) (locs : List Loc) (ls : Array Slot), K2 x1 st = some (r, st') → lv_has ls 2 [(0, .ref o), (1, .int x1)] → mm_H D o ad cs s.heap st H locs → W p l e (mm_R 0 0) s m args below meth c H locs 0 0 (MQ below (mm_Qi D o ad cs r st') args s 0 0 (mm_A o ad)) (F0 m 2 ls [])) (x1 : Int32) (st : mm_S) (hf : M_looked_b2F fu K2 x1 st = some (r, st')) {H : Heap} {locs : List Loc} {ls : Array Slot} (hl : lv_has ls 2 [(0, .ref o), (1, .int x1)]) (hM : mm_H D o ad cs s.heap st H locs) : W p l e (mm_R 0 0) s m args below meth c H locs 0 0 (MQ below (mm_Qi D o ad cs r st') args s 0 0 (mm_A o ad)) (F0 m 2 ls []) := by
  unfold M_looked_b2F at hf
  refine lv_iload_n C.1 C.2.1 (dd_at td_looked 2 rfl) rfl (lv_at hl 1 rfl) ?_
  refine lv_aload_n C.1 C.2.1 (dd_at td_looked 3 rfl) rfl (lv_at hl 0 rfl) ?_
  refine mm_gI C hM 32 (dd_at td_looked 4 rfl) (by decide) (by decide) (by decide) ?_
  refine lv_icmp_ge (tgt := 38) C.1 C.2.1 (dd_at td_looked 5 rfl) (by decide) (fun c1 => ?_) (fun c1 => ?_)
  · replace hf := fc_of_t hf c1
    refine lv_bipush (v := (-5 : Int32)) C.1 C.2.1 (dd_at td_looked 22 rfl) (by decide) ?_
    exact mm_ri C hM (dd_at td_looked 23 rfl) hf
  · replace hf := fc_of_f hf c1
    refine lv_aload_n C.1 C.2.1 (dd_at td_looked 6 rfl) rfl (lv_at hl 0 rfl) ?_
    refine mm_gA C hM 6 (dd_at td_looked 7 rfl) (by decide) (by decide) (by decide) ?_
    refine lv_aload_n C.1 C.2.1 (dd_at td_looked 8 rfl) rfl (lv_at hl 0 rfl) ?_
    refine mm_gA C hM 36 (dd_at td_looked 9 rfl) (by decide) (by decide) (by decide) ?_
    refine lv_iload_n C.1 C.2.1 (dd_at td_looked 10 rfl) rfl (lv_at hl 1 rfl) ?_
    obtain ⟨g2, hf⟩ := fc_of_gd hf
    refine mm_iald C hM 36 (dd_at td_looked 11 rfl) (by decide) (by decide) (fc_of_ix g2) ?_
    obtain ⟨g3, hf⟩ := fc_of_gd hf
    refine mm_iald C hM 6 (dd_at td_looked 12 rfl) (by decide) (by decide) (fc_of_ix g3) ?_
    refine lv_aload_n C.1 C.2.1 (dd_at td_looked 13 rfl) rfl (lv_at hl 0 rfl) ?_
    refine mm_gA C hM 37 (dd_at td_looked 14 rfl) (by decide) (by decide) (by decide) ?_
    refine lv_iload_n C.1 C.2.1 (dd_at td_looked 15 rfl) rfl (lv_at hl 1 rfl) ?_
    obtain ⟨g4, hf⟩ := fc_of_gd hf
    refine mm_iald C hM 37 (dd_at td_looked 16 rfl) (by decide) (by decide) (fc_of_ix g4) ?_
    refine lv_icmp_eq (tgt := 32) C.1 C.2.1 (dd_at td_looked 17 rfl) (by decide) (fun c5 => ?_) (fun c5 => ?_)
    · replace hf := fc_of_t hf c5
      obtain ⟨v6, ev6⟩ : ∃ y : Int32, y = x1 + (1 : Int32) := ⟨_, rfl⟩
      replace hf := fc_of_nm hf v6 ev6
      refine lv_iinc (v := v6) (lv' := [(1, .int v6), (0, .ref o)]) C.1 C.2.1 (dd_at td_looked 20 rfl) hl (k := 1) rfl (by rw [ev6]; rfl) (by decide) rfl (fun ls hl => ?_)
      refine lv_goto (tgt := 2) C.1 C.2.1 (dd_at td_looked 21 rfl) (by decide) ?_
      exact hK2 v6 st _ _ _ hf (lv_sub hl [1, 0] rfl) hM
    · replace hf := fc_of_f hf c5
      refine lv_iload_n C.1 C.2.1 (dd_at td_looked 18 rfl) rfl (lv_at hl 1 rfl) ?_
      exact mm_ri C hM (dd_at td_looked 19 rfl) hf
theorem w_looked_b2 {p : Program} {l : Launch} {e : Env} {s : State} {m : MethodId} {args : Array Value} {below : List Frame} {meth : Method} {c : Code} {D : va_G} {o : Nat} {ad : Nat → Nat} {cs : ClassId × ClassId × ClassId} {r : Int32} {st' : mm_S} (C : mm_C p s m args meth c cX12_looked 2 (some .int) D cs) (fu : Nat) (n : Nat) : ∀ (x1 : Int32) (st : mm_S), M_looked_b2 fu n x1 st = some (r, st') → ∀ (H : Heap) (locs : List Loc) (ls : Array Slot), lv_has ls 2 [(0, .ref o), (1, .int x1)] → mm_H D o ad cs s.heap st H locs → W p l e (mm_R 0 0) s m args below meth c H locs 0 0 (MQ below (mm_Qi D o ad cs r st') args s 0 0 (mm_A o ad)) (F0 m 2 ls []) := by
  induction n with
  | zero => exact fun _ _ hf => fc_no hf
  | succ n ih =>
    intro x1 st hf H locs ls hl hM
    exact w_looked_b2F C fu (fun x1 st => M_looked_b2 fu n x1 st) (fun x1 st H locs ls hf hl hM => ih x1 st hf H locs ls hl hM) x1 st hf hl hM
theorem w_looked {p : Program} {l : Launch} {e : Env} {s : State} {m : MethodId} {args : Array Value} {below : List Frame} {meth : Method} {c : Code} {D : va_G} {o : Nat} {ad : Nat → Nat} {cs : ClassId × ClassId × ClassId} {r : Int32} {st' : mm_S} (C : mm_C p s m args meth c cX12_looked 2 (some .int) D cs) (fu : Nat) (st : mm_S) (hf : M_looked fu st = some (r, st')) {H : Heap} {locs : List Loc} {ls : Array Slot} (hl : lv_has ls 2 [(0, .ref o)]) (hM : mm_H D o ad cs s.heap st H locs) : W p l e (mm_R 0 0) s m args below meth c H locs 0 0 (MQ below (mm_Qi D o ad cs r st') args s 0 0 (mm_A o ad)) (F0 m 0 ls []) := by
  unfold M_looked at hf
  refine lv_iconst (v := (0 : Int32)) C.1 C.2.1 (dd_at td_looked 0 rfl) (by decide) ?_
  refine lv_istore_n (lv' := [(1, .int (0 : Int32)), (0, .ref o)]) C.1 C.2.1 (dd_at td_looked 1 rfl) rfl hl (by decide) rfl (fun ls hl => ?_)
  exact w_looked_b2 C fu fu (0 : Int32) st hf _ _ _ (lv_sub hl [1, 0] rfl) hM
theorem c_looked (l : Launch) (D : va_G) (o : Nat) (ad : Nat → Nat) (cs : ClassId × ClassId × ClassId) (fu : Nat) (st : mm_S) : mm_Mi l D o ad cs yX12_looked cX12_looked 2 (some .int) 0 0 [] st (M_looked fu st) := by
  intro r st' hf
  refine mm_enter (cc := cX12_looked) (nL := 2) (ret := some .int) (by decide) rfl (Nat.le_of_ble_eq_true rfl) ?_
  intro p e s m args below meth c ls C hl hM
  exact w_looked C fu st hf hl hM

/-! isTape -/
def tb_isTape : List (Nat × Instr × Nat) := [(0, .aload_n 0, 1), (1, .iload_n 1, 1), (2, .iconst 0, 1), (3, .iconst 5, 1), (4, .invokevirtual 207, 3), (7, .ireturn, 1)]
theorem td_isTape : tb_isTape.all (fun q => decide (decode cX12_isTape q.1 = .ok (q.2.1, q.2.2))) = true := by decide +kernel
theorem hd_isTape : yX12_isTape.cls = RX12 ∧ yX12_isTape.cls ≠ "java/lang/invoke/MethodHandle" ∧ yX12_isTape.cls ≠ "java/lang/invoke/VarHandle" ∧ (parseMethodDescriptor yX12_isTape.desc).map (fun d => d.parameters.length) = some 1 := by decide +kernel
theorem w_isTape {p : Program} {l : Launch} {e : Env} {s : State} {m : MethodId} {args : Array Value} {below : List Frame} {meth : Method} {c : Code} {D : va_G} {o : Nat} {ad : Nat → Nat} {cs : ClassId × ClassId × ClassId} {r : Int32} {st' : mm_S} (C : mm_C p s m args meth c cX12_isTape 2 (some .boolean) D cs) (fu : Nat) (x1 : Int32) (st : mm_S) (hf : M_isTape fu x1 st = some (r, st')) {H : Heap} {locs : List Loc} {ls : Array Slot} (hl : lv_has ls 2 [(0, .ref o), (1, .int x1)]) (hM : mm_H D o ad cs s.heap st H locs) : W p l e (mm_R 1 23) s m args below meth c H locs 0 0 (MQ below (mm_Qi D o ad cs r st') args s 0 0 (mm_A o ad)) (F0 m 0 ls []) := by
  unfold M_isTape at hf
  refine lv_aload_n C.1 C.2.1 (dd_at td_isTape 0 rfl) rfl (lv_at hl 0 rfl) ?_
  refine lv_iload_n C.1 C.2.1 (dd_at td_isTape 1 rfl) rfl (lv_at hl 1 rfl) ?_
  refine lv_iconst (v := (0 : Int32)) C.1 C.2.1 (dd_at td_isTape 2 rfl) (by decide) ?_
  refine lv_iconst (v := (5 : Int32)) C.1 C.2.1 (dd_at td_isTape 3 rfl) (by decide) ?_
  obtain ⟨r3, st1, hx2, hf⟩ := fc_of_bn hf
  refine mm_ci (As := [.int x1, .int (0 : Int32), .int (5 : Int32)]) (rest := []) (n := 3) C hM (c_in l D o ad cs fu x1 (0 : Int32) (5 : Int32) st) (List.mem_of_getElem? (i := 18) rfl) (dd_at td_isTape 4 rfl) hx2 hl.1 hd_in ⟨Nat.le_of_ble_eq_true rfl, Nat.le_of_ble_eq_true rfl⟩ rfl rfl (Nat.le_of_ble_eq_true rfl) ⟨Nat.le_refl 0, Nat.le_refl 0⟩ (fun H locs hM => ?_)
  obtain ⟨g4, hf⟩ := fc_of_gd hf
  exact mm_rz C hM (dd_at td_isTape 5 rfl) (fc_of_zb g4) hf
theorem c_isTape (l : Launch) (D : va_G) (o : Nat) (ad : Nat → Nat) (cs : ClassId × ClassId × ClassId) (fu : Nat) (x1 : Int32) (st : mm_S) : mm_Mi l D o ad cs yX12_isTape cX12_isTape 2 (some .boolean) 1 23 [.int x1] st (M_isTape fu x1 st) := by
  intro r st' hf
  refine mm_enter (cc := cX12_isTape) (nL := 2) (ret := some .boolean) (by decide) rfl (Nat.le_of_ble_eq_true rfl) ?_
  intro p e s m args below meth c ls C hl hM
  exact w_isTape C fu x1 st hf hl hM

/-! judge -/
def tb_judge : List (Nat × Instr × Nat) := [(0, .aload_n 0, 1), (1, .iload_n 1, 1), (2, .invokevirtual 343, 3), (5, .ifCond .ne 5, 3), (8, .iconst (-1), 1), (9, .ireturn, 1), (10, .aload_n 0, 1), (11, .getfield 191, 3), (14, .iload_n 1, 1), (15, .iaload, 1), (16, .ifCond .lt 16, 3), (19, .aload_n 0, 1), (20, .getfield 191, 3), (23, .iload_n 1, 1), (24, .iaload, 1), (25, .iconst 2, 1), (26, .if_icmp .eq 6, 3), (29, .bipush (-12), 2), (31, .ireturn, 1), (32, .iconst 0, 1), (33, .istore_n 3, 1), (34, .iload_n 3, 1), (35, .aload_n 0, 1), (36, .getfield 7, 3), (39, .if_icmp .ge 74, 3), (42, .aload_n 0, 1), (43, .getfield 191, 3), (46, .iload_n 1, 1), (47, .iaload, 1), (48, .ifCond .lt 21, 3), (51, .iload_n 2, 1), (52, .ifCond .lt 17, 3), (55, .iload_n 2, 1), (56, .aload_n 0, 1), (57, .getfield 194, 3), (60, .iload_n 1, 1), (61, .iaload, 1), (62, .iload_n 3, 1), (63, .isub, 1), (64, .iconst 1, 1), (65, .isub, 1), (66, .if_icmp .le 8, 3), (69, .bipush 100, 2), (71, .iload_n 3, 1), (72, .iadd, 1), (73, .ireturn, 1), (74, .aload_n 0, 1), (75, .getfield 197, 3), (78, .bipush 60, 2), (80, .iload_n 1, 1), (81, .imul, 1), (82, .iload_n 2, 1), (83, .iadd, 1), (84, .iload_n 3, 1), (85, .iadd, 1), (86, .laload, 1), (87, .aload_n 0, 1), (88, .iload_n 3, 1), (89, .aload_n 0, 1), (90, .getfield 19, 3), (93, .aload_n 0, 1), (94, .getfield 13, 3), (97, .invokevirtual 282, 3), (100, .i2l, 1), (101, .lcmp, 1), (102, .ifCond .eq 5, 3), (105, .iload_n 3, 1), (106, .ireturn, 1), (107, .iinc 3 1, 3), (110, .goto (-76), 3), (113, .bipush (-5), 2), (115, .ireturn, 1)]
theorem td_judge : tb_judge.all (fun q => decide (decode cX12_judge q.1 = .ok (q.2.1, q.2.2))) = true := by decide +kernel
theorem w_judge_b34F {p : Program} {l : Launch} {e : Env} {s : State} {m : MethodId} {args : Array Value} {below : List Frame} {meth : Method} {c : Code} {D : va_G} {o : Nat} {ad : Nat → Nat} {cs : ClassId × ClassId × ClassId} {r : Int32} {st' : mm_S} (C : mm_C p s m args meth c cX12_judge 4 (some .int) D cs) (fu : Nat) (K34 : Int32 → Int32 → Int32 → mm_S → Option (Int32 × mm_S)) (hK34 : ∀ (x1 : Int32) (x2 : Int32) (x3 : Int32) (st : mm_S) (H : Heap) (locs : List Loc) (ls : Array Slot), K34 x1 x2 x3 st = some (r, st') → lv_has ls 4 [(0, .ref o), (1, .int x1), (2, .int x2), (3, .int x3)] → mm_H D o ad cs s.heap st H locs → W p l e (mm_R 4 104) s m args below meth c H locs 0 0 (MQ below (mm_Qi D o ad cs r st') args s 0 0 (mm_A o ad)) (F0 m 34 ls [])) (x1 : Int32) (x2 : Int32) (x3 : Int32) (st : mm_S) (hf : M_judge_b34F fu K34 x1 x2 x3 st = some (r, st')) {H : Heap} {locs : List Loc} {ls : Array Slot} (hl : lv_has ls 4 [(0, .ref o), (1, .int x1), (2, .int x2), (3, .int x3)]) (hM : mm_H D o ad cs s.heap st H locs) : W p l e (mm_R 4 104) s m args below meth c H locs 0 0 (MQ below (mm_Qi D o ad cs r st') args s 0 0 (mm_A o ad)) (F0 m 34 ls []) := by
  unfold M_judge_b34F at hf
  refine lv_iload_n C.1 C.2.1 (dd_at td_judge 21 rfl) rfl (lv_at hl 3 rfl) ?_
  refine lv_aload_n C.1 C.2.1 (dd_at td_judge 22 rfl) rfl (lv_at hl 0 rfl) ?_
  refine mm_gI C hM 0 (dd_at td_judge 23 rfl) (by decide) (by decide) (by decide) ?_
  refine lv_icmp_ge (tgt := 113) C.1 C.2.1 (dd_at td_judge 24 rfl) (by decide) (fun c9 => ?_) (fun c9 => ?_)
  · replace hf := fc_of_t hf c9
    refine lv_bipush (v := (-5 : Int32)) C.1 C.2.1 (dd_at td_judge 70 rfl) (by decide) ?_
    exact mm_ri C hM (dd_at td_judge 71 rfl) hf
  · replace hf := fc_of_f hf c9
    refine lv_aload_n C.1 C.2.1 (dd_at td_judge 25 rfl) rfl (lv_at hl 0 rfl) ?_
    refine mm_gA C hM 59 (dd_at td_judge 26 rfl) (by decide) (by decide) (by decide) ?_
    refine lv_iload_n C.1 C.2.1 (dd_at td_judge 27 rfl) rfl (lv_at hl 1 rfl) ?_
    obtain ⟨g10, hf⟩ := fc_of_gd hf
    refine mm_iald C hM 59 (dd_at td_judge 28 rfl) (by decide) (by decide) (fc_of_ix g10) ?_
    refine lv_if_lt (tgt := 69) C.1 C.2.1 (dd_at td_judge 29 rfl) (by decide) (fun c11 => ?_) (fun c11 => ?_)
    · replace hf := fc_of_t hf c11
      refine lv_bipush (v := (100 : Int32)) C.1 C.2.1 (dd_at td_judge 42 rfl) (by decide) ?_
      refine lv_iload_n C.1 C.2.1 (dd_at td_judge 43 rfl) rfl (lv_at hl 3 rfl) ?_
      refine lv_iadd C.1 C.2.1 (dd_at td_judge 44 rfl) ?_
      exact mm_ri C hM (dd_at td_judge 45 rfl) hf
    · replace hf := fc_of_f hf c11
      refine lv_iload_n C.1 C.2.1 (dd_at td_judge 30 rfl) rfl (lv_at hl 2 rfl) ?_
      refine lv_if_lt (tgt := 69) C.1 C.2.1 (dd_at td_judge 31 rfl) (by decide) (fun c12 => ?_) (fun c12 => ?_)
      · replace hf := fc_of_t hf c12
        refine lv_bipush (v := (100 : Int32)) C.1 C.2.1 (dd_at td_judge 42 rfl) (by decide) ?_
        refine lv_iload_n C.1 C.2.1 (dd_at td_judge 43 rfl) rfl (lv_at hl 3 rfl) ?_
        refine lv_iadd C.1 C.2.1 (dd_at td_judge 44 rfl) ?_
        exact mm_ri C hM (dd_at td_judge 45 rfl) hf
      · replace hf := fc_of_f hf c12
        refine lv_iload_n C.1 C.2.1 (dd_at td_judge 32 rfl) rfl (lv_at hl 2 rfl) ?_
        refine lv_aload_n C.1 C.2.1 (dd_at td_judge 33 rfl) rfl (lv_at hl 0 rfl) ?_
        refine mm_gA C hM 60 (dd_at td_judge 34 rfl) (by decide) (by decide) (by decide) ?_
        refine lv_iload_n C.1 C.2.1 (dd_at td_judge 35 rfl) rfl (lv_at hl 1 rfl) ?_
        obtain ⟨g13, hf⟩ := fc_of_gd hf
        refine mm_iald C hM 60 (dd_at td_judge 36 rfl) (by decide) (by decide) (fc_of_ix g13) ?_
        refine lv_iload_n C.1 C.2.1 (dd_at td_judge 37 rfl) rfl (lv_at hl 3 rfl) ?_
        refine lv_isub C.1 C.2.1 (dd_at td_judge 38 rfl) ?_
        refine lv_iconst (v := (1 : Int32)) C.1 C.2.1 (dd_at td_judge 39 rfl) (by decide) ?_
        refine lv_isub C.1 C.2.1 (dd_at td_judge 40 rfl) ?_
        refine lv_icmp_le (tgt := 74) C.1 C.2.1 (dd_at td_judge 41 rfl) (by decide) (fun c14 => ?_) (fun c14 => ?_)
        · replace hf := fc_of_t hf c14
          refine lv_aload_n C.1 C.2.1 (dd_at td_judge 46 rfl) rfl (lv_at hl 0 rfl) ?_
          refine mm_gA C hM 61 (dd_at td_judge 47 rfl) (by decide) (by decide) (by decide) ?_
          refine lv_bipush (v := (60 : Int32)) C.1 C.2.1 (dd_at td_judge 48 rfl) (by decide) ?_
          refine lv_iload_n C.1 C.2.1 (dd_at td_judge 49 rfl) rfl (lv_at hl 1 rfl) ?_
          refine lv_imul C.1 C.2.1 (dd_at td_judge 50 rfl) ?_
          refine lv_iload_n C.1 C.2.1 (dd_at td_judge 51 rfl) rfl (lv_at hl 2 rfl) ?_
          refine lv_iadd C.1 C.2.1 (dd_at td_judge 52 rfl) ?_
          refine lv_iload_n C.1 C.2.1 (dd_at td_judge 53 rfl) rfl (lv_at hl 3 rfl) ?_
          refine lv_iadd C.1 C.2.1 (dd_at td_judge 54 rfl) ?_
          obtain ⟨g15, hf⟩ := fc_of_gd hf
          refine mm_lald C hM 61 (dd_at td_judge 55 rfl) (by decide) (by decide) (fc_of_ix g15) ?_
          refine lv_aload_n C.1 C.2.1 (dd_at td_judge 56 rfl) rfl (lv_at hl 0 rfl) ?_
          refine lv_iload_n C.1 C.2.1 (dd_at td_judge 57 rfl) rfl (lv_at hl 3 rfl) ?_
          refine lv_aload_n C.1 C.2.1 (dd_at td_judge 58 rfl) rfl (lv_at hl 0 rfl) ?_
          refine mm_gI C hM 3 (dd_at td_judge 59 rfl) (by decide) (by decide) (by decide) ?_
          refine lv_aload_n C.1 C.2.1 (dd_at td_judge 60 rfl) rfl (lv_at hl 0 rfl) ?_
          refine mm_gI C hM 1 (dd_at td_judge 61 rfl) (by decide) (by decide) (by decide) ?_
          obtain ⟨r18, st16, hx17, hf⟩ := fc_of_bn hf
          refine mm_ci (As := [.int x3, .int (mm_I st 3), .int (mm_I st 1)]) (rest := [.long (mm_L st 61 ((((60 : Int32) * x1) + x2) + x3).toNatClampNeg)]) (n := 3) C hM (c_worthOf l D o ad cs fu x3 (mm_I st 3) (mm_I st 1) st) (List.mem_of_getElem? (i := 48) rfl) (dd_at td_judge 62 rfl) hx17 hl.1 hd_worthOf ⟨Nat.le_of_ble_eq_true rfl, Nat.le_of_ble_eq_true rfl⟩ rfl rfl (Nat.le_of_ble_eq_true rfl) ⟨Nat.le_refl 0, Nat.le_refl 0⟩ (fun H locs hM => ?_)
          refine lv_i2l C.1 C.2.1 (dd_at td_judge 63 rfl) rfl ?_
          refine W.lcmp C.1 C.2.1 (dd_at td_judge 64 rfl) ?_
          refine lv_if_eq (tgt := 107) C.1 C.2.1 (dd_at td_judge 65 rfl) (by decide) (fun c19 => ?_) (fun c19 => ?_)
          · replace hf := fc_of_t hf c19
            obtain ⟨v20, ev20⟩ : ∃ y : Int32, y = x3 + (1 : Int32) := ⟨_, rfl⟩
            replace hf := fc_of_nm hf v20 ev20
            refine lv_iinc (v := v20) (lv' := [(3, .int v20), (0, .ref o), (1, .int x1), (2, .int x2)]) C.1 C.2.1 (dd_at td_judge 68 rfl) hl (k := 3) rfl (by rw [ev20]; rfl) (by decide) rfl (fun ls hl => ?_)
            refine lv_goto (tgt := 34) C.1 C.2.1 (dd_at td_judge 69 rfl) (by decide) ?_
            exact hK34 x1 x2 v20 st16 _ _ _ hf (lv_sub hl [1, 2, 3, 0] rfl) hM
          · replace hf := fc_of_f hf c19
            refine lv_iload_n C.1 C.2.1 (dd_at td_judge 66 rfl) rfl (lv_at hl 3 rfl) ?_
            exact mm_ri C hM (dd_at td_judge 67 rfl) hf
        · replace hf := fc_of_f hf c14
          refine lv_bipush (v := (100 : Int32)) C.1 C.2.1 (dd_at td_judge 42 rfl) (by decide) ?_
          refine lv_iload_n C.1 C.2.1 (dd_at td_judge 43 rfl) rfl (lv_at hl 3 rfl) ?_
          refine lv_iadd C.1 C.2.1 (dd_at td_judge 44 rfl) ?_
          exact mm_ri C hM (dd_at td_judge 45 rfl) hf
theorem w_judge_b34 {p : Program} {l : Launch} {e : Env} {s : State} {m : MethodId} {args : Array Value} {below : List Frame} {meth : Method} {c : Code} {D : va_G} {o : Nat} {ad : Nat → Nat} {cs : ClassId × ClassId × ClassId} {r : Int32} {st' : mm_S} (C : mm_C p s m args meth c cX12_judge 4 (some .int) D cs) (fu : Nat) (n : Nat) : ∀ (x1 : Int32) (x2 : Int32) (x3 : Int32) (st : mm_S), M_judge_b34 fu n x1 x2 x3 st = some (r, st') → ∀ (H : Heap) (locs : List Loc) (ls : Array Slot), lv_has ls 4 [(0, .ref o), (1, .int x1), (2, .int x2), (3, .int x3)] → mm_H D o ad cs s.heap st H locs → W p l e (mm_R 4 104) s m args below meth c H locs 0 0 (MQ below (mm_Qi D o ad cs r st') args s 0 0 (mm_A o ad)) (F0 m 34 ls []) := by
  induction n with
  | zero => exact fun _ _ _ _ hf => fc_no hf
  | succ n ih =>
    intro x1 x2 x3 st hf H locs ls hl hM
    exact w_judge_b34F C fu (fun x1 x2 x3 st => M_judge_b34 fu n x1 x2 x3 st) (fun x1 x2 x3 st H locs ls hf hl hM => ih x1 x2 x3 st hf H locs ls hl hM) x1 x2 x3 st hf hl hM
theorem w_judge_b32 {p : Program} {l : Launch} {e : Env} {s : State} {m : MethodId} {args : Array Value} {below : List Frame} {meth : Method} {c : Code} {D : va_G} {o : Nat} {ad : Nat → Nat} {cs : ClassId × ClassId × ClassId} {r : Int32} {st' : mm_S} (C : mm_C p s m args meth c cX12_judge 4 (some .int) D cs) (fu : Nat) (x1 : Int32) (x2 : Int32) (st : mm_S) (hf : M_judge_b32 fu x1 x2 st = some (r, st')) {H : Heap} {locs : List Loc} {ls : Array Slot} (hl : lv_has ls 4 [(0, .ref o), (1, .int x1), (2, .int x2)]) (hM : mm_H D o ad cs s.heap st H locs) : W p l e (mm_R 4 104) s m args below meth c H locs 0 0 (MQ below (mm_Qi D o ad cs r st') args s 0 0 (mm_A o ad)) (F0 m 32 ls []) := by
  unfold M_judge_b32 at hf
  refine lv_iconst (v := (0 : Int32)) C.1 C.2.1 (dd_at td_judge 19 rfl) (by decide) ?_
  refine lv_istore_n (lv' := [(3, .int (0 : Int32)), (0, .ref o), (1, .int x1), (2, .int x2)]) C.1 C.2.1 (dd_at td_judge 20 rfl) rfl hl (by decide) rfl (fun ls hl => ?_)
  exact w_judge_b34 C fu fu x1 x2 (0 : Int32) st hf _ _ _ (lv_sub hl [1, 2, 3, 0] rfl) hM
theorem w_judge {p : Program} {l : Launch} {e : Env} {s : State} {m : MethodId} {args : Array Value} {below : List Frame} {meth : Method} {c : Code} {D : va_G} {o : Nat} {ad : Nat → Nat} {cs : ClassId × ClassId × ClassId} {r : Int32} {st' : mm_S} (C : mm_C p s m args meth c cX12_judge 4 (some .int) D cs) (fu : Nat) (x1 : Int32) (x2 : Int32) (st : mm_S) (hf : M_judge fu x1 x2 st = some (r, st')) {H : Heap} {locs : List Loc} {ls : Array Slot} (hl : lv_has ls 4 [(0, .ref o), (1, .int x1), (2, .int x2)]) (hM : mm_H D o ad cs s.heap st H locs) : W p l e (mm_R 4 104) s m args below meth c H locs 0 0 (MQ below (mm_Qi D o ad cs r st') args s 0 0 (mm_A o ad)) (F0 m 0 ls []) := by
  unfold M_judge at hf
  refine lv_aload_n C.1 C.2.1 (dd_at td_judge 0 rfl) rfl (lv_at hl 0 rfl) ?_
  refine lv_iload_n C.1 C.2.1 (dd_at td_judge 1 rfl) rfl (lv_at hl 1 rfl) ?_
  obtain ⟨r3, st1, hx2, hf⟩ := fc_of_bn hf
  refine mm_ci (As := [.int x1]) (rest := []) (n := 1) C hM (c_isTape l D o ad cs fu x1 st) (List.mem_of_getElem? (i := 24) rfl) (dd_at td_judge 2 rfl) hx2 hl.1 hd_isTape ⟨Nat.le_of_ble_eq_true rfl, Nat.le_of_ble_eq_true rfl⟩ rfl rfl (Nat.le_of_ble_eq_true rfl) ⟨Nat.le_refl 0, Nat.le_refl 0⟩ (fun H locs hM => ?_)
  refine lv_if_ne (tgt := 10) C.1 C.2.1 (dd_at td_judge 3 rfl) (by decide) (fun c4 => ?_) (fun c4 => ?_)
  · replace hf := fc_of_f hf c4
    refine lv_aload_n C.1 C.2.1 (dd_at td_judge 6 rfl) rfl (lv_at hl 0 rfl) ?_
    refine mm_gA C hM 59 (dd_at td_judge 7 rfl) (by decide) (by decide) (by decide) ?_
    refine lv_iload_n C.1 C.2.1 (dd_at td_judge 8 rfl) rfl (lv_at hl 1 rfl) ?_
    obtain ⟨g5, hf⟩ := fc_of_gd hf
    refine mm_iald C hM 59 (dd_at td_judge 9 rfl) (by decide) (by decide) (fc_of_ix g5) ?_
    refine lv_if_lt (tgt := 32) C.1 C.2.1 (dd_at td_judge 10 rfl) (by decide) (fun c6 => ?_) (fun c6 => ?_)
    · replace hf := fc_of_t hf c6
      exact w_judge_b32 C fu x1 x2 st1 hf (lv_sub hl [0, 1, 2] rfl) hM
    · replace hf := fc_of_f hf c6
      refine lv_aload_n C.1 C.2.1 (dd_at td_judge 11 rfl) rfl (lv_at hl 0 rfl) ?_
      refine mm_gA C hM 59 (dd_at td_judge 12 rfl) (by decide) (by decide) (by decide) ?_
      refine lv_iload_n C.1 C.2.1 (dd_at td_judge 13 rfl) rfl (lv_at hl 1 rfl) ?_
      obtain ⟨g7, hf⟩ := fc_of_gd hf
      refine mm_iald C hM 59 (dd_at td_judge 14 rfl) (by decide) (by decide) (fc_of_ix g7) ?_
      refine lv_iconst (v := (2 : Int32)) C.1 C.2.1 (dd_at td_judge 15 rfl) (by decide) ?_
      refine lv_icmp_eq (tgt := 32) C.1 C.2.1 (dd_at td_judge 16 rfl) (by decide) (fun c8 => ?_) (fun c8 => ?_)
      · replace hf := fc_of_t hf c8
        exact w_judge_b32 C fu x1 x2 st1 hf (lv_sub hl [0, 1, 2] rfl) hM
      · replace hf := fc_of_f hf c8
        refine lv_bipush (v := (-12 : Int32)) C.1 C.2.1 (dd_at td_judge 17 rfl) (by decide) ?_
        exact mm_ri C hM (dd_at td_judge 18 rfl) hf
  · replace hf := fc_of_t hf c4
    refine lv_iconst (v := (-1 : Int32)) C.1 C.2.1 (dd_at td_judge 4 rfl) (by decide) ?_
    exact mm_ri C hM (dd_at td_judge 5 rfl) hf
theorem c_judge (l : Launch) (D : va_G) (o : Nat) (ad : Nat → Nat) (cs : ClassId × ClassId × ClassId) (fu : Nat) (x1 : Int32) (x2 : Int32) (st : mm_S) : mm_Mi l D o ad cs yX12_judge cX12_judge 4 (some .int) 4 104 [.int x1, .int x2] st (M_judge fu x1 x2 st) := by
  intro r st' hf
  refine mm_enter (cc := cX12_judge) (nL := 4) (ret := some .int) (by decide) rfl (Nat.le_of_ble_eq_true rfl) ?_
  intro p e s m args below meth c ls C hl hM
  exact w_judge C fu x1 x2 st hf hl hM

/-! image -/
def tb_image : List (Nat × Instr × Nat) := [(0, .aload_n 0, 1), (1, .iconst 1, 1), (2, .putfield 127, 3), (5, .aload_n 0, 1), (6, .aload_n 0, 1), (7, .getfield 38, 3), (10, .putfield 131, 3), (13, .aload_n 0, 1), (14, .aload_n 0, 1), (15, .getfield 7, 3), (18, .putfield 134, 3), (21, .aload_n 0, 1), (22, .aload_n 0, 1), (23, .getfield 13, 3), (26, .putfield 137, 3), (29, .aload_n 0, 1), (30, .aload_n 0, 1), (31, .getfield 16, 3), (34, .putfield 140, 3), (37, .aload_n 0, 1), (38, .aload_n 0, 1), (39, .getfield 19, 3), (42, .putfield 143, 3), (45, .aload_n 0, 1), (46, .aload_n 0, 1), (47, .getfield 100, 3), (50, .putfield 146, 3), (53, .aload_n 0, 1), (54, .aload_n 0, 1), (55, .getfield 106, 3), (58, .putfield 149, 3), (61, .aload_n 0, 1), (62, .aload_n 0, 1), (63, .getfield 109, 3), (66, .putfield 152, 3), (69, .iconst 0, 1), (70, .istore_n 1, 1), (71, .iload_n 1, 1), (72, .bipush 6, 2), (74, .if_icmp .ge 45, 3), (77, .aload_n 0, 1), (78, .getfield 155, 3), (81, .iload_n 1, 1), (82, .aload_n 0, 1), (83, .getfield 22, 3), (86, .iload_n 1, 1), (87, .iaload, 1), (88, .iastore, 1), (89, .aload_n 0, 1), (90, .getfield 158, 3), (93, .iload_n 1, 1), (94, .aload_n 0, 1), (95, .getfield 26, 3), (98, .iload_n 1, 1), (99, .iaload, 1), (100, .iastore, 1), (101, .aload_n 0, 1), (102, .getfield 161, 3), (105, .iload_n 1, 1), (106, .aload_n 0, 1), (107, .getfield 29, 3), (110, .iload_n 1, 1), (111, .iaload, 1), (112, .iastore, 1), (113, .iinc 1 1, 3), (116, .goto (-45), 3), (119, .iconst 0, 1), (120, .istore_n 1, 1), (121, .iload_n 1, 1), (122, .bipush 24, 2), (124, .if_icmp .ge 21, 3), (127, .aload_n 0, 1), (128, .getfield 164, 3), (131, .iload_n 1, 1), (132, .aload_n 0, 1), (133, .getfield 32, 3), (136, .iload_n 1, 1), (137, .iaload, 1), (138, .iastore, 1), (139, .iinc 1 1, 3), (142, .goto (-21), 3), (145, .iconst 0, 1), (146, .istore_n 1, 1), (147, .iload_n 1, 1), (148, .iconst 5, 1), (149, .if_icmp .ge 45, 3), (152, .aload_n 0, 1), (153, .getfield 170, 3), (156, .iload_n 1, 1), (157, .aload_n 0, 1), (158, .getfield 112, 3), (161, .iload_n 1, 1), (162, .iaload, 1), (163, .iastore, 1), (164, .aload_n 0, 1), (165, .getfield 173, 3), (168, .iload_n 1, 1), (169, .aload_n 0, 1), (170, .getfield 115, 3), (173, .iload_n 1, 1), (174, .iaload, 1), (175, .iastore, 1), (176, .aload_n 0, 1), (177, .getfield 176, 3), (180, .iload_n 1, 1), (181, .aload_n 0, 1), (182, .getfield 118, 3), (185, .iload_n 1, 1), (186, .iaload, 1), (187, .iastore, 1), (188, .iinc 1 1, 3), (191, .goto (-44), 3), (194, .iconst 0, 1), (195, .istore_n 1, 1), (196, .iload_n 1, 1), (197, .bipush 8, 2), (199, .if_icmp .ge 45, 3), (202, .aload_n 0, 1), (203, .getfield 167, 3), (206, .iload_n 1, 1), (207, .aload_n 0, 1), (208, .getfield 103, 3), (211, .iload_n 1, 1), (212, .iaload, 1), (213, .iastore, 1), (214, .aload_n 0, 1), (215, .getfield 179, 3), (218, .iload_n 1, 1), (219, .aload_n 0, 1), (220, .getfield 121, 3), (223, .iload_n 1, 1), (224, .iaload, 1), (225, .iastore, 1), (226, .aload_n 0, 1), (227, .getfield 182, 3), (230, .iload_n 1, 1), (231, .aload_n 0, 1), (232, .getfield 124, 3), (235, .iload_n 1, 1), (236, .iaload, 1), (237, .iastore, 1), (238, .iinc 1 1, 3), (241, .goto (-45), 3), (244, .aload_n 0, 1), (245, .getfield 7, 3), (248, .ireturn, 1)]
theorem td_image : tb_image.all (fun q => decide (decode cX12_image q.1 = .ok (q.2.1, q.2.2))) = true := by decide +kernel
theorem w_image_b196F {p : Program} {l : Launch} {e : Env} {s : State} {m : MethodId} {args : Array Value} {below : List Frame} {meth : Method} {c : Code} {D : va_G} {o : Nat} {ad : Nat → Nat} {cs : ClassId × ClassId × ClassId} {r : Int32} {st' : mm_S} (C : mm_C p s m args meth c cX12_image 2 (some .int) D cs) (fu : Nat) (K196 : Int32 → mm_S → Option (Int32 × mm_S)) (hK196 : ∀ (x1 : Int32) (st : mm_S) (H : Heap) (locs : List Loc) (ls : Array Slot), K196 x1 st = some (r, st') → lv_has ls 2 [(0, .ref o), (1, .int x1)] → mm_H D o ad cs s.heap st H locs → W p l e (mm_R 0 0) s m args below meth c H locs 0 0 (MQ below (mm_Qi D o ad cs r st') args s 0 0 (mm_A o ad)) (F0 m 196 ls [])) (x1 : Int32) (st : mm_S) (hf : M_image_b196F fu K196 x1 st = some (r, st')) {H : Heap} {locs : List Loc} {ls : Array Slot} (hl : lv_has ls 2 [(0, .ref o), (1, .int x1)]) (hM : mm_H D o ad cs s.heap st H locs) : W p l e (mm_R 0 0) s m args below meth c H locs 0 0 (MQ below (mm_Qi D o ad cs r st') args s 0 0 (mm_A o ad)) (F0 m 196 ls []) := by
  unfold M_image_b196F at hf
  refine lv_iload_n C.1 C.2.1 (dd_at td_image 114 rfl) rfl (lv_at hl 1 rfl) ?_
  refine lv_bipush (v := (8 : Int32)) C.1 C.2.1 (dd_at td_image 115 rfl) (by decide) ?_
  refine lv_icmp_ge (tgt := 244) C.1 C.2.1 (dd_at td_image 116 rfl) (by decide) (fun c37 => ?_) (fun c37 => ?_)
  · replace hf := fc_of_t hf c37
    refine lv_aload_n C.1 C.2.1 (dd_at td_image 143 rfl) rfl (lv_at hl 0 rfl) ?_
    refine mm_gI C hM 0 (dd_at td_image 144 rfl) (by decide) (by decide) (by decide) ?_
    exact mm_ri C hM (dd_at td_image 145 rfl) hf
  · replace hf := fc_of_f hf c37
    refine lv_aload_n C.1 C.2.1 (dd_at td_image 117 rfl) rfl (lv_at hl 0 rfl) ?_
    refine mm_gA C hM 51 (dd_at td_image 118 rfl) (by decide) (by decide) (by decide) ?_
    refine lv_iload_n C.1 C.2.1 (dd_at td_image 119 rfl) rfl (lv_at hl 1 rfl) ?_
    refine lv_aload_n C.1 C.2.1 (dd_at td_image 120 rfl) rfl (lv_at hl 0 rfl) ?_
    refine mm_gA C hM 30 (dd_at td_image 121 rfl) (by decide) (by decide) (by decide) ?_
    refine lv_iload_n C.1 C.2.1 (dd_at td_image 122 rfl) rfl (lv_at hl 1 rfl) ?_
    obtain ⟨g38, hf⟩ := fc_of_gd hf
    refine mm_iald C hM 30 (dd_at td_image 123 rfl) (by decide) (by decide) (fc_of_ix g38) ?_
    obtain ⟨g39, hf⟩ := fc_of_gd hf
    refine mm_iast C hM 51 (dd_at td_image 124 rfl) (by decide) (by decide) (fc_of_ix g39) (fun st40 H locs est40 hM => ?_)
    replace hf := fc_of_nm hf st40 est40
    refine lv_aload_n C.1 C.2.1 (dd_at td_image 125 rfl) rfl (lv_at hl 0 rfl) ?_
    refine mm_gA C hM 55 (dd_at td_image 126 rfl) (by decide) (by decide) (by decide) ?_
    refine lv_iload_n C.1 C.2.1 (dd_at td_image 127 rfl) rfl (lv_at hl 1 rfl) ?_
    refine lv_aload_n C.1 C.2.1 (dd_at td_image 128 rfl) rfl (lv_at hl 0 rfl) ?_
    refine mm_gA C hM 36 (dd_at td_image 129 rfl) (by decide) (by decide) (by decide) ?_
    refine lv_iload_n C.1 C.2.1 (dd_at td_image 130 rfl) rfl (lv_at hl 1 rfl) ?_
    obtain ⟨g41, hf⟩ := fc_of_gd hf
    refine mm_iald C hM 36 (dd_at td_image 131 rfl) (by decide) (by decide) (fc_of_ix g41) ?_
    obtain ⟨g42, hf⟩ := fc_of_gd hf
    refine mm_iast C hM 55 (dd_at td_image 132 rfl) (by decide) (by decide) (fc_of_ix g42) (fun st43 H locs est43 hM => ?_)
    replace hf := fc_of_nm hf st43 est43
    refine lv_aload_n C.1 C.2.1 (dd_at td_image 133 rfl) rfl (lv_at hl 0 rfl) ?_
    refine mm_gA C hM 56 (dd_at td_image 134 rfl) (by decide) (by decide) (by decide) ?_
    refine lv_iload_n C.1 C.2.1 (dd_at td_image 135 rfl) rfl (lv_at hl 1 rfl) ?_
    refine lv_aload_n C.1 C.2.1 (dd_at td_image 136 rfl) rfl (lv_at hl 0 rfl) ?_
    refine mm_gA C hM 37 (dd_at td_image 137 rfl) (by decide) (by decide) (by decide) ?_
    refine lv_iload_n C.1 C.2.1 (dd_at td_image 138 rfl) rfl (lv_at hl 1 rfl) ?_
    obtain ⟨g44, hf⟩ := fc_of_gd hf
    refine mm_iald C hM 37 (dd_at td_image 139 rfl) (by decide) (by decide) (fc_of_ix g44) ?_
    obtain ⟨g45, hf⟩ := fc_of_gd hf
    refine mm_iast C hM 56 (dd_at td_image 140 rfl) (by decide) (by decide) (fc_of_ix g45) (fun st46 H locs est46 hM => ?_)
    replace hf := fc_of_nm hf st46 est46
    obtain ⟨v47, ev47⟩ : ∃ y : Int32, y = x1 + (1 : Int32) := ⟨_, rfl⟩
    replace hf := fc_of_nm hf v47 ev47
    refine lv_iinc (v := v47) (lv' := [(1, .int v47), (0, .ref o)]) C.1 C.2.1 (dd_at td_image 141 rfl) hl (k := 1) rfl (by rw [ev47]; rfl) (by decide) rfl (fun ls hl => ?_)
    refine lv_goto (tgt := 196) C.1 C.2.1 (dd_at td_image 142 rfl) (by decide) ?_
    exact hK196 v47 st46 _ _ _ hf (lv_sub hl [1, 0] rfl) hM
theorem w_image_b196 {p : Program} {l : Launch} {e : Env} {s : State} {m : MethodId} {args : Array Value} {below : List Frame} {meth : Method} {c : Code} {D : va_G} {o : Nat} {ad : Nat → Nat} {cs : ClassId × ClassId × ClassId} {r : Int32} {st' : mm_S} (C : mm_C p s m args meth c cX12_image 2 (some .int) D cs) (fu : Nat) (n : Nat) : ∀ (x1 : Int32) (st : mm_S), M_image_b196 fu n x1 st = some (r, st') → ∀ (H : Heap) (locs : List Loc) (ls : Array Slot), lv_has ls 2 [(0, .ref o), (1, .int x1)] → mm_H D o ad cs s.heap st H locs → W p l e (mm_R 0 0) s m args below meth c H locs 0 0 (MQ below (mm_Qi D o ad cs r st') args s 0 0 (mm_A o ad)) (F0 m 196 ls []) := by
  induction n with
  | zero => exact fun _ _ hf => fc_no hf
  | succ n ih =>
    intro x1 st hf H locs ls hl hM
    exact w_image_b196F C fu (fun x1 st => M_image_b196 fu n x1 st) (fun x1 st H locs ls hf hl hM => ih x1 st hf H locs ls hl hM) x1 st hf hl hM
theorem w_image_b147F {p : Program} {l : Launch} {e : Env} {s : State} {m : MethodId} {args : Array Value} {below : List Frame} {meth : Method} {c : Code} {D : va_G} {o : Nat} {ad : Nat → Nat} {cs : ClassId × ClassId × ClassId} {r : Int32} {st' : mm_S} (C : mm_C p s m args meth c cX12_image 2 (some .int) D cs) (fu : Nat) (K147 : Int32 → mm_S → Option (Int32 × mm_S)) (hK147 : ∀ (x1 : Int32) (st : mm_S) (H : Heap) (locs : List Loc) (ls : Array Slot), K147 x1 st = some (r, st') → lv_has ls 2 [(0, .ref o), (1, .int x1)] → mm_H D o ad cs s.heap st H locs → W p l e (mm_R 0 0) s m args below meth c H locs 0 0 (MQ below (mm_Qi D o ad cs r st') args s 0 0 (mm_A o ad)) (F0 m 147 ls [])) (x1 : Int32) (st : mm_S) (hf : M_image_b147F fu K147 x1 st = some (r, st')) {H : Heap} {locs : List Loc} {ls : Array Slot} (hl : lv_has ls 2 [(0, .ref o), (1, .int x1)]) (hM : mm_H D o ad cs s.heap st H locs) : W p l e (mm_R 0 0) s m args below meth c H locs 0 0 (MQ below (mm_Qi D o ad cs r st') args s 0 0 (mm_A o ad)) (F0 m 147 ls []) := by
  unfold M_image_b147F at hf
  refine lv_iload_n C.1 C.2.1 (dd_at td_image 83 rfl) rfl (lv_at hl 1 rfl) ?_
  refine lv_iconst (v := (5 : Int32)) C.1 C.2.1 (dd_at td_image 84 rfl) (by decide) ?_
  refine lv_icmp_ge (tgt := 194) C.1 C.2.1 (dd_at td_image 85 rfl) (by decide) (fun c26 => ?_) (fun c26 => ?_)
  · replace hf := fc_of_t hf c26
    refine lv_iconst (v := (0 : Int32)) C.1 C.2.1 (dd_at td_image 112 rfl) (by decide) ?_
    refine lv_istore_n (lv' := [(1, .int (0 : Int32)), (0, .ref o)]) C.1 C.2.1 (dd_at td_image 113 rfl) rfl hl (by decide) rfl (fun ls hl => ?_)
    exact w_image_b196 C fu fu (0 : Int32) st hf _ _ _ (lv_sub hl [1, 0] rfl) hM
  · replace hf := fc_of_f hf c26
    refine lv_aload_n C.1 C.2.1 (dd_at td_image 86 rfl) rfl (lv_at hl 0 rfl) ?_
    refine mm_gA C hM 52 (dd_at td_image 87 rfl) (by decide) (by decide) (by decide) ?_
    refine lv_iload_n C.1 C.2.1 (dd_at td_image 88 rfl) rfl (lv_at hl 1 rfl) ?_
    refine lv_aload_n C.1 C.2.1 (dd_at td_image 89 rfl) rfl (lv_at hl 0 rfl) ?_
    refine mm_gA C hM 33 (dd_at td_image 90 rfl) (by decide) (by decide) (by decide) ?_
    refine lv_iload_n C.1 C.2.1 (dd_at td_image 91 rfl) rfl (lv_at hl 1 rfl) ?_
    obtain ⟨g27, hf⟩ := fc_of_gd hf
    refine mm_iald C hM 33 (dd_at td_image 92 rfl) (by decide) (by decide) (fc_of_ix g27) ?_
    obtain ⟨g28, hf⟩ := fc_of_gd hf
    refine mm_iast C hM 52 (dd_at td_image 93 rfl) (by decide) (by decide) (fc_of_ix g28) (fun st29 H locs est29 hM => ?_)
    replace hf := fc_of_nm hf st29 est29
    refine lv_aload_n C.1 C.2.1 (dd_at td_image 94 rfl) rfl (lv_at hl 0 rfl) ?_
    refine mm_gA C hM 53 (dd_at td_image 95 rfl) (by decide) (by decide) (by decide) ?_
    refine lv_iload_n C.1 C.2.1 (dd_at td_image 96 rfl) rfl (lv_at hl 1 rfl) ?_
    refine lv_aload_n C.1 C.2.1 (dd_at td_image 97 rfl) rfl (lv_at hl 0 rfl) ?_
    refine mm_gA C hM 34 (dd_at td_image 98 rfl) (by decide) (by decide) (by decide) ?_
    refine lv_iload_n C.1 C.2.1 (dd_at td_image 99 rfl) rfl (lv_at hl 1 rfl) ?_
    obtain ⟨g30, hf⟩ := fc_of_gd hf
    refine mm_iald C hM 34 (dd_at td_image 100 rfl) (by decide) (by decide) (fc_of_ix g30) ?_
    obtain ⟨g31, hf⟩ := fc_of_gd hf
    refine mm_iast C hM 53 (dd_at td_image 101 rfl) (by decide) (by decide) (fc_of_ix g31) (fun st32 H locs est32 hM => ?_)
    replace hf := fc_of_nm hf st32 est32
    refine lv_aload_n C.1 C.2.1 (dd_at td_image 102 rfl) rfl (lv_at hl 0 rfl) ?_
    refine mm_gA C hM 54 (dd_at td_image 103 rfl) (by decide) (by decide) (by decide) ?_
    refine lv_iload_n C.1 C.2.1 (dd_at td_image 104 rfl) rfl (lv_at hl 1 rfl) ?_
    refine lv_aload_n C.1 C.2.1 (dd_at td_image 105 rfl) rfl (lv_at hl 0 rfl) ?_
    refine mm_gA C hM 35 (dd_at td_image 106 rfl) (by decide) (by decide) (by decide) ?_
    refine lv_iload_n C.1 C.2.1 (dd_at td_image 107 rfl) rfl (lv_at hl 1 rfl) ?_
    obtain ⟨g33, hf⟩ := fc_of_gd hf
    refine mm_iald C hM 35 (dd_at td_image 108 rfl) (by decide) (by decide) (fc_of_ix g33) ?_
    obtain ⟨g34, hf⟩ := fc_of_gd hf
    refine mm_iast C hM 54 (dd_at td_image 109 rfl) (by decide) (by decide) (fc_of_ix g34) (fun st35 H locs est35 hM => ?_)
    replace hf := fc_of_nm hf st35 est35
    obtain ⟨v36, ev36⟩ : ∃ y : Int32, y = x1 + (1 : Int32) := ⟨_, rfl⟩
    replace hf := fc_of_nm hf v36 ev36
    refine lv_iinc (v := v36) (lv' := [(1, .int v36), (0, .ref o)]) C.1 C.2.1 (dd_at td_image 110 rfl) hl (k := 1) rfl (by rw [ev36]; rfl) (by decide) rfl (fun ls hl => ?_)
    refine lv_goto (tgt := 147) C.1 C.2.1 (dd_at td_image 111 rfl) (by decide) ?_
    exact hK147 v36 st35 _ _ _ hf (lv_sub hl [1, 0] rfl) hM
theorem w_image_b147 {p : Program} {l : Launch} {e : Env} {s : State} {m : MethodId} {args : Array Value} {below : List Frame} {meth : Method} {c : Code} {D : va_G} {o : Nat} {ad : Nat → Nat} {cs : ClassId × ClassId × ClassId} {r : Int32} {st' : mm_S} (C : mm_C p s m args meth c cX12_image 2 (some .int) D cs) (fu : Nat) (n : Nat) : ∀ (x1 : Int32) (st : mm_S), M_image_b147 fu n x1 st = some (r, st') → ∀ (H : Heap) (locs : List Loc) (ls : Array Slot), lv_has ls 2 [(0, .ref o), (1, .int x1)] → mm_H D o ad cs s.heap st H locs → W p l e (mm_R 0 0) s m args below meth c H locs 0 0 (MQ below (mm_Qi D o ad cs r st') args s 0 0 (mm_A o ad)) (F0 m 147 ls []) := by
  induction n with
  | zero => exact fun _ _ hf => fc_no hf
  | succ n ih =>
    intro x1 st hf H locs ls hl hM
    exact w_image_b147F C fu (fun x1 st => M_image_b147 fu n x1 st) (fun x1 st H locs ls hf hl hM => ih x1 st hf H locs ls hl hM) x1 st hf hl hM
theorem w_image_b121F {p : Program} {l : Launch} {e : Env} {s : State} {m : MethodId} {args : Array Value} {below : List Frame} {meth : Method} {c : Code} {D : va_G} {o : Nat} {ad : Nat → Nat} {cs : ClassId × ClassId × ClassId} {r : Int32} {st' : mm_S} (C : mm_C p s m args meth c cX12_image 2 (some .int) D cs) (fu : Nat) (K121 : Int32 → mm_S → Option (Int32 × mm_S)) (hK121 : ∀ (x1 : Int32) (st : mm_S) (H : Heap) (locs : List Loc) (ls : Array Slot), K121 x1 st = some (r, st') → lv_has ls 2 [(0, .ref o), (1, .int x1)] → mm_H D o ad cs s.heap st H locs → W p l e (mm_R 0 0) s m args below meth c H locs 0 0 (MQ below (mm_Qi D o ad cs r st') args s 0 0 (mm_A o ad)) (F0 m 121 ls [])) (x1 : Int32) (st : mm_S) (hf : M_image_b121F fu K121 x1 st = some (r, st')) {H : Heap} {locs : List Loc} {ls : Array Slot} (hl : lv_has ls 2 [(0, .ref o), (1, .int x1)]) (hM : mm_H D o ad cs s.heap st H locs) : W p l e (mm_R 0 0) s m args below meth c H locs 0 0 (MQ below (mm_Qi D o ad cs r st') args s 0 0 (mm_A o ad)) (F0 m 121 ls []) := by
  unfold M_image_b121F at hf
  refine lv_iload_n C.1 C.2.1 (dd_at td_image 68 rfl) rfl (lv_at hl 1 rfl) ?_
  refine lv_bipush (v := (24 : Int32)) C.1 C.2.1 (dd_at td_image 69 rfl) (by decide) ?_
  refine lv_icmp_ge (tgt := 145) C.1 C.2.1 (dd_at td_image 70 rfl) (by decide) (fun c21 => ?_) (fun c21 => ?_)
  · replace hf := fc_of_t hf c21
    refine lv_iconst (v := (0 : Int32)) C.1 C.2.1 (dd_at td_image 81 rfl) (by decide) ?_
    refine lv_istore_n (lv' := [(1, .int (0 : Int32)), (0, .ref o)]) C.1 C.2.1 (dd_at td_image 82 rfl) rfl hl (by decide) rfl (fun ls hl => ?_)
    exact w_image_b147 C fu fu (0 : Int32) st hf _ _ _ (lv_sub hl [1, 0] rfl) hM
  · replace hf := fc_of_f hf c21
    refine lv_aload_n C.1 C.2.1 (dd_at td_image 71 rfl) rfl (lv_at hl 0 rfl) ?_
    refine mm_gA C hM 50 (dd_at td_image 72 rfl) (by decide) (by decide) (by decide) ?_
    refine lv_iload_n C.1 C.2.1 (dd_at td_image 73 rfl) rfl (lv_at hl 1 rfl) ?_
    refine lv_aload_n C.1 C.2.1 (dd_at td_image 74 rfl) rfl (lv_at hl 0 rfl) ?_
    refine mm_gA C hM 7 (dd_at td_image 75 rfl) (by decide) (by decide) (by decide) ?_
    refine lv_iload_n C.1 C.2.1 (dd_at td_image 76 rfl) rfl (lv_at hl 1 rfl) ?_
    obtain ⟨g22, hf⟩ := fc_of_gd hf
    refine mm_iald C hM 7 (dd_at td_image 77 rfl) (by decide) (by decide) (fc_of_ix g22) ?_
    obtain ⟨g23, hf⟩ := fc_of_gd hf
    refine mm_iast C hM 50 (dd_at td_image 78 rfl) (by decide) (by decide) (fc_of_ix g23) (fun st24 H locs est24 hM => ?_)
    replace hf := fc_of_nm hf st24 est24
    obtain ⟨v25, ev25⟩ : ∃ y : Int32, y = x1 + (1 : Int32) := ⟨_, rfl⟩
    replace hf := fc_of_nm hf v25 ev25
    refine lv_iinc (v := v25) (lv' := [(1, .int v25), (0, .ref o)]) C.1 C.2.1 (dd_at td_image 79 rfl) hl (k := 1) rfl (by rw [ev25]; rfl) (by decide) rfl (fun ls hl => ?_)
    refine lv_goto (tgt := 121) C.1 C.2.1 (dd_at td_image 80 rfl) (by decide) ?_
    exact hK121 v25 st24 _ _ _ hf (lv_sub hl [1, 0] rfl) hM
theorem w_image_b121 {p : Program} {l : Launch} {e : Env} {s : State} {m : MethodId} {args : Array Value} {below : List Frame} {meth : Method} {c : Code} {D : va_G} {o : Nat} {ad : Nat → Nat} {cs : ClassId × ClassId × ClassId} {r : Int32} {st' : mm_S} (C : mm_C p s m args meth c cX12_image 2 (some .int) D cs) (fu : Nat) (n : Nat) : ∀ (x1 : Int32) (st : mm_S), M_image_b121 fu n x1 st = some (r, st') → ∀ (H : Heap) (locs : List Loc) (ls : Array Slot), lv_has ls 2 [(0, .ref o), (1, .int x1)] → mm_H D o ad cs s.heap st H locs → W p l e (mm_R 0 0) s m args below meth c H locs 0 0 (MQ below (mm_Qi D o ad cs r st') args s 0 0 (mm_A o ad)) (F0 m 121 ls []) := by
  induction n with
  | zero => exact fun _ _ hf => fc_no hf
  | succ n ih =>
    intro x1 st hf H locs ls hl hM
    exact w_image_b121F C fu (fun x1 st => M_image_b121 fu n x1 st) (fun x1 st H locs ls hf hl hM => ih x1 st hf H locs ls hl hM) x1 st hf hl hM
theorem w_image_b71F {p : Program} {l : Launch} {e : Env} {s : State} {m : MethodId} {args : Array Value} {below : List Frame} {meth : Method} {c : Code} {D : va_G} {o : Nat} {ad : Nat → Nat} {cs : ClassId × ClassId × ClassId} {r : Int32} {st' : mm_S} (C : mm_C p s m args meth c cX12_image 2 (some .int) D cs) (fu : Nat) (K71 : Int32 → mm_S → Option (Int32 × mm_S)) (hK71 : ∀ (x1 : Int32) (st : mm_S) (H : Heap) (locs : List Loc) (ls : Array Slot), K71 x1 st = some (r, st') → lv_has ls 2 [(0, .ref o), (1, .int x1)] → mm_H D o ad cs s.heap st H locs → W p l e (mm_R 0 0) s m args below meth c H locs 0 0 (MQ below (mm_Qi D o ad cs r st') args s 0 0 (mm_A o ad)) (F0 m 71 ls [])) (x1 : Int32) (st : mm_S) (hf : M_image_b71F fu K71 x1 st = some (r, st')) {H : Heap} {locs : List Loc} {ls : Array Slot} (hl : lv_has ls 2 [(0, .ref o), (1, .int x1)]) (hM : mm_H D o ad cs s.heap st H locs) : W p l e (mm_R 0 0) s m args below meth c H locs 0 0 (MQ below (mm_Qi D o ad cs r st') args s 0 0 (mm_A o ad)) (F0 m 71 ls []) := by
  unfold M_image_b71F at hf
  refine lv_iload_n C.1 C.2.1 (dd_at td_image 37 rfl) rfl (lv_at hl 1 rfl) ?_
  refine lv_bipush (v := (6 : Int32)) C.1 C.2.1 (dd_at td_image 38 rfl) (by decide) ?_
  refine lv_icmp_ge (tgt := 119) C.1 C.2.1 (dd_at td_image 39 rfl) (by decide) (fun c10 => ?_) (fun c10 => ?_)
  · replace hf := fc_of_t hf c10
    refine lv_iconst (v := (0 : Int32)) C.1 C.2.1 (dd_at td_image 66 rfl) (by decide) ?_
    refine lv_istore_n (lv' := [(1, .int (0 : Int32)), (0, .ref o)]) C.1 C.2.1 (dd_at td_image 67 rfl) rfl hl (by decide) rfl (fun ls hl => ?_)
    exact w_image_b121 C fu fu (0 : Int32) st hf _ _ _ (lv_sub hl [1, 0] rfl) hM
  · replace hf := fc_of_f hf c10
    refine lv_aload_n C.1 C.2.1 (dd_at td_image 40 rfl) rfl (lv_at hl 0 rfl) ?_
    refine mm_gA C hM 47 (dd_at td_image 41 rfl) (by decide) (by decide) (by decide) ?_
    refine lv_iload_n C.1 C.2.1 (dd_at td_image 42 rfl) rfl (lv_at hl 1 rfl) ?_
    refine lv_aload_n C.1 C.2.1 (dd_at td_image 43 rfl) rfl (lv_at hl 0 rfl) ?_
    refine mm_gA C hM 4 (dd_at td_image 44 rfl) (by decide) (by decide) (by decide) ?_
    refine lv_iload_n C.1 C.2.1 (dd_at td_image 45 rfl) rfl (lv_at hl 1 rfl) ?_
    obtain ⟨g11, hf⟩ := fc_of_gd hf
    refine mm_iald C hM 4 (dd_at td_image 46 rfl) (by decide) (by decide) (fc_of_ix g11) ?_
    obtain ⟨g12, hf⟩ := fc_of_gd hf
    refine mm_iast C hM 47 (dd_at td_image 47 rfl) (by decide) (by decide) (fc_of_ix g12) (fun st13 H locs est13 hM => ?_)
    replace hf := fc_of_nm hf st13 est13
    refine lv_aload_n C.1 C.2.1 (dd_at td_image 48 rfl) rfl (lv_at hl 0 rfl) ?_
    refine mm_gA C hM 48 (dd_at td_image 49 rfl) (by decide) (by decide) (by decide) ?_
    refine lv_iload_n C.1 C.2.1 (dd_at td_image 50 rfl) rfl (lv_at hl 1 rfl) ?_
    refine lv_aload_n C.1 C.2.1 (dd_at td_image 51 rfl) rfl (lv_at hl 0 rfl) ?_
    refine mm_gA C hM 5 (dd_at td_image 52 rfl) (by decide) (by decide) (by decide) ?_
    refine lv_iload_n C.1 C.2.1 (dd_at td_image 53 rfl) rfl (lv_at hl 1 rfl) ?_
    obtain ⟨g14, hf⟩ := fc_of_gd hf
    refine mm_iald C hM 5 (dd_at td_image 54 rfl) (by decide) (by decide) (fc_of_ix g14) ?_
    obtain ⟨g15, hf⟩ := fc_of_gd hf
    refine mm_iast C hM 48 (dd_at td_image 55 rfl) (by decide) (by decide) (fc_of_ix g15) (fun st16 H locs est16 hM => ?_)
    replace hf := fc_of_nm hf st16 est16
    refine lv_aload_n C.1 C.2.1 (dd_at td_image 56 rfl) rfl (lv_at hl 0 rfl) ?_
    refine mm_gA C hM 49 (dd_at td_image 57 rfl) (by decide) (by decide) (by decide) ?_
    refine lv_iload_n C.1 C.2.1 (dd_at td_image 58 rfl) rfl (lv_at hl 1 rfl) ?_
    refine lv_aload_n C.1 C.2.1 (dd_at td_image 59 rfl) rfl (lv_at hl 0 rfl) ?_
    refine mm_gA C hM 6 (dd_at td_image 60 rfl) (by decide) (by decide) (by decide) ?_
    refine lv_iload_n C.1 C.2.1 (dd_at td_image 61 rfl) rfl (lv_at hl 1 rfl) ?_
    obtain ⟨g17, hf⟩ := fc_of_gd hf
    refine mm_iald C hM 6 (dd_at td_image 62 rfl) (by decide) (by decide) (fc_of_ix g17) ?_
    obtain ⟨g18, hf⟩ := fc_of_gd hf
    refine mm_iast C hM 49 (dd_at td_image 63 rfl) (by decide) (by decide) (fc_of_ix g18) (fun st19 H locs est19 hM => ?_)
    replace hf := fc_of_nm hf st19 est19
    obtain ⟨v20, ev20⟩ : ∃ y : Int32, y = x1 + (1 : Int32) := ⟨_, rfl⟩
    replace hf := fc_of_nm hf v20 ev20
    refine lv_iinc (v := v20) (lv' := [(1, .int v20), (0, .ref o)]) C.1 C.2.1 (dd_at td_image 64 rfl) hl (k := 1) rfl (by rw [ev20]; rfl) (by decide) rfl (fun ls hl => ?_)
    refine lv_goto (tgt := 71) C.1 C.2.1 (dd_at td_image 65 rfl) (by decide) ?_
    exact hK71 v20 st19 _ _ _ hf (lv_sub hl [1, 0] rfl) hM
theorem w_image_b71 {p : Program} {l : Launch} {e : Env} {s : State} {m : MethodId} {args : Array Value} {below : List Frame} {meth : Method} {c : Code} {D : va_G} {o : Nat} {ad : Nat → Nat} {cs : ClassId × ClassId × ClassId} {r : Int32} {st' : mm_S} (C : mm_C p s m args meth c cX12_image 2 (some .int) D cs) (fu : Nat) (n : Nat) : ∀ (x1 : Int32) (st : mm_S), M_image_b71 fu n x1 st = some (r, st') → ∀ (H : Heap) (locs : List Loc) (ls : Array Slot), lv_has ls 2 [(0, .ref o), (1, .int x1)] → mm_H D o ad cs s.heap st H locs → W p l e (mm_R 0 0) s m args below meth c H locs 0 0 (MQ below (mm_Qi D o ad cs r st') args s 0 0 (mm_A o ad)) (F0 m 71 ls []) := by
  induction n with
  | zero => exact fun _ _ hf => fc_no hf
  | succ n ih =>
    intro x1 st hf H locs ls hl hM
    exact w_image_b71F C fu (fun x1 st => M_image_b71 fu n x1 st) (fun x1 st H locs ls hf hl hM => ih x1 st hf H locs ls hl hM) x1 st hf hl hM
theorem w_image {p : Program} {l : Launch} {e : Env} {s : State} {m : MethodId} {args : Array Value} {below : List Frame} {meth : Method} {c : Code} {D : va_G} {o : Nat} {ad : Nat → Nat} {cs : ClassId × ClassId × ClassId} {r : Int32} {st' : mm_S} (C : mm_C p s m args meth c cX12_image 2 (some .int) D cs) (fu : Nat) (st : mm_S) (hf : M_image fu st = some (r, st')) {H : Heap} {locs : List Loc} {ls : Array Slot} (hl : lv_has ls 2 [(0, .ref o)]) (hM : mm_H D o ad cs s.heap st H locs) : W p l e (mm_R 0 0) s m args below meth c H locs 0 0 (MQ below (mm_Qi D o ad cs r st') args s 0 0 (mm_A o ad)) (F0 m 0 ls []) := by
  unfold M_image at hf
  refine lv_aload_n C.1 C.2.1 (dd_at td_image 0 rfl) rfl (lv_at hl 0 rfl) ?_
  refine lv_iconst (v := (1 : Int32)) C.1 C.2.1 (dd_at td_image 1 rfl) (by decide) ?_
  refine mm_pI C hM 38 (dd_at td_image 2 rfl) (by decide) (by decide) (by decide) rfl rfl (fun st1 H locs est1 hM => ?_)
  replace hf := fc_of_nm hf st1 est1
  refine lv_aload_n C.1 C.2.1 (dd_at td_image 3 rfl) rfl (lv_at hl 0 rfl) ?_
  refine lv_aload_n C.1 C.2.1 (dd_at td_image 4 rfl) rfl (lv_at hl 0 rfl) ?_
  refine mm_gI C hM 9 (dd_at td_image 5 rfl) (by decide) (by decide) (by decide) ?_
  refine mm_pI C hM 39 (dd_at td_image 6 rfl) (by decide) (by decide) (by decide) rfl rfl (fun st2 H locs est2 hM => ?_)
  replace hf := fc_of_nm hf st2 est2
  refine lv_aload_n C.1 C.2.1 (dd_at td_image 7 rfl) rfl (lv_at hl 0 rfl) ?_
  refine lv_aload_n C.1 C.2.1 (dd_at td_image 8 rfl) rfl (lv_at hl 0 rfl) ?_
  refine mm_gI C hM 0 (dd_at td_image 9 rfl) (by decide) (by decide) (by decide) ?_
  refine mm_pI C hM 40 (dd_at td_image 10 rfl) (by decide) (by decide) (by decide) rfl rfl (fun st3 H locs est3 hM => ?_)
  replace hf := fc_of_nm hf st3 est3
  refine lv_aload_n C.1 C.2.1 (dd_at td_image 11 rfl) rfl (lv_at hl 0 rfl) ?_
  refine lv_aload_n C.1 C.2.1 (dd_at td_image 12 rfl) rfl (lv_at hl 0 rfl) ?_
  refine mm_gI C hM 1 (dd_at td_image 13 rfl) (by decide) (by decide) (by decide) ?_
  refine mm_pI C hM 41 (dd_at td_image 14 rfl) (by decide) (by decide) (by decide) rfl rfl (fun st4 H locs est4 hM => ?_)
  replace hf := fc_of_nm hf st4 est4
  refine lv_aload_n C.1 C.2.1 (dd_at td_image 15 rfl) rfl (lv_at hl 0 rfl) ?_
  refine lv_aload_n C.1 C.2.1 (dd_at td_image 16 rfl) rfl (lv_at hl 0 rfl) ?_
  refine mm_gI C hM 2 (dd_at td_image 17 rfl) (by decide) (by decide) (by decide) ?_
  refine mm_pI C hM 42 (dd_at td_image 18 rfl) (by decide) (by decide) (by decide) rfl rfl (fun st5 H locs est5 hM => ?_)
  replace hf := fc_of_nm hf st5 est5
  refine lv_aload_n C.1 C.2.1 (dd_at td_image 19 rfl) rfl (lv_at hl 0 rfl) ?_
  refine lv_aload_n C.1 C.2.1 (dd_at td_image 20 rfl) rfl (lv_at hl 0 rfl) ?_
  refine mm_gI C hM 3 (dd_at td_image 21 rfl) (by decide) (by decide) (by decide) ?_
  refine mm_pI C hM 43 (dd_at td_image 22 rfl) (by decide) (by decide) (by decide) rfl rfl (fun st6 H locs est6 hM => ?_)
  replace hf := fc_of_nm hf st6 est6
  refine lv_aload_n C.1 C.2.1 (dd_at td_image 23 rfl) rfl (lv_at hl 0 rfl) ?_
  refine lv_aload_n C.1 C.2.1 (dd_at td_image 24 rfl) rfl (lv_at hl 0 rfl) ?_
  refine mm_gI C hM 29 (dd_at td_image 25 rfl) (by decide) (by decide) (by decide) ?_
  refine mm_pI C hM 44 (dd_at td_image 26 rfl) (by decide) (by decide) (by decide) rfl rfl (fun st7 H locs est7 hM => ?_)
  replace hf := fc_of_nm hf st7 est7
  refine lv_aload_n C.1 C.2.1 (dd_at td_image 27 rfl) rfl (lv_at hl 0 rfl) ?_
  refine lv_aload_n C.1 C.2.1 (dd_at td_image 28 rfl) rfl (lv_at hl 0 rfl) ?_
  refine mm_gI C hM 31 (dd_at td_image 29 rfl) (by decide) (by decide) (by decide) ?_
  refine mm_pI C hM 45 (dd_at td_image 30 rfl) (by decide) (by decide) (by decide) rfl rfl (fun st8 H locs est8 hM => ?_)
  replace hf := fc_of_nm hf st8 est8
  refine lv_aload_n C.1 C.2.1 (dd_at td_image 31 rfl) rfl (lv_at hl 0 rfl) ?_
  refine lv_aload_n C.1 C.2.1 (dd_at td_image 32 rfl) rfl (lv_at hl 0 rfl) ?_
  refine mm_gI C hM 32 (dd_at td_image 33 rfl) (by decide) (by decide) (by decide) ?_
  refine mm_pI C hM 46 (dd_at td_image 34 rfl) (by decide) (by decide) (by decide) rfl rfl (fun st9 H locs est9 hM => ?_)
  replace hf := fc_of_nm hf st9 est9
  refine lv_iconst (v := (0 : Int32)) C.1 C.2.1 (dd_at td_image 35 rfl) (by decide) ?_
  refine lv_istore_n (lv' := [(1, .int (0 : Int32)), (0, .ref o)]) C.1 C.2.1 (dd_at td_image 36 rfl) rfl hl (by decide) rfl (fun ls hl => ?_)
  exact w_image_b71 C fu fu (0 : Int32) st9 hf _ _ _ (lv_sub hl [1, 0] rfl) hM
theorem c_image (l : Launch) (D : va_G) (o : Nat) (ad : Nat → Nat) (cs : ClassId × ClassId × ClassId) (fu : Nat) (st : mm_S) : mm_Mi l D o ad cs yX12_image cX12_image 2 (some .int) 0 0 [] st (M_image fu st) := by
  intro r st' hf
  refine mm_enter (cc := cX12_image) (nL := 2) (ret := some .int) (by decide) rfl (Nat.le_of_ble_eq_true rfl) ?_
  intro p e s m args below meth c ls C hl hM
  exact w_image C fu st hf hl hM

