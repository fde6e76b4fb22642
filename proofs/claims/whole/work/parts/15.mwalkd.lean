/-! isAsked -/
def tb_isAsked : List (Nat × Instr × Nat) := [(0, .aload_n 0, 1), (1, .iload_n 1, 1), (2, .invokevirtual 315, 3), (5, .ifCond .eq 24, 3), (8, .aload_n 0, 1), (9, .iload_n 2, 1), (10, .iconst 0, 1), (11, .iconst 1, 1), (12, .invokevirtual 207, 3), (15, .ifCond .eq 14, 3), (18, .aload_n 0, 1), (19, .getfield 7, 3), (22, .ifCond .le 7, 3), (25, .iconst 1, 1), (26, .goto 4, 3), (29, .iconst 0, 1), (30, .ireturn, 1)]
theorem td_isAsked : tb_isAsked.all (fun q => decide (decode cX12_isAsked q.1 = .ok (q.2.1, q.2.2))) = true := by decide +kernel
theorem hd_isAsked : yX12_isAsked.cls = RX12 ∧ yX12_isAsked.cls ≠ "java/lang/invoke/MethodHandle" ∧ yX12_isAsked.cls ≠ "java/lang/invoke/VarHandle" ∧ (parseMethodDescriptor yX12_isAsked.desc).map (fun d => d.parameters.length) = some 2 := by decide +kernel
theorem w_isAsked {p : Program} {l : Launch} {e : Env} {s : State} {m : MethodId} {args : Array Value} {below : List Frame} {meth : Method} {c : Code} {D : va_G} {o : Nat} {ad : Nat → Nat} {cs : ClassId × ClassId × ClassId} {r : Int32} {st' : mm_S} (C : mm_C p s m args meth c cX12_isAsked 3 (some .boolean) D cs) (fu : Nat) (x1 : Int32) (x2 : Int32) (st : mm_S) (hf : M_isAsked fu x1 x2 st = some (r, st')) {H : Heap} {locs : List Loc} {ls : Array Slot} (hl : lv_has ls 3 [(0, .ref o), (1, .int x1), (2, .int x2)]) (hM : mm_H D o ad cs s.heap st H locs) : W p l e (mm_R 2 44) s m args below meth c H locs 0 0 (MQ below (mm_Qi D o ad cs r st') args s 0 0 (mm_A o ad)) (F0 m 0 ls []) := by
  unfold M_isAsked at hf
  refine lv_aload_n C.1 C.2.1 (dd_at td_isAsked 0 rfl) rfl (lv_at hl 0 rfl) ?_
  refine lv_iload_n C.1 C.2.1 (dd_at td_isAsked 1 rfl) rfl (lv_at hl 1 rfl) ?_
  obtain ⟨r3, st1, hx2, hf⟩ := fc_of_bn hf
  refine mm_ci (As := [.int x1]) (rest := []) (n := 1) C hM (c_isYears l D o ad cs fu x1 st) (List.mem_of_getElem? (i := 25) rfl) (dd_at td_isAsked 2 rfl) hx2 hl.1 hd_isYears ⟨Nat.le_of_ble_eq_true rfl, Nat.le_of_ble_eq_true rfl⟩ rfl rfl (Nat.le_of_ble_eq_true rfl) ⟨Nat.le_refl 0, Nat.le_refl 0⟩ (fun H locs hM => ?_)
  refine lv_if_eq (tgt := 29) C.1 C.2.1 (dd_at td_isAsked 3 rfl) (by decide) (fun c4 => ?_) (fun c4 => ?_)
  · replace hf := fc_of_t hf c4
    refine lv_iconst (v := (0 : Int32)) C.1 C.2.1 (dd_at td_isAsked 15 rfl) (by decide) ?_
    exact mm_rz C hM (dd_at td_isAsked 16 rfl) rfl hf
  · replace hf := fc_of_f hf c4
    refine lv_aload_n C.1 C.2.1 (dd_at td_isAsked 4 rfl) rfl (lv_at hl 0 rfl) ?_
    refine lv_iload_n C.1 C.2.1 (dd_at td_isAsked 5 rfl) rfl (lv_at hl 2 rfl) ?_
    refine lv_iconst (v := (0 : Int32)) C.1 C.2.1 (dd_at td_isAsked 6 rfl) (by decide) ?_
    refine lv_iconst (v := (1 : Int32)) C.1 C.2.1 (dd_at td_isAsked 7 rfl) (by decide) ?_
    obtain ⟨r7, st5, hx6, hf⟩ := fc_of_bn hf
    refine mm_ci (As := [.int x2, .int (0 : Int32), .int (1 : Int32)]) (rest := []) (n := 3) C hM (c_in l D o ad cs fu x2 (0 : Int32) (1 : Int32) st1) (List.mem_of_getElem? (i := 18) rfl) (dd_at td_isAsked 8 rfl) hx6 hl.1 hd_in ⟨Nat.le_of_ble_eq_true rfl, Nat.le_of_ble_eq_true rfl⟩ rfl rfl (Nat.le_of_ble_eq_true rfl) ⟨Nat.le_refl 0, Nat.le_refl 0⟩ (fun H locs hM => ?_)
    refine lv_if_eq (tgt := 29) C.1 C.2.1 (dd_at td_isAsked 9 rfl) (by decide) (fun c8 => ?_) (fun c8 => ?_)
    · replace hf := fc_of_t hf c8
      refine lv_iconst (v := (0 : Int32)) C.1 C.2.1 (dd_at td_isAsked 15 rfl) (by decide) ?_
      exact mm_rz C hM (dd_at td_isAsked 16 rfl) rfl hf
    · replace hf := fc_of_f hf c8
      refine lv_aload_n C.1 C.2.1 (dd_at td_isAsked 10 rfl) rfl (lv_at hl 0 rfl) ?_
      refine mm_gI C hM 0 (dd_at td_isAsked 11 rfl) (by decide) (by decide) (by decide) ?_
      refine lv_if_le (tgt := 29) C.1 C.2.1 (dd_at td_isAsked 12 rfl) (by decide) (fun c9 => ?_) (fun c9 => ?_)
      · replace hf := fc_of_t hf c9
        refine lv_iconst (v := (0 : Int32)) C.1 C.2.1 (dd_at td_isAsked 15 rfl) (by decide) ?_
        exact mm_rz C hM (dd_at td_isAsked 16 rfl) rfl hf
      · replace hf := fc_of_f hf c9
        refine lv_iconst (v := (1 : Int32)) C.1 C.2.1 (dd_at td_isAsked 13 rfl) (by decide) ?_
        refine lv_goto (tgt := 30) C.1 C.2.1 (dd_at td_isAsked 14 rfl) (by decide) ?_
        exact mm_rz C hM (dd_at td_isAsked 16 rfl) rfl hf
theorem c_isAsked (l : Launch) (D : va_G) (o : Nat) (ad : Nat → Nat) (cs : ClassId × ClassId × ClassId) (fu : Nat) (x1 : Int32) (x2 : Int32) (st : mm_S) : mm_Mi l D o ad cs yX12_isAsked cX12_isAsked 3 (some .boolean) 2 44 [.int x1, .int x2] st (M_isAsked fu x1 x2 st) := by
  intro r st' hf
  refine mm_enter (cc := cX12_isAsked) (nL := 3) (ret := some .boolean) (by decide) rfl (Nat.le_of_ble_eq_true rfl) ?_
  intro p e s m args below meth c ls C hl hM
  exact w_isAsked C fu x1 x2 st hf hl hM

/-! mean -/
def tb_mean : List (Nat × Instr × Nat) := [(0, .aload_n 0, 1), (1, .iload_n 1, 1), (2, .iload_n 2, 1), (3, .invokevirtual 318, 3), (6, .ifCond .ne 7, 3), (9, .ldc2_w 321, 3), (12, .lreturn, 1), (13, .aload_n 0, 1), (14, .iconst 0, 1), (15, .iload_n 1, 1), (16, .invokevirtual 323, 3), (19, .aload_n 0, 1), (20, .aload_n 0, 1), (21, .getfield 90, 3), (24, .aload_n 0, 1), (25, .getfield 13, 3), (28, .laload, 1), (29, .aload_n 0, 1), (30, .iload_n 1, 1), (31, .invokevirtual 295, 3), (34, .iload_n 2, 1), (35, .invokevirtual 327, 3), (38, .lreturn, 1)]
theorem td_mean : tb_mean.all (fun q => decide (decode cX12_mean q.1 = .ok (q.2.1, q.2.2))) = true := by decide +kernel
theorem w_mean {p : Program} {l : Launch} {e : Env} {s : State} {m : MethodId} {args : Array Value} {below : List Frame} {meth : Method} {c : Code} {D : va_G} {o : Nat} {ad : Nat → Nat} {cs : ClassId × ClassId × ClassId} {r : Int64} {st' : mm_S} (C : mm_C p s m args meth c cX12_mean 3 (some .long) D cs) (fu : Nat) (x1 : Int32) (x2 : Int32) (st : mm_S) (hf : M_mean fu x1 x2 st = some (r, st')) {H : Heap} {locs : List Loc} {ls : Array Slot} (hl : lv_has ls 3 [(0, .ref o), (1, .int x1), (2, .int x2)]) (hM : mm_H D o ad cs s.heap st H locs) : W p l e (mm_R 7 185) s m args below meth c H locs 0 0 (MQ below (mm_Ql D o ad cs r st') args s 0 0 (mm_A o ad)) (F0 m 0 ls []) := by
  unfold M_mean at hf
  refine lv_aload_n C.1 C.2.1 (dd_at td_mean 0 rfl) rfl (lv_at hl 0 rfl) ?_
  refine lv_iload_n C.1 C.2.1 (dd_at td_mean 1 rfl) rfl (lv_at hl 1 rfl) ?_
  refine lv_iload_n C.1 C.2.1 (dd_at td_mean 2 rfl) rfl (lv_at hl 2 rfl) ?_
  obtain ⟨r3, st1, hx2, hf⟩ := fc_of_bn hf
  refine mm_ci (As := [.int x1, .int x2]) (rest := []) (n := 2) C hM (c_isAsked l D o ad cs fu x1 x2 st) (List.mem_of_getElem? (i := 19) rfl) (dd_at td_mean 3 rfl) hx2 hl.1 hd_isAsked ⟨Nat.le_of_ble_eq_true rfl, Nat.le_of_ble_eq_true rfl⟩ rfl rfl (Nat.le_of_ble_eq_true rfl) ⟨Nat.le_refl 0, Nat.le_refl 0⟩ (fun H locs hM => ?_)
  refine lv_if_ne (tgt := 13) C.1 C.2.1 (dd_at td_mean 4 rfl) (by decide) (fun c4 => ?_) (fun c4 => ?_)
  · replace hf := fc_of_f hf c4
    refine lv_aload_n C.1 C.2.1 (dd_at td_mean 7 rfl) rfl (lv_at hl 0 rfl) ?_
    refine lv_iconst (v := (0 : Int32)) C.1 C.2.1 (dd_at td_mean 8 rfl) (by decide) ?_
    refine lv_iload_n C.1 C.2.1 (dd_at td_mean 9 rfl) rfl (lv_at hl 1 rfl) ?_
    obtain ⟨st5, hx6, hf⟩ := fc_of_bv hf
    refine mm_cv (As := [.int (0 : Int32), .int x1]) (rest := []) (n := 2) C hM (c_layGains l D o ad cs fu (0 : Int32) x1 st1) (List.mem_of_getElem? (i := 27) rfl) (dd_at td_mean 10 rfl) hx6 hl.1 hd_layGains ⟨Nat.le_of_ble_eq_true rfl, Nat.le_of_ble_eq_true rfl⟩ rfl rfl (Nat.le_of_ble_eq_true rfl) ⟨Nat.le_refl 0, Nat.le_refl 0⟩ (fun H locs hM => ?_)
    refine lv_aload_n C.1 C.2.1 (dd_at td_mean 11 rfl) rfl (lv_at hl 0 rfl) ?_
    refine lv_aload_n C.1 C.2.1 (dd_at td_mean 12 rfl) rfl (lv_at hl 0 rfl) ?_
    refine mm_gA C hM 26 (dd_at td_mean 13 rfl) (by decide) (by decide) (by decide) ?_
    refine lv_aload_n C.1 C.2.1 (dd_at td_mean 14 rfl) rfl (lv_at hl 0 rfl) ?_
    refine mm_gI C hM 1 (dd_at td_mean 15 rfl) (by decide) (by decide) (by decide) ?_
    obtain ⟨g7, hf⟩ := fc_of_gd hf
    refine mm_lald C hM 26 (dd_at td_mean 16 rfl) (by decide) (by decide) (fc_of_ix g7) ?_
    refine lv_aload_n C.1 C.2.1 (dd_at td_mean 17 rfl) rfl (lv_at hl 0 rfl) ?_
    refine lv_iload_n C.1 C.2.1 (dd_at td_mean 18 rfl) rfl (lv_at hl 1 rfl) ?_
    obtain ⟨r10, st8, hx9, hf⟩ := fc_of_bn hf
    refine mm_cl (As := [.int x1]) (rest := [.long (mm_L st5 26 (mm_I st5 1).toNatClampNeg), .ref o]) (n := 1) C hM (c_ways l D o ad cs fu x1 st5) (List.mem_of_getElem? (i := 46) rfl) (dd_at td_mean 19 rfl) hx9 hl.1 hd_ways ⟨Nat.le_of_ble_eq_true rfl, Nat.le_of_ble_eq_true rfl⟩ rfl rfl (Nat.le_of_ble_eq_true rfl) ⟨Nat.le_refl 0, Nat.le_refl 0⟩ (fun H locs hM => ?_)
    refine lv_iload_n C.1 C.2.1 (dd_at td_mean 20 rfl) rfl (lv_at hl 2 rfl) ?_
    obtain ⟨r13, st11, hx12, hf⟩ := fc_of_bn hf
    refine mm_cl (As := [.long (mm_L st5 26 (mm_I st5 1).toNatClampNeg), .long r10, .int x2]) (rest := []) (n := 3) C hM (c_lowest l D o ad cs fu (mm_L st5 26 (mm_I st5 1).toNatClampNeg) r10 x2 st8) (List.mem_of_getElem? (i := 28) rfl) (dd_at td_mean 21 rfl) hx12 hl.1 hd_lowest ⟨Nat.le_of_ble_eq_true rfl, Nat.le_of_ble_eq_true rfl⟩ rfl rfl (Nat.le_of_ble_eq_true rfl) ⟨Nat.le_refl 0, Nat.le_refl 0⟩ (fun H locs hM => ?_)
    exact mm_rl C hM (dd_at td_mean 22 rfl) hf
  · replace hf := fc_of_t hf c4
    refine lv_ldc2 (v := (-9223372036854775808 : Int64)) C.1 C.2.1 C.2.2.2.2.1 (C.2.2.2.2.2.1 (.constantLong RX12 321 (-9223372036854775808 : Int64)) (mm_Wk (by decide +kernel))) (dd_at td_mean 5 rfl) ?_
    exact mm_rl C hM (dd_at td_mean 6 rfl) hf
theorem c_mean (l : Launch) (D : va_G) (o : Nat) (ad : Nat → Nat) (cs : ClassId × ClassId × ClassId) (fu : Nat) (x1 : Int32) (x2 : Int32) (st : mm_S) : mm_Ml l D o ad cs yX12_mean cX12_mean 3 (some .long) 7 185 [.int x1, .int x2] st (M_mean fu x1 x2 st) := by
  intro r st' hf
  refine mm_enter (cc := cX12_mean) (nL := 3) (ret := some .long) (by decide) rfl (Nat.le_of_ble_eq_true rfl) ?_
  intro p e s m args below meth c ls C hl hM
  exact w_mean C fu x1 x2 st hf hl hM

/-! price -/
def tb_price : List (Nat × Instr × Nat) := [(0, .aload_n 0, 1), (1, .iload_n 1, 1), (2, .iload_n 2, 1), (3, .invokevirtual 318, 3), (6, .ifCond .eq 12, 3), (9, .aload_n 0, 1), (10, .getfield 13, 3), (13, .bipush 8, 2), (15, .if_icmp .ne 7, 3), (18, .ldc2_w 321, 3), (21, .lreturn, 1), (22, .aload_n 0, 1), (23, .iconst 0, 1), (24, .iload_n 1, 1), (25, .invokevirtual 323, 3), (28, .aload_n 0, 1), (29, .aload_n 0, 1), (30, .getfield 90, 3), (33, .aload_n 0, 1), (34, .getfield 13, 3), (37, .iconst 1, 1), (38, .iadd, 1), (39, .laload, 1), (40, .aload_n 0, 1), (41, .getfield 90, 3), (44, .aload_n 0, 1), (45, .getfield 13, 3), (48, .laload, 1), (49, .lsub, 1), (50, .aload_n 0, 1), (51, .iload_n 1, 1), (52, .invokevirtual 295, 3), (55, .iload_n 2, 1), (56, .invokevirtual 327, 3), (59, .lreturn, 1)]
theorem td_price : tb_price.all (fun q => decide (decode cX12_price q.1 = .ok (q.2.1, q.2.2))) = true := by decide +kernel
theorem w_price {p : Program} {l : Launch} {e : Env} {s : State} {m : MethodId} {args : Array Value} {below : List Frame} {meth : Method} {c : Code} {D : va_G} {o : Nat} {ad : Nat → Nat} {cs : ClassId × ClassId × ClassId} {r : Int64} {st' : mm_S} (C : mm_C p s m args meth c cX12_price 3 (some .long) D cs) (fu : Nat) (x1 : Int32) (x2 : Int32) (st : mm_S) (hf : M_price fu x1 x2 st = some (r, st')) {H : Heap} {locs : List Loc} {ls : Array Slot} (hl : lv_has ls 3 [(0, .ref o), (1, .int x1), (2, .int x2)]) (hM : mm_H D o ad cs s.heap st H locs) : W p l e (mm_R 7 185) s m args below meth c H locs 0 0 (MQ below (mm_Ql D o ad cs r st') args s 0 0 (mm_A o ad)) (F0 m 0 ls []) := by
  unfold M_price at hf
  refine lv_aload_n C.1 C.2.1 (dd_at td_price 0 rfl) rfl (lv_at hl 0 rfl) ?_
  refine lv_iload_n C.1 C.2.1 (dd_at td_price 1 rfl) rfl (lv_at hl 1 rfl) ?_
  refine lv_iload_n C.1 C.2.1 (dd_at td_price 2 rfl) rfl (lv_at hl 2 rfl) ?_
  obtain ⟨r3, st1, hx2, hf⟩ := fc_of_bn hf
  refine mm_ci (As := [.int x1, .int x2]) (rest := []) (n := 2) C hM (c_isAsked l D o ad cs fu x1 x2 st) (List.mem_of_getElem? (i := 19) rfl) (dd_at td_price 3 rfl) hx2 hl.1 hd_isAsked ⟨Nat.le_of_ble_eq_true rfl, Nat.le_of_ble_eq_true rfl⟩ rfl rfl (Nat.le_of_ble_eq_true rfl) ⟨Nat.le_refl 0, Nat.le_refl 0⟩ (fun H locs hM => ?_)
  refine lv_if_eq (tgt := 18) C.1 C.2.1 (dd_at td_price 4 rfl) (by decide) (fun c4 => ?_) (fun c4 => ?_)
  · replace hf := fc_of_t hf c4
    refine lv_ldc2 (v := (-9223372036854775808 : Int64)) C.1 C.2.1 C.2.2.2.2.1 (C.2.2.2.2.2.1 (.constantLong RX12 321 (-9223372036854775808 : Int64)) (mm_Wk (by decide +kernel))) (dd_at td_price 9 rfl) ?_
    exact mm_rl C hM (dd_at td_price 10 rfl) hf
  · replace hf := fc_of_f hf c4
    refine lv_aload_n C.1 C.2.1 (dd_at td_price 5 rfl) rfl (lv_at hl 0 rfl) ?_
    refine mm_gI C hM 1 (dd_at td_price 6 rfl) (by decide) (by decide) (by decide) ?_
    refine lv_bipush (v := (8 : Int32)) C.1 C.2.1 (dd_at td_price 7 rfl) (by decide) ?_
    refine lv_icmp_ne (tgt := 22) C.1 C.2.1 (dd_at td_price 8 rfl) (by decide) (fun c5 => ?_) (fun c5 => ?_)
    · replace hf := fc_of_f hf c5
      refine lv_aload_n C.1 C.2.1 (dd_at td_price 11 rfl) rfl (lv_at hl 0 rfl) ?_
      refine lv_iconst (v := (0 : Int32)) C.1 C.2.1 (dd_at td_price 12 rfl) (by decide) ?_
      refine lv_iload_n C.1 C.2.1 (dd_at td_price 13 rfl) rfl (lv_at hl 1 rfl) ?_
      obtain ⟨st6, hx7, hf⟩ := fc_of_bv hf
      refine mm_cv (As := [.int (0 : Int32), .int x1]) (rest := []) (n := 2) C hM (c_layGains l D o ad cs fu (0 : Int32) x1 st1) (List.mem_of_getElem? (i := 27) rfl) (dd_at td_price 14 rfl) hx7 hl.1 hd_layGains ⟨Nat.le_of_ble_eq_true rfl, Nat.le_of_ble_eq_true rfl⟩ rfl rfl (Nat.le_of_ble_eq_true rfl) ⟨Nat.le_refl 0, Nat.le_refl 0⟩ (fun H locs hM => ?_)
      refine lv_aload_n C.1 C.2.1 (dd_at td_price 15 rfl) rfl (lv_at hl 0 rfl) ?_
      refine lv_aload_n C.1 C.2.1 (dd_at td_price 16 rfl) rfl (lv_at hl 0 rfl) ?_
      refine mm_gA C hM 26 (dd_at td_price 17 rfl) (by decide) (by decide) (by decide) ?_
      refine lv_aload_n C.1 C.2.1 (dd_at td_price 18 rfl) rfl (lv_at hl 0 rfl) ?_
      refine mm_gI C hM 1 (dd_at td_price 19 rfl) (by decide) (by decide) (by decide) ?_
      refine lv_iconst (v := (1 : Int32)) C.1 C.2.1 (dd_at td_price 20 rfl) (by decide) ?_
      refine lv_iadd C.1 C.2.1 (dd_at td_price 21 rfl) ?_
      obtain ⟨g8, hf⟩ := fc_of_gd hf
      refine mm_lald C hM 26 (dd_at td_price 22 rfl) (by decide) (by decide) (fc_of_ix g8) ?_
      refine lv_aload_n C.1 C.2.1 (dd_at td_price 23 rfl) rfl (lv_at hl 0 rfl) ?_
      refine mm_gA C hM 26 (dd_at td_price 24 rfl) (by decide) (by decide) (by decide) ?_
      refine lv_aload_n C.1 C.2.1 (dd_at td_price 25 rfl) rfl (lv_at hl 0 rfl) ?_
      refine mm_gI C hM 1 (dd_at td_price 26 rfl) (by decide) (by decide) (by decide) ?_
      obtain ⟨g9, hf⟩ := fc_of_gd hf
      refine mm_lald C hM 26 (dd_at td_price 27 rfl) (by decide) (by decide) (fc_of_ix g9) ?_
      refine lv_lsub C.1 C.2.1 (dd_at td_price 28 rfl) ?_
      refine lv_aload_n C.1 C.2.1 (dd_at td_price 29 rfl) rfl (lv_at hl 0 rfl) ?_
      refine lv_iload_n C.1 C.2.1 (dd_at td_price 30 rfl) rfl (lv_at hl 1 rfl) ?_
      obtain ⟨r12, st10, hx11, hf⟩ := fc_of_bn hf
      refine mm_cl (As := [.int x1]) (rest := [.long ((mm_L st6 26 ((mm_I st6 1) + (1 : Int32)).toNatClampNeg) - (mm_L st6 26 (mm_I st6 1).toNatClampNeg)), .ref o]) (n := 1) C hM (c_ways l D o ad cs fu x1 st6) (List.mem_of_getElem? (i := 46) rfl) (dd_at td_price 31 rfl) hx11 hl.1 hd_ways ⟨Nat.le_of_ble_eq_true rfl, Nat.le_of_ble_eq_true rfl⟩ rfl rfl (Nat.le_of_ble_eq_true rfl) ⟨Nat.le_refl 0, Nat.le_refl 0⟩ (fun H locs hM => ?_)
      refine lv_iload_n C.1 C.2.1 (dd_at td_price 32 rfl) rfl (lv_at hl 2 rfl) ?_
      obtain ⟨r15, st13, hx14, hf⟩ := fc_of_bn hf
      refine mm_cl (As := [.long ((mm_L st6 26 ((mm_I st6 1) + (1 : Int32)).toNatClampNeg) - (mm_L st6 26 (mm_I st6 1).toNatClampNeg)), .long r12, .int x2]) (rest := []) (n := 3) C hM (c_lowest l D o ad cs fu ((mm_L st6 26 ((mm_I st6 1) + (1 : Int32)).toNatClampNeg) - (mm_L st6 26 (mm_I st6 1).toNatClampNeg)) r12 x2 st10) (List.mem_of_getElem? (i := 28) rfl) (dd_at td_price 33 rfl) hx14 hl.1 hd_lowest ⟨Nat.le_of_ble_eq_true rfl, Nat.le_of_ble_eq_true rfl⟩ rfl rfl (Nat.le_of_ble_eq_true rfl) ⟨Nat.le_refl 0, Nat.le_refl 0⟩ (fun H locs hM => ?_)
      exact mm_rl C hM (dd_at td_price 34 rfl) hf
    · replace hf := fc_of_t hf c5
      refine lv_ldc2 (v := (-9223372036854775808 : Int64)) C.1 C.2.1 C.2.2.2.2.1 (C.2.2.2.2.2.1 (.constantLong RX12 321 (-9223372036854775808 : Int64)) (mm_Wk (by decide +kernel))) (dd_at td_price 9 rfl) ?_
      exact mm_rl C hM (dd_at td_price 10 rfl) hf
theorem c_price (l : Launch) (D : va_G) (o : Nat) (ad : Nat → Nat) (cs : ClassId × ClassId × ClassId) (fu : Nat) (x1 : Int32) (x2 : Int32) (st : mm_S) : mm_Ml l D o ad cs yX12_price cX12_price 3 (some .long) 7 185 [.int x1, .int x2] st (M_price fu x1 x2 st) := by
  intro r st' hf
  refine mm_enter (cc := cX12_price) (nL := 3) (ret := some .long) (by decide) rfl (Nat.le_of_ble_eq_true rfl) ?_
  intro p e s m args below meth c ls C hl hM
  exact w_price C fu x1 x2 st hf hl hM

/-! greedy -/
def tb_greedy : List (Nat × Instr × Nat) := [(0, .aload_n 0, 1), (1, .iload_n 1, 1), (2, .iload_n 2, 1), (3, .invokevirtual 318, 3), (6, .ifCond .ne 7, 3), (9, .ldc2_w 321, 3), (12, .lreturn, 1), (13, .aload_n 0, 1), (14, .iconst 1, 1), (15, .iload_n 1, 1), (16, .invokevirtual 323, 3), (19, .aload_n 0, 1), (20, .aload_n 0, 1), (21, .getfield 90, 3), (24, .aload_n 0, 1), (25, .getfield 13, 3), (28, .laload, 1), (29, .aload_n 0, 1), (30, .iload_n 1, 1), (31, .invokevirtual 295, 3), (34, .iload_n 2, 1), (35, .invokevirtual 327, 3), (38, .lreturn, 1)]
theorem td_greedy : tb_greedy.all (fun q => decide (decode cX12_greedy q.1 = .ok (q.2.1, q.2.2))) = true := by decide +kernel
theorem w_greedy {p : Program} {l : Launch} {e : Env} {s : State} {m : MethodId} {args : Array Value} {below : List Frame} {meth : Method} {c : Code} {D : va_G} {o : Nat} {ad : Nat → Nat} {cs : ClassId × ClassId × ClassId} {r : Int64} {st' : mm_S} (C : mm_C p s m args meth c cX12_greedy 3 (some .long) D cs) (fu : Nat) (x1 : Int32) (x2 : Int32) (st : mm_S) (hf : M_greedy fu x1 x2 st = some (r, st')) {H : Heap} {locs : List Loc} {ls : Array Slot} (hl : lv_has ls 3 [(0, .ref o), (1, .int x1), (2, .int x2)]) (hM : mm_H D o ad cs s.heap st H locs) : W p l e (mm_R 7 185) s m args below meth c H locs 0 0 (MQ below (mm_Ql D o ad cs r st') args s 0 0 (mm_A o ad)) (F0 m 0 ls []) := by
  unfold M_greedy at hf
  refine lv_aload_n C.1 C.2.1 (dd_at td_greedy 0 rfl) rfl (lv_at hl 0 rfl) ?_
  refine lv_iload_n C.1 C.2.1 (dd_at td_greedy 1 rfl) rfl (lv_at hl 1 rfl) ?_
  refine lv_iload_n C.1 C.2.1 (dd_at td_greedy 2 rfl) rfl (lv_at hl 2 rfl) ?_
  obtain ⟨r3, st1, hx2, hf⟩ := fc_of_bn hf
  refine mm_ci (As := [.int x1, .int x2]) (rest := []) (n := 2) C hM (c_isAsked l D o ad cs fu x1 x2 st) (List.mem_of_getElem? (i := 19) rfl) (dd_at td_greedy 3 rfl) hx2 hl.1 hd_isAsked ⟨Nat.le_of_ble_eq_true rfl, Nat.le_of_ble_eq_true rfl⟩ rfl rfl (Nat.le_of_ble_eq_true rfl) ⟨Nat.le_refl 0, Nat.le_refl 0⟩ (fun H locs hM => ?_)
  refine lv_if_ne (tgt := 13) C.1 C.2.1 (dd_at td_greedy 4 rfl) (by decide) (fun c4 => ?_) (fun c4 => ?_)
  · replace hf := fc_of_f hf c4
    refine lv_aload_n C.1 C.2.1 (dd_at td_greedy 7 rfl) rfl (lv_at hl 0 rfl) ?_
    refine lv_iconst (v := (1 : Int32)) C.1 C.2.1 (dd_at td_greedy 8 rfl) (by decide) ?_
    refine lv_iload_n C.1 C.2.1 (dd_at td_greedy 9 rfl) rfl (lv_at hl 1 rfl) ?_
    obtain ⟨st5, hx6, hf⟩ := fc_of_bv hf
    refine mm_cv (As := [.int (1 : Int32), .int x1]) (rest := []) (n := 2) C hM (c_layGains l D o ad cs fu (1 : Int32) x1 st1) (List.mem_of_getElem? (i := 27) rfl) (dd_at td_greedy 10 rfl) hx6 hl.1 hd_layGains ⟨Nat.le_of_ble_eq_true rfl, Nat.le_of_ble_eq_true rfl⟩ rfl rfl (Nat.le_of_ble_eq_true rfl) ⟨Nat.le_refl 0, Nat.le_refl 0⟩ (fun H locs hM => ?_)
    refine lv_aload_n C.1 C.2.1 (dd_at td_greedy 11 rfl) rfl (lv_at hl 0 rfl) ?_
    refine lv_aload_n C.1 C.2.1 (dd_at td_greedy 12 rfl) rfl (lv_at hl 0 rfl) ?_
    refine mm_gA C hM 26 (dd_at td_greedy 13 rfl) (by decide) (by decide) (by decide) ?_
    refine lv_aload_n C.1 C.2.1 (dd_at td_greedy 14 rfl) rfl (lv_at hl 0 rfl) ?_
    refine mm_gI C hM 1 (dd_at td_greedy 15 rfl) (by decide) (by decide) (by decide) ?_
    obtain ⟨g7, hf⟩ := fc_of_gd hf
    refine mm_lald C hM 26 (dd_at td_greedy 16 rfl) (by decide) (by decide) (fc_of_ix g7) ?_
    refine lv_aload_n C.1 C.2.1 (dd_at td_greedy 17 rfl) rfl (lv_at hl 0 rfl) ?_
    refine lv_iload_n C.1 C.2.1 (dd_at td_greedy 18 rfl) rfl (lv_at hl 1 rfl) ?_
    obtain ⟨r10, st8, hx9, hf⟩ := fc_of_bn hf
    refine mm_cl (As := [.int x1]) (rest := [.long (mm_L st5 26 (mm_I st5 1).toNatClampNeg), .ref o]) (n := 1) C hM (c_ways l D o ad cs fu x1 st5) (List.mem_of_getElem? (i := 46) rfl) (dd_at td_greedy 19 rfl) hx9 hl.1 hd_ways ⟨Nat.le_of_ble_eq_true rfl, Nat.le_of_ble_eq_true rfl⟩ rfl rfl (Nat.le_of_ble_eq_true rfl) ⟨Nat.le_refl 0, Nat.le_refl 0⟩ (fun H locs hM => ?_)
    refine lv_iload_n C.1 C.2.1 (dd_at td_greedy 20 rfl) rfl (lv_at hl 2 rfl) ?_
    obtain ⟨r13, st11, hx12, hf⟩ := fc_of_bn hf
    refine mm_cl (As := [.long (mm_L st5 26 (mm_I st5 1).toNatClampNeg), .long r10, .int x2]) (rest := []) (n := 3) C hM (c_lowest l D o ad cs fu (mm_L st5 26 (mm_I st5 1).toNatClampNeg) r10 x2 st8) (List.mem_of_getElem? (i := 28) rfl) (dd_at td_greedy 21 rfl) hx12 hl.1 hd_lowest ⟨Nat.le_of_ble_eq_true rfl, Nat.le_of_ble_eq_true rfl⟩ rfl rfl (Nat.le_of_ble_eq_true rfl) ⟨Nat.le_refl 0, Nat.le_refl 0⟩ (fun H locs hM => ?_)
    exact mm_rl C hM (dd_at td_greedy 22 rfl) hf
  · replace hf := fc_of_t hf c4
    refine lv_ldc2 (v := (-9223372036854775808 : Int64)) C.1 C.2.1 C.2.2.2.2.1 (C.2.2.2.2.2.1 (.constantLong RX12 321 (-9223372036854775808 : Int64)) (mm_Wk (by decide +kernel))) (dd_at td_greedy 5 rfl) ?_
    exact mm_rl C hM (dd_at td_greedy 6 rfl) hf
theorem c_greedy (l : Launch) (D : va_G) (o : Nat) (ad : Nat → Nat) (cs : ClassId × ClassId × ClassId) (fu : Nat) (x1 : Int32) (x2 : Int32) (st : mm_S) : mm_Ml l D o ad cs yX12_greedy cX12_greedy 3 (some .long) 7 185 [.int x1, .int x2] st (M_greedy fu x1 x2 st) := by
  intro r st' hf
  refine mm_enter (cc := cX12_greedy) (nL := 3) (ret := some .long) (by decide) rfl (Nat.le_of_ble_eq_true rfl) ?_
  intro p e s m args below meth c ls C hl hM
  exact w_greedy C fu x1 x2 st hf hl hM

/-! only -/
def tb_only : List (Nat × Instr × Nat) := [(0, .aload_n 0, 1), (1, .iload_n 1, 1), (2, .iconst 0, 1), (3, .bipush 63, 2), (5, .invokevirtual 207, 3), (8, .ifCond .eq 12, 3), (11, .aload_n 0, 1), (12, .iload_n 2, 1), (13, .iload_n 3, 1), (14, .invokevirtual 318, 3), (17, .ifCond .ne 7, 3), (20, .ldc2_w 321, 3), (23, .lreturn, 1), (24, .aload_n 0, 1), (25, .iload_n 1, 1), (26, .putfield 94, 3), (29, .aload_n 0, 1), (30, .iconst 2, 1), (31, .iload_n 2, 1), (32, .invokevirtual 323, 3), (35, .aload_n 0, 1), (36, .aload_n 0, 1), (37, .getfield 90, 3), (40, .aload_n 0, 1), (41, .getfield 13, 3), (44, .laload, 1), (45, .aload_n 0, 1), (46, .iload_n 2, 1), (47, .invokevirtual 295, 3), (50, .iload_n 3, 1), (51, .invokevirtual 327, 3), (54, .lreturn, 1)]
theorem td_only : tb_only.all (fun q => decide (decode cX12_only q.1 = .ok (q.2.1, q.2.2))) = true := by decide +kernel
theorem w_only {p : Program} {l : Launch} {e : Env} {s : State} {m : MethodId} {args : Array Value} {below : List Frame} {meth : Method} {c : Code} {D : va_G} {o : Nat} {ad : Nat → Nat} {cs : ClassId × ClassId × ClassId} {r : Int64} {st' : mm_S} (C : mm_C p s m args meth c cX12_only 4 (some .long) D cs) (fu : Nat) (x1 : Int32) (x2 : Int32) (x3 : Int32) (st : mm_S) (hf : M_only fu x1 x2 x3 st = some (r, st')) {H : Heap} {locs : List Loc} {ls : Array Slot} (hl : lv_has ls 4 [(0, .ref o), (1, .int x1), (2, .int x2), (3, .int x3)]) (hM : mm_H D o ad cs s.heap st H locs) : W p l e (mm_R 7 185) s m args below meth c H locs 0 0 (MQ below (mm_Ql D o ad cs r st') args s 0 0 (mm_A o ad)) (F0 m 0 ls []) := by
  unfold M_only at hf
  refine lv_aload_n C.1 C.2.1 (dd_at td_only 0 rfl) rfl (lv_at hl 0 rfl) ?_
  refine lv_iload_n C.1 C.2.1 (dd_at td_only 1 rfl) rfl (lv_at hl 1 rfl) ?_
  refine lv_iconst (v := (0 : Int32)) C.1 C.2.1 (dd_at td_only 2 rfl) (by decide) ?_
  refine lv_bipush (v := (63 : Int32)) C.1 C.2.1 (dd_at td_only 3 rfl) (by decide) ?_
  obtain ⟨r3, st1, hx2, hf⟩ := fc_of_bn hf
  refine mm_ci (As := [.int x1, .int (0 : Int32), .int (63 : Int32)]) (rest := []) (n := 3) C hM (c_in l D o ad cs fu x1 (0 : Int32) (63 : Int32) st) (List.mem_of_getElem? (i := 18) rfl) (dd_at td_only 4 rfl) hx2 hl.1 hd_in ⟨Nat.le_of_ble_eq_true rfl, Nat.le_of_ble_eq_true rfl⟩ rfl rfl (Nat.le_of_ble_eq_true rfl) ⟨Nat.le_refl 0, Nat.le_refl 0⟩ (fun H locs hM => ?_)
  refine lv_if_eq (tgt := 20) C.1 C.2.1 (dd_at td_only 5 rfl) (by decide) (fun c4 => ?_) (fun c4 => ?_)
  · replace hf := fc_of_t hf c4
    refine lv_ldc2 (v := (-9223372036854775808 : Int64)) C.1 C.2.1 C.2.2.2.2.1 (C.2.2.2.2.2.1 (.constantLong RX12 321 (-9223372036854775808 : Int64)) (mm_Wk (by decide +kernel))) (dd_at td_only 11 rfl) ?_
    exact mm_rl C hM (dd_at td_only 12 rfl) hf
  · replace hf := fc_of_f hf c4
    refine lv_aload_n C.1 C.2.1 (dd_at td_only 6 rfl) rfl (lv_at hl 0 rfl) ?_
    refine lv_iload_n C.1 C.2.1 (dd_at td_only 7 rfl) rfl (lv_at hl 2 rfl) ?_
    refine lv_iload_n C.1 C.2.1 (dd_at td_only 8 rfl) rfl (lv_at hl 3 rfl) ?_
    obtain ⟨r7, st5, hx6, hf⟩ := fc_of_bn hf
    refine mm_ci (As := [.int x2, .int x3]) (rest := []) (n := 2) C hM (c_isAsked l D o ad cs fu x2 x3 st1) (List.mem_of_getElem? (i := 19) rfl) (dd_at td_only 9 rfl) hx6 hl.1 hd_isAsked ⟨Nat.le_of_ble_eq_true rfl, Nat.le_of_ble_eq_true rfl⟩ rfl rfl (Nat.le_of_ble_eq_true rfl) ⟨Nat.le_refl 0, Nat.le_refl 0⟩ (fun H locs hM => ?_)
    refine lv_if_ne (tgt := 24) C.1 C.2.1 (dd_at td_only 10 rfl) (by decide) (fun c8 => ?_) (fun c8 => ?_)
    · replace hf := fc_of_f hf c8
      refine lv_aload_n C.1 C.2.1 (dd_at td_only 13 rfl) rfl (lv_at hl 0 rfl) ?_
      refine lv_iload_n C.1 C.2.1 (dd_at td_only 14 rfl) rfl (lv_at hl 1 rfl) ?_
      refine mm_pI C hM 27 (dd_at td_only 15 rfl) (by decide) (by decide) (by decide) rfl rfl (fun st9 H locs est9 hM => ?_)
      replace hf := fc_of_nm hf st9 est9
      refine lv_aload_n C.1 C.2.1 (dd_at td_only 16 rfl) rfl (lv_at hl 0 rfl) ?_
      refine lv_iconst (v := (2 : Int32)) C.1 C.2.1 (dd_at td_only 17 rfl) (by decide) ?_
      refine lv_iload_n C.1 C.2.1 (dd_at td_only 18 rfl) rfl (lv_at hl 2 rfl) ?_
      obtain ⟨st10, hx11, hf⟩ := fc_of_bv hf
      refine mm_cv (As := [.int (2 : Int32), .int x2]) (rest := []) (n := 2) C hM (c_layGains l D o ad cs fu (2 : Int32) x2 st9) (List.mem_of_getElem? (i := 27) rfl) (dd_at td_only 19 rfl) hx11 hl.1 hd_layGains ⟨Nat.le_of_ble_eq_true rfl, Nat.le_of_ble_eq_true rfl⟩ rfl rfl (Nat.le_of_ble_eq_true rfl) ⟨Nat.le_refl 0, Nat.le_refl 0⟩ (fun H locs hM => ?_)
      refine lv_aload_n C.1 C.2.1 (dd_at td_only 20 rfl) rfl (lv_at hl 0 rfl) ?_
      refine lv_aload_n C.1 C.2.1 (dd_at td_only 21 rfl) rfl (lv_at hl 0 rfl) ?_
      refine mm_gA C hM 26 (dd_at td_only 22 rfl) (by decide) (by decide) (by decide) ?_
      refine lv_aload_n C.1 C.2.1 (dd_at td_only 23 rfl) rfl (lv_at hl 0 rfl) ?_
      refine mm_gI C hM 1 (dd_at td_only 24 rfl) (by decide) (by decide) (by decide) ?_
      obtain ⟨g12, hf⟩ := fc_of_gd hf
      refine mm_lald C hM 26 (dd_at td_only 25 rfl) (by decide) (by decide) (fc_of_ix g12) ?_
      refine lv_aload_n C.1 C.2.1 (dd_at td_only 26 rfl) rfl (lv_at hl 0 rfl) ?_
      refine lv_iload_n C.1 C.2.1 (dd_at td_only 27 rfl) rfl (lv_at hl 2 rfl) ?_
      obtain ⟨r15, st13, hx14, hf⟩ := fc_of_bn hf
      refine mm_cl (As := [.int x2]) (rest := [.long (mm_L st10 26 (mm_I st10 1).toNatClampNeg), .ref o]) (n := 1) C hM (c_ways l D o ad cs fu x2 st10) (List.mem_of_getElem? (i := 46) rfl) (dd_at td_only 28 rfl) hx14 hl.1 hd_ways ⟨Nat.le_of_ble_eq_true rfl, Nat.le_of_ble_eq_true rfl⟩ rfl rfl (Nat.le_of_ble_eq_true rfl) ⟨Nat.le_refl 0, Nat.le_refl 0⟩ (fun H locs hM => ?_)
      refine lv_iload_n C.1 C.2.1 (dd_at td_only 29 rfl) rfl (lv_at hl 3 rfl) ?_
      obtain ⟨r18, st16, hx17, hf⟩ := fc_of_bn hf
      refine mm_cl (As := [.long (mm_L st10 26 (mm_I st10 1).toNatClampNeg), .long r15, .int x3]) (rest := []) (n := 3) C hM (c_lowest l D o ad cs fu (mm_L st10 26 (mm_I st10 1).toNatClampNeg) r15 x3 st13) (List.mem_of_getElem? (i := 28) rfl) (dd_at td_only 30 rfl) hx17 hl.1 hd_lowest ⟨Nat.le_of_ble_eq_true rfl, Nat.le_of_ble_eq_true rfl⟩ rfl rfl (Nat.le_of_ble_eq_true rfl) ⟨Nat.le_refl 0, Nat.le_refl 0⟩ (fun H locs hM => ?_)
      exact mm_rl C hM (dd_at td_only 31 rfl) hf
    · replace hf := fc_of_t hf c8
      refine lv_ldc2 (v := (-9223372036854775808 : Int64)) C.1 C.2.1 C.2.2.2.2.1 (C.2.2.2.2.2.1 (.constantLong RX12 321 (-9223372036854775808 : Int64)) (mm_Wk (by decide +kernel))) (dd_at td_only 11 rfl) ?_
      exact mm_rl C hM (dd_at td_only 12 rfl) hf
theorem c_only (l : Launch) (D : va_G) (o : Nat) (ad : Nat → Nat) (cs : ClassId × ClassId × ClassId) (fu : Nat) (x1 : Int32) (x2 : Int32) (x3 : Int32) (st : mm_S) : mm_Ml l D o ad cs yX12_only cX12_only 4 (some .long) 7 185 [.int x1, .int x2, .int x3] st (M_only fu x1 x2 x3 st) := by
  intro r st' hf
  refine mm_enter (cc := cX12_only) (nL := 4) (ret := some .long) (by decide) rfl (Nat.le_of_ble_eq_true rfl) ?_
  intro p e s m args below meth c ls C hl hM
  exact w_only C fu x1 x2 x3 st hf hl hM

/-! chosen -/
def tb_chosen : List (Nat × Instr × Nat) := [(0, .aload_n 0, 1), (1, .iload_n 1, 1), (2, .invokevirtual 315, 3), (5, .ifCond .ne 6, 3), (8, .bipush (-2), 2), (10, .ireturn, 1), (11, .aload_n 0, 1), (12, .getfield 7, 3), (15, .ifCond .ne 6, 3), (18, .bipush (-5), 2), (20, .ireturn, 1), (21, .bipush (-5), 2), (23, .istore_n 2, 1), (24, .lconst 0, 1), (25, .lstore_n 3, 1), (26, .iconst 0, 1), (27, .istore 5, 2), (29, .iload 5, 2), (31, .iconst 1, 1), (32, .aload_n 0, 1), (33, .getfield 7, 3), (36, .ishl, 1), (37, .if_icmp .ge 55, 3), (40, .aload_n 0, 1), (41, .iload 5, 2), (43, .putfield 94, 3), (46, .aload_n 0, 1), (47, .iconst 2, 1), (48, .iload_n 1, 1), (49, .invokevirtual 323, 3), (52, .iload_n 2, 1), (53, .ifCond .lt 20, 3), (56, .aload_n 0, 1), (57, .getfield 90, 3), (60, .aload_n 0, 1), (61, .getfield 13, 3), (64, .laload, 1), (65, .lload_n 3, 1), (66, .lcmp, 1), (67, .ifCond .gt 6, 3), (70, .goto 16, 3), (73, .iload 5, 2), (75, .istore_n 2, 1), (76, .aload_n 0, 1), (77, .getfield 90, 3), (80, .aload_n 0, 1), (81, .getfield 13, 3), (84, .laload, 1), (85, .lstore_n 3, 1), (86, .iinc 5 1, 3), (89, .goto (-60), 3), (92, .iload_n 2, 1), (93, .ireturn, 1)]
theorem td_chosen : tb_chosen.all (fun q => decide (decode cX12_chosen q.1 = .ok (q.2.1, q.2.2))) = true := by decide +kernel
theorem w_chosen_b86 {p : Program} {l : Launch} {e : Env} {s : State} {m : MethodId} {args : Array Value} {below : List Frame} {meth : Method} {c : Code} {D : va_G} {o : Nat} {ad : Nat → Nat} {cs : ClassId × ClassId × ClassId} {r : Int32} {st' : mm_S} (C : mm_C p s m args meth c cX12_chosen 6 (some .int) D cs) (fu : Nat) (K29 : Int32 → Int32 → Int64 → Int32 → mm_S → Option (Int32 × mm_S)) (hK29 : ∀ (x1 : Int32) (x2 : Int32) (x3 : Int64) (x5 : Int32) (st : mm_S) (H : Heap) (locs : List Loc) (ls : Array Slot), K29 x1 x2 x3 x5 st = some (r, st') → lv_has ls 6 [(0, .ref o), (1, .int x1), (2, .int x2), (3, .long x3), (5, .int x5)] → mm_H D o ad cs s.heap st H locs → W p l e (mm_R 7 185) s m args below meth c H locs 0 0 (MQ below (mm_Qi D o ad cs r st') args s 0 0 (mm_A o ad)) (F0 m 29 ls [])) (x1 : Int32) (x2 : Int32) (x3 : Int64) (x5 : Int32) (st : mm_S) (hf : M_chosen_b86 fu K29 x1 x2 x3 x5 st = some (r, st')) {H : Heap} {locs : List Loc} {ls : Array Slot} (hl : lv_has ls 6 [(0, .ref o), (1, .int x1), (2, .int x2), (3, .long x3), (5, .int x5)]) (hM : mm_H D o ad cs s.heap st H locs) : W p l e (mm_R 7 185) s m args below meth c H locs 0 0 (MQ below (mm_Qi D o ad cs r st') args s 0 0 (mm_A o ad)) (F0 m 86 ls []) := by
  unfold M_chosen_b86 at hf
  obtain ⟨v15, ev15⟩ : ∃ y : Int32, y = x5 + (1 : Int32) := ⟨_, rfl⟩
  replace hf := fc_of_nm hf v15 ev15
  refine lv_iinc (v := v15) (lv' := [(5, .int v15), (0, .ref o), (1, .int x1), (2, .int x2), (3, .long x3)]) C.1 C.2.1 (dd_at td_chosen 49 rfl) hl (k := 4) rfl (by rw [ev15]; rfl) (by decide) rfl (fun ls hl => ?_)
  refine lv_goto (tgt := 29) C.1 C.2.1 (dd_at td_chosen 50 rfl) (by decide) ?_
  exact hK29 x1 x2 x3 v15 st _ _ _ hf (lv_sub hl [1, 2, 3, 4, 0] rfl) hM
theorem w_chosen_b73 {p : Program} {l : Launch} {e : Env} {s : State} {m : MethodId} {args : Array Value} {below : List Frame} {meth : Method} {c : Code} {D : va_G} {o : Nat} {ad : Nat → Nat} {cs : ClassId × ClassId × ClassId} {r : Int32} {st' : mm_S} (C : mm_C p s m args meth c cX12_chosen 6 (some .int) D cs) (fu : Nat) (K29 : Int32 → Int32 → Int64 → Int32 → mm_S → Option (Int32 × mm_S)) (hK29 : ∀ (x1 : Int32) (x2 : Int32) (x3 : Int64) (x5 : Int32) (st : mm_S) (H : Heap) (locs : List Loc) (ls : Array Slot), K29 x1 x2 x3 x5 st = some (r, st') → lv_has ls 6 [(0, .ref o), (1, .int x1), (2, .int x2), (3, .long x3), (5, .int x5)] → mm_H D o ad cs s.heap st H locs → W p l e (mm_R 7 185) s m args below meth c H locs 0 0 (MQ below (mm_Qi D o ad cs r st') args s 0 0 (mm_A o ad)) (F0 m 29 ls [])) (x1 : Int32) (x5 : Int32) (st : mm_S) (hf : M_chosen_b73 fu K29 x1 x5 st = some (r, st')) {H : Heap} {locs : List Loc} {ls : Array Slot} (hl : lv_has ls 6 [(0, .ref o), (1, .int x1), (5, .int x5)]) (hM : mm_H D o ad cs s.heap st H locs) : W p l e (mm_R 7 185) s m args below meth c H locs 0 0 (MQ below (mm_Qi D o ad cs r st') args s 0 0 (mm_A o ad)) (F0 m 73 ls []) := by
  unfold M_chosen_b73 at hf
  refine lv_iload C.1 C.2.1 (dd_at td_chosen 41 rfl) (lv_at hl 2 rfl) ?_
  refine lv_istore_n (lv' := [(2, .int x5), (0, .ref o), (1, .int x1), (5, .int x5)]) C.1 C.2.1 (dd_at td_chosen 42 rfl) rfl hl (by decide) rfl (fun ls hl => ?_)
  refine lv_aload_n C.1 C.2.1 (dd_at td_chosen 43 rfl) rfl (lv_at hl 1 rfl) ?_
  refine mm_gA C hM 26 (dd_at td_chosen 44 rfl) (by decide) (by decide) (by decide) ?_
  refine lv_aload_n C.1 C.2.1 (dd_at td_chosen 45 rfl) rfl (lv_at hl 1 rfl) ?_
  refine mm_gI C hM 1 (dd_at td_chosen 46 rfl) (by decide) (by decide) (by decide) ?_
  obtain ⟨g13, hf⟩ := fc_of_gd hf
  refine mm_lald C hM 26 (dd_at td_chosen 47 rfl) (by decide) (by decide) (fc_of_ix g13) ?_
  refine lv_topl (fun v14 ev14 => ?_)
  replace hf := fc_of_nm hf v14 ev14
  refine lv_lstore_n (lv' := [(3, .long v14), (2, .int x5), (0, .ref o), (1, .int x1), (5, .int x5)]) C.1 C.2.1 (dd_at td_chosen 48 rfl) rfl hl (by decide) rfl (fun ls hl => ?_)
  exact w_chosen_b86 C fu K29 hK29 x1 x5 v14 x5 st hf (lv_sub hl [2, 3, 1, 0, 4] rfl) hM
theorem w_chosen_b29F {p : Program} {l : Launch} {e : Env} {s : State} {m : MethodId} {args : Array Value} {below : List Frame} {meth : Method} {c : Code} {D : va_G} {o : Nat} {ad : Nat → Nat} {cs : ClassId × ClassId × ClassId} {r : Int32} {st' : mm_S} (C : mm_C p s m args meth c cX12_chosen 6 (some .int) D cs) (fu : Nat) (K29 : Int32 → Int32 → Int64 → Int32 → mm_S → Option (Int32 × mm_S)) (hK29 : ∀ (x1 : Int32) (x2 : Int32) (x3 : Int64) (x5 : Int32) (st : mm_S) (H : Heap) (locs : List Loc) (ls : Array Slot), K29 x1 x2 x3 x5 st = some (r, st') → lv_has ls 6 [(0, .ref o), (1, .int x1), (2, .int x2), (3, .long x3), (5, .int x5)] → mm_H D o ad cs s.heap st H locs → W p l e (mm_R 7 185) s m args below meth c H locs 0 0 (MQ below (mm_Qi D o ad cs r st') args s 0 0 (mm_A o ad)) (F0 m 29 ls [])) (x1 : Int32) (x2 : Int32) (x3 : Int64) (x5 : Int32) (st : mm_S) (hf : M_chosen_b29F fu K29 x1 x2 x3 x5 st = some (r, st')) {H : Heap} {locs : List Loc} {ls : Array Slot} (hl : lv_has ls 6 [(0, .ref o), (1, .int x1), (2, .int x2), (3, .long x3), (5, .int x5)]) (hM : mm_H D o ad cs s.heap st H locs) : W p l e (mm_R 7 185) s m args below meth c H locs 0 0 (MQ below (mm_Qi D o ad cs r st') args s 0 0 (mm_A o ad)) (F0 m 29 ls []) := by
  unfold M_chosen_b29F at hf
  refine lv_iload C.1 C.2.1 (dd_at td_chosen 17 rfl) (lv_at hl 4 rfl) ?_
  refine lv_iconst (v := (1 : Int32)) C.1 C.2.1 (dd_at td_chosen 18 rfl) (by decide) ?_
  refine lv_aload_n C.1 C.2.1 (dd_at td_chosen 19 rfl) rfl (lv_at hl 0 rfl) ?_
  refine mm_gI C hM 0 (dd_at td_chosen 20 rfl) (by decide) (by decide) (by decide) ?_
  refine lv_ishl C.1 C.2.1 (dd_at td_chosen 21 rfl) ?_
  refine lv_icmp_ge (tgt := 92) C.1 C.2.1 (dd_at td_chosen 22 rfl) (by decide) (fun c6 => ?_) (fun c6 => ?_)
  · replace hf := fc_of_t hf c6
    refine lv_iload_n C.1 C.2.1 (dd_at td_chosen 51 rfl) rfl (lv_at hl 2 rfl) ?_
    exact mm_ri C hM (dd_at td_chosen 52 rfl) hf
  · replace hf := fc_of_f hf c6
    refine lv_aload_n C.1 C.2.1 (dd_at td_chosen 23 rfl) rfl (lv_at hl 0 rfl) ?_
    refine lv_iload C.1 C.2.1 (dd_at td_chosen 24 rfl) (lv_at hl 4 rfl) ?_
    refine mm_pI C hM 27 (dd_at td_chosen 25 rfl) (by decide) (by decide) (by decide) rfl rfl (fun st7 H locs est7 hM => ?_)
    replace hf := fc_of_nm hf st7 est7
    refine lv_aload_n C.1 C.2.1 (dd_at td_chosen 26 rfl) rfl (lv_at hl 0 rfl) ?_
    refine lv_iconst (v := (2 : Int32)) C.1 C.2.1 (dd_at td_chosen 27 rfl) (by decide) ?_
    refine lv_iload_n C.1 C.2.1 (dd_at td_chosen 28 rfl) rfl (lv_at hl 1 rfl) ?_
    obtain ⟨st8, hx9, hf⟩ := fc_of_bv hf
    refine mm_cv (As := [.int (2 : Int32), .int x1]) (rest := []) (n := 2) C hM (c_layGains l D o ad cs fu (2 : Int32) x1 st7) (List.mem_of_getElem? (i := 27) rfl) (dd_at td_chosen 29 rfl) hx9 hl.1 hd_layGains ⟨Nat.le_of_ble_eq_true rfl, Nat.le_of_ble_eq_true rfl⟩ rfl rfl (Nat.le_of_ble_eq_true rfl) ⟨Nat.le_refl 0, Nat.le_refl 0⟩ (fun H locs hM => ?_)
    refine lv_iload_n C.1 C.2.1 (dd_at td_chosen 30 rfl) rfl (lv_at hl 2 rfl) ?_
    refine lv_if_lt (tgt := 73) C.1 C.2.1 (dd_at td_chosen 31 rfl) (by decide) (fun c10 => ?_) (fun c10 => ?_)
    · replace hf := fc_of_t hf c10
      exact w_chosen_b73 C fu K29 hK29 x1 x5 st8 hf (lv_sub hl [0, 1, 4] rfl) hM
    · replace hf := fc_of_f hf c10
      refine lv_aload_n C.1 C.2.1 (dd_at td_chosen 32 rfl) rfl (lv_at hl 0 rfl) ?_
      refine mm_gA C hM 26 (dd_at td_chosen 33 rfl) (by decide) (by decide) (by decide) ?_
      refine lv_aload_n C.1 C.2.1 (dd_at td_chosen 34 rfl) rfl (lv_at hl 0 rfl) ?_
      refine mm_gI C hM 1 (dd_at td_chosen 35 rfl) (by decide) (by decide) (by decide) ?_
      obtain ⟨g11, hf⟩ := fc_of_gd hf
      refine mm_lald C hM 26 (dd_at td_chosen 36 rfl) (by decide) (by decide) (fc_of_ix g11) ?_
      refine lv_lload_n C.1 C.2.1 (dd_at td_chosen 37 rfl) rfl (lv_at hl 3 rfl) ?_
      refine W.lcmp C.1 C.2.1 (dd_at td_chosen 38 rfl) ?_
      refine lv_if_gt (tgt := 73) C.1 C.2.1 (dd_at td_chosen 39 rfl) (by decide) (fun c12 => ?_) (fun c12 => ?_)
      · replace hf := fc_of_t hf c12
        exact w_chosen_b73 C fu K29 hK29 x1 x5 st8 hf (lv_sub hl [0, 1, 4] rfl) hM
      · replace hf := fc_of_f hf c12
        refine lv_goto (tgt := 86) C.1 C.2.1 (dd_at td_chosen 40 rfl) (by decide) ?_
        exact w_chosen_b86 C fu K29 hK29 x1 x2 x3 x5 st8 hf (lv_sub hl [0, 1, 2, 3, 4] rfl) hM
theorem w_chosen_b29 {p : Program} {l : Launch} {e : Env} {s : State} {m : MethodId} {args : Array Value} {below : List Frame} {meth : Method} {c : Code} {D : va_G} {o : Nat} {ad : Nat → Nat} {cs : ClassId × ClassId × ClassId} {r : Int32} {st' : mm_S} (C : mm_C p s m args meth c cX12_chosen 6 (some .int) D cs) (fu : Nat) (n : Nat) : ∀ (x1 : Int32) (x2 : Int32) (x3 : Int64) (x5 : Int32) (st : mm_S), M_chosen_b29 fu n x1 x2 x3 x5 st = some (r, st') → ∀ (H : Heap) (locs : List Loc) (ls : Array Slot), lv_has ls 6 [(0, .ref o), (1, .int x1), (2, .int x2), (3, .long x3), (5, .int x5)] → mm_H D o ad cs s.heap st H locs → W p l e (mm_R 7 185) s m args below meth c H locs 0 0 (MQ below (mm_Qi D o ad cs r st') args s 0 0 (mm_A o ad)) (F0 m 29 ls []) := by
  induction n with
  | zero => exact fun _ _ _ _ _ hf => fc_no hf
  | succ n ih =>
    intro x1 x2 x3 x5 st hf H locs ls hl hM
    exact w_chosen_b29F C fu (fun x1 x2 x3 x5 st => M_chosen_b29 fu n x1 x2 x3 x5 st) (fun x1 x2 x3 x5 st H locs ls hf hl hM => ih x1 x2 x3 x5 st hf H locs ls hl hM) x1 x2 x3 x5 st hf hl hM
theorem w_chosen {p : Program} {l : Launch} {e : Env} {s : State} {m : MethodId} {args : Array Value} {below : List Frame} {meth : Method} {c : Code} {D : va_G} {o : Nat} {ad : Nat → Nat} {cs : ClassId × ClassId × ClassId} {r : Int32} {st' : mm_S} (C : mm_C p s m args meth c cX12_chosen 6 (some .int) D cs) (fu : Nat) (x1 : Int32) (st : mm_S) (hf : M_chosen fu x1 st = some (r, st')) {H : Heap} {locs : List Loc} {ls : Array Slot} (hl : lv_has ls 6 [(0, .ref o), (1, .int x1)]) (hM : mm_H D o ad cs s.heap st H locs) : W p l e (mm_R 7 185) s m args below meth c H locs 0 0 (MQ below (mm_Qi D o ad cs r st') args s 0 0 (mm_A o ad)) (F0 m 0 ls []) := by
  unfold M_chosen at hf
  refine lv_aload_n C.1 C.2.1 (dd_at td_chosen 0 rfl) rfl (lv_at hl 0 rfl) ?_
  refine lv_iload_n C.1 C.2.1 (dd_at td_chosen 1 rfl) rfl (lv_at hl 1 rfl) ?_
  obtain ⟨r3, st1, hx2, hf⟩ := fc_of_bn hf
  refine mm_ci (As := [.int x1]) (rest := []) (n := 1) C hM (c_isYears l D o ad cs fu x1 st) (List.mem_of_getElem? (i := 25) rfl) (dd_at td_chosen 2 rfl) hx2 hl.1 hd_isYears ⟨Nat.le_of_ble_eq_true rfl, Nat.le_of_ble_eq_true rfl⟩ rfl rfl (Nat.le_of_ble_eq_true rfl) ⟨Nat.le_refl 0, Nat.le_refl 0⟩ (fun H locs hM => ?_)
  refine lv_if_ne (tgt := 11) C.1 C.2.1 (dd_at td_chosen 3 rfl) (by decide) (fun c4 => ?_) (fun c4 => ?_)
  · replace hf := fc_of_f hf c4
    refine lv_aload_n C.1 C.2.1 (dd_at td_chosen 6 rfl) rfl (lv_at hl 0 rfl) ?_
    refine mm_gI C hM 0 (dd_at td_chosen 7 rfl) (by decide) (by decide) (by decide) ?_
    refine lv_if_ne (tgt := 21) C.1 C.2.1 (dd_at td_chosen 8 rfl) (by decide) (fun c5 => ?_) (fun c5 => ?_)
    · replace hf := fc_of_f hf c5
      refine lv_bipush (v := (-5 : Int32)) C.1 C.2.1 (dd_at td_chosen 11 rfl) (by decide) ?_
      refine lv_istore_n (lv' := [(2, .int (-5 : Int32)), (0, .ref o), (1, .int x1)]) C.1 C.2.1 (dd_at td_chosen 12 rfl) rfl hl (by decide) rfl (fun ls hl => ?_)
      refine lv_lconst (v := (0 : Int64)) C.1 C.2.1 (dd_at td_chosen 13 rfl) (by decide) ?_
      refine lv_lstore_n (lv' := [(3, .long (0 : Int64)), (2, .int (-5 : Int32)), (0, .ref o), (1, .int x1)]) C.1 C.2.1 (dd_at td_chosen 14 rfl) rfl hl (by decide) rfl (fun ls hl => ?_)
      refine lv_iconst (v := (0 : Int32)) C.1 C.2.1 (dd_at td_chosen 15 rfl) (by decide) ?_
      refine lv_istore (lv' := [(5, .int (0 : Int32)), (3, .long (0 : Int64)), (2, .int (-5 : Int32)), (0, .ref o), (1, .int x1)]) C.1 C.2.1 (dd_at td_chosen 16 rfl) hl (by decide) rfl (fun ls hl => ?_)
      exact w_chosen_b29 C fu fu x1 (-5 : Int32) (0 : Int64) (0 : Int32) st1 hf _ _ _ (lv_sub hl [3, 4, 2, 1, 0] rfl) hM
    · replace hf := fc_of_t hf c5
      refine lv_bipush (v := (-5 : Int32)) C.1 C.2.1 (dd_at td_chosen 9 rfl) (by decide) ?_
      exact mm_ri C hM (dd_at td_chosen 10 rfl) hf
  · replace hf := fc_of_t hf c4
    refine lv_bipush (v := (-2 : Int32)) C.1 C.2.1 (dd_at td_chosen 4 rfl) (by decide) ?_
    exact mm_ri C hM (dd_at td_chosen 5 rfl) hf
theorem c_chosen (l : Launch) (D : va_G) (o : Nat) (ad : Nat → Nat) (cs : ClassId × ClassId × ClassId) (fu : Nat) (x1 : Int32) (st : mm_S) : mm_Mi l D o ad cs yX12_chosen cX12_chosen 6 (some .int) 7 185 [.int x1] st (M_chosen fu x1 st) := by
  intro r st' hf
  refine mm_enter (cc := cX12_chosen) (nL := 6) (ret := some .int) (by decide) rfl (Nat.le_of_ble_eq_true rfl) ?_
  intro p e s m args below meth c ls C hl hM
  exact w_chosen C fu x1 st hf hl hM

/-! wise -/
def tb_wise : List (Nat × Instr × Nat) := [(0, .aload_n 0, 1), (1, .iload_n 1, 1), (2, .invokevirtual 215, 3), (5, .ifCond .ne 5, 3), (8, .iconst (-1), 1), (9, .ireturn, 1), (10, .aload_n 0, 1), (11, .iload_n 2, 1), (12, .iconst 1, 1), (13, .bipush 8, 2), (15, .invokevirtual 207, 3), (18, .ifCond .ne 6, 3), (21, .bipush (-2), 2), (23, .ireturn, 1), (24, .aload_n 0, 1), (25, .getfield 13, 3), (28, .ifCond .ne 5, 3), (31, .iconst 0, 1), (32, .ireturn, 1), (33, .aload_n 0, 1), (34, .iconst 0, 1), (35, .iload_n 2, 1), (36, .invokevirtual 323, 3), (39, .aload_n 0, 1), (40, .iload_n 1, 1), (41, .iconst 0, 1), (42, .iload_n 2, 1), (43, .aload_n 0, 1), (44, .getfield 13, 3), (47, .invokevirtual 303, 3), (50, .aload_n 0, 1), (51, .iconst 0, 1), (52, .iload_n 2, 1), (53, .aload_n 0, 1), (54, .getfield 13, 3), (57, .invokevirtual 299, 3), (60, .lcmp, 1), (61, .ifCond .le 7, 3), (64, .iconst 1, 1), (65, .goto 4, 3), (68, .iconst 0, 1), (69, .ireturn, 1)]
theorem td_wise : tb_wise.all (fun q => decide (decode cX12_wise q.1 = .ok (q.2.1, q.2.2))) = true := by decide +kernel
theorem w_wise {p : Program} {l : Launch} {e : Env} {s : State} {m : MethodId} {args : Array Value} {below : List Frame} {meth : Method} {c : Code} {D : va_G} {o : Nat} {ad : Nat → Nat} {cs : ClassId × ClassId × ClassId} {r : Int32} {st' : mm_S} (C : mm_C p s m args meth c cX12_wise 3 (some .int) D cs) (fu : Nat) (x1 : Int32) (x2 : Int32) (st : mm_S) (hf : M_wise fu x1 x2 st = some (r, st')) {H : Heap} {locs : List Loc} {ls : Array Slot} (hl : lv_has ls 3 [(0, .ref o), (1, .int x1), (2, .int x2)]) (hM : mm_H D o ad cs s.heap st H locs) : W p l e (mm_R 7 185) s m args below meth c H locs 0 0 (MQ below (mm_Qi D o ad cs r st') args s 0 0 (mm_A o ad)) (F0 m 0 ls []) := by
  unfold M_wise at hf
  refine lv_aload_n C.1 C.2.1 (dd_at td_wise 0 rfl) rfl (lv_at hl 0 rfl) ?_
  refine lv_iload_n C.1 C.2.1 (dd_at td_wise 1 rfl) rfl (lv_at hl 1 rfl) ?_
  obtain ⟨r3, st1, hx2, hf⟩ := fc_of_bn hf
  refine mm_ci (As := [.int x1]) (rest := []) (n := 1) C hM (c_isNeed l D o ad cs fu x1 st) (List.mem_of_getElem? (i := 22) rfl) (dd_at td_wise 2 rfl) hx2 hl.1 hd_isNeed ⟨Nat.le_of_ble_eq_true rfl, Nat.le_of_ble_eq_true rfl⟩ rfl rfl (Nat.le_of_ble_eq_true rfl) ⟨Nat.le_refl 0, Nat.le_refl 0⟩ (fun H locs hM => ?_)
  refine lv_if_ne (tgt := 10) C.1 C.2.1 (dd_at td_wise 3 rfl) (by decide) (fun c4 => ?_) (fun c4 => ?_)
  · replace hf := fc_of_f hf c4
    refine lv_aload_n C.1 C.2.1 (dd_at td_wise 6 rfl) rfl (lv_at hl 0 rfl) ?_
    refine lv_iload_n C.1 C.2.1 (dd_at td_wise 7 rfl) rfl (lv_at hl 2 rfl) ?_
    refine lv_iconst (v := (1 : Int32)) C.1 C.2.1 (dd_at td_wise 8 rfl) (by decide) ?_
    refine lv_bipush (v := (8 : Int32)) C.1 C.2.1 (dd_at td_wise 9 rfl) (by decide) ?_
    obtain ⟨r7, st5, hx6, hf⟩ := fc_of_bn hf
    refine mm_ci (As := [.int x2, .int (1 : Int32), .int (8 : Int32)]) (rest := []) (n := 3) C hM (c_in l D o ad cs fu x2 (1 : Int32) (8 : Int32) st1) (List.mem_of_getElem? (i := 18) rfl) (dd_at td_wise 10 rfl) hx6 hl.1 hd_in ⟨Nat.le_of_ble_eq_true rfl, Nat.le_of_ble_eq_true rfl⟩ rfl rfl (Nat.le_of_ble_eq_true rfl) ⟨Nat.le_refl 0, Nat.le_refl 0⟩ (fun H locs hM => ?_)
    refine lv_if_ne (tgt := 24) C.1 C.2.1 (dd_at td_wise 11 rfl) (by decide) (fun c8 => ?_) (fun c8 => ?_)
    · replace hf := fc_of_f hf c8
      refine lv_aload_n C.1 C.2.1 (dd_at td_wise 14 rfl) rfl (lv_at hl 0 rfl) ?_
      refine mm_gI C hM 1 (dd_at td_wise 15 rfl) (by decide) (by decide) (by decide) ?_
      refine lv_if_ne (tgt := 33) C.1 C.2.1 (dd_at td_wise 16 rfl) (by decide) (fun c9 => ?_) (fun c9 => ?_)
      · replace hf := fc_of_f hf c9
        refine lv_aload_n C.1 C.2.1 (dd_at td_wise 19 rfl) rfl (lv_at hl 0 rfl) ?_
        refine lv_iconst (v := (0 : Int32)) C.1 C.2.1 (dd_at td_wise 20 rfl) (by decide) ?_
        refine lv_iload_n C.1 C.2.1 (dd_at td_wise 21 rfl) rfl (lv_at hl 2 rfl) ?_
        obtain ⟨st10, hx11, hf⟩ := fc_of_bv hf
        refine mm_cv (As := [.int (0 : Int32), .int x2]) (rest := []) (n := 2) C hM (c_layGains l D o ad cs fu (0 : Int32) x2 st5) (List.mem_of_getElem? (i := 27) rfl) (dd_at td_wise 22 rfl) hx11 hl.1 hd_layGains ⟨Nat.le_of_ble_eq_true rfl, Nat.le_of_ble_eq_true rfl⟩ rfl rfl (Nat.le_of_ble_eq_true rfl) ⟨Nat.le_refl 0, Nat.le_refl 0⟩ (fun H locs hM => ?_)
        refine lv_aload_n C.1 C.2.1 (dd_at td_wise 23 rfl) rfl (lv_at hl 0 rfl) ?_
        refine lv_iload_n C.1 C.2.1 (dd_at td_wise 24 rfl) rfl (lv_at hl 1 rfl) ?_
        refine lv_iconst (v := (0 : Int32)) C.1 C.2.1 (dd_at td_wise 25 rfl) (by decide) ?_
        refine lv_iload_n C.1 C.2.1 (dd_at td_wise 26 rfl) rfl (lv_at hl 2 rfl) ?_
        refine lv_aload_n C.1 C.2.1 (dd_at td_wise 27 rfl) rfl (lv_at hl 0 rfl) ?_
        refine mm_gI C hM 1 (dd_at td_wise 28 rfl) (by decide) (by decide) (by decide) ?_
        obtain ⟨r14, st12, hx13, hf⟩ := fc_of_bn hf
        refine mm_cl (As := [.int x1, .int (0 : Int32), .int x2, .int (mm_I st10 1)]) (rest := []) (n := 4) C hM (c_ifServed l D o ad cs fu x1 (0 : Int32) x2 (mm_I st10 1) st10) (List.mem_of_getElem? (i := 16) rfl) (dd_at td_wise 29 rfl) hx13 hl.1 hd_ifServed ⟨Nat.le_of_ble_eq_true rfl, Nat.le_of_ble_eq_true rfl⟩ rfl rfl (Nat.le_of_ble_eq_true rfl) ⟨Nat.le_refl 0, Nat.le_refl 0⟩ (fun H locs hM => ?_)
        refine lv_aload_n C.1 C.2.1 (dd_at td_wise 30 rfl) rfl (lv_at hl 0 rfl) ?_
        refine lv_iconst (v := (0 : Int32)) C.1 C.2.1 (dd_at td_wise 31 rfl) (by decide) ?_
        refine lv_iload_n C.1 C.2.1 (dd_at td_wise 32 rfl) rfl (lv_at hl 2 rfl) ?_
        refine lv_aload_n C.1 C.2.1 (dd_at td_wise 33 rfl) rfl (lv_at hl 0 rfl) ?_
        refine mm_gI C hM 1 (dd_at td_wise 34 rfl) (by decide) (by decide) (by decide) ?_
        obtain ⟨r17, st15, hx16, hf⟩ := fc_of_bn hf
        refine mm_cl (As := [.int (0 : Int32), .int x2, .int (mm_I st12 1)]) (rest := [.long r14]) (n := 3) C hM (c_ifSpared l D o ad cs fu (0 : Int32) x2 (mm_I st12 1) st12) (List.mem_of_getElem? (i := 17) rfl) (dd_at td_wise 35 rfl) hx16 hl.1 hd_ifSpared ⟨Nat.le_of_ble_eq_true rfl, Nat.le_of_ble_eq_true rfl⟩ rfl rfl (Nat.le_of_ble_eq_true rfl) ⟨Nat.le_refl 0, Nat.le_refl 0⟩ (fun H locs hM => ?_)
        refine W.lcmp C.1 C.2.1 (dd_at td_wise 36 rfl) ?_
        refine lv_if_le (tgt := 68) C.1 C.2.1 (dd_at td_wise 37 rfl) (by decide) (fun c18 => ?_) (fun c18 => ?_)
        · replace hf := fc_of_t hf c18
          refine lv_iconst (v := (0 : Int32)) C.1 C.2.1 (dd_at td_wise 40 rfl) (by decide) ?_
          exact mm_ri C hM (dd_at td_wise 41 rfl) hf
        · replace hf := fc_of_f hf c18
          refine lv_iconst (v := (1 : Int32)) C.1 C.2.1 (dd_at td_wise 38 rfl) (by decide) ?_
          refine lv_goto (tgt := 69) C.1 C.2.1 (dd_at td_wise 39 rfl) (by decide) ?_
          exact mm_ri C hM (dd_at td_wise 41 rfl) hf
      · replace hf := fc_of_t hf c9
        refine lv_iconst (v := (0 : Int32)) C.1 C.2.1 (dd_at td_wise 17 rfl) (by decide) ?_
        exact mm_ri C hM (dd_at td_wise 18 rfl) hf
    · replace hf := fc_of_t hf c8
      refine lv_bipush (v := (-2 : Int32)) C.1 C.2.1 (dd_at td_wise 12 rfl) (by decide) ?_
      exact mm_ri C hM (dd_at td_wise 13 rfl) hf
  · replace hf := fc_of_t hf c4
    refine lv_iconst (v := (-1 : Int32)) C.1 C.2.1 (dd_at td_wise 4 rfl) (by decide) ?_
    exact mm_ri C hM (dd_at td_wise 5 rfl) hf
theorem c_wise (l : Launch) (D : va_G) (o : Nat) (ad : Nat → Nat) (cs : ClassId × ClassId × ClassId) (fu : Nat) (x1 : Int32) (x2 : Int32) (st : mm_S) : mm_Mi l D o ad cs yX12_wise cX12_wise 3 (some .int) 7 185 [.int x1, .int x2] st (M_wise fu x1 x2 st) := by
  intro r st' hf
  refine mm_enter (cc := cX12_wise) (nL := 3) (ret := some .int) (by decide) rfl (Nat.le_of_ble_eq_true rfl) ?_
  intro p e s m args below meth c ls C hl hM
  exact w_wise C fu x1 x2 st hf hl hM

/-! spent -/
def tb_spent : List (Nat × Instr × Nat) := [(0, .aload_n 0, 1), (1, .iload_n 1, 1), (2, .iload_n 2, 1), (3, .invokevirtual 318, 3), (6, .ifCond .ne 7, 3), (9, .ldc2_w 321, 3), (12, .lreturn, 1), (13, .aload_n 0, 1), (14, .iconst 0, 1), (15, .iload_n 1, 1), (16, .invokevirtual 323, 3), (19, .iconst 0, 1), (20, .istore_n 3, 1), (21, .iload_n 3, 1), (22, .bipush 9, 2), (24, .if_icmp .ge 29, 3), (27, .aload_n 0, 1), (28, .getfield 97, 3), (31, .bipush 10, 2), (33, .iload_n 1, 1), (34, .imul, 1), (35, .iload_n 3, 1), (36, .iadd, 1), (37, .iload_n 3, 1), (38, .ifCond .ne 7, 3), (41, .lconst 1, 1), (42, .goto 4, 3), (45, .lconst 0, 1), (46, .lastore, 1), (47, .iinc 3 1, 3), (50, .goto (-29), 3), (53, .iload_n 1, 1), (54, .iconst 1, 1), (55, .isub, 1), (56, .istore_n 3, 1), (57, .iload_n 3, 1), (58, .ifCond .lt 114, 3), (61, .iconst 0, 1), (62, .istore 4, 2), (64, .iload 4, 2), (66, .bipush 9, 2), (68, .if_icmp .ge 98, 3), (71, .lconst 0, 1), (72, .lstore 5, 2), (74, .iconst 0, 1), (75, .istore 7, 2), (77, .iload 7, 2), (79, .aload_n 0, 1), (80, .getfield 7, 3), (83, .if_icmp .ge 63, 3), (86, .lload 5, 2), (88, .aload_n 0, 1), (89, .getfield 97, 3), (92, .bipush 10, 2), (94, .iload_n 3, 1), (95, .imul, 1), (96, .bipush 10, 2), (98, .iadd, 1), (99, .iload 4, 2), (101, .ifCond .le 32, 3), (104, .aload_n 0, 1), (105, .iload 7, 2), (107, .iload_n 3, 1), (108, .iload_n 1, 1), (109, .iload 4, 2), (111, .invokevirtual 303, 3), (114, .aload_n 0, 1), (115, .iload_n 3, 1), (116, .iload_n 1, 1), (117, .iload 4, 2), (119, .invokevirtual 299, 3), (122, .lcmp, 1), (123, .ifCond .le 10, 3), (126, .iload 4, 2), (128, .iconst 1, 1), (129, .isub, 1), (130, .goto 5, 3), (133, .iload 4, 2), (135, .iadd, 1), (136, .laload, 1), (137, .ladd, 1), (138, .lstore 5, 2), (140, .iinc 7 1, 3), (143, .goto (-66), 3), (146, .aload_n 0, 1), (147, .getfield 97, 3), (150, .bipush 10, 2), (152, .iload_n 3, 1), (153, .imul, 1), (154, .iload 4, 2), (156, .iadd, 1), (157, .lload 5, 2), (159, .lastore, 1), (160, .iinc 4 1, 3), (163, .goto (-99), 3), (166, .iinc 3 (-1), 3), (169, .goto (-112), 3), (172, .aload_n 0, 1), (173, .aload_n 0, 1), (174, .getfield 97, 3), (177, .aload_n 0, 1), (178, .getfield 13, 3), (181, .laload, 1), (182, .aload_n 0, 1), (183, .iload_n 1, 1), (184, .invokevirtual 295, 3), (187, .iload_n 2, 1), (188, .invokevirtual 327, 3), (191, .lreturn, 1)]
theorem td_spent : tb_spent.all (fun q => decide (decode cX12_spent q.1 = .ok (q.2.1, q.2.2))) = true := by decide +kernel
theorem w_spent_b135 {p : Program} {l : Launch} {e : Env} {s : State} {m : MethodId} {args : Array Value} {below : List Frame} {meth : Method} {c : Code} {D : va_G} {o : Nat} {ad : Nat → Nat} {cs : ClassId × ClassId × ClassId} {r : Int64} {st' : mm_S} (C : mm_C p s m args meth c cX12_spent 8 (some .long) D cs) (fu : Nat) (K57 : Int32 → Int32 → Int32 → mm_S → Option (Int64 × mm_S)) (hK57 : ∀ (x1 : Int32) (x2 : Int32) (x3 : Int32) (st : mm_S) (H : Heap) (locs : List Loc) (ls : Array Slot), K57 x1 x2 x3 st = some (r, st') → lv_has ls 8 [(0, .ref o), (1, .int x1), (2, .int x2), (3, .int x3)] → mm_H D o ad cs s.heap st H locs → W p l e (mm_R 7 185) s m args below meth c H locs 0 0 (MQ below (mm_Ql D o ad cs r st') args s 0 0 (mm_A o ad)) (F0 m 57 ls [])) (K64 : Int32 → Int32 → Int32 → Int32 → mm_S → Option (Int64 × mm_S)) (hK64 : ∀ (x1 : Int32) (x2 : Int32) (x3 : Int32) (x4 : Int32) (st : mm_S) (H : Heap) (locs : List Loc) (ls : Array Slot), K64 x1 x2 x3 x4 st = some (r, st') → lv_has ls 8 [(0, .ref o), (1, .int x1), (2, .int x2), (3, .int x3), (4, .int x4)] → mm_H D o ad cs s.heap st H locs → W p l e (mm_R 7 185) s m args below meth c H locs 0 0 (MQ below (mm_Ql D o ad cs r st') args s 0 0 (mm_A o ad)) (F0 m 64 ls [])) (K77 : Int32 → Int32 → Int32 → Int32 → Int64 → Int32 → mm_S → Option (Int64 × mm_S)) (hK77 : ∀ (x1 : Int32) (x2 : Int32) (x3 : Int32) (x4 : Int32) (x5 : Int64) (x7 : Int32) (st : mm_S) (H : Heap) (locs : List Loc) (ls : Array Slot), K77 x1 x2 x3 x4 x5 x7 st = some (r, st') → lv_has ls 8 [(0, .ref o), (1, .int x1), (2, .int x2), (3, .int x3), (4, .int x4), (5, .long x5), (7, .int x7)] → mm_H D o ad cs s.heap st H locs → W p l e (mm_R 7 185) s m args below meth c H locs 0 0 (MQ below (mm_Ql D o ad cs r st') args s 0 0 (mm_A o ad)) (F0 m 77 ls [])) (x1 : Int32) (x2 : Int32) (x3 : Int32) (x4 : Int32) (x7 : Int32) (s0 : Int32) (s1 : Int32) (s3 : Int64) (st : mm_S) (hf : M_spent_b135 fu K57 K64 K77 x1 x2 x3 x4 x7 s0 s1 s3 st = some (r, st')) {H : Heap} {locs : List Loc} {ls : Array Slot} (hl : lv_has ls 8 [(0, .ref o), (1, .int x1), (2, .int x2), (3, .int x3), (4, .int x4), (7, .int x7)]) (hM : mm_H D o ad cs s.heap st H locs) : W p l e (mm_R 7 185) s m args below meth c H locs 0 0 (MQ below (mm_Ql D o ad cs r st') args s 0 0 (mm_A o ad)) (F0 m 135 ls [.int s0, .int s1, .ref (ad 28), .long s3]) := by
  unfold M_spent_b135 at hf
  refine lv_iadd C.1 C.2.1 (dd_at td_spent 78 rfl) ?_
  obtain ⟨g35, hf⟩ := fc_of_gd hf
  refine mm_lald C hM 28 (dd_at td_spent 79 rfl) (by decide) (by decide) (fc_of_ix g35) ?_
  refine lv_ladd C.1 C.2.1 (dd_at td_spent 80 rfl) ?_
  refine lv_topl (fun v36 ev36 => ?_)
  replace hf := fc_of_nm hf v36 ev36
  refine lv_lstore (lv' := [(5, .long v36), (0, .ref o), (1, .int x1), (2, .int x2), (3, .int x3), (4, .int x4), (7, .int x7)]) C.1 C.2.1 (dd_at td_spent 81 rfl) hl (by decide) rfl (fun ls hl => ?_)
  obtain ⟨v37, ev37⟩ : ∃ y : Int32, y = x7 + (1 : Int32) := ⟨_, rfl⟩
  replace hf := fc_of_nm hf v37 ev37
  refine lv_iinc (v := v37) (lv' := [(7, .int v37), (5, .long v36), (0, .ref o), (1, .int x1), (2, .int x2), (3, .int x3), (4, .int x4)]) C.1 C.2.1 (dd_at td_spent 82 rfl) hl (k := 6) rfl (by rw [ev37]; rfl) (by decide) rfl (fun ls hl => ?_)
  refine lv_goto (tgt := 77) C.1 C.2.1 (dd_at td_spent 83 rfl) (by decide) ?_
  exact hK77 x1 x2 x3 x4 v36 v37 st _ _ _ hf (lv_sub hl [2, 3, 4, 5, 6, 1, 0] rfl) hM
theorem w_spent_b133 {p : Program} {l : Launch} {e : Env} {s : State} {m : MethodId} {args : Array Value} {below : List Frame} {meth : Method} {c : Code} {D : va_G} {o : Nat} {ad : Nat → Nat} {cs : ClassId × ClassId × ClassId} {r : Int64} {st' : mm_S} (C : mm_C p s m args meth c cX12_spent 8 (some .long) D cs) (fu : Nat) (K57 : Int32 → Int32 → Int32 → mm_S → Option (Int64 × mm_S)) (hK57 : ∀ (x1 : Int32) (x2 : Int32) (x3 : Int32) (st : mm_S) (H : Heap) (locs : List Loc) (ls : Array Slot), K57 x1 x2 x3 st = some (r, st') → lv_has ls 8 [(0, .ref o), (1, .int x1), (2, .int x2), (3, .int x3)] → mm_H D o ad cs s.heap st H locs → W p l e (mm_R 7 185) s m args below meth c H locs 0 0 (MQ below (mm_Ql D o ad cs r st') args s 0 0 (mm_A o ad)) (F0 m 57 ls [])) (K64 : Int32 → Int32 → Int32 → Int32 → mm_S → Option (Int64 × mm_S)) (hK64 : ∀ (x1 : Int32) (x2 : Int32) (x3 : Int32) (x4 : Int32) (st : mm_S) (H : Heap) (locs : List Loc) (ls : Array Slot), K64 x1 x2 x3 x4 st = some (r, st') → lv_has ls 8 [(0, .ref o), (1, .int x1), (2, .int x2), (3, .int x3), (4, .int x4)] → mm_H D o ad cs s.heap st H locs → W p l e (mm_R 7 185) s m args below meth c H locs 0 0 (MQ below (mm_Ql D o ad cs r st') args s 0 0 (mm_A o ad)) (F0 m 64 ls [])) (K77 : Int32 → Int32 → Int32 → Int32 → Int64 → Int32 → mm_S → Option (Int64 × mm_S)) (hK77 : ∀ (x1 : Int32) (x2 : Int32) (x3 : Int32) (x4 : Int32) (x5 : Int64) (x7 : Int32) (st : mm_S) (H : Heap) (locs : List Loc) (ls : Array Slot), K77 x1 x2 x3 x4 x5 x7 st = some (r, st') → lv_has ls 8 [(0, .ref o), (1, .int x1), (2, .int x2), (3, .int x3), (4, .int x4), (5, .long x5), (7, .int x7)] → mm_H D o ad cs s.heap st H locs → W p l e (mm_R 7 185) s m args below meth c H locs 0 0 (MQ below (mm_Ql D o ad cs r st') args s 0 0 (mm_A o ad)) (F0 m 77 ls [])) (x1 : Int32) (x2 : Int32) (x3 : Int32) (x4 : Int32) (x7 : Int32) (s0 : Int32) (s2 : Int64) (st : mm_S) (hf : M_spent_b133 fu K57 K64 K77 x1 x2 x3 x4 x7 s0 s2 st = some (r, st')) {H : Heap} {locs : List Loc} {ls : Array Slot} (hl : lv_has ls 8 [(0, .ref o), (1, .int x1), (2, .int x2), (3, .int x3), (4, .int x4), (7, .int x7)]) (hM : mm_H D o ad cs s.heap st H locs) : W p l e (mm_R 7 185) s m args below meth c H locs 0 0 (MQ below (mm_Ql D o ad cs r st') args s 0 0 (mm_A o ad)) (F0 m 133 ls [.int s0, .ref (ad 28), .long s2]) := by
  unfold M_spent_b133 at hf
  refine lv_iload C.1 C.2.1 (dd_at td_spent 77 rfl) (lv_at hl 4 rfl) ?_
  exact w_spent_b135 C fu K57 hK57 K64 hK64 K77 hK77 x1 x2 x3 x4 x7 x4 s0 s2 st hf (lv_sub hl [0, 1, 2, 3, 4, 5] rfl) hM
theorem w_spent_b77F {p : Program} {l : Launch} {e : Env} {s : State} {m : MethodId} {args : Array Value} {below : List Frame} {meth : Method} {c : Code} {D : va_G} {o : Nat} {ad : Nat → Nat} {cs : ClassId × ClassId × ClassId} {r : Int64} {st' : mm_S} (C : mm_C p s m args meth c cX12_spent 8 (some .long) D cs) (fu : Nat) (K57 : Int32 → Int32 → Int32 → mm_S → Option (Int64 × mm_S)) (hK57 : ∀ (x1 : Int32) (x2 : Int32) (x3 : Int32) (st : mm_S) (H : Heap) (locs : List Loc) (ls : Array Slot), K57 x1 x2 x3 st = some (r, st') → lv_has ls 8 [(0, .ref o), (1, .int x1), (2, .int x2), (3, .int x3)] → mm_H D o ad cs s.heap st H locs → W p l e (mm_R 7 185) s m args below meth c H locs 0 0 (MQ below (mm_Ql D o ad cs r st') args s 0 0 (mm_A o ad)) (F0 m 57 ls [])) (K64 : Int32 → Int32 → Int32 → Int32 → mm_S → Option (Int64 × mm_S)) (hK64 : ∀ (x1 : Int32) (x2 : Int32) (x3 : Int32) (x4 : Int32) (st : mm_S) (H : Heap) (locs : List Loc) (ls : Array Slot), K64 x1 x2 x3 x4 st = some (r, st') → lv_has ls 8 [(0, .ref o), (1, .int x1), (2, .int x2), (3, .int x3), (4, .int x4)] → mm_H D o ad cs s.heap st H locs → W p l e (mm_R 7 185) s m args below meth c H locs 0 0 (MQ below (mm_Ql D o ad cs r st') args s 0 0 (mm_A o ad)) (F0 m 64 ls [])) (K77 : Int32 → Int32 → Int32 → Int32 → Int64 → Int32 → mm_S → Option (Int64 × mm_S)) (hK77 : ∀ (x1 : Int32) (x2 : Int32) (x3 : Int32) (x4 : Int32) (x5 : Int64) (x7 : Int32) (st : mm_S) (H : Heap) (locs : List Loc) (ls : Array Slot), K77 x1 x2 x3 x4 x5 x7 st = some (r, st') → lv_has ls 8 [(0, .ref o), (1, .int x1), (2, .int x2), (3, .int x3), (4, .int x4), (5, .long x5), (7, .int x7)] → mm_H D o ad cs s.heap st H locs → W p l e (mm_R 7 185) s m args below meth c H locs 0 0 (MQ below (mm_Ql D o ad cs r st') args s 0 0 (mm_A o ad)) (F0 m 77 ls [])) (x1 : Int32) (x2 : Int32) (x3 : Int32) (x4 : Int32) (x5 : Int64) (x7 : Int32) (st : mm_S) (hf : M_spent_b77F fu K57 K64 K77 x1 x2 x3 x4 x5 x7 st = some (r, st')) {H : Heap} {locs : List Loc} {ls : Array Slot} (hl : lv_has ls 8 [(0, .ref o), (1, .int x1), (2, .int x2), (3, .int x3), (4, .int x4), (5, .long x5), (7, .int x7)]) (hM : mm_H D o ad cs s.heap st H locs) : W p l e (mm_R 7 185) s m args below meth c H locs 0 0 (MQ below (mm_Ql D o ad cs r st') args s 0 0 (mm_A o ad)) (F0 m 77 ls []) := by
  unfold M_spent_b77F at hf
  refine lv_iload C.1 C.2.1 (dd_at td_spent 46 rfl) (lv_at hl 6 rfl) ?_
  refine lv_aload_n C.1 C.2.1 (dd_at td_spent 47 rfl) rfl (lv_at hl 0 rfl) ?_
  refine mm_gI C hM 0 (dd_at td_spent 48 rfl) (by decide) (by decide) (by decide) ?_
  refine lv_icmp_ge (tgt := 146) C.1 C.2.1 (dd_at td_spent 49 rfl) (by decide) (fun c23 => ?_) (fun c23 => ?_)
  · replace hf := fc_of_t hf c23
    refine lv_aload_n C.1 C.2.1 (dd_at td_spent 84 rfl) rfl (lv_at hl 0 rfl) ?_
    refine mm_gA C hM 28 (dd_at td_spent 85 rfl) (by decide) (by decide) (by decide) ?_
    refine lv_bipush (v := (10 : Int32)) C.1 C.2.1 (dd_at td_spent 86 rfl) (by decide) ?_
    refine lv_iload_n C.1 C.2.1 (dd_at td_spent 87 rfl) rfl (lv_at hl 3 rfl) ?_
    refine lv_imul C.1 C.2.1 (dd_at td_spent 88 rfl) ?_
    refine lv_iload C.1 C.2.1 (dd_at td_spent 89 rfl) (lv_at hl 4 rfl) ?_
    refine lv_iadd C.1 C.2.1 (dd_at td_spent 90 rfl) ?_
    refine lv_lload C.1 C.2.1 (dd_at td_spent 91 rfl) (lv_at hl 5 rfl) ?_
    obtain ⟨g24, hf⟩ := fc_of_gd hf
    refine mm_last C hM 28 (dd_at td_spent 92 rfl) (by decide) (by decide) (fc_of_ix g24) (fun st25 H locs est25 hM => ?_)
    replace hf := fc_of_nm hf st25 est25
    obtain ⟨v26, ev26⟩ : ∃ y : Int32, y = x4 + (1 : Int32) := ⟨_, rfl⟩
    replace hf := fc_of_nm hf v26 ev26
    refine lv_iinc (v := v26) (lv' := [(4, .int v26), (0, .ref o), (1, .int x1), (2, .int x2), (3, .int x3), (5, .long x5), (7, .int x7)]) C.1 C.2.1 (dd_at td_spent 93 rfl) hl (k := 4) rfl (by rw [ev26]; rfl) (by decide) rfl (fun ls hl => ?_)
    refine lv_goto (tgt := 64) C.1 C.2.1 (dd_at td_spent 94 rfl) (by decide) ?_
    exact hK64 x1 x2 x3 v26 st25 _ _ _ hf (lv_sub hl [1, 2, 3, 4, 0] rfl) hM
  · replace hf := fc_of_f hf c23
    refine lv_lload C.1 C.2.1 (dd_at td_spent 50 rfl) (lv_at hl 5 rfl) ?_
    refine lv_aload_n C.1 C.2.1 (dd_at td_spent 51 rfl) rfl (lv_at hl 0 rfl) ?_
    refine mm_gA C hM 28 (dd_at td_spent 52 rfl) (by decide) (by decide) (by decide) ?_
    refine lv_bipush (v := (10 : Int32)) C.1 C.2.1 (dd_at td_spent 53 rfl) (by decide) ?_
    refine lv_iload_n C.1 C.2.1 (dd_at td_spent 54 rfl) rfl (lv_at hl 3 rfl) ?_
    refine lv_imul C.1 C.2.1 (dd_at td_spent 55 rfl) ?_
    refine lv_bipush (v := (10 : Int32)) C.1 C.2.1 (dd_at td_spent 56 rfl) (by decide) ?_
    refine lv_iadd C.1 C.2.1 (dd_at td_spent 57 rfl) ?_
    refine lv_iload C.1 C.2.1 (dd_at td_spent 58 rfl) (lv_at hl 4 rfl) ?_
    refine lv_if_le (tgt := 133) C.1 C.2.1 (dd_at td_spent 59 rfl) (by decide) (fun c27 => ?_) (fun c27 => ?_)
    · replace hf := fc_of_t hf c27
      exact w_spent_b133 C fu K57 hK57 K64 hK64 K77 hK77 x1 x2 x3 x4 x7 (((10 : Int32) * x3) + (10 : Int32)) x5 st hf (lv_sub hl [0, 1, 2, 3, 4, 6] rfl) hM
    · replace hf := fc_of_f hf c27
      refine lv_aload_n C.1 C.2.1 (dd_at td_spent 60 rfl) rfl (lv_at hl 0 rfl) ?_
      refine lv_iload C.1 C.2.1 (dd_at td_spent 61 rfl) (lv_at hl 6 rfl) ?_
      refine lv_iload_n C.1 C.2.1 (dd_at td_spent 62 rfl) rfl (lv_at hl 3 rfl) ?_
      refine lv_iload_n C.1 C.2.1 (dd_at td_spent 63 rfl) rfl (lv_at hl 1 rfl) ?_
      refine lv_iload C.1 C.2.1 (dd_at td_spent 64 rfl) (lv_at hl 4 rfl) ?_
      obtain ⟨r30, st28, hx29, hf⟩ := fc_of_bn hf
      refine mm_cl (As := [.int x7, .int x3, .int x1, .int x4]) (rest := [.int (((10 : Int32) * x3) + (10 : Int32)), .ref (ad 28), .long x5]) (n := 4) C hM (c_ifServed l D o ad cs fu x7 x3 x1 x4 st) (List.mem_of_getElem? (i := 16) rfl) (dd_at td_spent 65 rfl) hx29 hl.1 hd_ifServed ⟨Nat.le_of_ble_eq_true rfl, Nat.le_of_ble_eq_true rfl⟩ rfl rfl (Nat.le_of_ble_eq_true rfl) ⟨Nat.le_refl 0, Nat.le_refl 0⟩ (fun H locs hM => ?_)
      refine lv_aload_n C.1 C.2.1 (dd_at td_spent 66 rfl) rfl (lv_at hl 0 rfl) ?_
      refine lv_iload_n C.1 C.2.1 (dd_at td_spent 67 rfl) rfl (lv_at hl 3 rfl) ?_
      refine lv_iload_n C.1 C.2.1 (dd_at td_spent 68 rfl) rfl (lv_at hl 1 rfl) ?_
      refine lv_iload C.1 C.2.1 (dd_at td_spent 69 rfl) (lv_at hl 4 rfl) ?_
      obtain ⟨r33, st31, hx32, hf⟩ := fc_of_bn hf
      refine mm_cl (As := [.int x3, .int x1, .int x4]) (rest := [.long r30, .int (((10 : Int32) * x3) + (10 : Int32)), .ref (ad 28), .long x5]) (n := 3) C hM (c_ifSpared l D o ad cs fu x3 x1 x4 st28) (List.mem_of_getElem? (i := 17) rfl) (dd_at td_spent 70 rfl) hx32 hl.1 hd_ifSpared ⟨Nat.le_of_ble_eq_true rfl, Nat.le_of_ble_eq_true rfl⟩ rfl rfl (Nat.le_of_ble_eq_true rfl) ⟨Nat.le_refl 0, Nat.le_refl 0⟩ (fun H locs hM => ?_)
      refine W.lcmp C.1 C.2.1 (dd_at td_spent 71 rfl) ?_
      refine lv_if_le (tgt := 133) C.1 C.2.1 (dd_at td_spent 72 rfl) (by decide) (fun c34 => ?_) (fun c34 => ?_)
      · replace hf := fc_of_t hf c34
        exact w_spent_b133 C fu K57 hK57 K64 hK64 K77 hK77 x1 x2 x3 x4 x7 (((10 : Int32) * x3) + (10 : Int32)) x5 st31 hf (lv_sub hl [0, 1, 2, 3, 4, 6] rfl) hM
      · replace hf := fc_of_f hf c34
        refine lv_iload C.1 C.2.1 (dd_at td_spent 73 rfl) (lv_at hl 4 rfl) ?_
        refine lv_iconst (v := (1 : Int32)) C.1 C.2.1 (dd_at td_spent 74 rfl) (by decide) ?_
        refine lv_isub C.1 C.2.1 (dd_at td_spent 75 rfl) ?_
        refine lv_goto (tgt := 135) C.1 C.2.1 (dd_at td_spent 76 rfl) (by decide) ?_
        exact w_spent_b135 C fu K57 hK57 K64 hK64 K77 hK77 x1 x2 x3 x4 x7 (x4 - (1 : Int32)) (((10 : Int32) * x3) + (10 : Int32)) x5 st31 hf (lv_sub hl [0, 1, 2, 3, 4, 6] rfl) hM
theorem w_spent_b77 {p : Program} {l : Launch} {e : Env} {s : State} {m : MethodId} {args : Array Value} {below : List Frame} {meth : Method} {c : Code} {D : va_G} {o : Nat} {ad : Nat → Nat} {cs : ClassId × ClassId × ClassId} {r : Int64} {st' : mm_S} (C : mm_C p s m args meth c cX12_spent 8 (some .long) D cs) (fu : Nat) (K57 : Int32 → Int32 → Int32 → mm_S → Option (Int64 × mm_S)) (hK57 : ∀ (x1 : Int32) (x2 : Int32) (x3 : Int32) (st : mm_S) (H : Heap) (locs : List Loc) (ls : Array Slot), K57 x1 x2 x3 st = some (r, st') → lv_has ls 8 [(0, .ref o), (1, .int x1), (2, .int x2), (3, .int x3)] → mm_H D o ad cs s.heap st H locs → W p l e (mm_R 7 185) s m args below meth c H locs 0 0 (MQ below (mm_Ql D o ad cs r st') args s 0 0 (mm_A o ad)) (F0 m 57 ls [])) (K64 : Int32 → Int32 → Int32 → Int32 → mm_S → Option (Int64 × mm_S)) (hK64 : ∀ (x1 : Int32) (x2 : Int32) (x3 : Int32) (x4 : Int32) (st : mm_S) (H : Heap) (locs : List Loc) (ls : Array Slot), K64 x1 x2 x3 x4 st = some (r, st') → lv_has ls 8 [(0, .ref o), (1, .int x1), (2, .int x2), (3, .int x3), (4, .int x4)] → mm_H D o ad cs s.heap st H locs → W p l e (mm_R 7 185) s m args below meth c H locs 0 0 (MQ below (mm_Ql D o ad cs r st') args s 0 0 (mm_A o ad)) (F0 m 64 ls [])) (n : Nat) : ∀ (x1 : Int32) (x2 : Int32) (x3 : Int32) (x4 : Int32) (x5 : Int64) (x7 : Int32) (st : mm_S), M_spent_b77 fu K57 K64 n x1 x2 x3 x4 x5 x7 st = some (r, st') → ∀ (H : Heap) (locs : List Loc) (ls : Array Slot), lv_has ls 8 [(0, .ref o), (1, .int x1), (2, .int x2), (3, .int x3), (4, .int x4), (5, .long x5), (7, .int x7)] → mm_H D o ad cs s.heap st H locs → W p l e (mm_R 7 185) s m args below meth c H locs 0 0 (MQ below (mm_Ql D o ad cs r st') args s 0 0 (mm_A o ad)) (F0 m 77 ls []) := by
  induction n with
  | zero => exact fun _ _ _ _ _ _ _ hf => fc_no hf
  | succ n ih =>
    intro x1 x2 x3 x4 x5 x7 st hf H locs ls hl hM
    exact w_spent_b77F C fu K57 hK57 K64 hK64 (fun x1 x2 x3 x4 x5 x7 st => M_spent_b77 fu K57 K64 n x1 x2 x3 x4 x5 x7 st) (fun x1 x2 x3 x4 x5 x7 st H locs ls hf hl hM => ih x1 x2 x3 x4 x5 x7 st hf H locs ls hl hM) x1 x2 x3 x4 x5 x7 st hf hl hM
theorem w_spent_b64F {p : Program} {l : Launch} {e : Env} {s : State} {m : MethodId} {args : Array Value} {below : List Frame} {meth : Method} {c : Code} {D : va_G} {o : Nat} {ad : Nat → Nat} {cs : ClassId × ClassId × ClassId} {r : Int64} {st' : mm_S} (C : mm_C p s m args meth c cX12_spent 8 (some .long) D cs) (fu : Nat) (K57 : Int32 → Int32 → Int32 → mm_S → Option (Int64 × mm_S)) (hK57 : ∀ (x1 : Int32) (x2 : Int32) (x3 : Int32) (st : mm_S) (H : Heap) (locs : List Loc) (ls : Array Slot), K57 x1 x2 x3 st = some (r, st') → lv_has ls 8 [(0, .ref o), (1, .int x1), (2, .int x2), (3, .int x3)] → mm_H D o ad cs s.heap st H locs → W p l e (mm_R 7 185) s m args below meth c H locs 0 0 (MQ below (mm_Ql D o ad cs r st') args s 0 0 (mm_A o ad)) (F0 m 57 ls [])) (K64 : Int32 → Int32 → Int32 → Int32 → mm_S → Option (Int64 × mm_S)) (hK64 : ∀ (x1 : Int32) (x2 : Int32) (x3 : Int32) (x4 : Int32) (st : mm_S) (H : Heap) (locs : List Loc) (ls : Array Slot), K64 x1 x2 x3 x4 st = some (r, st') → lv_has ls 8 [(0, .ref o), (1, .int x1), (2, .int x2), (3, .int x3), (4, .int x4)] → mm_H D o ad cs s.heap st H locs → W p l e (mm_R 7 185) s m args below meth c H locs 0 0 (MQ below (mm_Ql D o ad cs r st') args s 0 0 (mm_A o ad)) (F0 m 64 ls [])) (x1 : Int32) (x2 : Int32) (x3 : Int32) (x4 : Int32) (st : mm_S) (hf : M_spent_b64F fu K57 K64 x1 x2 x3 x4 st = some (r, st')) {H : Heap} {locs : List Loc} {ls : Array Slot} (hl : lv_has ls 8 [(0, .ref o), (1, .int x1), (2, .int x2), (3, .int x3), (4, .int x4)]) (hM : mm_H D o ad cs s.heap st H locs) : W p l e (mm_R 7 185) s m args below meth c H locs 0 0 (MQ below (mm_Ql D o ad cs r st') args s 0 0 (mm_A o ad)) (F0 m 64 ls []) := by
  unfold M_spent_b64F at hf
  refine lv_iload C.1 C.2.1 (dd_at td_spent 39 rfl) (lv_at hl 4 rfl) ?_
  refine lv_bipush (v := (9 : Int32)) C.1 C.2.1 (dd_at td_spent 40 rfl) (by decide) ?_
  refine lv_icmp_ge (tgt := 166) C.1 C.2.1 (dd_at td_spent 41 rfl) (by decide) (fun c21 => ?_) (fun c21 => ?_)
  · replace hf := fc_of_t hf c21
    obtain ⟨v22, ev22⟩ : ∃ y : Int32, y = x3 + (-1 : Int32) := ⟨_, rfl⟩
    replace hf := fc_of_nm hf v22 ev22
    refine lv_iinc (v := v22) (lv' := [(3, .int v22), (0, .ref o), (1, .int x1), (2, .int x2), (4, .int x4)]) C.1 C.2.1 (dd_at td_spent 95 rfl) hl (k := 3) rfl (by rw [ev22]; rfl) (by decide) rfl (fun ls hl => ?_)
    refine lv_goto (tgt := 57) C.1 C.2.1 (dd_at td_spent 96 rfl) (by decide) ?_
    exact hK57 x1 x2 v22 st _ _ _ hf (lv_sub hl [1, 2, 3, 0] rfl) hM
  · replace hf := fc_of_f hf c21
    refine lv_lconst (v := (0 : Int64)) C.1 C.2.1 (dd_at td_spent 42 rfl) (by decide) ?_
    refine lv_lstore (lv' := [(5, .long (0 : Int64)), (0, .ref o), (1, .int x1), (2, .int x2), (3, .int x3), (4, .int x4)]) C.1 C.2.1 (dd_at td_spent 43 rfl) hl (by decide) rfl (fun ls hl => ?_)
    refine lv_iconst (v := (0 : Int32)) C.1 C.2.1 (dd_at td_spent 44 rfl) (by decide) ?_
    refine lv_istore (lv' := [(7, .int (0 : Int32)), (5, .long (0 : Int64)), (0, .ref o), (1, .int x1), (2, .int x2), (3, .int x3), (4, .int x4)]) C.1 C.2.1 (dd_at td_spent 45 rfl) hl (by decide) rfl (fun ls hl => ?_)
    exact w_spent_b77 C fu K57 hK57 K64 hK64 fu x1 x2 x3 x4 (0 : Int64) (0 : Int32) st hf _ _ _ (lv_sub hl [2, 3, 4, 5, 6, 1, 0] rfl) hM
theorem w_spent_b64 {p : Program} {l : Launch} {e : Env} {s : State} {m : MethodId} {args : Array Value} {below : List Frame} {meth : Method} {c : Code} {D : va_G} {o : Nat} {ad : Nat → Nat} {cs : ClassId × ClassId × ClassId} {r : Int64} {st' : mm_S} (C : mm_C p s m args meth c cX12_spent 8 (some .long) D cs) (fu : Nat) (K57 : Int32 → Int32 → Int32 → mm_S → Option (Int64 × mm_S)) (hK57 : ∀ (x1 : Int32) (x2 : Int32) (x3 : Int32) (st : mm_S) (H : Heap) (locs : List Loc) (ls : Array Slot), K57 x1 x2 x3 st = some (r, st') → lv_has ls 8 [(0, .ref o), (1, .int x1), (2, .int x2), (3, .int x3)] → mm_H D o ad cs s.heap st H locs → W p l e (mm_R 7 185) s m args below meth c H locs 0 0 (MQ below (mm_Ql D o ad cs r st') args s 0 0 (mm_A o ad)) (F0 m 57 ls [])) (n : Nat) : ∀ (x1 : Int32) (x2 : Int32) (x3 : Int32) (x4 : Int32) (st : mm_S), M_spent_b64 fu K57 n x1 x2 x3 x4 st = some (r, st') → ∀ (H : Heap) (locs : List Loc) (ls : Array Slot), lv_has ls 8 [(0, .ref o), (1, .int x1), (2, .int x2), (3, .int x3), (4, .int x4)] → mm_H D o ad cs s.heap st H locs → W p l e (mm_R 7 185) s m args below meth c H locs 0 0 (MQ below (mm_Ql D o ad cs r st') args s 0 0 (mm_A o ad)) (F0 m 64 ls []) := by
  induction n with
  | zero => exact fun _ _ _ _ _ hf => fc_no hf
  | succ n ih =>
    intro x1 x2 x3 x4 st hf H locs ls hl hM
    exact w_spent_b64F C fu K57 hK57 (fun x1 x2 x3 x4 st => M_spent_b64 fu K57 n x1 x2 x3 x4 st) (fun x1 x2 x3 x4 st H locs ls hf hl hM => ih x1 x2 x3 x4 st hf H locs ls hl hM) x1 x2 x3 x4 st hf hl hM
theorem w_spent_b57F {p : Program} {l : Launch} {e : Env} {s : State} {m : MethodId} {args : Array Value} {below : List Frame} {meth : Method} {c : Code} {D : va_G} {o : Nat} {ad : Nat → Nat} {cs : ClassId × ClassId × ClassId} {r : Int64} {st' : mm_S} (C : mm_C p s m args meth c cX12_spent 8 (some .long) D cs) (fu : Nat) (K57 : Int32 → Int32 → Int32 → mm_S → Option (Int64 × mm_S)) (hK57 : ∀ (x1 : Int32) (x2 : Int32) (x3 : Int32) (st : mm_S) (H : Heap) (locs : List Loc) (ls : Array Slot), K57 x1 x2 x3 st = some (r, st') → lv_has ls 8 [(0, .ref o), (1, .int x1), (2, .int x2), (3, .int x3)] → mm_H D o ad cs s.heap st H locs → W p l e (mm_R 7 185) s m args below meth c H locs 0 0 (MQ below (mm_Ql D o ad cs r st') args s 0 0 (mm_A o ad)) (F0 m 57 ls [])) (x1 : Int32) (x2 : Int32) (x3 : Int32) (st : mm_S) (hf : M_spent_b57F fu K57 x1 x2 x3 st = some (r, st')) {H : Heap} {locs : List Loc} {ls : Array Slot} (hl : lv_has ls 8 [(0, .ref o), (1, .int x1), (2, .int x2), (3, .int x3)]) (hM : mm_H D o ad cs s.heap st H locs) : W p l e (mm_R 7 185) s m args below meth c H locs 0 0 (MQ below (mm_Ql D o ad cs r st') args s 0 0 (mm_A o ad)) (F0 m 57 ls []) := by
  unfold M_spent_b57F at hf
  refine lv_iload_n C.1 C.2.1 (dd_at td_spent 35 rfl) rfl (lv_at hl 3 rfl) ?_
  refine lv_if_lt (tgt := 172) C.1 C.2.1 (dd_at td_spent 36 rfl) (by decide) (fun c10 => ?_) (fun c10 => ?_)
  · replace hf := fc_of_t hf c10
    refine lv_aload_n C.1 C.2.1 (dd_at td_spent 97 rfl) rfl (lv_at hl 0 rfl) ?_
    refine lv_aload_n C.1 C.2.1 (dd_at td_spent 98 rfl) rfl (lv_at hl 0 rfl) ?_
    refine mm_gA C hM 28 (dd_at td_spent 99 rfl) (by decide) (by decide) (by decide) ?_
    refine lv_aload_n C.1 C.2.1 (dd_at td_spent 100 rfl) rfl (lv_at hl 0 rfl) ?_
    refine mm_gI C hM 1 (dd_at td_spent 101 rfl) (by decide) (by decide) (by decide) ?_
    obtain ⟨g11, hf⟩ := fc_of_gd hf
    refine mm_lald C hM 28 (dd_at td_spent 102 rfl) (by decide) (by decide) (fc_of_ix g11) ?_
    refine lv_aload_n C.1 C.2.1 (dd_at td_spent 103 rfl) rfl (lv_at hl 0 rfl) ?_
    refine lv_iload_n C.1 C.2.1 (dd_at td_spent 104 rfl) rfl (lv_at hl 1 rfl) ?_
    obtain ⟨r14, st12, hx13, hf⟩ := fc_of_bn hf
    refine mm_cl (As := [.int x1]) (rest := [.long (mm_L st 28 (mm_I st 1).toNatClampNeg), .ref o]) (n := 1) C hM (c_ways l D o ad cs fu x1 st) (List.mem_of_getElem? (i := 46) rfl) (dd_at td_spent 105 rfl) hx13 hl.1 hd_ways ⟨Nat.le_of_ble_eq_true rfl, Nat.le_of_ble_eq_true rfl⟩ rfl rfl (Nat.le_of_ble_eq_true rfl) ⟨Nat.le_refl 0, Nat.le_refl 0⟩ (fun H locs hM => ?_)
    refine lv_iload_n C.1 C.2.1 (dd_at td_spent 106 rfl) rfl (lv_at hl 2 rfl) ?_
    obtain ⟨r17, st15, hx16, hf⟩ := fc_of_bn hf
    refine mm_cl (As := [.long (mm_L st 28 (mm_I st 1).toNatClampNeg), .long r14, .int x2]) (rest := []) (n := 3) C hM (c_lowest l D o ad cs fu (mm_L st 28 (mm_I st 1).toNatClampNeg) r14 x2 st12) (List.mem_of_getElem? (i := 28) rfl) (dd_at td_spent 107 rfl) hx16 hl.1 hd_lowest ⟨Nat.le_of_ble_eq_true rfl, Nat.le_of_ble_eq_true rfl⟩ rfl rfl (Nat.le_of_ble_eq_true rfl) ⟨Nat.le_refl 0, Nat.le_refl 0⟩ (fun H locs hM => ?_)
    exact mm_rl C hM (dd_at td_spent 108 rfl) hf
  · replace hf := fc_of_f hf c10
    refine lv_iconst (v := (0 : Int32)) C.1 C.2.1 (dd_at td_spent 37 rfl) (by decide) ?_
    refine lv_istore (lv' := [(4, .int (0 : Int32)), (0, .ref o), (1, .int x1), (2, .int x2), (3, .int x3)]) C.1 C.2.1 (dd_at td_spent 38 rfl) hl (by decide) rfl (fun ls hl => ?_)
    exact w_spent_b64 C fu K57 hK57 fu x1 x2 x3 (0 : Int32) st hf _ _ _ (lv_sub hl [1, 2, 3, 4, 0] rfl) hM
theorem w_spent_b57 {p : Program} {l : Launch} {e : Env} {s : State} {m : MethodId} {args : Array Value} {below : List Frame} {meth : Method} {c : Code} {D : va_G} {o : Nat} {ad : Nat → Nat} {cs : ClassId × ClassId × ClassId} {r : Int64} {st' : mm_S} (C : mm_C p s m args meth c cX12_spent 8 (some .long) D cs) (fu : Nat) (n : Nat) : ∀ (x1 : Int32) (x2 : Int32) (x3 : Int32) (st : mm_S), M_spent_b57 fu n x1 x2 x3 st = some (r, st') → ∀ (H : Heap) (locs : List Loc) (ls : Array Slot), lv_has ls 8 [(0, .ref o), (1, .int x1), (2, .int x2), (3, .int x3)] → mm_H D o ad cs s.heap st H locs → W p l e (mm_R 7 185) s m args below meth c H locs 0 0 (MQ below (mm_Ql D o ad cs r st') args s 0 0 (mm_A o ad)) (F0 m 57 ls []) := by
  induction n with
  | zero => exact fun _ _ _ _ hf => fc_no hf
  | succ n ih =>
    intro x1 x2 x3 st hf H locs ls hl hM
    exact w_spent_b57F C fu (fun x1 x2 x3 st => M_spent_b57 fu n x1 x2 x3 st) (fun x1 x2 x3 st H locs ls hf hl hM => ih x1 x2 x3 st hf H locs ls hl hM) x1 x2 x3 st hf hl hM
theorem w_spent_b46 {p : Program} {l : Launch} {e : Env} {s : State} {m : MethodId} {args : Array Value} {below : List Frame} {meth : Method} {c : Code} {D : va_G} {o : Nat} {ad : Nat → Nat} {cs : ClassId × ClassId × ClassId} {r : Int64} {st' : mm_S} (C : mm_C p s m args meth c cX12_spent 8 (some .long) D cs) (fu : Nat) (K21 : Int32 → Int32 → Int32 → mm_S → Option (Int64 × mm_S)) (hK21 : ∀ (x1 : Int32) (x2 : Int32) (x3 : Int32) (st : mm_S) (H : Heap) (locs : List Loc) (ls : Array Slot), K21 x1 x2 x3 st = some (r, st') → lv_has ls 8 [(0, .ref o), (1, .int x1), (2, .int x2), (3, .int x3)] → mm_H D o ad cs s.heap st H locs → W p l e (mm_R 7 185) s m args below meth c H locs 0 0 (MQ below (mm_Ql D o ad cs r st') args s 0 0 (mm_A o ad)) (F0 m 21 ls [])) (x1 : Int32) (x2 : Int32) (x3 : Int32) (s0 : Int64) (s1 : Int32) (st : mm_S) (hf : M_spent_b46 fu K21 x1 x2 x3 s0 s1 st = some (r, st')) {H : Heap} {locs : List Loc} {ls : Array Slot} (hl : lv_has ls 8 [(0, .ref o), (1, .int x1), (2, .int x2), (3, .int x3)]) (hM : mm_H D o ad cs s.heap st H locs) : W p l e (mm_R 7 185) s m args below meth c H locs 0 0 (MQ below (mm_Ql D o ad cs r st') args s 0 0 (mm_A o ad)) (F0 m 46 ls [.long s0, .int s1, .ref (ad 28)]) := by
  unfold M_spent_b46 at hf
  obtain ⟨g18, hf⟩ := fc_of_gd hf
  refine mm_last C hM 28 (dd_at td_spent 28 rfl) (by decide) (by decide) (fc_of_ix g18) (fun st19 H locs est19 hM => ?_)
  replace hf := fc_of_nm hf st19 est19
  obtain ⟨v20, ev20⟩ : ∃ y : Int32, y = x3 + (1 : Int32) := ⟨_, rfl⟩
  replace hf := fc_of_nm hf v20 ev20
  refine lv_iinc (v := v20) (lv' := [(3, .int v20), (0, .ref o), (1, .int x1), (2, .int x2)]) C.1 C.2.1 (dd_at td_spent 29 rfl) hl (k := 3) rfl (by rw [ev20]; rfl) (by decide) rfl (fun ls hl => ?_)
  refine lv_goto (tgt := 21) C.1 C.2.1 (dd_at td_spent 30 rfl) (by decide) ?_
  exact hK21 x1 x2 v20 st19 _ _ _ hf (lv_sub hl [1, 2, 3, 0] rfl) hM
theorem w_spent_b21F {p : Program} {l : Launch} {e : Env} {s : State} {m : MethodId} {args : Array Value} {below : List Frame} {meth : Method} {c : Code} {D : va_G} {o : Nat} {ad : Nat → Nat} {cs : ClassId × ClassId × ClassId} {r : Int64} {st' : mm_S} (C : mm_C p s m args meth c cX12_spent 8 (some .long) D cs) (fu : Nat) (K21 : Int32 → Int32 → Int32 → mm_S → Option (Int64 × mm_S)) (hK21 : ∀ (x1 : Int32) (x2 : Int32) (x3 : Int32) (st : mm_S) (H : Heap) (locs : List Loc) (ls : Array Slot), K21 x1 x2 x3 st = some (r, st') → lv_has ls 8 [(0, .ref o), (1, .int x1), (2, .int x2), (3, .int x3)] → mm_H D o ad cs s.heap st H locs → W p l e (mm_R 7 185) s m args below meth c H locs 0 0 (MQ below (mm_Ql D o ad cs r st') args s 0 0 (mm_A o ad)) (F0 m 21 ls [])) (x1 : Int32) (x2 : Int32) (x3 : Int32) (st : mm_S) (hf : M_spent_b21F fu K21 x1 x2 x3 st = some (r, st')) {H : Heap} {locs : List Loc} {ls : Array Slot} (hl : lv_has ls 8 [(0, .ref o), (1, .int x1), (2, .int x2), (3, .int x3)]) (hM : mm_H D o ad cs s.heap st H locs) : W p l e (mm_R 7 185) s m args below meth c H locs 0 0 (MQ below (mm_Ql D o ad cs r st') args s 0 0 (mm_A o ad)) (F0 m 21 ls []) := by
  unfold M_spent_b21F at hf
  refine lv_iload_n C.1 C.2.1 (dd_at td_spent 13 rfl) rfl (lv_at hl 3 rfl) ?_
  refine lv_bipush (v := (9 : Int32)) C.1 C.2.1 (dd_at td_spent 14 rfl) (by decide) ?_
  refine lv_icmp_ge (tgt := 53) C.1 C.2.1 (dd_at td_spent 15 rfl) (by decide) (fun c7 => ?_) (fun c7 => ?_)
  · replace hf := fc_of_t hf c7
    refine lv_iload_n C.1 C.2.1 (dd_at td_spent 31 rfl) rfl (lv_at hl 1 rfl) ?_
    refine lv_iconst (v := (1 : Int32)) C.1 C.2.1 (dd_at td_spent 32 rfl) (by decide) ?_
    refine lv_isub C.1 C.2.1 (dd_at td_spent 33 rfl) ?_
    refine lv_topi (fun v8 ev8 => ?_)
    replace hf := fc_of_nm hf v8 ev8
    refine lv_istore_n (lv' := [(3, .int v8), (0, .ref o), (1, .int x1), (2, .int x2)]) C.1 C.2.1 (dd_at td_spent 34 rfl) rfl hl (by decide) rfl (fun ls hl => ?_)
    exact w_spent_b57 C fu fu x1 x2 v8 st hf _ _ _ (lv_sub hl [1, 2, 3, 0] rfl) hM
  · replace hf := fc_of_f hf c7
    refine lv_aload_n C.1 C.2.1 (dd_at td_spent 16 rfl) rfl (lv_at hl 0 rfl) ?_
    refine mm_gA C hM 28 (dd_at td_spent 17 rfl) (by decide) (by decide) (by decide) ?_
    refine lv_bipush (v := (10 : Int32)) C.1 C.2.1 (dd_at td_spent 18 rfl) (by decide) ?_
    refine lv_iload_n C.1 C.2.1 (dd_at td_spent 19 rfl) rfl (lv_at hl 1 rfl) ?_
    refine lv_imul C.1 C.2.1 (dd_at td_spent 20 rfl) ?_
    refine lv_iload_n C.1 C.2.1 (dd_at td_spent 21 rfl) rfl (lv_at hl 3 rfl) ?_
    refine lv_iadd C.1 C.2.1 (dd_at td_spent 22 rfl) ?_
    refine lv_iload_n C.1 C.2.1 (dd_at td_spent 23 rfl) rfl (lv_at hl 3 rfl) ?_
    refine lv_if_ne (tgt := 45) C.1 C.2.1 (dd_at td_spent 24 rfl) (by decide) (fun c9 => ?_) (fun c9 => ?_)
    · replace hf := fc_of_f hf c9
      refine lv_lconst (v := (0 : Int64)) C.1 C.2.1 (dd_at td_spent 27 rfl) (by decide) ?_
      exact w_spent_b46 C fu K21 hK21 x1 x2 x3 (0 : Int64) (((10 : Int32) * x1) + x3) st hf (lv_sub hl [0, 1, 2, 3] rfl) hM
    · replace hf := fc_of_t hf c9
      refine lv_lconst (v := (1 : Int64)) C.1 C.2.1 (dd_at td_spent 25 rfl) (by decide) ?_
      refine lv_goto (tgt := 46) C.1 C.2.1 (dd_at td_spent 26 rfl) (by decide) ?_
      exact w_spent_b46 C fu K21 hK21 x1 x2 x3 (1 : Int64) (((10 : Int32) * x1) + x3) st hf (lv_sub hl [0, 1, 2, 3] rfl) hM
theorem w_spent_b21 {p : Program} {l : Launch} {e : Env} {s : State} {m : MethodId} {args : Array Value} {below : List Frame} {meth : Method} {c : Code} {D : va_G} {o : Nat} {ad : Nat → Nat} {cs : ClassId × ClassId × ClassId} {r : Int64} {st' : mm_S} (C : mm_C p s m args meth c cX12_spent 8 (some .long) D cs) (fu : Nat) (n : Nat) : ∀ (x1 : Int32) (x2 : Int32) (x3 : Int32) (st : mm_S), M_spent_b21 fu n x1 x2 x3 st = some (r, st') → ∀ (H : Heap) (locs : List Loc) (ls : Array Slot), lv_has ls 8 [(0, .ref o), (1, .int x1), (2, .int x2), (3, .int x3)] → mm_H D o ad cs s.heap st H locs → W p l e (mm_R 7 185) s m args below meth c H locs 0 0 (MQ below (mm_Ql D o ad cs r st') args s 0 0 (mm_A o ad)) (F0 m 21 ls []) := by
  induction n with
  | zero => exact fun _ _ _ _ hf => fc_no hf
  | succ n ih =>
    intro x1 x2 x3 st hf H locs ls hl hM
    exact w_spent_b21F C fu (fun x1 x2 x3 st => M_spent_b21 fu n x1 x2 x3 st) (fun x1 x2 x3 st H locs ls hf hl hM => ih x1 x2 x3 st hf H locs ls hl hM) x1 x2 x3 st hf hl hM
theorem w_spent {p : Program} {l : Launch} {e : Env} {s : State} {m : MethodId} {args : Array Value} {below : List Frame} {meth : Method} {c : Code} {D : va_G} {o : Nat} {ad : Nat → Nat} {cs : ClassId × ClassId × ClassId} {r : Int64} {st' : mm_S} (C : mm_C p s m args meth c cX12_spent 8 (some .long) D cs) (fu : Nat) (x1 : Int32) (x2 : Int32) (st : mm_S) (hf : M_spent fu x1 x2 st = some (r, st')) {H : Heap} {locs : List Loc} {ls : Array Slot} (hl : lv_has ls 8 [(0, .ref o), (1, .int x1), (2, .int x2)]) (hM : mm_H D o ad cs s.heap st H locs) : W p l e (mm_R 7 185) s m args below meth c H locs 0 0 (MQ below (mm_Ql D o ad cs r st') args s 0 0 (mm_A o ad)) (F0 m 0 ls []) := by
  unfold M_spent at hf
  refine lv_aload_n C.1 C.2.1 (dd_at td_spent 0 rfl) rfl (lv_at hl 0 rfl) ?_
  refine lv_iload_n C.1 C.2.1 (dd_at td_spent 1 rfl) rfl (lv_at hl 1 rfl) ?_
  refine lv_iload_n C.1 C.2.1 (dd_at td_spent 2 rfl) rfl (lv_at hl 2 rfl) ?_
  obtain ⟨r3, st1, hx2, hf⟩ := fc_of_bn hf
  refine mm_ci (As := [.int x1, .int x2]) (rest := []) (n := 2) C hM (c_isAsked l D o ad cs fu x1 x2 st) (List.mem_of_getElem? (i := 19) rfl) (dd_at td_spent 3 rfl) hx2 hl.1 hd_isAsked ⟨Nat.le_of_ble_eq_true rfl, Nat.le_of_ble_eq_true rfl⟩ rfl rfl (Nat.le_of_ble_eq_true rfl) ⟨Nat.le_refl 0, Nat.le_refl 0⟩ (fun H locs hM => ?_)
  refine lv_if_ne (tgt := 13) C.1 C.2.1 (dd_at td_spent 4 rfl) (by decide) (fun c4 => ?_) (fun c4 => ?_)
  · replace hf := fc_of_f hf c4
    refine lv_aload_n C.1 C.2.1 (dd_at td_spent 7 rfl) rfl (lv_at hl 0 rfl) ?_
    refine lv_iconst (v := (0 : Int32)) C.1 C.2.1 (dd_at td_spent 8 rfl) (by decide) ?_
    refine lv_iload_n C.1 C.2.1 (dd_at td_spent 9 rfl) rfl (lv_at hl 1 rfl) ?_
    obtain ⟨st5, hx6, hf⟩ := fc_of_bv hf
    refine mm_cv (As := [.int (0 : Int32), .int x1]) (rest := []) (n := 2) C hM (c_layGains l D o ad cs fu (0 : Int32) x1 st1) (List.mem_of_getElem? (i := 27) rfl) (dd_at td_spent 10 rfl) hx6 hl.1 hd_layGains ⟨Nat.le_of_ble_eq_true rfl, Nat.le_of_ble_eq_true rfl⟩ rfl rfl (Nat.le_of_ble_eq_true rfl) ⟨Nat.le_refl 0, Nat.le_refl 0⟩ (fun H locs hM => ?_)
    refine lv_iconst (v := (0 : Int32)) C.1 C.2.1 (dd_at td_spent 11 rfl) (by decide) ?_
    refine lv_istore_n (lv' := [(3, .int (0 : Int32)), (0, .ref o), (1, .int x1), (2, .int x2)]) C.1 C.2.1 (dd_at td_spent 12 rfl) rfl hl (by decide) rfl (fun ls hl => ?_)
    exact w_spent_b21 C fu fu x1 x2 (0 : Int32) st5 hf _ _ _ (lv_sub hl [1, 2, 3, 0] rfl) hM
  · replace hf := fc_of_t hf c4
    refine lv_ldc2 (v := (-9223372036854775808 : Int64)) C.1 C.2.1 C.2.2.2.2.1 (C.2.2.2.2.2.1 (.constantLong RX12 321 (-9223372036854775808 : Int64)) (mm_Wk (by decide +kernel))) (dd_at td_spent 5 rfl) ?_
    exact mm_rl C hM (dd_at td_spent 6 rfl) hf
theorem c_spent (l : Launch) (D : va_G) (o : Nat) (ad : Nat → Nat) (cs : ClassId × ClassId × ClassId) (fu : Nat) (x1 : Int32) (x2 : Int32) (st : mm_S) : mm_Ml l D o ad cs yX12_spent cX12_spent 8 (some .long) 7 185 [.int x1, .int x2] st (M_spent fu x1 x2 st) := by
  intro r st' hf
  refine mm_enter (cc := cX12_spent) (nL := 8) (ret := some .long) (by decide) rfl (Nat.le_of_ble_eq_true rfl) ?_
  intro p e s m args below meth c ls C hl hM
  exact w_spent C fu x1 x2 st hf hl hM

/-! threshold -/
def tb_threshold : List (Nat × Instr × Nat) := [(0, .aload_n 0, 1), (1, .iload_n 1, 1), (2, .iconst 1, 1), (3, .bipush 8, 2), (5, .invokevirtual 207, 3), (8, .ifCond .ne 6, 3), (11, .bipush (-2), 2), (13, .ireturn, 1), (14, .aload_n 0, 1), (15, .getfield 13, 3), (18, .ifCond .eq 10, 3), (21, .aload_n 0, 1), (22, .getfield 7, 3), (25, .ifCond .ne 6, 3), (28, .bipush (-5), 2), (30, .ireturn, 1), (31, .aload_n 0, 1), (32, .iconst 0, 1), (33, .iload_n 1, 1), (34, .invokevirtual 323, 3), (37, .aload_n 0, 1), (38, .iconst 0, 1), (39, .iload_n 1, 1), (40, .aload_n 0, 1), (41, .getfield 13, 3), (44, .invokevirtual 299, 3), (47, .lstore_n 2, 1), (48, .iconst 0, 1), (49, .istore 4, 2), (51, .iload 4, 2), (53, .sipush 1000, 3), (56, .if_icmp .ge 55, 3), (59, .aload_n 0, 1), (60, .iload_n 1, 1), (61, .iconst 1, 1), (62, .isub, 1), (63, .invokevirtual 295, 3), (66, .iload 4, 2), (68, .aload_n 0, 1), (69, .invokevirtual 289, 3), (72, .aload_n 0, 1), (73, .getfield 13, 3), (76, .iconst 1, 1), (77, .isub, 1), (78, .imul, 1), (79, .isub, 1), (80, .i2l, 1), (81, .lmul, 1), (82, .aload_n 0, 1), (83, .getfield 90, 3), (86, .bipush 10, 2), (88, .aload_n 0, 1), (89, .getfield 13, 3), (92, .iadd, 1), (93, .iconst 1, 1), (94, .isub, 1), (95, .laload, 1), (96, .ladd, 1), (97, .lload_n 2, 1), (98, .lcmp, 1), (99, .ifCond .le 6, 3), (102, .iload 4, 2), (104, .ireturn, 1), (105, .iinc 4 1, 3), (108, .goto (-57), 3), (111, .bipush (-5), 2), (113, .ireturn, 1)]
theorem td_threshold : tb_threshold.all (fun q => decide (decode cX12_threshold q.1 = .ok (q.2.1, q.2.2))) = true := by decide +kernel
theorem w_threshold_b51F {p : Program} {l : Launch} {e : Env} {s : State} {m : MethodId} {args : Array Value} {below : List Frame} {meth : Method} {c : Code} {D : va_G} {o : Nat} {ad : Nat → Nat} {cs : ClassId × ClassId × ClassId} {r : Int32} {st' : mm_S} (C : mm_C p s m args meth c cX12_threshold 5 (some .int) D cs) (fu : Nat) (K51 : Int32 → Int64 → Int32 → mm_S → Option (Int32 × mm_S)) (hK51 : ∀ (x1 : Int32) (x2 : Int64) (x4 : Int32) (st : mm_S) (H : Heap) (locs : List Loc) (ls : Array Slot), K51 x1 x2 x4 st = some (r, st') → lv_has ls 5 [(0, .ref o), (1, .int x1), (2, .long x2), (4, .int x4)] → mm_H D o ad cs s.heap st H locs → W p l e (mm_R 7 185) s m args below meth c H locs 0 0 (MQ below (mm_Qi D o ad cs r st') args s 0 0 (mm_A o ad)) (F0 m 51 ls [])) (x1 : Int32) (x2 : Int64) (x4 : Int32) (st : mm_S) (hf : M_threshold_b51F fu K51 x1 x2 x4 st = some (r, st')) {H : Heap} {locs : List Loc} {ls : Array Slot} (hl : lv_has ls 5 [(0, .ref o), (1, .int x1), (2, .long x2), (4, .int x4)]) (hM : mm_H D o ad cs s.heap st H locs) : W p l e (mm_R 7 185) s m args below meth c H locs 0 0 (MQ below (mm_Qi D o ad cs r st') args s 0 0 (mm_A o ad)) (F0 m 51 ls []) := by
  unfold M_threshold_b51F at hf
  refine lv_iload C.1 C.2.1 (dd_at td_threshold 29 rfl) (lv_at hl 3 rfl) ?_
  refine lv_sipush (v := (1000 : Int32)) C.1 C.2.1 (dd_at td_threshold 30 rfl) (by decide) ?_
  refine lv_icmp_ge (tgt := 111) C.1 C.2.1 (dd_at td_threshold 31 rfl) (by decide) (fun c12 => ?_) (fun c12 => ?_)
  · replace hf := fc_of_t hf c12
    refine lv_bipush (v := (-5 : Int32)) C.1 C.2.1 (dd_at td_threshold 65 rfl) (by decide) ?_
    exact mm_ri C hM (dd_at td_threshold 66 rfl) hf
  · replace hf := fc_of_f hf c12
    refine lv_aload_n C.1 C.2.1 (dd_at td_threshold 32 rfl) rfl (lv_at hl 0 rfl) ?_
    refine lv_iload_n C.1 C.2.1 (dd_at td_threshold 33 rfl) rfl (lv_at hl 1 rfl) ?_
    refine lv_iconst (v := (1 : Int32)) C.1 C.2.1 (dd_at td_threshold 34 rfl) (by decide) ?_
    refine lv_isub C.1 C.2.1 (dd_at td_threshold 35 rfl) ?_
    obtain ⟨r15, st13, hx14, hf⟩ := fc_of_bn hf
    refine mm_cl (As := [.int (x1 - (1 : Int32))]) (rest := []) (n := 1) C hM (c_ways l D o ad cs fu (x1 - (1 : Int32)) st) (List.mem_of_getElem? (i := 46) rfl) (dd_at td_threshold 36 rfl) hx14 hl.1 hd_ways ⟨Nat.le_of_ble_eq_true rfl, Nat.le_of_ble_eq_true rfl⟩ rfl rfl (Nat.le_of_ble_eq_true rfl) ⟨Nat.le_refl 0, Nat.le_refl 0⟩ (fun H locs hM => ?_)
    refine lv_iload C.1 C.2.1 (dd_at td_threshold 37 rfl) (lv_at hl 3 rfl) ?_
    refine lv_aload_n C.1 C.2.1 (dd_at td_threshold 38 rfl) rfl (lv_at hl 0 rfl) ?_
    obtain ⟨r18, st16, hx17, hf⟩ := fc_of_bn hf
    refine mm_ci (As := []) (rest := [.int x4, .long r15]) (n := 0) C hM (c_keep l D o ad cs fu st13) (List.mem_of_getElem? (i := 26) rfl) (dd_at td_threshold 39 rfl) hx17 hl.1 hd_keep ⟨Nat.le_of_ble_eq_true rfl, Nat.le_of_ble_eq_true rfl⟩ rfl rfl (Nat.le_of_ble_eq_true rfl) ⟨Nat.le_refl 0, Nat.le_refl 0⟩ (fun H locs hM => ?_)
    refine lv_aload_n C.1 C.2.1 (dd_at td_threshold 40 rfl) rfl (lv_at hl 0 rfl) ?_
    refine mm_gI C hM 1 (dd_at td_threshold 41 rfl) (by decide) (by decide) (by decide) ?_
    refine lv_iconst (v := (1 : Int32)) C.1 C.2.1 (dd_at td_threshold 42 rfl) (by decide) ?_
    refine lv_isub C.1 C.2.1 (dd_at td_threshold 43 rfl) ?_
    refine lv_imul C.1 C.2.1 (dd_at td_threshold 44 rfl) ?_
    refine lv_isub C.1 C.2.1 (dd_at td_threshold 45 rfl) ?_
    refine lv_i2l C.1 C.2.1 (dd_at td_threshold 46 rfl) rfl ?_
    refine lv_lmul C.1 C.2.1 (dd_at td_threshold 47 rfl) ?_
    refine lv_aload_n C.1 C.2.1 (dd_at td_threshold 48 rfl) rfl (lv_at hl 0 rfl) ?_
    refine mm_gA C hM 26 (dd_at td_threshold 49 rfl) (by decide) (by decide) (by decide) ?_
    refine lv_bipush (v := (10 : Int32)) C.1 C.2.1 (dd_at td_threshold 50 rfl) (by decide) ?_
    refine lv_aload_n C.1 C.2.1 (dd_at td_threshold 51 rfl) rfl (lv_at hl 0 rfl) ?_
    refine mm_gI C hM 1 (dd_at td_threshold 52 rfl) (by decide) (by decide) (by decide) ?_
    refine lv_iadd C.1 C.2.1 (dd_at td_threshold 53 rfl) ?_
    refine lv_iconst (v := (1 : Int32)) C.1 C.2.1 (dd_at td_threshold 54 rfl) (by decide) ?_
    refine lv_isub C.1 C.2.1 (dd_at td_threshold 55 rfl) ?_
    obtain ⟨g19, hf⟩ := fc_of_gd hf
    refine mm_lald C hM 26 (dd_at td_threshold 56 rfl) (by decide) (by decide) (fc_of_ix g19) ?_
    refine lv_ladd C.1 C.2.1 (dd_at td_threshold 57 rfl) ?_
    refine lv_lload_n C.1 C.2.1 (dd_at td_threshold 58 rfl) rfl (lv_at hl 2 rfl) ?_
    refine W.lcmp C.1 C.2.1 (dd_at td_threshold 59 rfl) ?_
    refine lv_if_le (tgt := 105) C.1 C.2.1 (dd_at td_threshold 60 rfl) (by decide) (fun c20 => ?_) (fun c20 => ?_)
    · replace hf := fc_of_t hf c20
      obtain ⟨v21, ev21⟩ : ∃ y : Int32, y = x4 + (1 : Int32) := ⟨_, rfl⟩
      replace hf := fc_of_nm hf v21 ev21
      refine lv_iinc (v := v21) (lv' := [(4, .int v21), (0, .ref o), (1, .int x1), (2, .long x2)]) C.1 C.2.1 (dd_at td_threshold 63 rfl) hl (k := 3) rfl (by rw [ev21]; rfl) (by decide) rfl (fun ls hl => ?_)
      refine lv_goto (tgt := 51) C.1 C.2.1 (dd_at td_threshold 64 rfl) (by decide) ?_
      exact hK51 x1 x2 v21 st16 _ _ _ hf (lv_sub hl [1, 2, 3, 0] rfl) hM
    · replace hf := fc_of_f hf c20
      refine lv_iload C.1 C.2.1 (dd_at td_threshold 61 rfl) (lv_at hl 3 rfl) ?_
      exact mm_ri C hM (dd_at td_threshold 62 rfl) hf
theorem w_threshold_b51 {p : Program} {l : Launch} {e : Env} {s : State} {m : MethodId} {args : Array Value} {below : List Frame} {meth : Method} {c : Code} {D : va_G} {o : Nat} {ad : Nat → Nat} {cs : ClassId × ClassId × ClassId} {r : Int32} {st' : mm_S} (C : mm_C p s m args meth c cX12_threshold 5 (some .int) D cs) (fu : Nat) (n : Nat) : ∀ (x1 : Int32) (x2 : Int64) (x4 : Int32) (st : mm_S), M_threshold_b51 fu n x1 x2 x4 st = some (r, st') → ∀ (H : Heap) (locs : List Loc) (ls : Array Slot), lv_has ls 5 [(0, .ref o), (1, .int x1), (2, .long x2), (4, .int x4)] → mm_H D o ad cs s.heap st H locs → W p l e (mm_R 7 185) s m args below meth c H locs 0 0 (MQ below (mm_Qi D o ad cs r st') args s 0 0 (mm_A o ad)) (F0 m 51 ls []) := by
  induction n with
  | zero => exact fun _ _ _ _ hf => fc_no hf
  | succ n ih =>
    intro x1 x2 x4 st hf H locs ls hl hM
    exact w_threshold_b51F C fu (fun x1 x2 x4 st => M_threshold_b51 fu n x1 x2 x4 st) (fun x1 x2 x4 st H locs ls hf hl hM => ih x1 x2 x4 st hf H locs ls hl hM) x1 x2 x4 st hf hl hM
theorem w_threshold {p : Program} {l : Launch} {e : Env} {s : State} {m : MethodId} {args : Array Value} {below : List Frame} {meth : Method} {c : Code} {D : va_G} {o : Nat} {ad : Nat → Nat} {cs : ClassId × ClassId × ClassId} {r : Int32} {st' : mm_S} (C : mm_C p s m args meth c cX12_threshold 5 (some .int) D cs) (fu : Nat) (x1 : Int32) (st : mm_S) (hf : M_threshold fu x1 st = some (r, st')) {H : Heap} {locs : List Loc} {ls : Array Slot} (hl : lv_has ls 5 [(0, .ref o), (1, .int x1)]) (hM : mm_H D o ad cs s.heap st H locs) : W p l e (mm_R 7 185) s m args below meth c H locs 0 0 (MQ below (mm_Qi D o ad cs r st') args s 0 0 (mm_A o ad)) (F0 m 0 ls []) := by
  unfold M_threshold at hf
  refine lv_aload_n C.1 C.2.1 (dd_at td_threshold 0 rfl) rfl (lv_at hl 0 rfl) ?_
  refine lv_iload_n C.1 C.2.1 (dd_at td_threshold 1 rfl) rfl (lv_at hl 1 rfl) ?_
  refine lv_iconst (v := (1 : Int32)) C.1 C.2.1 (dd_at td_threshold 2 rfl) (by decide) ?_
  refine lv_bipush (v := (8 : Int32)) C.1 C.2.1 (dd_at td_threshold 3 rfl) (by decide) ?_
  obtain ⟨r3, st1, hx2, hf⟩ := fc_of_bn hf
  refine mm_ci (As := [.int x1, .int (1 : Int32), .int (8 : Int32)]) (rest := []) (n := 3) C hM (c_in l D o ad cs fu x1 (1 : Int32) (8 : Int32) st) (List.mem_of_getElem? (i := 18) rfl) (dd_at td_threshold 4 rfl) hx2 hl.1 hd_in ⟨Nat.le_of_ble_eq_true rfl, Nat.le_of_ble_eq_true rfl⟩ rfl rfl (Nat.le_of_ble_eq_true rfl) ⟨Nat.le_refl 0, Nat.le_refl 0⟩ (fun H locs hM => ?_)
  refine lv_if_ne (tgt := 14) C.1 C.2.1 (dd_at td_threshold 5 rfl) (by decide) (fun c4 => ?_) (fun c4 => ?_)
  · replace hf := fc_of_f hf c4
    refine lv_aload_n C.1 C.2.1 (dd_at td_threshold 8 rfl) rfl (lv_at hl 0 rfl) ?_
    refine mm_gI C hM 1 (dd_at td_threshold 9 rfl) (by decide) (by decide) (by decide) ?_
    refine lv_if_eq (tgt := 28) C.1 C.2.1 (dd_at td_threshold 10 rfl) (by decide) (fun c5 => ?_) (fun c5 => ?_)
    · replace hf := fc_of_t hf c5
      refine lv_bipush (v := (-5 : Int32)) C.1 C.2.1 (dd_at td_threshold 14 rfl) (by decide) ?_
      exact mm_ri C hM (dd_at td_threshold 15 rfl) hf
    · replace hf := fc_of_f hf c5
      refine lv_aload_n C.1 C.2.1 (dd_at td_threshold 11 rfl) rfl (lv_at hl 0 rfl) ?_
      refine mm_gI C hM 0 (dd_at td_threshold 12 rfl) (by decide) (by decide) (by decide) ?_
      refine lv_if_ne (tgt := 31) C.1 C.2.1 (dd_at td_threshold 13 rfl) (by decide) (fun c6 => ?_) (fun c6 => ?_)
      · replace hf := fc_of_f hf c6
        refine lv_aload_n C.1 C.2.1 (dd_at td_threshold 16 rfl) rfl (lv_at hl 0 rfl) ?_
        refine lv_iconst (v := (0 : Int32)) C.1 C.2.1 (dd_at td_threshold 17 rfl) (by decide) ?_
        refine lv_iload_n C.1 C.2.1 (dd_at td_threshold 18 rfl) rfl (lv_at hl 1 rfl) ?_
        obtain ⟨st7, hx8, hf⟩ := fc_of_bv hf
        refine mm_cv (As := [.int (0 : Int32), .int x1]) (rest := []) (n := 2) C hM (c_layGains l D o ad cs fu (0 : Int32) x1 st1) (List.mem_of_getElem? (i := 27) rfl) (dd_at td_threshold 19 rfl) hx8 hl.1 hd_layGains ⟨Nat.le_of_ble_eq_true rfl, Nat.le_of_ble_eq_true rfl⟩ rfl rfl (Nat.le_of_ble_eq_true rfl) ⟨Nat.le_refl 0, Nat.le_refl 0⟩ (fun H locs hM => ?_)
        refine lv_aload_n C.1 C.2.1 (dd_at td_threshold 20 rfl) rfl (lv_at hl 0 rfl) ?_
        refine lv_iconst (v := (0 : Int32)) C.1 C.2.1 (dd_at td_threshold 21 rfl) (by decide) ?_
        refine lv_iload_n C.1 C.2.1 (dd_at td_threshold 22 rfl) rfl (lv_at hl 1 rfl) ?_
        refine lv_aload_n C.1 C.2.1 (dd_at td_threshold 23 rfl) rfl (lv_at hl 0 rfl) ?_
        refine mm_gI C hM 1 (dd_at td_threshold 24 rfl) (by decide) (by decide) (by decide) ?_
        obtain ⟨r11, st9, hx10, hf⟩ := fc_of_bn hf
        refine mm_cl (As := [.int (0 : Int32), .int x1, .int (mm_I st7 1)]) (rest := []) (n := 3) C hM (c_ifSpared l D o ad cs fu (0 : Int32) x1 (mm_I st7 1) st7) (List.mem_of_getElem? (i := 17) rfl) (dd_at td_threshold 25 rfl) hx10 hl.1 hd_ifSpared ⟨Nat.le_of_ble_eq_true rfl, Nat.le_of_ble_eq_true rfl⟩ rfl rfl (Nat.le_of_ble_eq_true rfl) ⟨Nat.le_refl 0, Nat.le_refl 0⟩ (fun H locs hM => ?_)
        refine lv_lstore_n (lv' := [(2, .long r11), (0, .ref o), (1, .int x1)]) C.1 C.2.1 (dd_at td_threshold 26 rfl) rfl hl (by decide) rfl (fun ls hl => ?_)
        refine lv_iconst (v := (0 : Int32)) C.1 C.2.1 (dd_at td_threshold 27 rfl) (by decide) ?_
        refine lv_istore (lv' := [(4, .int (0 : Int32)), (2, .long r11), (0, .ref o), (1, .int x1)]) C.1 C.2.1 (dd_at td_threshold 28 rfl) hl (by decide) rfl (fun ls hl => ?_)
        exact w_threshold_b51 C fu fu x1 r11 (0 : Int32) st9 hf _ _ _ (lv_sub hl [2, 3, 1, 0] rfl) hM
      · replace hf := fc_of_t hf c6
        refine lv_bipush (v := (-5 : Int32)) C.1 C.2.1 (dd_at td_threshold 14 rfl) (by decide) ?_
        exact mm_ri C hM (dd_at td_threshold 15 rfl) hf
  · replace hf := fc_of_t hf c4
    refine lv_bipush (v := (-2 : Int32)) C.1 C.2.1 (dd_at td_threshold 6 rfl) (by decide) ?_
    exact mm_ri C hM (dd_at td_threshold 7 rfl) hf
theorem c_threshold (l : Launch) (D : va_G) (o : Nat) (ad : Nat → Nat) (cs : ClassId × ClassId × ClassId) (fu : Nat) (x1 : Int32) (st : mm_S) : mm_Mi l D o ad cs yX12_threshold cX12_threshold 5 (some .int) 7 185 [.int x1] st (M_threshold fu x1 st) := by
  intro r st' hf
  refine mm_enter (cc := cX12_threshold) (nL := 5) (ret := some .int) (by decide) rfl (Nat.le_of_ble_eq_true rfl) ?_
  intro p e s m args below meth c ls C hl hM
  exact w_threshold C fu x1 st hf hl hM

/-! century -/
def tb_century : List (Nat × Instr × Nat) := [(0, .iload_n 1, 1), (1, .iconst (-1), 1), (2, .if_icmp .ne 10, 3), (5, .aload_n 0, 1), (6, .iconst 0, 1), (7, .putfield 100, 3), (10, .iconst 0, 1), (11, .ireturn, 1), (12, .aload_n 0, 1), (13, .iload_n 1, 1), (14, .invokevirtual 215, 3), (17, .ifCond .ne 5, 3), (20, .iconst (-1), 1), (21, .ireturn, 1), (22, .aload_n 0, 1), (23, .getfield 100, 3), (26, .bipush 8, 2), (28, .if_icmp .ne 6, 3), (31, .bipush (-4), 2), (33, .ireturn, 1), (34, .aload_n 0, 1), (35, .getfield 103, 3), (38, .aload_n 0, 1), (39, .getfield 100, 3), (42, .iload_n 1, 1), (43, .iastore, 1), (44, .aload_n 0, 1), (45, .dup, 1), (46, .getfield 100, 3), (49, .iconst 1, 1), (50, .iadd, 1), (51, .putfield 100, 3), (54, .aload_n 0, 1), (55, .getfield 100, 3), (58, .ireturn, 1)]
theorem td_century : tb_century.all (fun q => decide (decode cX12_century q.1 = .ok (q.2.1, q.2.2))) = true := by decide +kernel
theorem w_century {p : Program} {l : Launch} {e : Env} {s : State} {m : MethodId} {args : Array Value} {below : List Frame} {meth : Method} {c : Code} {D : va_G} {o : Nat} {ad : Nat → Nat} {cs : ClassId × ClassId × ClassId} {r : Int32} {st' : mm_S} (C : mm_C p s m args meth c cX12_century 2 (some .int) D cs) (fu : Nat) (x1 : Int32) (st : mm_S) (hf : M_century fu x1 st = some (r, st')) {H : Heap} {locs : List Loc} {ls : Array Slot} (hl : lv_has ls 2 [(0, .ref o), (1, .int x1)]) (hM : mm_H D o ad cs s.heap st H locs) : W p l e (mm_R 2 44) s m args below meth c H locs 0 0 (MQ below (mm_Qi D o ad cs r st') args s 0 0 (mm_A o ad)) (F0 m 0 ls []) := by
  unfold M_century at hf
  refine lv_iload_n C.1 C.2.1 (dd_at td_century 0 rfl) rfl (lv_at hl 1 rfl) ?_
  refine lv_iconst (v := (-1 : Int32)) C.1 C.2.1 (dd_at td_century 1 rfl) (by decide) ?_
  refine lv_icmp_ne (tgt := 12) C.1 C.2.1 (dd_at td_century 2 rfl) (by decide) (fun c1 => ?_) (fun c1 => ?_)
  · replace hf := fc_of_f hf c1
    refine lv_aload_n C.1 C.2.1 (dd_at td_century 8 rfl) rfl (lv_at hl 0 rfl) ?_
    refine lv_iload_n C.1 C.2.1 (dd_at td_century 9 rfl) rfl (lv_at hl 1 rfl) ?_
    obtain ⟨r4, st2, hx3, hf⟩ := fc_of_bn hf
    refine mm_ci (As := [.int x1]) (rest := []) (n := 1) C hM (c_isNeed l D o ad cs fu x1 st) (List.mem_of_getElem? (i := 22) rfl) (dd_at td_century 10 rfl) hx3 hl.1 hd_isNeed ⟨Nat.le_of_ble_eq_true rfl, Nat.le_of_ble_eq_true rfl⟩ rfl rfl (Nat.le_of_ble_eq_true rfl) ⟨Nat.le_refl 0, Nat.le_refl 0⟩ (fun H locs hM => ?_)
    refine lv_if_ne (tgt := 22) C.1 C.2.1 (dd_at td_century 11 rfl) (by decide) (fun c5 => ?_) (fun c5 => ?_)
    · replace hf := fc_of_f hf c5
      refine lv_aload_n C.1 C.2.1 (dd_at td_century 14 rfl) rfl (lv_at hl 0 rfl) ?_
      refine mm_gI C hM 29 (dd_at td_century 15 rfl) (by decide) (by decide) (by decide) ?_
      refine lv_bipush (v := (8 : Int32)) C.1 C.2.1 (dd_at td_century 16 rfl) (by decide) ?_
      refine lv_icmp_ne (tgt := 34) C.1 C.2.1 (dd_at td_century 17 rfl) (by decide) (fun c6 => ?_) (fun c6 => ?_)
      · replace hf := fc_of_f hf c6
        refine lv_aload_n C.1 C.2.1 (dd_at td_century 20 rfl) rfl (lv_at hl 0 rfl) ?_
        refine mm_gA C hM 30 (dd_at td_century 21 rfl) (by decide) (by decide) (by decide) ?_
        refine lv_aload_n C.1 C.2.1 (dd_at td_century 22 rfl) rfl (lv_at hl 0 rfl) ?_
        refine mm_gI C hM 29 (dd_at td_century 23 rfl) (by decide) (by decide) (by decide) ?_
        refine lv_iload_n C.1 C.2.1 (dd_at td_century 24 rfl) rfl (lv_at hl 1 rfl) ?_
        obtain ⟨g7, hf⟩ := fc_of_gd hf
        refine mm_iast C hM 30 (dd_at td_century 25 rfl) (by decide) (by decide) (fc_of_ix g7) (fun st8 H locs est8 hM => ?_)
        replace hf := fc_of_nm hf st8 est8
        refine lv_aload_n C.1 C.2.1 (dd_at td_century 26 rfl) rfl (lv_at hl 0 rfl) ?_
        refine lv_dup C.1 C.2.1 (dd_at td_century 27 rfl) rfl ?_
        refine mm_gI C hM 29 (dd_at td_century 28 rfl) (by decide) (by decide) (by decide) ?_
        refine lv_iconst (v := (1 : Int32)) C.1 C.2.1 (dd_at td_century 29 rfl) (by decide) ?_
        refine lv_iadd C.1 C.2.1 (dd_at td_century 30 rfl) ?_
        refine mm_pI C hM 29 (dd_at td_century 31 rfl) (by decide) (by decide) (by decide) rfl rfl (fun st9 H locs est9 hM => ?_)
        replace hf := fc_of_nm hf st9 est9
        refine lv_aload_n C.1 C.2.1 (dd_at td_century 32 rfl) rfl (lv_at hl 0 rfl) ?_
        refine mm_gI C hM 29 (dd_at td_century 33 rfl) (by decide) (by decide) (by decide) ?_
        exact mm_ri C hM (dd_at td_century 34 rfl) hf
      · replace hf := fc_of_t hf c6
        refine lv_bipush (v := (-4 : Int32)) C.1 C.2.1 (dd_at td_century 18 rfl) (by decide) ?_
        exact mm_ri C hM (dd_at td_century 19 rfl) hf
    · replace hf := fc_of_t hf c5
      refine lv_iconst (v := (-1 : Int32)) C.1 C.2.1 (dd_at td_century 12 rfl) (by decide) ?_
      exact mm_ri C hM (dd_at td_century 13 rfl) hf
  · replace hf := fc_of_t hf c1
    refine lv_aload_n C.1 C.2.1 (dd_at td_century 3 rfl) rfl (lv_at hl 0 rfl) ?_
    refine lv_iconst (v := (0 : Int32)) C.1 C.2.1 (dd_at td_century 4 rfl) (by decide) ?_
    refine mm_pI C hM 29 (dd_at td_century 5 rfl) (by decide) (by decide) (by decide) rfl rfl (fun st10 H locs est10 hM => ?_)
    replace hf := fc_of_nm hf st10 est10
    refine lv_iconst (v := (0 : Int32)) C.1 C.2.1 (dd_at td_century 6 rfl) (by decide) ?_
    exact mm_ri C hM (dd_at td_century 7 rfl) hf
theorem c_century (l : Launch) (D : va_G) (o : Nat) (ad : Nat → Nat) (cs : ClassId × ClassId × ClassId) (fu : Nat) (x1 : Int32) (st : mm_S) : mm_Mi l D o ad cs yX12_century cX12_century 2 (some .int) 2 44 [.int x1] st (M_century fu x1 st) := by
  intro r st' hf
  refine mm_enter (cc := cX12_century) (nL := 2) (ret := some .int) (by decide) rfl (Nat.le_of_ble_eq_true rfl) ?_
  intro p e s m args below meth c ls C hl hM
  exact w_century C fu x1 st hf hl hM

/-! gainBy -/
def tb_gainBy : List (Nat × Instr × Nat) := [(0, .aload_n 0, 1), (1, .getfield 13, 3), (4, .istore_n 2, 1), (5, .iconst 0, 1), (6, .istore_n 3, 1), (7, .iconst 0, 1), (8, .istore 4, 2), (10, .iload 4, 2), (12, .aload_n 0, 1), (13, .getfield 100, 3), (16, .if_icmp .ge 57, 3), (19, .aload_n 0, 1), (20, .iload_n 1, 1), (21, .iload 4, 2), (23, .invokevirtual 203, 3), (26, .ifCond .eq 32, 3), (29, .iload_n 2, 1), (30, .ifCond .le 28, 3), (33, .iload_n 3, 1), (34, .aload_n 0, 1), (35, .aload_n 0, 1), (36, .getfield 103, 3), (39, .iload 4, 2), (41, .iaload, 1), (42, .aload_n 0, 1), (43, .getfield 19, 3), (46, .iload 4, 2), (48, .iadd, 1), (49, .iload_n 2, 1), (50, .invokevirtual 282, 3), (53, .iadd, 1), (54, .istore_n 3, 1), (55, .iinc 2 (-1), 3), (58, .iload_n 3, 1), (59, .aload_n 0, 1), (60, .invokevirtual 289, 3), (63, .iload_n 2, 1), (64, .imul, 1), (65, .isub, 1), (66, .istore_n 3, 1), (67, .iinc 4 1, 3), (70, .goto (-60), 3), (73, .iload_n 3, 1), (74, .ireturn, 1)]
theorem td_gainBy : tb_gainBy.all (fun q => decide (decode cX12_gainBy q.1 = .ok (q.2.1, q.2.2))) = true := by decide +kernel
theorem hd_gainBy : yX12_gainBy.cls = RX12 ∧ yX12_gainBy.cls ≠ "java/lang/invoke/MethodHandle" ∧ yX12_gainBy.cls ≠ "java/lang/invoke/VarHandle" ∧ (parseMethodDescriptor yX12_gainBy.desc).map (fun d => d.parameters.length) = some 1 := by decide +kernel
theorem w_gainBy_b58 {p : Program} {l : Launch} {e : Env} {s : State} {m : MethodId} {args : Array Value} {below : List Frame} {meth : Method} {c : Code} {D : va_G} {o : Nat} {ad : Nat → Nat} {cs : ClassId × ClassId × ClassId} {r : Int32} {st' : mm_S} (C : mm_C p s m args meth c cX12_gainBy 5 (some .int) D cs) (fu : Nat) (K10 : Int32 → Int32 → Int32 → Int32 → mm_S → Option (Int32 × mm_S)) (hK10 : ∀ (x1 : Int32) (x2 : Int32) (x3 : Int32) (x4 : Int32) (st : mm_S) (H : Heap) (locs : List Loc) (ls : Array Slot), K10 x1 x2 x3 x4 st = some (r, st') → lv_has ls 5 [(0, .ref o), (1, .int x1), (2, .int x2), (3, .int x3), (4, .int x4)] → mm_H D o ad cs s.heap st H locs → W p l e (mm_R 4 104) s m args below meth c H locs 0 0 (MQ below (mm_Qi D o ad cs r st') args s 0 0 (mm_A o ad)) (F0 m 10 ls [])) (x1 : Int32) (x2 : Int32) (x3 : Int32) (x4 : Int32) (st : mm_S) (hf : M_gainBy_b58 fu K10 x1 x2 x3 x4 st = some (r, st')) {H : Heap} {locs : List Loc} {ls : Array Slot} (hl : lv_has ls 5 [(0, .ref o), (1, .int x1), (2, .int x2), (3, .int x3), (4, .int x4)]) (hM : mm_H D o ad cs s.heap st H locs) : W p l e (mm_R 4 104) s m args below meth c H locs 0 0 (MQ below (mm_Qi D o ad cs r st') args s 0 0 (mm_A o ad)) (F0 m 58 ls []) := by
  unfold M_gainBy_b58 at hf
  refine lv_iload_n C.1 C.2.1 (dd_at td_gainBy 33 rfl) rfl (lv_at hl 3 rfl) ?_
  refine lv_aload_n C.1 C.2.1 (dd_at td_gainBy 34 rfl) rfl (lv_at hl 0 rfl) ?_
  obtain ⟨r16, st14, hx15, hf⟩ := fc_of_bn hf
  refine mm_ci (As := []) (rest := [.int x3]) (n := 0) C hM (c_keep l D o ad cs fu st) (List.mem_of_getElem? (i := 26) rfl) (dd_at td_gainBy 35 rfl) hx15 hl.1 hd_keep ⟨Nat.le_of_ble_eq_true rfl, Nat.le_of_ble_eq_true rfl⟩ rfl rfl (Nat.le_of_ble_eq_true rfl) ⟨Nat.le_refl 0, Nat.le_refl 0⟩ (fun H locs hM => ?_)
  refine lv_iload_n C.1 C.2.1 (dd_at td_gainBy 36 rfl) rfl (lv_at hl 2 rfl) ?_
  refine lv_imul C.1 C.2.1 (dd_at td_gainBy 37 rfl) ?_
  refine lv_isub C.1 C.2.1 (dd_at td_gainBy 38 rfl) ?_
  refine lv_topi (fun v17 ev17 => ?_)
  replace hf := fc_of_nm hf v17 ev17
  refine lv_istore_n (lv' := [(3, .int v17), (0, .ref o), (1, .int x1), (2, .int x2), (4, .int x4)]) C.1 C.2.1 (dd_at td_gainBy 39 rfl) rfl hl (by decide) rfl (fun ls hl => ?_)
  obtain ⟨v18, ev18⟩ : ∃ y : Int32, y = x4 + (1 : Int32) := ⟨_, rfl⟩
  replace hf := fc_of_nm hf v18 ev18
  refine lv_iinc (v := v18) (lv' := [(4, .int v18), (3, .int v17), (0, .ref o), (1, .int x1), (2, .int x2)]) C.1 C.2.1 (dd_at td_gainBy 40 rfl) hl (k := 4) rfl (by rw [ev18]; rfl) (by decide) rfl (fun ls hl => ?_)
  refine lv_goto (tgt := 10) C.1 C.2.1 (dd_at td_gainBy 41 rfl) (by decide) ?_
  exact hK10 x1 x2 v17 v18 st14 _ _ _ hf (lv_sub hl [2, 3, 4, 1, 0] rfl) hM
theorem w_gainBy_b10F {p : Program} {l : Launch} {e : Env} {s : State} {m : MethodId} {args : Array Value} {below : List Frame} {meth : Method} {c : Code} {D : va_G} {o : Nat} {ad : Nat → Nat} {cs : ClassId × ClassId × ClassId} {r : Int32} {st' : mm_S} (C : mm_C p s m args meth c cX12_gainBy 5 (some .int) D cs) (fu : Nat) (K10 : Int32 → Int32 → Int32 → Int32 → mm_S → Option (Int32 × mm_S)) (hK10 : ∀ (x1 : Int32) (x2 : Int32) (x3 : Int32) (x4 : Int32) (st : mm_S) (H : Heap) (locs : List Loc) (ls : Array Slot), K10 x1 x2 x3 x4 st = some (r, st') → lv_has ls 5 [(0, .ref o), (1, .int x1), (2, .int x2), (3, .int x3), (4, .int x4)] → mm_H D o ad cs s.heap st H locs → W p l e (mm_R 4 104) s m args below meth c H locs 0 0 (MQ below (mm_Qi D o ad cs r st') args s 0 0 (mm_A o ad)) (F0 m 10 ls [])) (x1 : Int32) (x2 : Int32) (x3 : Int32) (x4 : Int32) (st : mm_S) (hf : M_gainBy_b10F fu K10 x1 x2 x3 x4 st = some (r, st')) {H : Heap} {locs : List Loc} {ls : Array Slot} (hl : lv_has ls 5 [(0, .ref o), (1, .int x1), (2, .int x2), (3, .int x3), (4, .int x4)]) (hM : mm_H D o ad cs s.heap st H locs) : W p l e (mm_R 4 104) s m args below meth c H locs 0 0 (MQ below (mm_Qi D o ad cs r st') args s 0 0 (mm_A o ad)) (F0 m 10 ls []) := by
  unfold M_gainBy_b10F at hf
  refine lv_iload C.1 C.2.1 (dd_at td_gainBy 7 rfl) (lv_at hl 4 rfl) ?_
  refine lv_aload_n C.1 C.2.1 (dd_at td_gainBy 8 rfl) rfl (lv_at hl 0 rfl) ?_
  refine mm_gI C hM 29 (dd_at td_gainBy 9 rfl) (by decide) (by decide) (by decide) ?_
  refine lv_icmp_ge (tgt := 73) C.1 C.2.1 (dd_at td_gainBy 10 rfl) (by decide) (fun c2 => ?_) (fun c2 => ?_)
  · replace hf := fc_of_t hf c2
    refine lv_iload_n C.1 C.2.1 (dd_at td_gainBy 42 rfl) rfl (lv_at hl 3 rfl) ?_
    exact mm_ri C hM (dd_at td_gainBy 43 rfl) hf
  · replace hf := fc_of_f hf c2
    refine lv_aload_n C.1 C.2.1 (dd_at td_gainBy 11 rfl) rfl (lv_at hl 0 rfl) ?_
    refine lv_iload_n C.1 C.2.1 (dd_at td_gainBy 12 rfl) rfl (lv_at hl 1 rfl) ?_
    refine lv_iload C.1 C.2.1 (dd_at td_gainBy 13 rfl) (lv_at hl 4 rfl) ?_
    obtain ⟨r5, st3, hx4, hf⟩ := fc_of_bn hf
    refine mm_ci (As := [.int x1, .int x4]) (rest := []) (n := 2) C hM (c_has l D o ad cs fu x1 x4 st) (List.mem_of_getElem? (i := 13) rfl) (dd_at td_gainBy 14 rfl) hx4 hl.1 hd_has ⟨Nat.le_of_ble_eq_true rfl, Nat.le_of_ble_eq_true rfl⟩ rfl rfl (Nat.le_of_ble_eq_true rfl) ⟨Nat.le_refl 0, Nat.le_refl 0⟩ (fun H locs hM => ?_)
    refine lv_if_eq (tgt := 58) C.1 C.2.1 (dd_at td_gainBy 15 rfl) (by decide) (fun c6 => ?_) (fun c6 => ?_)
    · replace hf := fc_of_t hf c6
      exact w_gainBy_b58 C fu K10 hK10 x1 x2 x3 x4 st3 hf (lv_sub hl [0, 1, 2, 3, 4] rfl) hM
    · replace hf := fc_of_f hf c6
      refine lv_iload_n C.1 C.2.1 (dd_at td_gainBy 16 rfl) rfl (lv_at hl 2 rfl) ?_
      refine lv_if_le (tgt := 58) C.1 C.2.1 (dd_at td_gainBy 17 rfl) (by decide) (fun c7 => ?_) (fun c7 => ?_)
      · replace hf := fc_of_t hf c7
        exact w_gainBy_b58 C fu K10 hK10 x1 x2 x3 x4 st3 hf (lv_sub hl [0, 1, 2, 3, 4] rfl) hM
      · replace hf := fc_of_f hf c7
        refine lv_iload_n C.1 C.2.1 (dd_at td_gainBy 18 rfl) rfl (lv_at hl 3 rfl) ?_
        refine lv_aload_n C.1 C.2.1 (dd_at td_gainBy 19 rfl) rfl (lv_at hl 0 rfl) ?_
        refine lv_aload_n C.1 C.2.1 (dd_at td_gainBy 20 rfl) rfl (lv_at hl 0 rfl) ?_
        refine mm_gA C hM 30 (dd_at td_gainBy 21 rfl) (by decide) (by decide) (by decide) ?_
        refine lv_iload C.1 C.2.1 (dd_at td_gainBy 22 rfl) (lv_at hl 4 rfl) ?_
        obtain ⟨g8, hf⟩ := fc_of_gd hf
        refine mm_iald C hM 30 (dd_at td_gainBy 23 rfl) (by decide) (by decide) (fc_of_ix g8) ?_
        refine lv_aload_n C.1 C.2.1 (dd_at td_gainBy 24 rfl) rfl (lv_at hl 0 rfl) ?_
        refine mm_gI C hM 3 (dd_at td_gainBy 25 rfl) (by decide) (by decide) (by decide) ?_
        refine lv_iload C.1 C.2.1 (dd_at td_gainBy 26 rfl) (lv_at hl 4 rfl) ?_
        refine lv_iadd C.1 C.2.1 (dd_at td_gainBy 27 rfl) ?_
        refine lv_iload_n C.1 C.2.1 (dd_at td_gainBy 28 rfl) rfl (lv_at hl 2 rfl) ?_
        obtain ⟨r11, st9, hx10, hf⟩ := fc_of_bn hf
        refine mm_ci (As := [.int (mm_G st3 30 x4.toNatClampNeg), .int ((mm_I st3 3) + x4), .int x2]) (rest := [.int x3]) (n := 3) C hM (c_worthOf l D o ad cs fu (mm_G st3 30 x4.toNatClampNeg) ((mm_I st3 3) + x4) x2 st3) (List.mem_of_getElem? (i := 48) rfl) (dd_at td_gainBy 29 rfl) hx10 hl.1 hd_worthOf ⟨Nat.le_of_ble_eq_true rfl, Nat.le_of_ble_eq_true rfl⟩ rfl rfl (Nat.le_of_ble_eq_true rfl) ⟨Nat.le_refl 0, Nat.le_refl 0⟩ (fun H locs hM => ?_)
        refine lv_iadd C.1 C.2.1 (dd_at td_gainBy 30 rfl) ?_
        refine lv_topi (fun v12 ev12 => ?_)
        replace hf := fc_of_nm hf v12 ev12
        refine lv_istore_n (lv' := [(3, .int v12), (0, .ref o), (1, .int x1), (2, .int x2), (4, .int x4)]) C.1 C.2.1 (dd_at td_gainBy 31 rfl) rfl hl (by decide) rfl (fun ls hl => ?_)
        obtain ⟨v13, ev13⟩ : ∃ y : Int32, y = x2 + (-1 : Int32) := ⟨_, rfl⟩
        replace hf := fc_of_nm hf v13 ev13
        refine lv_iinc (v := v13) (lv' := [(2, .int v13), (3, .int v12), (0, .ref o), (1, .int x1), (4, .int x4)]) C.1 C.2.1 (dd_at td_gainBy 32 rfl) hl (k := 3) rfl (by rw [ev13]; rfl) (by decide) rfl (fun ls hl => ?_)
        exact w_gainBy_b58 C fu K10 hK10 x1 v13 v12 x4 st9 hf (lv_sub hl [2, 3, 0, 1, 4] rfl) hM
theorem w_gainBy_b10 {p : Program} {l : Launch} {e : Env} {s : State} {m : MethodId} {args : Array Value} {below : List Frame} {meth : Method} {c : Code} {D : va_G} {o : Nat} {ad : Nat → Nat} {cs : ClassId × ClassId × ClassId} {r : Int32} {st' : mm_S} (C : mm_C p s m args meth c cX12_gainBy 5 (some .int) D cs) (fu : Nat) (n : Nat) : ∀ (x1 : Int32) (x2 : Int32) (x3 : Int32) (x4 : Int32) (st : mm_S), M_gainBy_b10 fu n x1 x2 x3 x4 st = some (r, st') → ∀ (H : Heap) (locs : List Loc) (ls : Array Slot), lv_has ls 5 [(0, .ref o), (1, .int x1), (2, .int x2), (3, .int x3), (4, .int x4)] → mm_H D o ad cs s.heap st H locs → W p l e (mm_R 4 104) s m args below meth c H locs 0 0 (MQ below (mm_Qi D o ad cs r st') args s 0 0 (mm_A o ad)) (F0 m 10 ls []) := by
  induction n with
  | zero => exact fun _ _ _ _ _ hf => fc_no hf
  | succ n ih =>
    intro x1 x2 x3 x4 st hf H locs ls hl hM
    exact w_gainBy_b10F C fu (fun x1 x2 x3 x4 st => M_gainBy_b10 fu n x1 x2 x3 x4 st) (fun x1 x2 x3 x4 st H locs ls hf hl hM => ih x1 x2 x3 x4 st hf H locs ls hl hM) x1 x2 x3 x4 st hf hl hM
theorem w_gainBy {p : Program} {l : Launch} {e : Env} {s : State} {m : MethodId} {args : Array Value} {below : List Frame} {meth : Method} {c : Code} {D : va_G} {o : Nat} {ad : Nat → Nat} {cs : ClassId × ClassId × ClassId} {r : Int32} {st' : mm_S} (C : mm_C p s m args meth c cX12_gainBy 5 (some .int) D cs) (fu : Nat) (x1 : Int32) (st : mm_S) (hf : M_gainBy fu x1 st = some (r, st')) {H : Heap} {locs : List Loc} {ls : Array Slot} (hl : lv_has ls 5 [(0, .ref o), (1, .int x1)]) (hM : mm_H D o ad cs s.heap st H locs) : W p l e (mm_R 4 104) s m args below meth c H locs 0 0 (MQ below (mm_Qi D o ad cs r st') args s 0 0 (mm_A o ad)) (F0 m 0 ls []) := by
  unfold M_gainBy at hf
  refine lv_aload_n C.1 C.2.1 (dd_at td_gainBy 0 rfl) rfl (lv_at hl 0 rfl) ?_
  refine mm_gI C hM 1 (dd_at td_gainBy 1 rfl) (by decide) (by decide) (by decide) ?_
  refine lv_topi (fun v1 ev1 => ?_)
  replace hf := fc_of_nm hf v1 ev1
  refine lv_istore_n (lv' := [(2, .int v1), (0, .ref o), (1, .int x1)]) C.1 C.2.1 (dd_at td_gainBy 2 rfl) rfl hl (by decide) rfl (fun ls hl => ?_)
  refine lv_iconst (v := (0 : Int32)) C.1 C.2.1 (dd_at td_gainBy 3 rfl) (by decide) ?_
  refine lv_istore_n (lv' := [(3, .int (0 : Int32)), (2, .int v1), (0, .ref o), (1, .int x1)]) C.1 C.2.1 (dd_at td_gainBy 4 rfl) rfl hl (by decide) rfl (fun ls hl => ?_)
  refine lv_iconst (v := (0 : Int32)) C.1 C.2.1 (dd_at td_gainBy 5 rfl) (by decide) ?_
  refine lv_istore (lv' := [(4, .int (0 : Int32)), (3, .int (0 : Int32)), (2, .int v1), (0, .ref o), (1, .int x1)]) C.1 C.2.1 (dd_at td_gainBy 6 rfl) hl (by decide) rfl (fun ls hl => ?_)
  exact w_gainBy_b10 C fu fu x1 v1 (0 : Int32) (0 : Int32) st hf _ _ _ (lv_sub hl [3, 4, 2, 1, 0] rfl) hM
theorem c_gainBy (l : Launch) (D : va_G) (o : Nat) (ad : Nat → Nat) (cs : ClassId × ClassId × ClassId) (fu : Nat) (x1 : Int32) (st : mm_S) : mm_Mi l D o ad cs yX12_gainBy cX12_gainBy 5 (some .int) 4 104 [.int x1] st (M_gainBy fu x1 st) := by
  intro r st' hf
  refine mm_enter (cc := cX12_gainBy) (nL := 5) (ret := some .int) (by decide) rfl (Nat.le_of_ble_eq_true rfl) ?_
  intro p e s m args below meth c ls C hl hM
  exact w_gainBy C fu x1 st hf hl hM

/-! bestSet -/
def tb_bestSet : List (Nat × Instr × Nat) := [(0, .iconst 0, 1), (1, .istore_n 1, 1), (2, .iconst 1, 1), (3, .istore_n 2, 1), (4, .iload_n 2, 1), (5, .iconst 1, 1), (6, .aload_n 0, 1), (7, .getfield 100, 3), (10, .ishl, 1), (11, .if_icmp .ge 36, 3), (14, .aload_n 0, 1), (15, .iload_n 2, 1), (16, .invokevirtual 331, 3), (19, .aload_n 0, 1), (20, .getfield 13, 3), (23, .if_icmp .gt 18, 3), (26, .aload_n 0, 1), (27, .iload_n 2, 1), (28, .invokevirtual 334, 3), (31, .aload_n 0, 1), (32, .iload_n 1, 1), (33, .invokevirtual 334, 3), (36, .if_icmp .le 5, 3), (39, .iload_n 2, 1), (40, .istore_n 1, 1), (41, .iinc 2 1, 3), (44, .goto (-40), 3), (47, .iload_n 1, 1), (48, .ireturn, 1)]
theorem td_bestSet : tb_bestSet.all (fun q => decide (decode cX12_bestSet q.1 = .ok (q.2.1, q.2.2))) = true := by decide +kernel
theorem hd_bestSet : yX12_bestSet.cls = RX12 ∧ yX12_bestSet.cls ≠ "java/lang/invoke/MethodHandle" ∧ yX12_bestSet.cls ≠ "java/lang/invoke/VarHandle" ∧ (parseMethodDescriptor yX12_bestSet.desc).map (fun d => d.parameters.length) = some 0 := by decide +kernel
theorem w_bestSet_b41 {p : Program} {l : Launch} {e : Env} {s : State} {m : MethodId} {args : Array Value} {below : List Frame} {meth : Method} {c : Code} {D : va_G} {o : Nat} {ad : Nat → Nat} {cs : ClassId × ClassId × ClassId} {r : Int32} {st' : mm_S} (C : mm_C p s m args meth c cX12_bestSet 3 (some .int) D cs) (fu : Nat) (K4 : Int32 → Int32 → mm_S → Option (Int32 × mm_S)) (hK4 : ∀ (x1 : Int32) (x2 : Int32) (st : mm_S) (H : Heap) (locs : List Loc) (ls : Array Slot), K4 x1 x2 st = some (r, st') → lv_has ls 3 [(0, .ref o), (1, .int x1), (2, .int x2)] → mm_H D o ad cs s.heap st H locs → W p l e (mm_R 5 128) s m args below meth c H locs 0 0 (MQ below (mm_Qi D o ad cs r st') args s 0 0 (mm_A o ad)) (F0 m 4 ls [])) (x1 : Int32) (x2 : Int32) (st : mm_S) (hf : M_bestSet_b41 fu K4 x1 x2 st = some (r, st')) {H : Heap} {locs : List Loc} {ls : Array Slot} (hl : lv_has ls 3 [(0, .ref o), (1, .int x1), (2, .int x2)]) (hM : mm_H D o ad cs s.heap st H locs) : W p l e (mm_R 5 128) s m args below meth c H locs 0 0 (MQ below (mm_Qi D o ad cs r st') args s 0 0 (mm_A o ad)) (F0 m 41 ls []) := by
  unfold M_bestSet_b41 at hf
  obtain ⟨v13, ev13⟩ : ∃ y : Int32, y = x2 + (1 : Int32) := ⟨_, rfl⟩
  replace hf := fc_of_nm hf v13 ev13
  refine lv_iinc (v := v13) (lv' := [(2, .int v13), (0, .ref o), (1, .int x1)]) C.1 C.2.1 (dd_at td_bestSet 25 rfl) hl (k := 2) rfl (by rw [ev13]; rfl) (by decide) rfl (fun ls hl => ?_)
  refine lv_goto (tgt := 4) C.1 C.2.1 (dd_at td_bestSet 26 rfl) (by decide) ?_
  exact hK4 x1 v13 st _ _ _ hf (lv_sub hl [1, 2, 0] rfl) hM
theorem w_bestSet_b4F {p : Program} {l : Launch} {e : Env} {s : State} {m : MethodId} {args : Array Value} {below : List Frame} {meth : Method} {c : Code} {D : va_G} {o : Nat} {ad : Nat → Nat} {cs : ClassId × ClassId × ClassId} {r : Int32} {st' : mm_S} (C : mm_C p s m args meth c cX12_bestSet 3 (some .int) D cs) (fu : Nat) (K4 : Int32 → Int32 → mm_S → Option (Int32 × mm_S)) (hK4 : ∀ (x1 : Int32) (x2 : Int32) (st : mm_S) (H : Heap) (locs : List Loc) (ls : Array Slot), K4 x1 x2 st = some (r, st') → lv_has ls 3 [(0, .ref o), (1, .int x1), (2, .int x2)] → mm_H D o ad cs s.heap st H locs → W p l e (mm_R 5 128) s m args below meth c H locs 0 0 (MQ below (mm_Qi D o ad cs r st') args s 0 0 (mm_A o ad)) (F0 m 4 ls [])) (x1 : Int32) (x2 : Int32) (st : mm_S) (hf : M_bestSet_b4F fu K4 x1 x2 st = some (r, st')) {H : Heap} {locs : List Loc} {ls : Array Slot} (hl : lv_has ls 3 [(0, .ref o), (1, .int x1), (2, .int x2)]) (hM : mm_H D o ad cs s.heap st H locs) : W p l e (mm_R 5 128) s m args below meth c H locs 0 0 (MQ below (mm_Qi D o ad cs r st') args s 0 0 (mm_A o ad)) (F0 m 4 ls []) := by
  unfold M_bestSet_b4F at hf
  refine lv_iload_n C.1 C.2.1 (dd_at td_bestSet 4 rfl) rfl (lv_at hl 2 rfl) ?_
  refine lv_iconst (v := (1 : Int32)) C.1 C.2.1 (dd_at td_bestSet 5 rfl) (by decide) ?_
  refine lv_aload_n C.1 C.2.1 (dd_at td_bestSet 6 rfl) rfl (lv_at hl 0 rfl) ?_
  refine mm_gI C hM 29 (dd_at td_bestSet 7 rfl) (by decide) (by decide) (by decide) ?_
  refine lv_ishl C.1 C.2.1 (dd_at td_bestSet 8 rfl) ?_
  refine lv_icmp_ge (tgt := 47) C.1 C.2.1 (dd_at td_bestSet 9 rfl) (by decide) (fun c1 => ?_) (fun c1 => ?_)
  · replace hf := fc_of_t hf c1
    refine lv_iload_n C.1 C.2.1 (dd_at td_bestSet 27 rfl) rfl (lv_at hl 1 rfl) ?_
    exact mm_ri C hM (dd_at td_bestSet 28 rfl) hf
  · replace hf := fc_of_f hf c1
    refine lv_aload_n C.1 C.2.1 (dd_at td_bestSet 10 rfl) rfl (lv_at hl 0 rfl) ?_
    refine lv_iload_n C.1 C.2.1 (dd_at td_bestSet 11 rfl) rfl (lv_at hl 2 rfl) ?_
    obtain ⟨r4, st2, hx3, hf⟩ := fc_of_bn hf
    refine mm_ci (As := [.int x2]) (rest := []) (n := 1) C hM (c_bits l D o ad cs fu x2 st) (List.mem_of_getElem? (i := 4) rfl) (dd_at td_bestSet 12 rfl) hx3 hl.1 hd_bits ⟨Nat.le_of_ble_eq_true rfl, Nat.le_of_ble_eq_true rfl⟩ rfl rfl (Nat.le_of_ble_eq_true rfl) ⟨Nat.le_refl 0, Nat.le_refl 0⟩ (fun H locs hM => ?_)
    refine lv_aload_n C.1 C.2.1 (dd_at td_bestSet 13 rfl) rfl (lv_at hl 0 rfl) ?_
    refine mm_gI C hM 1 (dd_at td_bestSet 14 rfl) (by decide) (by decide) (by decide) ?_
    refine lv_icmp_gt (tgt := 41) C.1 C.2.1 (dd_at td_bestSet 15 rfl) (by decide) (fun c5 => ?_) (fun c5 => ?_)
    · replace hf := fc_of_t hf c5
      exact w_bestSet_b41 C fu K4 hK4 x1 x2 st2 hf (lv_sub hl [0, 1, 2] rfl) hM
    · replace hf := fc_of_f hf c5
      refine lv_aload_n C.1 C.2.1 (dd_at td_bestSet 16 rfl) rfl (lv_at hl 0 rfl) ?_
      refine lv_iload_n C.1 C.2.1 (dd_at td_bestSet 17 rfl) rfl (lv_at hl 2 rfl) ?_
      obtain ⟨r8, st6, hx7, hf⟩ := fc_of_bn hf
      refine mm_ci (As := [.int x2]) (rest := []) (n := 1) C hM (c_gainBy l D o ad cs fu x2 st2) (List.mem_of_getElem? (i := 10) rfl) (dd_at td_bestSet 18 rfl) hx7 hl.1 hd_gainBy ⟨Nat.le_of_ble_eq_true rfl, Nat.le_of_ble_eq_true rfl⟩ rfl rfl (Nat.le_of_ble_eq_true rfl) ⟨Nat.le_refl 0, Nat.le_refl 0⟩ (fun H locs hM => ?_)
      refine lv_aload_n C.1 C.2.1 (dd_at td_bestSet 19 rfl) rfl (lv_at hl 0 rfl) ?_
      refine lv_iload_n C.1 C.2.1 (dd_at td_bestSet 20 rfl) rfl (lv_at hl 1 rfl) ?_
      obtain ⟨r11, st9, hx10, hf⟩ := fc_of_bn hf
      refine mm_ci (As := [.int x1]) (rest := [.int r8]) (n := 1) C hM (c_gainBy l D o ad cs fu x1 st6) (List.mem_of_getElem? (i := 10) rfl) (dd_at td_bestSet 21 rfl) hx10 hl.1 hd_gainBy ⟨Nat.le_of_ble_eq_true rfl, Nat.le_of_ble_eq_true rfl⟩ rfl rfl (Nat.le_of_ble_eq_true rfl) ⟨Nat.le_refl 0, Nat.le_refl 0⟩ (fun H locs hM => ?_)
      refine lv_icmp_le (tgt := 41) C.1 C.2.1 (dd_at td_bestSet 22 rfl) (by decide) (fun c12 => ?_) (fun c12 => ?_)
      · replace hf := fc_of_t hf c12
        exact w_bestSet_b41 C fu K4 hK4 x1 x2 st9 hf (lv_sub hl [0, 1, 2] rfl) hM
      · replace hf := fc_of_f hf c12
        refine lv_iload_n C.1 C.2.1 (dd_at td_bestSet 23 rfl) rfl (lv_at hl 2 rfl) ?_
        refine lv_istore_n (lv' := [(1, .int x2), (0, .ref o), (2, .int x2)]) C.1 C.2.1 (dd_at td_bestSet 24 rfl) rfl hl (by decide) rfl (fun ls hl => ?_)
        exact w_bestSet_b41 C fu K4 hK4 x2 x2 st9 hf (lv_sub hl [1, 0, 2] rfl) hM
theorem w_bestSet_b4 {p : Program} {l : Launch} {e : Env} {s : State} {m : MethodId} {args : Array Value} {below : List Frame} {meth : Method} {c : Code} {D : va_G} {o : Nat} {ad : Nat → Nat} {cs : ClassId × ClassId × ClassId} {r : Int32} {st' : mm_S} (C : mm_C p s m args meth c cX12_bestSet 3 (some .int) D cs) (fu : Nat) (n : Nat) : ∀ (x1 : Int32) (x2 : Int32) (st : mm_S), M_bestSet_b4 fu n x1 x2 st = some (r, st') → ∀ (H : Heap) (locs : List Loc) (ls : Array Slot), lv_has ls 3 [(0, .ref o), (1, .int x1), (2, .int x2)] → mm_H D o ad cs s.heap st H locs → W p l e (mm_R 5 128) s m args below meth c H locs 0 0 (MQ below (mm_Qi D o ad cs r st') args s 0 0 (mm_A o ad)) (F0 m 4 ls []) := by
  induction n with
  | zero => exact fun _ _ _ hf => fc_no hf
  | succ n ih =>
    intro x1 x2 st hf H locs ls hl hM
    exact w_bestSet_b4F C fu (fun x1 x2 st => M_bestSet_b4 fu n x1 x2 st) (fun x1 x2 st H locs ls hf hl hM => ih x1 x2 st hf H locs ls hl hM) x1 x2 st hf hl hM
theorem w_bestSet {p : Program} {l : Launch} {e : Env} {s : State} {m : MethodId} {args : Array Value} {below : List Frame} {meth : Method} {c : Code} {D : va_G} {o : Nat} {ad : Nat → Nat} {cs : ClassId × ClassId × ClassId} {r : Int32} {st' : mm_S} (C : mm_C p s m args meth c cX12_bestSet 3 (some .int) D cs) (fu : Nat) (st : mm_S) (hf : M_bestSet fu st = some (r, st')) {H : Heap} {locs : List Loc} {ls : Array Slot} (hl : lv_has ls 3 [(0, .ref o)]) (hM : mm_H D o ad cs s.heap st H locs) : W p l e (mm_R 5 128) s m args below meth c H locs 0 0 (MQ below (mm_Qi D o ad cs r st') args s 0 0 (mm_A o ad)) (F0 m 0 ls []) := by
  unfold M_bestSet at hf
  refine lv_iconst (v := (0 : Int32)) C.1 C.2.1 (dd_at td_bestSet 0 rfl) (by decide) ?_
  refine lv_istore_n (lv' := [(1, .int (0 : Int32)), (0, .ref o)]) C.1 C.2.1 (dd_at td_bestSet 1 rfl) rfl hl (by decide) rfl (fun ls hl => ?_)
  refine lv_iconst (v := (1 : Int32)) C.1 C.2.1 (dd_at td_bestSet 2 rfl) (by decide) ?_
  refine lv_istore_n (lv' := [(2, .int (1 : Int32)), (1, .int (0 : Int32)), (0, .ref o)]) C.1 C.2.1 (dd_at td_bestSet 3 rfl) rfl hl (by decide) rfl (fun ls hl => ?_)
  exact w_bestSet_b4 C fu fu (0 : Int32) (1 : Int32) st hf _ _ _ (lv_sub hl [2, 1, 0] rfl) hM
theorem c_bestSet (l : Launch) (D : va_G) (o : Nat) (ad : Nat → Nat) (cs : ClassId × ClassId × ClassId) (fu : Nat) (st : mm_S) : mm_Mi l D o ad cs yX12_bestSet cX12_bestSet 3 (some .int) 5 128 [] st (M_bestSet fu st) := by
  intro r st' hf
  refine mm_enter (cc := cX12_bestSet) (nL := 3) (ret := some .int) (by decide) rfl (Nat.le_of_ble_eq_true rfl) ?_
  intro p e s m args below meth c ls C hl hM
  exact w_bestSet C fu st hf hl hM

/-! plan -/
def tb_plan : List (Nat × Instr × Nat) := [(0, .aload_n 0, 1), (1, .iload_n 1, 1), (2, .iconst 0, 1), (3, .iconst 1, 1), (4, .invokevirtual 207, 3), (7, .ifCond .ne 7, 3), (10, .ldc_w 287, 3), (13, .ireturn, 1), (14, .iload_n 1, 1), (15, .ifCond .ne 10, 3), (18, .aload_n 0, 1), (19, .invokevirtual 337, 3), (22, .goto 11, 3), (25, .aload_n 0, 1), (26, .aload_n 0, 1), (27, .invokevirtual 337, 3), (30, .invokevirtual 334, 3), (33, .ireturn, 1)]
theorem td_plan : tb_plan.all (fun q => decide (decode cX12_plan q.1 = .ok (q.2.1, q.2.2))) = true := by decide +kernel
theorem w_plan {p : Program} {l : Launch} {e : Env} {s : State} {m : MethodId} {args : Array Value} {below : List Frame} {meth : Method} {c : Code} {D : va_G} {o : Nat} {ad : Nat → Nat} {cs : ClassId × ClassId × ClassId} {r : Int32} {st' : mm_S} (C : mm_C p s m args meth c cX12_plan 2 (some .int) D cs) (fu : Nat) (x1 : Int32) (st : mm_S) (hf : M_plan fu x1 st = some (r, st')) {H : Heap} {locs : List Loc} {ls : Array Slot} (hl : lv_has ls 2 [(0, .ref o), (1, .int x1)]) (hM : mm_H D o ad cs s.heap st H locs) : W p l e (mm_R 6 150) s m args below meth c H locs 0 0 (MQ below (mm_Qi D o ad cs r st') args s 0 0 (mm_A o ad)) (F0 m 0 ls []) := by
  unfold M_plan at hf
  refine lv_aload_n C.1 C.2.1 (dd_at td_plan 0 rfl) rfl (lv_at hl 0 rfl) ?_
  refine lv_iload_n C.1 C.2.1 (dd_at td_plan 1 rfl) rfl (lv_at hl 1 rfl) ?_
  refine lv_iconst (v := (0 : Int32)) C.1 C.2.1 (dd_at td_plan 2 rfl) (by decide) ?_
  refine lv_iconst (v := (1 : Int32)) C.1 C.2.1 (dd_at td_plan 3 rfl) (by decide) ?_
  obtain ⟨r3, st1, hx2, hf⟩ := fc_of_bn hf
  refine mm_ci (As := [.int x1, .int (0 : Int32), .int (1 : Int32)]) (rest := []) (n := 3) C hM (c_in l D o ad cs fu x1 (0 : Int32) (1 : Int32) st) (List.mem_of_getElem? (i := 18) rfl) (dd_at td_plan 4 rfl) hx2 hl.1 hd_in ⟨Nat.le_of_ble_eq_true rfl, Nat.le_of_ble_eq_true rfl⟩ rfl rfl (Nat.le_of_ble_eq_true rfl) ⟨Nat.le_refl 0, Nat.le_refl 0⟩ (fun H locs hM => ?_)
  refine lv_if_ne (tgt := 14) C.1 C.2.1 (dd_at td_plan 5 rfl) (by decide) (fun c4 => ?_) (fun c4 => ?_)
  · replace hf := fc_of_f hf c4
    refine lv_iload_n C.1 C.2.1 (dd_at td_plan 8 rfl) rfl (lv_at hl 1 rfl) ?_
    refine lv_if_ne (tgt := 25) C.1 C.2.1 (dd_at td_plan 9 rfl) (by decide) (fun c5 => ?_) (fun c5 => ?_)
    · replace hf := fc_of_f hf c5
      refine lv_aload_n C.1 C.2.1 (dd_at td_plan 13 rfl) rfl (lv_at hl 0 rfl) ?_
      refine lv_aload_n C.1 C.2.1 (dd_at td_plan 14 rfl) rfl (lv_at hl 0 rfl) ?_
      obtain ⟨r8, st6, hx7, hf⟩ := fc_of_bn hf
      refine mm_ci (As := []) (rest := [.ref o]) (n := 0) C hM (c_bestSet l D o ad cs fu st1) (List.mem_of_getElem? (i := 3) rfl) (dd_at td_plan 15 rfl) hx7 hl.1 hd_bestSet ⟨Nat.le_of_ble_eq_true rfl, Nat.le_of_ble_eq_true rfl⟩ rfl rfl (Nat.le_of_ble_eq_true rfl) ⟨Nat.le_refl 0, Nat.le_refl 0⟩ (fun H locs hM => ?_)
      obtain ⟨r11, st9, hx10, hf⟩ := fc_of_bn hf
      refine mm_ci (As := [.int r8]) (rest := []) (n := 1) C hM (c_gainBy l D o ad cs fu r8 st6) (List.mem_of_getElem? (i := 10) rfl) (dd_at td_plan 16 rfl) hx10 hl.1 hd_gainBy ⟨Nat.le_of_ble_eq_true rfl, Nat.le_of_ble_eq_true rfl⟩ rfl rfl (Nat.le_of_ble_eq_true rfl) ⟨Nat.le_refl 0, Nat.le_refl 0⟩ (fun H locs hM => ?_)
      exact mm_ri C hM (dd_at td_plan 17 rfl) hf
    · replace hf := fc_of_t hf c5
      refine lv_aload_n C.1 C.2.1 (dd_at td_plan 10 rfl) rfl (lv_at hl 0 rfl) ?_
      obtain ⟨r14, st12, hx13, hf⟩ := fc_of_bn hf
      refine mm_ci (As := []) (rest := []) (n := 0) C hM (c_bestSet l D o ad cs fu st1) (List.mem_of_getElem? (i := 3) rfl) (dd_at td_plan 11 rfl) hx13 hl.1 hd_bestSet ⟨Nat.le_of_ble_eq_true rfl, Nat.le_of_ble_eq_true rfl⟩ rfl rfl (Nat.le_of_ble_eq_true rfl) ⟨Nat.le_refl 0, Nat.le_refl 0⟩ (fun H locs hM => ?_)
      refine lv_goto (tgt := 33) C.1 C.2.1 (dd_at td_plan 12 rfl) (by decide) ?_
      exact mm_ri C hM (dd_at td_plan 17 rfl) hf
  · replace hf := fc_of_t hf c4
    refine lv_ldcw (v := (-10000001 : Int32)) C.1 C.2.1 C.2.2.2.2.1 (C.2.2.2.2.2.1 (.constant RX12 287 (-10000001 : Int32)) (mm_Wk (by decide +kernel))) (dd_at td_plan 6 rfl) ?_
    exact mm_ri C hM (dd_at td_plan 7 rfl) hf
theorem c_plan (l : Launch) (D : va_G) (o : Nat) (ad : Nat → Nat) (cs : ClassId × ClassId × ClassId) (fu : Nat) (x1 : Int32) (st : mm_S) : mm_Mi l D o ad cs yX12_plan cX12_plan 2 (some .int) 6 150 [.int x1] st (M_plan fu x1 st) := by
  intro r st' hf
  refine mm_enter (cc := cX12_plan) (nL := 2) (ret := some .int) (by decide) rfl (Nat.le_of_ble_eq_true rfl) ?_
  intro p e s m args below meth c ls C hl hM
  exact w_plan C fu x1 st hf hl hM

