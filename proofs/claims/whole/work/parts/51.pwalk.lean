/-! X0_put -/
def tb_X0_put : List (Nat × Instr × Nat) := [(0, .aload_n 0, 1), (1, .getfield 31, 3), (4, .bipush 100, 2), (6, .if_icmp .ge 23, 3), (9, .aload_n 0, 1), (10, .getfield 25, 3), (13, .aload_n 0, 1), (14, .getfield 31, 3), (17, .iload_n 1, 1), (18, .iastore, 1), (19, .aload_n 0, 1), (20, .dup, 1), (21, .getfield 31, 3), (24, .iconst 1, 1), (25, .iadd, 1), (26, .putfield 31, 3), (29, .return_, 1)]
theorem td_X0_put : tb_X0_put.all (fun q => decide (decode cX0_put q.1 = .ok (q.2.1, q.2.2))) = true := by decide +kernel
theorem hd_X0_put : yX0_put.cls = RX0 ∧ yX0_put.cls ≠ "java/lang/invoke/MethodHandle" ∧ yX0_put.cls ≠ "java/lang/invoke/VarHandle" ∧ (parseMethodDescriptor yX0_put.desc).map (fun d => d.parameters.length) = some 1 := by decide +kernel
def P_X0_put (z : pp_Z) (fu : Nat) (x1 : Int32) (st : mm_S) : Option mm_S :=
  if (100 : Int32) ≤ (mm_I st 8) then (
  some st)
  else (
  fc_gd (fc_ix (mm_I st 8) 100) <|
  fc_nm (mm_sG st 6 (mm_I st 8).toNatClampNeg x1) fun st3 =>
  fc_nm (mm_sI st3 8 ((mm_I st3 8) + (1 : Int32))) fun st4 =>
  some st4)
theorem w_X0_put {p : Program} {l : Launch} {e : Env} {s : State} {m : MethodId} {args : Array Value} {below : List Frame} {meth : Method} {c : Code} {D : va_G} {o : Nat} {ad : Nat → Nat} {cs : ClassId} {z : pp_Z} {st' : mm_S} (C : pp_C p s m args meth c cX0_put 2 (none) D o ad cs z) (fu : Nat) (x1 : Int32) (st : mm_S) (hf : P_X0_put z fu x1 st = some st') {H : Heap} {locs : List Loc} {ls : Array Slot} (hl : lv_has ls 2 [(0, .ref o), (1, .int x1)]) (hM : pp_H D o ad cs s.heap st H locs) : W p l e (mm_R 0 0) s m args below meth c H locs 0 0 (MQ below (pp_Qv D o ad cs st') args s 0 0 (pp_A o ad)) (F0 m 0 ls []) := by
  unfold P_X0_put at hf
  refine lv_aload_n C.1 C.2.1 (dd_at td_X0_put 0 rfl) rfl (lv_at hl 0 rfl) ?_
  refine pp_gI C hM 8 (dd_at td_X0_put 1 rfl) (by decide) (by decide) cw67 ?_
  refine lv_bipush (v := (100 : Int32)) C.1 C.2.1 (dd_at td_X0_put 2 rfl) (by decide) ?_
  refine lv_icmp_ge (tgt := 29) C.1 C.2.1 (dd_at td_X0_put 3 rfl) (by decide) (fun c1 => ?_) (fun c1 => ?_)
  · replace hf := fc_of_t hf c1
    exact pp_rv C hM (dd_at td_X0_put 16 rfl) hf
  · replace hf := fc_of_f hf c1
    refine lv_aload_n C.1 C.2.1 (dd_at td_X0_put 4 rfl) rfl (lv_at hl 0 rfl) ?_
    refine pp_gA C hM 6 (dd_at td_X0_put 5 rfl) (by decide) (by decide) cw68 ?_
    refine lv_aload_n C.1 C.2.1 (dd_at td_X0_put 6 rfl) rfl (lv_at hl 0 rfl) ?_
    refine pp_gI C hM 8 (dd_at td_X0_put 7 rfl) (by decide) (by decide) cw67 ?_
    refine lv_iload_n C.1 C.2.1 (dd_at td_X0_put 8 rfl) rfl (lv_at hl 1 rfl) ?_
    obtain ⟨g2, hf⟩ := fc_of_gd hf
    refine pp_iast C hM 6 (dd_at td_X0_put 9 rfl) (by decide) (by decide) (fc_of_ix g2) (fun st3 H locs est3 hM => ?_)
    replace hf := fc_of_nm hf st3 est3
    refine lv_aload_n C.1 C.2.1 (dd_at td_X0_put 10 rfl) rfl (lv_at hl 0 rfl) ?_
    refine lv_dup C.1 C.2.1 (dd_at td_X0_put 11 rfl) rfl ?_
    refine pp_gI C hM 8 (dd_at td_X0_put 12 rfl) (by decide) (by decide) cw67 ?_
    refine lv_iconst (v := (1 : Int32)) C.1 C.2.1 (dd_at td_X0_put 13 rfl) (by decide) ?_
    refine lv_iadd C.1 C.2.1 (dd_at td_X0_put 14 rfl) ?_
    refine pp_pI C hM 8 (dd_at td_X0_put 15 rfl) (by decide) (by decide) (by decide) cw67 rfl rfl (fun st4 H locs est4 hM => ?_)
    replace hf := fc_of_nm hf st4 est4
    exact pp_rv C hM (dd_at td_X0_put 16 rfl) hf
theorem c_X0_put (l : Launch) (D : va_G) (o : Nat) (ad : Nat → Nat) (cs : ClassId) (z : pp_Z) (fu : Nat) (x1 : Int32) (st : mm_S) : pp_Mv l D o ad cs z yX0_put cX0_put 2 (none) 0 0 [.int x1] st (P_X0_put z fu x1 st) := by
  intro st' hf
  refine pp_enter (cc := cX0_put) (nL := 2) (ret := none) (by decide) rfl (Nat.le_of_ble_eq_true rfl) ?_
  intro p e s m args below meth c ls C hl hM
  exact w_X0_put C fu x1 st hf hl hM
/-! X0_sees -/
def tb_X0_sees : List (Nat × Instr × Nat) := [(0, .aload_n 0, 1), (1, .getfield 9, 3), (4, .aload_n 0, 1), (5, .getfield 37, 3), (8, .invokevirtual 52, 3), (11, .if_icmp .ge 22, 3), (14, .aload_n 0, 1), (15, .getfield 37, 3), (18, .aload_n 0, 1), (19, .getfield 9, 3), (22, .invokevirtual 103, 3), (25, .iload_n 1, 1), (26, .if_icmp .ne 7, 3), (29, .iconst 1, 1), (30, .goto 4, 3), (33, .iconst 0, 1), (34, .ireturn, 1)]
theorem td_X0_sees : tb_X0_sees.all (fun q => decide (decode cX0_sees q.1 = .ok (q.2.1, q.2.2))) = true := by decide +kernel
theorem hd_X0_sees : yX0_sees.cls = RX0 ∧ yX0_sees.cls ≠ "java/lang/invoke/MethodHandle" ∧ yX0_sees.cls ≠ "java/lang/invoke/VarHandle" ∧ (parseMethodDescriptor yX0_sees.desc).map (fun d => d.parameters.length) = some 1 := by decide +kernel
def P_X0_sees (z : pp_Z) (fu : Nat) (x1 : Int32) (st : mm_S) : Option (Int32 × mm_S) :=
  fc_bv (J_J0_length_8abf5 (z 0).2.2.1 (z 0).2.2.2 fu) fun r1 =>
  if r1 ≤ (mm_I st 2) then (
  some ((0 : Int32), st))
  else (
  fc_bv (J_J0_charAt_5068e (z 0).2.2.1 (z 0).2.2.2 fu (mm_I st 2)) fun r4 =>
  if r4 = x1 then (
  some ((1 : Int32), st))
  else (
  some ((0 : Int32), st)))
theorem w_X0_sees {p : Program} {l : Launch} {e : Env} {s : State} {m : MethodId} {args : Array Value} {below : List Frame} {meth : Method} {c : Code} {D : va_G} {o : Nat} {ad : Nat → Nat} {cs : ClassId} {z : pp_Z} {r : Int32} {st' : mm_S} (C : pp_C p s m args meth c cX0_sees 2 (some .boolean) D o ad cs z) (fu : Nat) (x1 : Int32) (st : mm_S) (hf : P_X0_sees z fu x1 st = some (r, st')) {H : Heap} {locs : List Loc} {ls : Array Slot} (hl : lv_has ls 2 [(0, .ref o), (1, .int x1)]) (hM : pp_H D o ad cs s.heap st H locs) : W p l e (mm_R 4 85) s m args below meth c H locs 0 0 (MQ below (pp_Qi D o ad cs r st') args s 0 0 (pp_A o ad)) (F0 m 0 ls []) := by
  unfold P_X0_sees at hf
  refine lv_aload_n C.1 C.2.1 (dd_at td_X0_sees 0 rfl) rfl (lv_at hl 0 rfl) ?_
  refine pp_gI C hM 2 (dd_at td_X0_sees 1 rfl) (by decide) (by decide) cw43 ?_
  refine lv_aload_n C.1 C.2.1 (dd_at td_X0_sees 2 rfl) rfl (lv_at hl 0 rfl) ?_
  refine pp_gT C hM (dd_at td_X0_sees 3 rfl) cw44 ?_
  obtain ⟨r1, hx2, hf⟩ := fc_of_bv hf
  refine pp_js (i := 0) (k := 0) (As := []) (rest := [.int (mm_I st 2)]) C hM (by decide) (c_J0_length_8abf5 l (z 0).1 (z 0).2.1 (z 0).2.2.1 (z 0).2.2.2 fu r1 hx2) (cc_gdV cw45 cw46 cw47 cw8 cw3) hd_J0_length_8abf5 ⟨Nat.le_of_ble_eq_true rfl, Nat.le_of_ble_eq_true rfl⟩ rfl hl.1 rfl (Nat.le_of_ble_eq_true rfl) (dd_at td_X0_sees 4 rfl) ⟨Nat.le_refl 0, Nat.le_refl 0⟩ ?_
  refine lv_icmp_ge (tgt := 33) C.1 C.2.1 (dd_at td_X0_sees 5 rfl) (by decide) (fun c3 => ?_) (fun c3 => ?_)
  · replace hf := fc_of_t hf c3
    refine lv_iconst (v := (0 : Int32)) C.1 C.2.1 (dd_at td_X0_sees 15 rfl) (by decide) ?_
    exact pp_rz C hM (dd_at td_X0_sees 16 rfl) rfl hf
  · replace hf := fc_of_f hf c3
    refine lv_aload_n C.1 C.2.1 (dd_at td_X0_sees 6 rfl) rfl (lv_at hl 0 rfl) ?_
    refine pp_gT C hM (dd_at td_X0_sees 7 rfl) cw44 ?_
    refine lv_aload_n C.1 C.2.1 (dd_at td_X0_sees 8 rfl) rfl (lv_at hl 0 rfl) ?_
    refine pp_gI C hM 2 (dd_at td_X0_sees 9 rfl) (by decide) (by decide) cw43 ?_
    obtain ⟨r4, hx5, hf⟩ := fc_of_bv hf
    refine pp_js (i := 0) (k := 1) (As := [.int (mm_I st 2)]) (rest := []) C hM (by decide) (c_J0_charAt_5068e l (z 0).1 (z 0).2.1 (z 0).2.2.1 (z 0).2.2.2 fu (mm_I st 2) r4 hx5) (cc_gdV cw48 cw49 cw50 cw8 cw42) hd_J0_charAt_5068e ⟨Nat.le_of_ble_eq_true rfl, Nat.le_of_ble_eq_true rfl⟩ rfl hl.1 rfl (Nat.le_of_ble_eq_true rfl) (dd_at td_X0_sees 10 rfl) ⟨Nat.le_refl 0, Nat.le_refl 0⟩ ?_
    refine lv_iload_n C.1 C.2.1 (dd_at td_X0_sees 11 rfl) rfl (lv_at hl 1 rfl) ?_
    refine lv_icmp_ne (tgt := 33) C.1 C.2.1 (dd_at td_X0_sees 12 rfl) (by decide) (fun c6 => ?_) (fun c6 => ?_)
    · replace hf := fc_of_f hf c6
      refine lv_iconst (v := (0 : Int32)) C.1 C.2.1 (dd_at td_X0_sees 15 rfl) (by decide) ?_
      exact pp_rz C hM (dd_at td_X0_sees 16 rfl) rfl hf
    · replace hf := fc_of_t hf c6
      refine lv_iconst (v := (1 : Int32)) C.1 C.2.1 (dd_at td_X0_sees 13 rfl) (by decide) ?_
      refine lv_goto (tgt := 34) C.1 C.2.1 (dd_at td_X0_sees 14 rfl) (by decide) ?_
      exact pp_rz C hM (dd_at td_X0_sees 16 rfl) rfl hf
theorem c_X0_sees (l : Launch) (D : va_G) (o : Nat) (ad : Nat → Nat) (cs : ClassId) (z : pp_Z) (fu : Nat) (x1 : Int32) (st : mm_S) : pp_Mi l D o ad cs z yX0_sees cX0_sees 2 (some .boolean) 4 85 [.int x1] st (P_X0_sees z fu x1 st) := by
  intro r st' hf
  refine pp_enter (cc := cX0_sees) (nL := 2) (ret := some .boolean) (by decide) rfl (Nat.le_of_ble_eq_true rfl) ?_
  intro p e s m args below meth c ls C hl hM
  exact w_X0_sees C fu x1 st hf hl hM
/-! X0_takes -/
def tb_X0_takes : List (Nat × Instr × Nat) := [(0, .aload_n 0, 1), (1, .iload_n 1, 1), (2, .invokevirtual 62, 3), (5, .ifCond .ne 5, 3), (8, .iconst 0, 1), (9, .ireturn, 1), (10, .aload_n 0, 1), (11, .dup, 1), (12, .getfield 9, 3), (15, .iconst 1, 1), (16, .iadd, 1), (17, .putfield 9, 3), (20, .iconst 1, 1), (21, .ireturn, 1)]
theorem td_X0_takes : tb_X0_takes.all (fun q => decide (decode cX0_takes q.1 = .ok (q.2.1, q.2.2))) = true := by decide +kernel
theorem hd_X0_takes : yX0_takes.cls = RX0 ∧ yX0_takes.cls ≠ "java/lang/invoke/MethodHandle" ∧ yX0_takes.cls ≠ "java/lang/invoke/VarHandle" ∧ (parseMethodDescriptor yX0_takes.desc).map (fun d => d.parameters.length) = some 1 := by decide +kernel
def P_X0_takes (z : pp_Z) (fu : Nat) (x1 : Int32) (st : mm_S) : Option (Int32 × mm_S) :=
  fc_bn (P_X0_sees z fu x1 st) fun r3 st1 =>
  if r3 = 0 then (
  some ((0 : Int32), st1))
  else (
  fc_nm (mm_sI st1 2 ((mm_I st1 2) + (1 : Int32))) fun st5 =>
  some ((1 : Int32), st5))
theorem w_X0_takes {p : Program} {l : Launch} {e : Env} {s : State} {m : MethodId} {args : Array Value} {below : List Frame} {meth : Method} {c : Code} {D : va_G} {o : Nat} {ad : Nat → Nat} {cs : ClassId} {z : pp_Z} {r : Int32} {st' : mm_S} (C : pp_C p s m args meth c cX0_takes 2 (some .boolean) D o ad cs z) (fu : Nat) (x1 : Int32) (st : mm_S) (hf : P_X0_takes z fu x1 st = some (r, st')) {H : Heap} {locs : List Loc} {ls : Array Slot} (hl : lv_has ls 2 [(0, .ref o), (1, .int x1)]) (hM : pp_H D o ad cs s.heap st H locs) : W p l e (mm_R 5 106) s m args below meth c H locs 0 0 (MQ below (pp_Qi D o ad cs r st') args s 0 0 (pp_A o ad)) (F0 m 0 ls []) := by
  unfold P_X0_takes at hf
  refine lv_aload_n C.1 C.2.1 (dd_at td_X0_takes 0 rfl) rfl (lv_at hl 0 rfl) ?_
  refine lv_iload_n C.1 C.2.1 (dd_at td_X0_takes 1 rfl) rfl (lv_at hl 1 rfl) ?_
  obtain ⟨r3, st1, hx2, hf⟩ := fc_of_bn hf
  refine pp_ci (As := [.int x1]) (rest := []) (n := 1) C hM (c_X0_sees l D o ad cs z fu x1 st) (cc_gdV cw52 cw53 cw54 cw55 cw51) (dd_at td_X0_takes 2 rfl) hx2 hl.1 hd_X0_sees ⟨Nat.le_of_ble_eq_true rfl, Nat.le_of_ble_eq_true rfl⟩ rfl rfl (Nat.le_of_ble_eq_true rfl) ⟨Nat.le_refl 0, Nat.le_refl 0⟩ (fun H locs hM => ?_)
  refine lv_if_ne (tgt := 10) C.1 C.2.1 (dd_at td_X0_takes 3 rfl) (by decide) (fun c4 => ?_) (fun c4 => ?_)
  · replace hf := fc_of_f hf c4
    refine lv_aload_n C.1 C.2.1 (dd_at td_X0_takes 6 rfl) rfl (lv_at hl 0 rfl) ?_
    refine lv_dup C.1 C.2.1 (dd_at td_X0_takes 7 rfl) rfl ?_
    refine pp_gI C hM 2 (dd_at td_X0_takes 8 rfl) (by decide) (by decide) cw43 ?_
    refine lv_iconst (v := (1 : Int32)) C.1 C.2.1 (dd_at td_X0_takes 9 rfl) (by decide) ?_
    refine lv_iadd C.1 C.2.1 (dd_at td_X0_takes 10 rfl) ?_
    refine pp_pI C hM 2 (dd_at td_X0_takes 11 rfl) (by decide) (by decide) (by decide) cw43 rfl rfl (fun st5 H locs est5 hM => ?_)
    replace hf := fc_of_nm hf st5 est5
    refine lv_iconst (v := (1 : Int32)) C.1 C.2.1 (dd_at td_X0_takes 12 rfl) (by decide) ?_
    exact pp_rz C hM (dd_at td_X0_takes 13 rfl) rfl hf
  · replace hf := fc_of_t hf c4
    refine lv_iconst (v := (0 : Int32)) C.1 C.2.1 (dd_at td_X0_takes 4 rfl) (by decide) ?_
    exact pp_rz C hM (dd_at td_X0_takes 5 rfl) rfl hf
theorem c_X0_takes (l : Launch) (D : va_G) (o : Nat) (ad : Nat → Nat) (cs : ClassId) (z : pp_Z) (fu : Nat) (x1 : Int32) (st : mm_S) : pp_Mi l D o ad cs z yX0_takes cX0_takes 2 (some .boolean) 5 106 [.int x1] st (P_X0_takes z fu x1 st) := by
  intro r st' hf
  refine pp_enter (cc := cX0_takes) (nL := 2) (ret := some .boolean) (by decide) rfl (Nat.le_of_ble_eq_true rfl) ?_
  intro p e s m args below meth c ls C hl hM
  exact w_X0_takes C fu x1 st hf hl hM
/-! X0_takesOneOf -/
def tb_X0_takesOneOf : List (Nat × Instr × Nat) := [(0, .aload_n 0, 1), (1, .getfield 9, 3), (4, .aload_n 0, 1), (5, .getfield 37, 3), (8, .invokevirtual 52, 3), (11, .if_icmp .ge 21, 3), (14, .aload_n 1, 1), (15, .aload_n 0, 1), (16, .getfield 37, 3), (19, .aload_n 0, 1), (20, .getfield 9, 3), (23, .invokevirtual 103, 3), (26, .invokevirtual 113, 3), (29, .ifCond .ge 5, 3), (32, .iconst 0, 1), (33, .ireturn, 1), (34, .aload_n 0, 1), (35, .dup, 1), (36, .getfield 9, 3), (39, .iconst 1, 1), (40, .iadd, 1), (41, .putfield 9, 3), (44, .aload_n 0, 1), (45, .getfield 37, 3), (48, .aload_n 0, 1), (49, .getfield 9, 3), (52, .iconst 1, 1), (53, .isub, 1), (54, .invokevirtual 103, 3), (57, .ireturn, 1)]
theorem td_X0_takesOneOf : tb_X0_takesOneOf.all (fun q => decide (decode cX0_takesOneOf q.1 = .ok (q.2.1, q.2.2))) = true := by decide +kernel
theorem hd_X0_takesOneOf : yX0_takesOneOf.cls = RX0 ∧ yX0_takesOneOf.cls ≠ "java/lang/invoke/MethodHandle" ∧ yX0_takesOneOf.cls ≠ "java/lang/invoke/VarHandle" ∧ (parseMethodDescriptor yX0_takesOneOf.desc).map (fun d => d.parameters.length) = some 1 := by decide +kernel
def P_X0_takesOneOf (z : pp_Z) (fu : Nat) (x1 : Nat) (st : mm_S) : Option (Int32 × mm_S) :=
  fc_bv (J_J0_length_8abf5 (z 0).2.2.1 (z 0).2.2.2 fu) fun r1 =>
  if r1 ≤ (mm_I st 2) then (
  some ((0 : Int32), st))
  else (
  fc_bv (J_J0_charAt_5068e (z 0).2.2.1 (z 0).2.2.2 fu (mm_I st 2)) fun r4 =>
  fc_gd (decide (x1 < 6)) <|
  fc_bv (J_J0_indexOf_0f7a4 (z x1).2.2.1 (z x1).2.2.2 fu r4) fun r7 =>
  if 0 ≤ r7 then (
  fc_nm (mm_sI st 2 ((mm_I st 2) + (1 : Int32))) fun st10 =>
  fc_bv (J_J0_charAt_5068e (z 0).2.2.1 (z 0).2.2.2 fu ((mm_I st10 2) - (1 : Int32))) fun r11 =>
  fc_gd (decide (narrow .char (.int r11) = .int r11)) <|
  some (r11, st10))
  else (
  some ((0 : Int32), st)))
theorem w_X0_takesOneOf {p : Program} {l : Launch} {e : Env} {s : State} {m : MethodId} {args : Array Value} {below : List Frame} {meth : Method} {c : Code} {D : va_G} {o : Nat} {ad : Nat → Nat} {cs : ClassId} {z : pp_Z} {r : Int32} {st' : mm_S} (C : pp_C p s m args meth c cX0_takesOneOf 2 (some .char) D o ad cs z) (fu : Nat) (x1 : Nat) (st : mm_S) (hf : P_X0_takesOneOf z fu x1 st = some (r, st')) {H : Heap} {locs : List Loc} {ls : Array Slot} (hl : lv_has ls 2 [(0, .ref o), (1, .ref (z x1).1)]) (hM : pp_H D o ad cs s.heap st H locs) : W p l e (mm_R 4 106) s m args below meth c H locs 0 0 (MQ below (pp_Qi D o ad cs r st') args s 0 0 (pp_A o ad)) (F0 m 0 ls []) := by
  unfold P_X0_takesOneOf at hf
  refine lv_aload_n C.1 C.2.1 (dd_at td_X0_takesOneOf 0 rfl) rfl (lv_at hl 0 rfl) ?_
  refine pp_gI C hM 2 (dd_at td_X0_takesOneOf 1 rfl) (by decide) (by decide) cw43 ?_
  refine lv_aload_n C.1 C.2.1 (dd_at td_X0_takesOneOf 2 rfl) rfl (lv_at hl 0 rfl) ?_
  refine pp_gT C hM (dd_at td_X0_takesOneOf 3 rfl) cw44 ?_
  obtain ⟨r1, hx2, hf⟩ := fc_of_bv hf
  refine pp_js (i := 0) (k := 0) (As := []) (rest := [.int (mm_I st 2)]) C hM (by decide) (c_J0_length_8abf5 l (z 0).1 (z 0).2.1 (z 0).2.2.1 (z 0).2.2.2 fu r1 hx2) (cc_gdV cw45 cw46 cw47 cw8 cw3) hd_J0_length_8abf5 ⟨Nat.le_of_ble_eq_true rfl, Nat.le_of_ble_eq_true rfl⟩ rfl hl.1 rfl (Nat.le_of_ble_eq_true rfl) (dd_at td_X0_takesOneOf 4 rfl) ⟨Nat.le_refl 0, Nat.le_refl 0⟩ ?_
  refine lv_icmp_ge (tgt := 32) C.1 C.2.1 (dd_at td_X0_takesOneOf 5 rfl) (by decide) (fun c3 => ?_) (fun c3 => ?_)
  · replace hf := fc_of_t hf c3
    refine lv_iconst (v := (0 : Int32)) C.1 C.2.1 (dd_at td_X0_takesOneOf 14 rfl) (by decide) ?_
    exact pp_rz C hM (dd_at td_X0_takesOneOf 15 rfl) rfl hf
  · replace hf := fc_of_f hf c3
    refine lv_aload_n C.1 C.2.1 (dd_at td_X0_takesOneOf 6 rfl) rfl (lv_at hl 1 rfl) ?_
    refine lv_aload_n C.1 C.2.1 (dd_at td_X0_takesOneOf 7 rfl) rfl (lv_at hl 0 rfl) ?_
    refine pp_gT C hM (dd_at td_X0_takesOneOf 8 rfl) cw44 ?_
    refine lv_aload_n C.1 C.2.1 (dd_at td_X0_takesOneOf 9 rfl) rfl (lv_at hl 0 rfl) ?_
    refine pp_gI C hM 2 (dd_at td_X0_takesOneOf 10 rfl) (by decide) (by decide) cw43 ?_
    obtain ⟨r4, hx5, hf⟩ := fc_of_bv hf
    refine pp_js (i := 0) (k := 1) (As := [.int (mm_I st 2)]) (rest := [.ref (z x1).1]) C hM (by decide) (c_J0_charAt_5068e l (z 0).1 (z 0).2.1 (z 0).2.2.1 (z 0).2.2.2 fu (mm_I st 2) r4 hx5) (cc_gdV cw48 cw49 cw50 cw8 cw42) hd_J0_charAt_5068e ⟨Nat.le_of_ble_eq_true rfl, Nat.le_of_ble_eq_true rfl⟩ rfl hl.1 rfl (Nat.le_of_ble_eq_true rfl) (dd_at td_X0_takesOneOf 11 rfl) ⟨Nat.le_refl 0, Nat.le_refl 0⟩ ?_
    obtain ⟨g6, hf⟩ := fc_of_gd hf
    obtain ⟨r7, hx8, hf⟩ := fc_of_bv hf
    refine pp_js (i := x1) (k := 1) (As := [.int r4]) (rest := []) C hM (of_decide_eq_true g6) (c_J0_indexOf_0f7a4 l (z x1).1 (z x1).2.1 (z x1).2.2.1 (z x1).2.2.2 fu r4 r7 hx8) (cc_gdV cw124 cw125 cw126 cw8 cw123) hd_J0_indexOf_0f7a4 ⟨Nat.le_of_ble_eq_true rfl, Nat.le_of_ble_eq_true rfl⟩ rfl hl.1 rfl (Nat.le_of_ble_eq_true rfl) (dd_at td_X0_takesOneOf 12 rfl) ⟨Nat.le_refl 0, Nat.le_refl 0⟩ ?_
    refine lv_if_ge (tgt := 34) C.1 C.2.1 (dd_at td_X0_takesOneOf 13 rfl) (by decide) (fun c9 => ?_) (fun c9 => ?_)
    · replace hf := fc_of_t hf c9
      refine lv_aload_n C.1 C.2.1 (dd_at td_X0_takesOneOf 16 rfl) rfl (lv_at hl 0 rfl) ?_
      refine lv_dup C.1 C.2.1 (dd_at td_X0_takesOneOf 17 rfl) rfl ?_
      refine pp_gI C hM 2 (dd_at td_X0_takesOneOf 18 rfl) (by decide) (by decide) cw43 ?_
      refine lv_iconst (v := (1 : Int32)) C.1 C.2.1 (dd_at td_X0_takesOneOf 19 rfl) (by decide) ?_
      refine lv_iadd C.1 C.2.1 (dd_at td_X0_takesOneOf 20 rfl) ?_
      refine pp_pI C hM 2 (dd_at td_X0_takesOneOf 21 rfl) (by decide) (by decide) (by decide) cw43 rfl rfl (fun st10 H locs est10 hM => ?_)
      replace hf := fc_of_nm hf st10 est10
      refine lv_aload_n C.1 C.2.1 (dd_at td_X0_takesOneOf 22 rfl) rfl (lv_at hl 0 rfl) ?_
      refine pp_gT C hM (dd_at td_X0_takesOneOf 23 rfl) cw44 ?_
      refine lv_aload_n C.1 C.2.1 (dd_at td_X0_takesOneOf 24 rfl) rfl (lv_at hl 0 rfl) ?_
      refine pp_gI C hM 2 (dd_at td_X0_takesOneOf 25 rfl) (by decide) (by decide) cw43 ?_
      refine lv_iconst (v := (1 : Int32)) C.1 C.2.1 (dd_at td_X0_takesOneOf 26 rfl) (by decide) ?_
      refine lv_isub C.1 C.2.1 (dd_at td_X0_takesOneOf 27 rfl) ?_
      obtain ⟨r11, hx12, hf⟩ := fc_of_bv hf
      refine pp_js (i := 0) (k := 1) (As := [.int ((mm_I st10 2) - (1 : Int32))]) (rest := []) C hM (by decide) (c_J0_charAt_5068e l (z 0).1 (z 0).2.1 (z 0).2.2.1 (z 0).2.2.2 fu ((mm_I st10 2) - (1 : Int32)) r11 hx12) (cc_gdV cw48 cw49 cw50 cw8 cw42) hd_J0_charAt_5068e ⟨Nat.le_of_ble_eq_true rfl, Nat.le_of_ble_eq_true rfl⟩ rfl hl.1 rfl (Nat.le_of_ble_eq_true rfl) (dd_at td_X0_takesOneOf 28 rfl) ⟨Nat.le_refl 0, Nat.le_refl 0⟩ ?_
      obtain ⟨g13, hf⟩ := fc_of_gd hf
      exact pp_rz C hM (dd_at td_X0_takesOneOf 29 rfl) (of_decide_eq_true g13) hf
    · replace hf := fc_of_f hf c9
      refine lv_iconst (v := (0 : Int32)) C.1 C.2.1 (dd_at td_X0_takesOneOf 14 rfl) (by decide) ?_
      exact pp_rz C hM (dd_at td_X0_takesOneOf 15 rfl) rfl hf
theorem c_X0_takesOneOf (l : Launch) (D : va_G) (o : Nat) (ad : Nat → Nat) (cs : ClassId) (z : pp_Z) (fu : Nat) (x1 : Nat) (st : mm_S) : pp_Mi l D o ad cs z yX0_takesOneOf cX0_takesOneOf 2 (some .char) 4 106 [.ref (z x1).1] st (P_X0_takesOneOf z fu x1 st) := by
  intro r st' hf
  refine pp_enter (cc := cX0_takesOneOf) (nL := 2) (ret := some .char) (by decide) rfl (Nat.le_of_ble_eq_true rfl) ?_
  intro p e s m args below meth c ls C hl hM
  exact w_X0_takesOneOf C fu x1 st hf hl hM
/-! X0_takesWord -/
def tb_X0_takesWord : List (Nat × Instr × Nat) := [(0, .iconst 0, 1), (1, .istore_n 2, 1), (2, .iload_n 2, 1), (3, .aload_n 1, 1), (4, .invokevirtual 52, 3), (7, .if_icmp .ge 23, 3), (10, .aload_n 0, 1), (11, .aload_n 1, 1), (12, .iload_n 2, 1), (13, .invokevirtual 103, 3), (16, .invokevirtual 58, 3), (19, .ifCond .ne 5, 3), (22, .iconst 0, 1), (23, .ireturn, 1), (24, .iinc 2 1, 3), (27, .goto (-25), 3), (30, .iconst 1, 1), (31, .ireturn, 1)]
theorem td_X0_takesWord : tb_X0_takesWord.all (fun q => decide (decode cX0_takesWord q.1 = .ok (q.2.1, q.2.2))) = true := by decide +kernel
theorem hd_X0_takesWord : yX0_takesWord.cls = RX0 ∧ yX0_takesWord.cls ≠ "java/lang/invoke/MethodHandle" ∧ yX0_takesWord.cls ≠ "java/lang/invoke/VarHandle" ∧ (parseMethodDescriptor yX0_takesWord.desc).map (fun d => d.parameters.length) = some 1 := by decide +kernel
def P_X0_takesWord_b2F (z : pp_Z) (fu : Nat) (K2 : Nat → Int32 → mm_S → Option (Int32 × mm_S)) (x1 : Nat) (x2 : Int32) (st : mm_S) : Option (Int32 × mm_S) :=
  fc_gd (decide (x1 < 6)) <|
  fc_bv (J_J0_length_8abf5 (z x1).2.2.1 (z x1).2.2.2 fu) fun r2 =>
  if r2 ≤ x2 then (
  some ((1 : Int32), st))
  else (
  fc_gd (decide (x1 < 6)) <|
  fc_bv (J_J0_charAt_5068e (z x1).2.2.1 (z x1).2.2.2 fu x2) fun r6 =>
  fc_bn (P_X0_takes z fu r6 st) fun r10 st8 =>
  if r10 = 0 then (
  some ((0 : Int32), st8))
  else (
  fc_nm (x2 + (1 : Int32)) fun v12 =>
  K2 x1 v12 st8))
def P_X0_takesWord_b2 (z : pp_Z) (fu : Nat) (n : Nat) (x1 : Nat) (x2 : Int32) (st : mm_S) : Option (Int32 × mm_S) :=
  fc_lp (fun (K : Nat × Int32 × mm_S → Option (Int32 × mm_S)) q => P_X0_takesWord_b2F z fu (fun x1 x2 st => K (x1, x2, st)) q.1 q.2.1 q.2.2) n (x1, x2, st)
theorem w_X0_takesWord_b2F {p : Program} {l : Launch} {e : Env} {s : State} {m : MethodId} {args : Array Value} {below : List Frame} {meth : Method} {c : Code} {D : va_G} {o : Nat} {ad : Nat → Nat} {cs : ClassId} {z : pp_Z} {r : Int32} {st' : mm_S} (C : pp_C p s m args meth c cX0_takesWord 3 (some .boolean) D o ad cs z) (fu : Nat) (K2 : Nat → Int32 → mm_S → Option (Int32 × mm_S)) (hK2 : ∀ (x1 : Nat) (x2 : Int32) (st : mm_S) (H : Heap) (locs : List Loc) (ls : Array Slot), K2 x1 x2 st = some (r, st') → lv_has ls 3 [(0, .ref o), (1, .ref (z x1).1), (2, .int x2)] → pp_H D o ad cs s.heap st H locs → W p l e (mm_R 6 127) s m args below meth c H locs 0 0 (MQ below (pp_Qi D o ad cs r st') args s 0 0 (pp_A o ad)) (F0 m 2 ls [])) (x1 : Nat) (x2 : Int32) (st : mm_S) (hf : P_X0_takesWord_b2F z fu K2 x1 x2 st = some (r, st')) {H : Heap} {locs : List Loc} {ls : Array Slot} (hl : lv_has ls 3 [(0, .ref o), (1, .ref (z x1).1), (2, .int x2)]) (hM : pp_H D o ad cs s.heap st H locs) : W p l e (mm_R 6 127) s m args below meth c H locs 0 0 (MQ below (pp_Qi D o ad cs r st') args s 0 0 (pp_A o ad)) (F0 m 2 ls []) := by
  unfold P_X0_takesWord_b2F at hf
  refine lv_iload_n C.1 C.2.1 (dd_at td_X0_takesWord 2 rfl) rfl (lv_at hl 2 rfl) ?_
  refine lv_aload_n C.1 C.2.1 (dd_at td_X0_takesWord 3 rfl) rfl (lv_at hl 1 rfl) ?_
  obtain ⟨g1, hf⟩ := fc_of_gd hf
  obtain ⟨r2, hx3, hf⟩ := fc_of_bv hf
  refine pp_js (i := x1) (k := 0) (As := []) (rest := [.int x2]) C hM (of_decide_eq_true g1) (c_J0_length_8abf5 l (z x1).1 (z x1).2.1 (z x1).2.2.1 (z x1).2.2.2 fu r2 hx3) (cc_gdV cw45 cw46 cw47 cw8 cw3) hd_J0_length_8abf5 ⟨Nat.le_of_ble_eq_true rfl, Nat.le_of_ble_eq_true rfl⟩ rfl hl.1 rfl (Nat.le_of_ble_eq_true rfl) (dd_at td_X0_takesWord 4 rfl) ⟨Nat.le_refl 0, Nat.le_refl 0⟩ ?_
  refine lv_icmp_ge (tgt := 30) C.1 C.2.1 (dd_at td_X0_takesWord 5 rfl) (by decide) (fun c4 => ?_) (fun c4 => ?_)
  · replace hf := fc_of_t hf c4
    refine lv_iconst (v := (1 : Int32)) C.1 C.2.1 (dd_at td_X0_takesWord 16 rfl) (by decide) ?_
    exact pp_rz C hM (dd_at td_X0_takesWord 17 rfl) rfl hf
  · replace hf := fc_of_f hf c4
    refine lv_aload_n C.1 C.2.1 (dd_at td_X0_takesWord 6 rfl) rfl (lv_at hl 0 rfl) ?_
    refine lv_aload_n C.1 C.2.1 (dd_at td_X0_takesWord 7 rfl) rfl (lv_at hl 1 rfl) ?_
    refine lv_iload_n C.1 C.2.1 (dd_at td_X0_takesWord 8 rfl) rfl (lv_at hl 2 rfl) ?_
    obtain ⟨g5, hf⟩ := fc_of_gd hf
    obtain ⟨r6, hx7, hf⟩ := fc_of_bv hf
    refine pp_js (i := x1) (k := 1) (As := [.int x2]) (rest := [.ref o]) C hM (of_decide_eq_true g5) (c_J0_charAt_5068e l (z x1).1 (z x1).2.1 (z x1).2.2.1 (z x1).2.2.2 fu x2 r6 hx7) (cc_gdV cw48 cw49 cw50 cw8 cw42) hd_J0_charAt_5068e ⟨Nat.le_of_ble_eq_true rfl, Nat.le_of_ble_eq_true rfl⟩ rfl hl.1 rfl (Nat.le_of_ble_eq_true rfl) (dd_at td_X0_takesWord 9 rfl) ⟨Nat.le_refl 0, Nat.le_refl 0⟩ ?_
    obtain ⟨r10, st8, hx9, hf⟩ := fc_of_bn hf
    refine pp_ci (As := [.int r6]) (rest := []) (n := 1) C hM (c_X0_takes l D o ad cs z fu r6 st) (cc_gdV cw57 cw58 cw59 cw55 cw56) (dd_at td_X0_takesWord 10 rfl) hx9 hl.1 hd_X0_takes ⟨Nat.le_of_ble_eq_true rfl, Nat.le_of_ble_eq_true rfl⟩ rfl rfl (Nat.le_of_ble_eq_true rfl) ⟨Nat.le_refl 0, Nat.le_refl 0⟩ (fun H locs hM => ?_)
    refine lv_if_ne (tgt := 24) C.1 C.2.1 (dd_at td_X0_takesWord 11 rfl) (by decide) (fun c11 => ?_) (fun c11 => ?_)
    · replace hf := fc_of_f hf c11
      obtain ⟨v12, ev12⟩ : ∃ y : Int32, y = x2 + (1 : Int32) := ⟨_, rfl⟩
      replace hf := fc_of_nm hf v12 ev12
      refine lv_iinc (v := v12) (lv' := [(2, .int v12), (0, .ref o), (1, .ref (z x1).1)]) C.1 C.2.1 (dd_at td_X0_takesWord 14 rfl) hl (k := 2) rfl (by rw [ev12]; rfl) (by decide) rfl (fun ls hl => ?_)
      refine lv_goto (tgt := 2) C.1 C.2.1 (dd_at td_X0_takesWord 15 rfl) (by decide) ?_
      exact hK2 x1 v12 st8 _ _ _ hf (lv_sub hl [1, 2, 0] rfl) hM
    · replace hf := fc_of_t hf c11
      refine lv_iconst (v := (0 : Int32)) C.1 C.2.1 (dd_at td_X0_takesWord 12 rfl) (by decide) ?_
      exact pp_rz C hM (dd_at td_X0_takesWord 13 rfl) rfl hf
theorem w_X0_takesWord_b2 {p : Program} {l : Launch} {e : Env} {s : State} {m : MethodId} {args : Array Value} {below : List Frame} {meth : Method} {c : Code} {D : va_G} {o : Nat} {ad : Nat → Nat} {cs : ClassId} {z : pp_Z} {r : Int32} {st' : mm_S} (C : pp_C p s m args meth c cX0_takesWord 3 (some .boolean) D o ad cs z) (fu : Nat) (n : Nat) : ∀ (x1 : Nat) (x2 : Int32) (st : mm_S), P_X0_takesWord_b2 z fu n x1 x2 st = some (r, st') → ∀ (H : Heap) (locs : List Loc) (ls : Array Slot), lv_has ls 3 [(0, .ref o), (1, .ref (z x1).1), (2, .int x2)] → pp_H D o ad cs s.heap st H locs → W p l e (mm_R 6 127) s m args below meth c H locs 0 0 (MQ below (pp_Qi D o ad cs r st') args s 0 0 (pp_A o ad)) (F0 m 2 ls []) := by
  induction n with
  | zero => exact fun _ _ _ hf => fc_no hf
  | succ n ih =>
    intro x1 x2 st hf H locs ls hl hM
    exact w_X0_takesWord_b2F C fu (fun x1 x2 st => P_X0_takesWord_b2 z fu n x1 x2 st) (fun x1 x2 st H locs ls hf hl hM => ih x1 x2 st hf H locs ls hl hM) x1 x2 st hf hl hM
def P_X0_takesWord (z : pp_Z) (fu : Nat) (x1 : Nat) (st : mm_S) : Option (Int32 × mm_S) :=
  P_X0_takesWord_b2 z fu fu x1 (0 : Int32) st
theorem w_X0_takesWord {p : Program} {l : Launch} {e : Env} {s : State} {m : MethodId} {args : Array Value} {below : List Frame} {meth : Method} {c : Code} {D : va_G} {o : Nat} {ad : Nat → Nat} {cs : ClassId} {z : pp_Z} {r : Int32} {st' : mm_S} (C : pp_C p s m args meth c cX0_takesWord 3 (some .boolean) D o ad cs z) (fu : Nat) (x1 : Nat) (st : mm_S) (hf : P_X0_takesWord z fu x1 st = some (r, st')) {H : Heap} {locs : List Loc} {ls : Array Slot} (hl : lv_has ls 3 [(0, .ref o), (1, .ref (z x1).1)]) (hM : pp_H D o ad cs s.heap st H locs) : W p l e (mm_R 6 127) s m args below meth c H locs 0 0 (MQ below (pp_Qi D o ad cs r st') args s 0 0 (pp_A o ad)) (F0 m 0 ls []) := by
  unfold P_X0_takesWord at hf
  refine lv_iconst (v := (0 : Int32)) C.1 C.2.1 (dd_at td_X0_takesWord 0 rfl) (by decide) ?_
  refine lv_istore_n (lv' := [(2, .int (0 : Int32)), (0, .ref o), (1, .ref (z x1).1)]) C.1 C.2.1 (dd_at td_X0_takesWord 1 rfl) rfl hl (by decide) rfl (fun ls hl => ?_)
  exact w_X0_takesWord_b2 C fu fu x1 (0 : Int32) st hf _ _ _ (lv_sub hl [1, 2, 0] rfl) hM
theorem c_X0_takesWord (l : Launch) (D : va_G) (o : Nat) (ad : Nat → Nat) (cs : ClassId) (z : pp_Z) (fu : Nat) (x1 : Nat) (st : mm_S) : pp_Mi l D o ad cs z yX0_takesWord cX0_takesWord 3 (some .boolean) 6 127 [.ref (z x1).1] st (P_X0_takesWord z fu x1 st) := by
  intro r st' hf
  refine pp_enter (cc := cX0_takesWord) (nL := 3) (ret := some .boolean) (by decide) rfl (Nat.le_of_ble_eq_true rfl) ?_
  intro p e s m args below meth c ls C hl hM
  exact w_X0_takesWord C fu x1 st hf hl hM
/-! X0_takesNumber -/
def tb_X0_takesNumber : List (Nat × Instr × Nat) := [(0, .iconst (-1), 1), (1, .istore_n 1, 1), (2, .iconst 0, 1), (3, .istore_n 2, 1), (4, .iload_n 2, 1), (5, .iconst 2, 1), (6, .if_icmp .ge 72, 3), (9, .aload_n 0, 1), (10, .getfield 9, 3), (13, .aload_n 0, 1), (14, .getfield 37, 3), (17, .invokevirtual 52, 3), (20, .if_icmp .ge 58, 3), (23, .aload_n 0, 1), (24, .getfield 37, 3), (27, .aload_n 0, 1), (28, .getfield 9, 3), (31, .invokevirtual 103, 3), (34, .bipush 48, 2), (36, .isub, 1), (37, .istore_n 3, 1), (38, .iload_n 3, 1), (39, .ifCond .lt 39, 3), (42, .iload_n 3, 1), (43, .bipush 9, 2), (45, .if_icmp .le 6, 3), (48, .goto 30, 3), (51, .iload_n 1, 1), (52, .iconst 0, 1), (53, .invokestatic 107, 3), (56, .bipush 10, 2), (58, .imul, 1), (59, .iload_n 3, 1), (60, .iadd, 1), (61, .istore_n 1, 1), (62, .aload_n 0, 1), (63, .dup, 1), (64, .getfield 9, 3), (67, .iconst 1, 1), (68, .iadd, 1), (69, .putfield 9, 3), (72, .iinc 2 1, 3), (75, .goto (-71), 3), (78, .iload_n 1, 1), (79, .ireturn, 1)]
theorem td_X0_takesNumber : tb_X0_takesNumber.all (fun q => decide (decode cX0_takesNumber q.1 = .ok (q.2.1, q.2.2))) = true := by decide +kernel
theorem hd_X0_takesNumber : yX0_takesNumber.cls = RX0 ∧ yX0_takesNumber.cls ≠ "java/lang/invoke/MethodHandle" ∧ yX0_takesNumber.cls ≠ "java/lang/invoke/VarHandle" ∧ (parseMethodDescriptor yX0_takesNumber.desc).map (fun d => d.parameters.length) = some 0 := by decide +kernel
def P_X0_takesNumber_b4F (z : pp_Z) (fu : Nat) (K4 : Int32 → Int32 → mm_S → Option (Int32 × mm_S)) (x1 : Int32) (x2 : Int32) (st : mm_S) : Option (Int32 × mm_S) :=
  if (2 : Int32) ≤ x2 then (
  some (x1, st))
  else (
  fc_bv (J_J0_length_8abf5 (z 0).2.2.1 (z 0).2.2.2 fu) fun r2 =>
  if r2 ≤ (mm_I st 2) then (
  some (x1, st))
  else (
  fc_bv (J_J0_charAt_5068e (z 0).2.2.1 (z 0).2.2.2 fu (mm_I st 2)) fun r5 =>
  fc_nm (r5 - (48 : Int32)) fun v7 =>
  if v7 < 0 then (
  some (x1, st))
  else (
  if v7 ≤ (9 : Int32) then (
  fc_nm (((if x1 < (0 : Int32) then (0 : Int32) else x1) * (10 : Int32)) + v7) fun v10 =>
  fc_nm (mm_sI st 2 ((mm_I st 2) + (1 : Int32))) fun st11 =>
  fc_nm (x2 + (1 : Int32)) fun v12 =>
  K4 v10 v12 st11)
  else (
  some (x1, st)))))
def P_X0_takesNumber_b4 (z : pp_Z) (fu : Nat) (n : Nat) (x1 : Int32) (x2 : Int32) (st : mm_S) : Option (Int32 × mm_S) :=
  fc_lp (fun (K : Int32 × Int32 × mm_S → Option (Int32 × mm_S)) q => P_X0_takesNumber_b4F z fu (fun x1 x2 st => K (x1, x2, st)) q.1 q.2.1 q.2.2) n (x1, x2, st)
theorem w_X0_takesNumber_b4F {p : Program} {l : Launch} {e : Env} {s : State} {m : MethodId} {args : Array Value} {below : List Frame} {meth : Method} {c : Code} {D : va_G} {o : Nat} {ad : Nat → Nat} {cs : ClassId} {z : pp_Z} {r : Int32} {st' : mm_S} (C : pp_C p s m args meth c cX0_takesNumber 4 (some .int) D o ad cs z) (fu : Nat) (K4 : Int32 → Int32 → mm_S → Option (Int32 × mm_S)) (hK4 : ∀ (x1 : Int32) (x2 : Int32) (st : mm_S) (H : Heap) (locs : List Loc) (ls : Array Slot), K4 x1 x2 st = some (r, st') → lv_has ls 4 [(0, .ref o), (1, .int x1), (2, .int x2)] → pp_H D o ad cs s.heap st H locs → W p l e (mm_R 4 85) s m args below meth c H locs 0 0 (MQ below (pp_Qi D o ad cs r st') args s 0 0 (pp_A o ad)) (F0 m 4 ls [])) (x1 : Int32) (x2 : Int32) (st : mm_S) (hf : P_X0_takesNumber_b4F z fu K4 x1 x2 st = some (r, st')) {H : Heap} {locs : List Loc} {ls : Array Slot} (hl : lv_has ls 4 [(0, .ref o), (1, .int x1), (2, .int x2)]) (hM : pp_H D o ad cs s.heap st H locs) : W p l e (mm_R 4 85) s m args below meth c H locs 0 0 (MQ below (pp_Qi D o ad cs r st') args s 0 0 (pp_A o ad)) (F0 m 4 ls []) := by
  unfold P_X0_takesNumber_b4F at hf
  refine lv_iload_n C.1 C.2.1 (dd_at td_X0_takesNumber 4 rfl) rfl (lv_at hl 2 rfl) ?_
  refine lv_iconst (v := (2 : Int32)) C.1 C.2.1 (dd_at td_X0_takesNumber 5 rfl) (by decide) ?_
  refine lv_icmp_ge (tgt := 78) C.1 C.2.1 (dd_at td_X0_takesNumber 6 rfl) (by decide) (fun c1 => ?_) (fun c1 => ?_)
  · replace hf := fc_of_t hf c1
    refine lv_iload_n C.1 C.2.1 (dd_at td_X0_takesNumber 43 rfl) rfl (lv_at hl 1 rfl) ?_
    exact pp_ri C hM (dd_at td_X0_takesNumber 44 rfl) hf
  · replace hf := fc_of_f hf c1
    refine lv_aload_n C.1 C.2.1 (dd_at td_X0_takesNumber 7 rfl) rfl (lv_at hl 0 rfl) ?_
    refine pp_gI C hM 2 (dd_at td_X0_takesNumber 8 rfl) (by decide) (by decide) cw43 ?_
    refine lv_aload_n C.1 C.2.1 (dd_at td_X0_takesNumber 9 rfl) rfl (lv_at hl 0 rfl) ?_
    refine pp_gT C hM (dd_at td_X0_takesNumber 10 rfl) cw44 ?_
    obtain ⟨r2, hx3, hf⟩ := fc_of_bv hf
    refine pp_js (i := 0) (k := 0) (As := []) (rest := [.int (mm_I st 2)]) C hM (by decide) (c_J0_length_8abf5 l (z 0).1 (z 0).2.1 (z 0).2.2.1 (z 0).2.2.2 fu r2 hx3) (cc_gdV cw45 cw46 cw47 cw8 cw3) hd_J0_length_8abf5 ⟨Nat.le_of_ble_eq_true rfl, Nat.le_of_ble_eq_true rfl⟩ rfl hl.1 rfl (Nat.le_of_ble_eq_true rfl) (dd_at td_X0_takesNumber 11 rfl) ⟨Nat.le_refl 0, Nat.le_refl 0⟩ ?_
    refine lv_icmp_ge (tgt := 78) C.1 C.2.1 (dd_at td_X0_takesNumber 12 rfl) (by decide) (fun c4 => ?_) (fun c4 => ?_)
    · replace hf := fc_of_t hf c4
      refine lv_iload_n C.1 C.2.1 (dd_at td_X0_takesNumber 43 rfl) rfl (lv_at hl 1 rfl) ?_
      exact pp_ri C hM (dd_at td_X0_takesNumber 44 rfl) hf
    · replace hf := fc_of_f hf c4
      refine lv_aload_n C.1 C.2.1 (dd_at td_X0_takesNumber 13 rfl) rfl (lv_at hl 0 rfl) ?_
      refine pp_gT C hM (dd_at td_X0_takesNumber 14 rfl) cw44 ?_
      refine lv_aload_n C.1 C.2.1 (dd_at td_X0_takesNumber 15 rfl) rfl (lv_at hl 0 rfl) ?_
      refine pp_gI C hM 2 (dd_at td_X0_takesNumber 16 rfl) (by decide) (by decide) cw43 ?_
      obtain ⟨r5, hx6, hf⟩ := fc_of_bv hf
      refine pp_js (i := 0) (k := 1) (As := [.int (mm_I st 2)]) (rest := []) C hM (by decide) (c_J0_charAt_5068e l (z 0).1 (z 0).2.1 (z 0).2.2.1 (z 0).2.2.2 fu (mm_I st 2) r5 hx6) (cc_gdV cw48 cw49 cw50 cw8 cw42) hd_J0_charAt_5068e ⟨Nat.le_of_ble_eq_true rfl, Nat.le_of_ble_eq_true rfl⟩ rfl hl.1 rfl (Nat.le_of_ble_eq_true rfl) (dd_at td_X0_takesNumber 17 rfl) ⟨Nat.le_refl 0, Nat.le_refl 0⟩ ?_
      refine lv_bipush (v := (48 : Int32)) C.1 C.2.1 (dd_at td_X0_takesNumber 18 rfl) (by decide) ?_
      refine lv_isub C.1 C.2.1 (dd_at td_X0_takesNumber 19 rfl) ?_
      refine lv_topi (fun v7 ev7 => ?_)
      replace hf := fc_of_nm hf v7 ev7
      refine lv_istore_n (lv' := [(3, .int v7), (0, .ref o), (1, .int x1), (2, .int x2)]) C.1 C.2.1 (dd_at td_X0_takesNumber 20 rfl) rfl hl (by decide) rfl (fun ls hl => ?_)
      refine lv_iload_n C.1 C.2.1 (dd_at td_X0_takesNumber 21 rfl) rfl (lv_at hl 0 rfl) ?_
      refine lv_if_lt (tgt := 78) C.1 C.2.1 (dd_at td_X0_takesNumber 22 rfl) (by decide) (fun c8 => ?_) (fun c8 => ?_)
      · replace hf := fc_of_t hf c8
        refine lv_iload_n C.1 C.2.1 (dd_at td_X0_takesNumber 43 rfl) rfl (lv_at hl 2 rfl) ?_
        exact pp_ri C hM (dd_at td_X0_takesNumber 44 rfl) hf
      · replace hf := fc_of_f hf c8
        refine lv_iload_n C.1 C.2.1 (dd_at td_X0_takesNumber 23 rfl) rfl (lv_at hl 0 rfl) ?_
        refine lv_bipush (v := (9 : Int32)) C.1 C.2.1 (dd_at td_X0_takesNumber 24 rfl) (by decide) ?_
        refine lv_icmp_le (tgt := 51) C.1 C.2.1 (dd_at td_X0_takesNumber 25 rfl) (by decide) (fun c9 => ?_) (fun c9 => ?_)
        · replace hf := fc_of_t hf c9
          refine lv_iload_n C.1 C.2.1 (dd_at td_X0_takesNumber 27 rfl) rfl (lv_at hl 2 rfl) ?_
          refine lv_iconst (v := (0 : Int32)) C.1 C.2.1 (dd_at td_X0_takesNumber 28 rfl) (by decide) ?_
          refine va_mmax C.1 C.2.1 (C.2.2.2.1.trans hl.1.symm) C.2.2.2.2.1 (C.2.2.2.2.2.1 _ cw61) (C.2.2.2.2.2.1 _ cw62) (C.2.2.2.2.2.1 _ cw373) (C.2.2.2.2.2.1 _ cw64) (Nat.le_of_ble_eq_true rfl) (Nat.le_of_ble_eq_true rfl) (Nat.le_refl 0) (Nat.le_refl 0) (dd_at td_X0_takesNumber 29 rfl) ?_
          refine lv_bipush (v := (10 : Int32)) C.1 C.2.1 (dd_at td_X0_takesNumber 30 rfl) (by decide) ?_
          refine lv_imul C.1 C.2.1 (dd_at td_X0_takesNumber 31 rfl) ?_
          refine lv_iload_n C.1 C.2.1 (dd_at td_X0_takesNumber 32 rfl) rfl (lv_at hl 0 rfl) ?_
          refine lv_iadd C.1 C.2.1 (dd_at td_X0_takesNumber 33 rfl) ?_
          refine lv_topi (fun v10 ev10 => ?_)
          replace hf := fc_of_nm hf v10 ev10
          refine lv_istore_n (lv' := [(1, .int v10), (3, .int v7), (0, .ref o), (2, .int x2)]) C.1 C.2.1 (dd_at td_X0_takesNumber 34 rfl) rfl hl (by decide) rfl (fun ls hl => ?_)
          refine lv_aload_n C.1 C.2.1 (dd_at td_X0_takesNumber 35 rfl) rfl (lv_at hl 2 rfl) ?_
          refine lv_dup C.1 C.2.1 (dd_at td_X0_takesNumber 36 rfl) rfl ?_
          refine pp_gI C hM 2 (dd_at td_X0_takesNumber 37 rfl) (by decide) (by decide) cw43 ?_
          refine lv_iconst (v := (1 : Int32)) C.1 C.2.1 (dd_at td_X0_takesNumber 38 rfl) (by decide) ?_
          refine lv_iadd C.1 C.2.1 (dd_at td_X0_takesNumber 39 rfl) ?_
          refine pp_pI C hM 2 (dd_at td_X0_takesNumber 40 rfl) (by decide) (by decide) (by decide) cw43 rfl rfl (fun st11 H locs est11 hM => ?_)
          replace hf := fc_of_nm hf st11 est11
          obtain ⟨v12, ev12⟩ : ∃ y : Int32, y = x2 + (1 : Int32) := ⟨_, rfl⟩
          replace hf := fc_of_nm hf v12 ev12
          refine lv_iinc (v := v12) (lv' := [(2, .int v12), (1, .int v10), (3, .int v7), (0, .ref o)]) C.1 C.2.1 (dd_at td_X0_takesNumber 41 rfl) hl (k := 3) rfl (by rw [ev12]; rfl) (by decide) rfl (fun ls hl => ?_)
          refine lv_goto (tgt := 4) C.1 C.2.1 (dd_at td_X0_takesNumber 42 rfl) (by decide) ?_
          exact hK4 v10 v12 st11 _ _ _ hf (lv_sub hl [3, 1, 0] rfl) hM
        · replace hf := fc_of_f hf c9
          refine lv_goto (tgt := 78) C.1 C.2.1 (dd_at td_X0_takesNumber 26 rfl) (by decide) ?_
          refine lv_iload_n C.1 C.2.1 (dd_at td_X0_takesNumber 43 rfl) rfl (lv_at hl 2 rfl) ?_
          exact pp_ri C hM (dd_at td_X0_takesNumber 44 rfl) hf
theorem w_X0_takesNumber_b4 {p : Program} {l : Launch} {e : Env} {s : State} {m : MethodId} {args : Array Value} {below : List Frame} {meth : Method} {c : Code} {D : va_G} {o : Nat} {ad : Nat → Nat} {cs : ClassId} {z : pp_Z} {r : Int32} {st' : mm_S} (C : pp_C p s m args meth c cX0_takesNumber 4 (some .int) D o ad cs z) (fu : Nat) (n : Nat) : ∀ (x1 : Int32) (x2 : Int32) (st : mm_S), P_X0_takesNumber_b4 z fu n x1 x2 st = some (r, st') → ∀ (H : Heap) (locs : List Loc) (ls : Array Slot), lv_has ls 4 [(0, .ref o), (1, .int x1), (2, .int x2)] → pp_H D o ad cs s.heap st H locs → W p l e (mm_R 4 85) s m args below meth c H locs 0 0 (MQ below (pp_Qi D o ad cs r st') args s 0 0 (pp_A o ad)) (F0 m 4 ls []) := by
  induction n with
  | zero => exact fun _ _ _ hf => fc_no hf
  | succ n ih =>
    intro x1 x2 st hf H locs ls hl hM
    exact w_X0_takesNumber_b4F C fu (fun x1 x2 st => P_X0_takesNumber_b4 z fu n x1 x2 st) (fun x1 x2 st H locs ls hf hl hM => ih x1 x2 st hf H locs ls hl hM) x1 x2 st hf hl hM
def P_X0_takesNumber (z : pp_Z) (fu : Nat) (st : mm_S) : Option (Int32 × mm_S) :=
  P_X0_takesNumber_b4 z fu fu (-1 : Int32) (0 : Int32) st
theorem w_X0_takesNumber {p : Program} {l : Launch} {e : Env} {s : State} {m : MethodId} {args : Array Value} {below : List Frame} {meth : Method} {c : Code} {D : va_G} {o : Nat} {ad : Nat → Nat} {cs : ClassId} {z : pp_Z} {r : Int32} {st' : mm_S} (C : pp_C p s m args meth c cX0_takesNumber 4 (some .int) D o ad cs z) (fu : Nat) (st : mm_S) (hf : P_X0_takesNumber z fu st = some (r, st')) {H : Heap} {locs : List Loc} {ls : Array Slot} (hl : lv_has ls 4 [(0, .ref o)]) (hM : pp_H D o ad cs s.heap st H locs) : W p l e (mm_R 4 85) s m args below meth c H locs 0 0 (MQ below (pp_Qi D o ad cs r st') args s 0 0 (pp_A o ad)) (F0 m 0 ls []) := by
  unfold P_X0_takesNumber at hf
  refine lv_iconst (v := (-1 : Int32)) C.1 C.2.1 (dd_at td_X0_takesNumber 0 rfl) (by decide) ?_
  refine lv_istore_n (lv' := [(1, .int (-1 : Int32)), (0, .ref o)]) C.1 C.2.1 (dd_at td_X0_takesNumber 1 rfl) rfl hl (by decide) rfl (fun ls hl => ?_)
  refine lv_iconst (v := (0 : Int32)) C.1 C.2.1 (dd_at td_X0_takesNumber 2 rfl) (by decide) ?_
  refine lv_istore_n (lv' := [(2, .int (0 : Int32)), (1, .int (-1 : Int32)), (0, .ref o)]) C.1 C.2.1 (dd_at td_X0_takesNumber 3 rfl) rfl hl (by decide) rfl (fun ls hl => ?_)
  exact w_X0_takesNumber_b4 C fu fu (-1 : Int32) (0 : Int32) st hf _ _ _ (lv_sub hl [2, 1, 0] rfl) hM
theorem c_X0_takesNumber (l : Launch) (D : va_G) (o : Nat) (ad : Nat → Nat) (cs : ClassId) (z : pp_Z) (fu : Nat) (st : mm_S) : pp_Mi l D o ad cs z yX0_takesNumber cX0_takesNumber 4 (some .int) 4 85 [] st (P_X0_takesNumber z fu st) := by
  intro r st' hf
  refine pp_enter (cc := cX0_takesNumber) (nL := 4) (ret := some .int) (by decide) rfl (Nat.le_of_ble_eq_true rfl) ?_
  intro p e s m args below meth c ls C hl hM
  exact w_X0_takesNumber C fu st hf hl hM
/-! X0_takesTest -/
def tb_X0_takesTest : List (Nat × Instr × Nat) := [(0, .aload_n 0, 1), (1, .ldc 95, 2), (3, .invokevirtual 97, 3), (6, .istore_n 1, 1), (7, .iload_n 1, 1), (8, .ifCond .ne 5, 3), (11, .iconst 0, 1), (12, .ireturn, 1), (13, .aload_n 0, 1), (14, .ldc 101, 2), (16, .invokevirtual 97, 3), (19, .istore_n 2, 1), (20, .iload_n 2, 1), (21, .ifCond .ne 5, 3), (24, .iconst 0, 1), (25, .ireturn, 1), (26, .aload_n 0, 1), (27, .invokevirtual 75, 3), (30, .istore_n 3, 1), (31, .iload_n 3, 1), (32, .ifCond .ge 5, 3), (35, .iconst 0, 1), (36, .ireturn, 1), (37, .aload_n 0, 1), (38, .iload_n 1, 1), (39, .bipush 16, 2), (41, .ishl, 1), (42, .iload_n 2, 1), (43, .bipush 8, 2), (45, .ishl, 1), (46, .ior, 1), (47, .iload_n 3, 1), (48, .ior, 1), (49, .invokevirtual 85, 3), (52, .iconst 1, 1), (53, .ireturn, 1)]
theorem td_X0_takesTest : tb_X0_takesTest.all (fun q => decide (decode cX0_takesTest q.1 = .ok (q.2.1, q.2.2))) = true := by decide +kernel
theorem hd_X0_takesTest : yX0_takesTest.cls = RX0 ∧ yX0_takesTest.cls ≠ "java/lang/invoke/MethodHandle" ∧ yX0_takesTest.cls ≠ "java/lang/invoke/VarHandle" ∧ (parseMethodDescriptor yX0_takesTest.desc).map (fun d => d.parameters.length) = some 0 := by decide +kernel
def P_X0_takesTest (z : pp_Z) (fu : Nat) (st : mm_S) : Option (Int32 × mm_S) :=
  fc_bn (P_X0_takesOneOf z fu 4 st) fun r3 st1 =>
  if r3 = 0 then (
  some ((0 : Int32), st1))
  else (
  fc_bn (P_X0_takesOneOf z fu 5 st1) fun r7 st5 =>
  if r7 = 0 then (
  some ((0 : Int32), st5))
  else (
  fc_bn (P_X0_takesNumber z fu st5) fun r11 st9 =>
  if 0 ≤ r11 then (
  fc_bv (P_X0_put z fu (((r3 <<< ((16 : Int32) &&& 31)) ||| (r7 <<< ((8 : Int32) &&& 31))) ||| r11) st9) fun st13 =>
  some ((1 : Int32), st13))
  else (
  some ((0 : Int32), st9))))
theorem w_X0_takesTest {p : Program} {l : Launch} {e : Env} {s : State} {m : MethodId} {args : Array Value} {below : List Frame} {meth : Method} {c : Code} {D : va_G} {o : Nat} {ad : Nat → Nat} {cs : ClassId} {z : pp_Z} {r : Int32} {st' : mm_S} (C : pp_C p s m args meth c cX0_takesTest 4 (some .boolean) D o ad cs z) (fu : Nat) (st : mm_S) (hf : P_X0_takesTest z fu st = some (r, st')) {H : Heap} {locs : List Loc} {ls : Array Slot} (hl : lv_has ls 4 [(0, .ref o)]) (hM : pp_H D o ad cs s.heap st H locs) : W p l e (mm_R 5 127) s m args below meth c H locs 0 0 (MQ below (pp_Qi D o ad cs r st') args s 0 0 (pp_A o ad)) (F0 m 0 ls []) := by
  unfold P_X0_takesTest at hf
  refine lv_aload_n C.1 C.2.1 (dd_at td_X0_takesTest 0 rfl) rfl (lv_at hl 0 rfl) ?_
  refine pp_ldc C 3 rfl (by decide) (dd_at td_X0_takesTest 1 rfl) ?_
  show W p l e (mm_R 5 127) s m args below meth c H locs 0 0 (MQ below (pp_Qi D o ad cs r st') args s 0 0 (pp_A o ad)) (F0 m 3 ls [.ref (z 4).1, .ref o])
  obtain ⟨r3, st1, hx2, hf⟩ := fc_of_bn hf
  refine pp_ci (As := [.ref (z 4).1]) (rest := []) (n := 1) C hM (c_X0_takesOneOf l D o ad cs z fu 4 st) (cc_gdV cw128 cw129 cw130 cw55 cw127) (dd_at td_X0_takesTest 2 rfl) hx2 hl.1 hd_X0_takesOneOf ⟨Nat.le_of_ble_eq_true rfl, Nat.le_of_ble_eq_true rfl⟩ rfl rfl (Nat.le_of_ble_eq_true rfl) ⟨Nat.le_refl 0, Nat.le_refl 0⟩ (fun H locs hM => ?_)
  refine lv_istore_n (lv' := [(1, .int r3), (0, .ref o)]) C.1 C.2.1 (dd_at td_X0_takesTest 3 rfl) rfl hl (by decide) rfl (fun ls hl => ?_)
  refine lv_iload_n C.1 C.2.1 (dd_at td_X0_takesTest 4 rfl) rfl (lv_at hl 0 rfl) ?_
  refine lv_if_ne (tgt := 13) C.1 C.2.1 (dd_at td_X0_takesTest 5 rfl) (by decide) (fun c4 => ?_) (fun c4 => ?_)
  · replace hf := fc_of_f hf c4
    refine lv_aload_n C.1 C.2.1 (dd_at td_X0_takesTest 8 rfl) rfl (lv_at hl 1 rfl) ?_
    refine pp_ldc C 4 rfl (by decide) (dd_at td_X0_takesTest 9 rfl) ?_
    show W p l e (mm_R 5 127) s m args below meth c H locs 0 0 (MQ below (pp_Qi D o ad cs r st') args s 0 0 (pp_A o ad)) (F0 m 16 ls [.ref (z 5).1, .ref o])
    obtain ⟨r7, st5, hx6, hf⟩ := fc_of_bn hf
    refine pp_ci (As := [.ref (z 5).1]) (rest := []) (n := 1) C hM (c_X0_takesOneOf l D o ad cs z fu 5 st1) (cc_gdV cw128 cw129 cw130 cw55 cw127) (dd_at td_X0_takesTest 10 rfl) hx6 hl.1 hd_X0_takesOneOf ⟨Nat.le_of_ble_eq_true rfl, Nat.le_of_ble_eq_true rfl⟩ rfl rfl (Nat.le_of_ble_eq_true rfl) ⟨Nat.le_refl 0, Nat.le_refl 0⟩ (fun H locs hM => ?_)
    refine lv_istore_n (lv' := [(2, .int r7), (1, .int r3), (0, .ref o)]) C.1 C.2.1 (dd_at td_X0_takesTest 11 rfl) rfl hl (by decide) rfl (fun ls hl => ?_)
    refine lv_iload_n C.1 C.2.1 (dd_at td_X0_takesTest 12 rfl) rfl (lv_at hl 0 rfl) ?_
    refine lv_if_ne (tgt := 26) C.1 C.2.1 (dd_at td_X0_takesTest 13 rfl) (by decide) (fun c8 => ?_) (fun c8 => ?_)
    · replace hf := fc_of_f hf c8
      refine lv_aload_n C.1 C.2.1 (dd_at td_X0_takesTest 16 rfl) rfl (lv_at hl 2 rfl) ?_
      obtain ⟨r11, st9, hx10, hf⟩ := fc_of_bn hf
      refine pp_ci (As := []) (rest := []) (n := 0) C hM (c_X0_takesNumber l D o ad cs z fu st5) (cc_gdV cw131 cw132 cw133 cw55 cw65) (dd_at td_X0_takesTest 17 rfl) hx10 hl.1 hd_X0_takesNumber ⟨Nat.le_of_ble_eq_true rfl, Nat.le_of_ble_eq_true rfl⟩ rfl rfl (Nat.le_of_ble_eq_true rfl) ⟨Nat.le_refl 0, Nat.le_refl 0⟩ (fun H locs hM => ?_)
      refine lv_istore_n (lv' := [(3, .int r11), (2, .int r7), (1, .int r3), (0, .ref o)]) C.1 C.2.1 (dd_at td_X0_takesTest 18 rfl) rfl hl (by decide) rfl (fun ls hl => ?_)
      refine lv_iload_n C.1 C.2.1 (dd_at td_X0_takesTest 19 rfl) rfl (lv_at hl 0 rfl) ?_
      refine lv_if_ge (tgt := 37) C.1 C.2.1 (dd_at td_X0_takesTest 20 rfl) (by decide) (fun c12 => ?_) (fun c12 => ?_)
      · replace hf := fc_of_t hf c12
        refine lv_aload_n C.1 C.2.1 (dd_at td_X0_takesTest 23 rfl) rfl (lv_at hl 3 rfl) ?_
        refine lv_iload_n C.1 C.2.1 (dd_at td_X0_takesTest 24 rfl) rfl (lv_at hl 2 rfl) ?_
        refine lv_bipush (v := (16 : Int32)) C.1 C.2.1 (dd_at td_X0_takesTest 25 rfl) (by decide) ?_
        refine lv_ishl C.1 C.2.1 (dd_at td_X0_takesTest 26 rfl) ?_
        refine lv_iload_n C.1 C.2.1 (dd_at td_X0_takesTest 27 rfl) rfl (lv_at hl 1 rfl) ?_
        refine lv_bipush (v := (8 : Int32)) C.1 C.2.1 (dd_at td_X0_takesTest 28 rfl) (by decide) ?_
        refine lv_ishl C.1 C.2.1 (dd_at td_X0_takesTest 29 rfl) ?_
        refine lv_ior C.1 C.2.1 (dd_at td_X0_takesTest 30 rfl) ?_
        refine lv_iload_n C.1 C.2.1 (dd_at td_X0_takesTest 31 rfl) rfl (lv_at hl 0 rfl) ?_
        refine lv_ior C.1 C.2.1 (dd_at td_X0_takesTest 32 rfl) ?_
        obtain ⟨st13, hx14, hf⟩ := fc_of_bv hf
        refine pp_cv (As := [.int (((r3 <<< ((16 : Int32) &&& 31)) ||| (r7 <<< ((8 : Int32) &&& 31))) ||| r11)]) (rest := []) (n := 1) C hM (c_X0_put l D o ad cs z fu (((r3 <<< ((16 : Int32) &&& 31)) ||| (r7 <<< ((8 : Int32) &&& 31))) ||| r11) st9) (cc_gdV cw134 cw135 cw136 cw55 cw66) (dd_at td_X0_takesTest 33 rfl) hx14 hl.1 hd_X0_put ⟨Nat.le_of_ble_eq_true rfl, Nat.le_of_ble_eq_true rfl⟩ rfl rfl (Nat.le_of_ble_eq_true rfl) ⟨Nat.le_refl 0, Nat.le_refl 0⟩ (fun H locs hM => ?_)
        refine lv_iconst (v := (1 : Int32)) C.1 C.2.1 (dd_at td_X0_takesTest 34 rfl) (by decide) ?_
        exact pp_rz C hM (dd_at td_X0_takesTest 35 rfl) rfl hf
      · replace hf := fc_of_f hf c12
        refine lv_iconst (v := (0 : Int32)) C.1 C.2.1 (dd_at td_X0_takesTest 21 rfl) (by decide) ?_
        exact pp_rz C hM (dd_at td_X0_takesTest 22 rfl) rfl hf
    · replace hf := fc_of_t hf c8
      refine lv_iconst (v := (0 : Int32)) C.1 C.2.1 (dd_at td_X0_takesTest 14 rfl) (by decide) ?_
      exact pp_rz C hM (dd_at td_X0_takesTest 15 rfl) rfl hf
  · replace hf := fc_of_t hf c4
    refine lv_iconst (v := (0 : Int32)) C.1 C.2.1 (dd_at td_X0_takesTest 6 rfl) (by decide) ?_
    exact pp_rz C hM (dd_at td_X0_takesTest 7 rfl) rfl hf
theorem c_X0_takesTest (l : Launch) (D : va_G) (o : Nat) (ad : Nat → Nat) (cs : ClassId) (z : pp_Z) (fu : Nat) (st : mm_S) : pp_Mi l D o ad cs z yX0_takesTest cX0_takesTest 4 (some .boolean) 5 127 [] st (P_X0_takesTest z fu st) := by
  intro r st' hf
  refine pp_enter (cc := cX0_takesTest) (nL := 4) (ret := some .boolean) (by decide) rfl (Nat.le_of_ble_eq_true rfl) ?_
  intro p e s m args below meth c ls C hl hM
  exact w_X0_takesTest C fu st hf hl hM
/-! X0_takesPart -/
def tb_X0_takesPart : List (Nat × Instr × Nat) := [(0, .iload_n 1, 1), (1, .iconst 4, 1), (2, .if_icmp .ge 66, 3), (5, .aload_n 0, 1), (6, .bipush 33, 2), (8, .invokevirtual 58, 3), (11, .ifCond .eq 23, 3), (14, .aload_n 0, 1), (15, .iload_n 1, 1), (16, .iconst 1, 1), (17, .iadd, 1), (18, .invokevirtual 89, 3), (21, .ifCond .ne 5, 3), (24, .iconst 0, 1), (25, .ireturn, 1), (26, .aload_n 0, 1), (27, .bipush 33, 2), (29, .invokevirtual 85, 3), (32, .iconst 1, 1), (33, .ireturn, 1), (34, .aload_n 0, 1), (35, .bipush 40, 2), (37, .invokevirtual 58, 3), (40, .ifCond .eq 28, 3), (43, .aload_n 0, 1), (44, .iload_n 1, 1), (45, .iconst 1, 1), (46, .iadd, 1), (47, .invokevirtual 78, 3), (50, .ifCond .eq 16, 3), (53, .aload_n 0, 1), (54, .bipush 41, 2), (56, .invokevirtual 58, 3), (59, .ifCond .eq 7, 3), (62, .iconst 1, 1), (63, .goto 4, 3), (66, .iconst 0, 1), (67, .ireturn, 1), (68, .aload_n 0, 1), (69, .invokevirtual 92, 3), (72, .ireturn, 1)]
theorem td_X0_takesPart : tb_X0_takesPart.all (fun q => decide (decode cX0_takesPart q.1 = .ok (q.2.1, q.2.2))) = true := by decide +kernel
def P_X0_takesPart_b68 (z : pp_Z) (fu : Nat) (rec : Nat → Int32 → mm_S → Option (Int32 × mm_S)) (st : mm_S) : Option (Int32 × mm_S) :=
  fc_bn (P_X0_takesTest z fu st) fun r26 st24 =>
  fc_gd (decide (narrow .boolean (.int r26) = .int r26)) <|
  some (r26, st24)
theorem w_X0_takesPart_b68 {p : Program} {l : Launch} {e : Env} {s : State} {m : MethodId} {args : Array Value} {below : List Frame} {meth : Method} {c : Code} {D : va_G} {o : Nat} {ad : Nat → Nat} {cs : ClassId} {z : pp_Z} {r : Int32} {st' : mm_S} (C : pp_C p s m args meth c cX0_takesPart 2 (some .boolean) D o ad cs z) (fu : Nat) (rec : Nat → Int32 → mm_S → Option (Int32 × mm_S)) {d : Nat} (hrec : ∀ (w : Nat) (x : Int32) (st : mm_S), pp_Mr l D o ad cs z w d x st (rec w x st)) (st : mm_S) (hf : P_X0_takesPart_b68 z fu rec st = some (r, st')) {H : Heap} {locs : List Loc} {ls : Array Slot} (hl : lv_has ls 2 [(0, .ref o)]) (hM : pp_H D o ad cs s.heap st H locs) : W p l e (mm_R (pp_fr (d + 1)) (pp_lo (d + 1))) s m args below meth c H locs 0 0 (MQ below (pp_Qi D o ad cs r st') args s 0 0 (pp_A o ad)) (F0 m 68 ls []) := by
  unfold P_X0_takesPart_b68 at hf
  refine lv_aload_n C.1 C.2.1 (dd_at td_X0_takesPart 38 rfl) rfl (lv_at hl 0 rfl) ?_
  obtain ⟨r26, st24, hx25, hf⟩ := fc_of_bn hf
  refine pp_ci (As := []) (rest := []) (n := 0) C hM (c_X0_takesTest l D o ad cs z fu st) (cc_gdV cw149 cw150 cw151 cw55 cw137) (dd_at td_X0_takesPart 39 rfl) hx25 hl.1 hd_X0_takesTest ⟨by show _ ≤ pp_fr (d + 1); unfold pp_fr; omega, by show _ ≤ pp_lo (d + 1); unfold pp_lo; omega⟩ rfl rfl (Nat.le_of_ble_eq_true rfl) ⟨Nat.le_refl 0, Nat.le_refl 0⟩ (fun H locs hM => ?_)
  obtain ⟨g27, hf⟩ := fc_of_gd hf
  exact pp_rz C hM (dd_at td_X0_takesPart 40 rfl) (of_decide_eq_true g27) hf
def P_X0_takesPart (z : pp_Z) (fu : Nat) (rec : Nat → Int32 → mm_S → Option (Int32 × mm_S)) (x1 : Int32) (st : mm_S) : Option (Int32 × mm_S) :=
  if (4 : Int32) ≤ x1 then (
  P_X0_takesPart_b68 z fu rec st)
  else (
  fc_bn (P_X0_takes z fu (33 : Int32) st) fun r4 st2 =>
  if r4 = 0 then (
  fc_bn (P_X0_takes z fu (40 : Int32) st2) fun r8 st6 =>
  if r8 = 0 then (
  P_X0_takesPart_b68 z fu rec st6)
  else (
  fc_bn (rec 0 (x1 + (1 : Int32)) st6) fun r12 st10 =>
  if r12 = 0 then (
  some ((0 : Int32), st10))
  else (
  fc_bn (P_X0_takes z fu (41 : Int32) st10) fun r16 st14 =>
  if r16 = 0 then (
  some ((0 : Int32), st14))
  else (
  some ((1 : Int32), st14)))))
  else (
  fc_bn (rec 2 (x1 + (1 : Int32)) st2) fun r20 st18 =>
  if r20 = 0 then (
  some ((0 : Int32), st18))
  else (
  fc_bv (P_X0_put z fu (33 : Int32) st18) fun st22 =>
  some ((1 : Int32), st22))))
theorem w_X0_takesPart {p : Program} {l : Launch} {e : Env} {s : State} {m : MethodId} {args : Array Value} {below : List Frame} {meth : Method} {c : Code} {D : va_G} {o : Nat} {ad : Nat → Nat} {cs : ClassId} {z : pp_Z} {r : Int32} {st' : mm_S} (C : pp_C p s m args meth c cX0_takesPart 2 (some .boolean) D o ad cs z) (fu : Nat) (rec : Nat → Int32 → mm_S → Option (Int32 × mm_S)) {d : Nat} (hrec : ∀ (w : Nat) (x : Int32) (st : mm_S), pp_Mr l D o ad cs z w d x st (rec w x st)) (x1 : Int32) (st : mm_S) (hf : P_X0_takesPart z fu rec x1 st = some (r, st')) {H : Heap} {locs : List Loc} {ls : Array Slot} (hl : lv_has ls 2 [(0, .ref o), (1, .int x1)]) (hM : pp_H D o ad cs s.heap st H locs) : W p l e (mm_R (pp_fr (d + 1)) (pp_lo (d + 1))) s m args below meth c H locs 0 0 (MQ below (pp_Qi D o ad cs r st') args s 0 0 (pp_A o ad)) (F0 m 0 ls []) := by
  unfold P_X0_takesPart at hf
  refine lv_iload_n C.1 C.2.1 (dd_at td_X0_takesPart 0 rfl) rfl (lv_at hl 1 rfl) ?_
  refine lv_iconst (v := (4 : Int32)) C.1 C.2.1 (dd_at td_X0_takesPart 1 rfl) (by decide) ?_
  refine lv_icmp_ge (tgt := 68) C.1 C.2.1 (dd_at td_X0_takesPart 2 rfl) (by decide) (fun c1 => ?_) (fun c1 => ?_)
  · replace hf := fc_of_t hf c1
    exact w_X0_takesPart_b68 C fu rec hrec st hf (lv_sub hl [0] rfl) hM
  · replace hf := fc_of_f hf c1
    refine lv_aload_n C.1 C.2.1 (dd_at td_X0_takesPart 3 rfl) rfl (lv_at hl 0 rfl) ?_
    refine lv_bipush (v := (33 : Int32)) C.1 C.2.1 (dd_at td_X0_takesPart 4 rfl) (by decide) ?_
    obtain ⟨r4, st2, hx3, hf⟩ := fc_of_bn hf
    refine pp_ci (As := [.int (33 : Int32)]) (rest := []) (n := 1) C hM (c_X0_takes l D o ad cs z fu (33 : Int32) st) (cc_gdV cw57 cw58 cw59 cw55 cw56) (dd_at td_X0_takesPart 5 rfl) hx3 hl.1 hd_X0_takes ⟨by show _ ≤ pp_fr (d + 1); unfold pp_fr; omega, by show _ ≤ pp_lo (d + 1); unfold pp_lo; omega⟩ rfl rfl (Nat.le_of_ble_eq_true rfl) ⟨Nat.le_refl 0, Nat.le_refl 0⟩ (fun H locs hM => ?_)
    refine lv_if_eq (tgt := 34) C.1 C.2.1 (dd_at td_X0_takesPart 6 rfl) (by decide) (fun c5 => ?_) (fun c5 => ?_)
    · replace hf := fc_of_t hf c5
      refine lv_aload_n C.1 C.2.1 (dd_at td_X0_takesPart 20 rfl) rfl (lv_at hl 0 rfl) ?_
      refine lv_bipush (v := (40 : Int32)) C.1 C.2.1 (dd_at td_X0_takesPart 21 rfl) (by decide) ?_
      obtain ⟨r8, st6, hx7, hf⟩ := fc_of_bn hf
      refine pp_ci (As := [.int (40 : Int32)]) (rest := []) (n := 1) C hM (c_X0_takes l D o ad cs z fu (40 : Int32) st2) (cc_gdV cw57 cw58 cw59 cw55 cw56) (dd_at td_X0_takesPart 22 rfl) hx7 hl.1 hd_X0_takes ⟨by show _ ≤ pp_fr (d + 1); unfold pp_fr; omega, by show _ ≤ pp_lo (d + 1); unfold pp_lo; omega⟩ rfl rfl (Nat.le_of_ble_eq_true rfl) ⟨Nat.le_refl 0, Nat.le_refl 0⟩ (fun H locs hM => ?_)
      refine lv_if_eq (tgt := 68) C.1 C.2.1 (dd_at td_X0_takesPart 23 rfl) (by decide) (fun c9 => ?_) (fun c9 => ?_)
      · replace hf := fc_of_t hf c9
        exact w_X0_takesPart_b68 C fu rec hrec st6 hf (lv_sub hl [0] rfl) hM
      · replace hf := fc_of_f hf c9
        refine lv_aload_n C.1 C.2.1 (dd_at td_X0_takesPart 24 rfl) rfl (lv_at hl 0 rfl) ?_
        refine lv_iload_n C.1 C.2.1 (dd_at td_X0_takesPart 25 rfl) rfl (lv_at hl 1 rfl) ?_
        refine lv_iconst (v := (1 : Int32)) C.1 C.2.1 (dd_at td_X0_takesPart 26 rfl) (by decide) ?_
        refine lv_iadd C.1 C.2.1 (dd_at td_X0_takesPart 27 rfl) ?_
        obtain ⟨r12, st10, hx11, hf⟩ := fc_of_bn hf
        refine pp_ci (As := [.int (x1 + (1 : Int32))]) (rest := []) (n := 1) C hM (hrec 0 (x1 + (1 : Int32)) st6 : pp_Mi l D o ad cs z yX0_takesEither cX0_takesEither 3 (some .boolean) (pp_fr d) (pp_lo d) [.int (x1 + (1 : Int32))] st6 (rec 0 (x1 + (1 : Int32)) st6)) (cc_gdV cw146 cw147 cw148 cw55 cw141) (dd_at td_X0_takesPart 28 rfl) hx11 hl.1 hd_X0_takesEither ⟨by show pp_fr d + 1 ≤ pp_fr (d + 1); unfold pp_fr; omega, by show 8 + (_ + 11) + pp_lo d ≤ pp_lo (d + 1); unfold pp_lo; omega⟩ rfl rfl (Nat.le_of_ble_eq_true rfl) ⟨Nat.le_refl 0, Nat.le_refl 0⟩ (fun H locs hM => ?_)
        refine lv_if_eq (tgt := 66) C.1 C.2.1 (dd_at td_X0_takesPart 29 rfl) (by decide) (fun c13 => ?_) (fun c13 => ?_)
        · replace hf := fc_of_t hf c13
          refine lv_iconst (v := (0 : Int32)) C.1 C.2.1 (dd_at td_X0_takesPart 36 rfl) (by decide) ?_
          exact pp_rz C hM (dd_at td_X0_takesPart 37 rfl) rfl hf
        · replace hf := fc_of_f hf c13
          refine lv_aload_n C.1 C.2.1 (dd_at td_X0_takesPart 30 rfl) rfl (lv_at hl 0 rfl) ?_
          refine lv_bipush (v := (41 : Int32)) C.1 C.2.1 (dd_at td_X0_takesPart 31 rfl) (by decide) ?_
          obtain ⟨r16, st14, hx15, hf⟩ := fc_of_bn hf
          refine pp_ci (As := [.int (41 : Int32)]) (rest := []) (n := 1) C hM (c_X0_takes l D o ad cs z fu (41 : Int32) st10) (cc_gdV cw57 cw58 cw59 cw55 cw56) (dd_at td_X0_takesPart 32 rfl) hx15 hl.1 hd_X0_takes ⟨by show _ ≤ pp_fr (d + 1); unfold pp_fr; omega, by show _ ≤ pp_lo (d + 1); unfold pp_lo; omega⟩ rfl rfl (Nat.le_of_ble_eq_true rfl) ⟨Nat.le_refl 0, Nat.le_refl 0⟩ (fun H locs hM => ?_)
          refine lv_if_eq (tgt := 66) C.1 C.2.1 (dd_at td_X0_takesPart 33 rfl) (by decide) (fun c17 => ?_) (fun c17 => ?_)
          · replace hf := fc_of_t hf c17
            refine lv_iconst (v := (0 : Int32)) C.1 C.2.1 (dd_at td_X0_takesPart 36 rfl) (by decide) ?_
            exact pp_rz C hM (dd_at td_X0_takesPart 37 rfl) rfl hf
          · replace hf := fc_of_f hf c17
            refine lv_iconst (v := (1 : Int32)) C.1 C.2.1 (dd_at td_X0_takesPart 34 rfl) (by decide) ?_
            refine lv_goto (tgt := 67) C.1 C.2.1 (dd_at td_X0_takesPart 35 rfl) (by decide) ?_
            exact pp_rz C hM (dd_at td_X0_takesPart 37 rfl) rfl hf
    · replace hf := fc_of_f hf c5
      refine lv_aload_n C.1 C.2.1 (dd_at td_X0_takesPart 7 rfl) rfl (lv_at hl 0 rfl) ?_
      refine lv_iload_n C.1 C.2.1 (dd_at td_X0_takesPart 8 rfl) rfl (lv_at hl 1 rfl) ?_
      refine lv_iconst (v := (1 : Int32)) C.1 C.2.1 (dd_at td_X0_takesPart 9 rfl) (by decide) ?_
      refine lv_iadd C.1 C.2.1 (dd_at td_X0_takesPart 10 rfl) ?_
      obtain ⟨r20, st18, hx19, hf⟩ := fc_of_bn hf
      refine pp_ci (As := [.int (x1 + (1 : Int32))]) (rest := []) (n := 1) C hM (hrec 2 (x1 + (1 : Int32)) st2 : pp_Mi l D o ad cs z yX0_takesPart cX0_takesPart 2 (some .boolean) (pp_fr d) (pp_lo d) [.int (x1 + (1 : Int32))] st2 (rec 2 (x1 + (1 : Int32)) st2)) (cc_gdV cw138 cw139 cw140 cw55 cw145) (dd_at td_X0_takesPart 11 rfl) hx19 hl.1 hd_X0_takesPart ⟨by show pp_fr d + 1 ≤ pp_fr (d + 1); unfold pp_fr; omega, by show 8 + (_ + 11) + pp_lo d ≤ pp_lo (d + 1); unfold pp_lo; omega⟩ rfl rfl (Nat.le_of_ble_eq_true rfl) ⟨Nat.le_refl 0, Nat.le_refl 0⟩ (fun H locs hM => ?_)
      refine lv_if_ne (tgt := 26) C.1 C.2.1 (dd_at td_X0_takesPart 12 rfl) (by decide) (fun c21 => ?_) (fun c21 => ?_)
      · replace hf := fc_of_f hf c21
        refine lv_aload_n C.1 C.2.1 (dd_at td_X0_takesPart 15 rfl) rfl (lv_at hl 0 rfl) ?_
        refine lv_bipush (v := (33 : Int32)) C.1 C.2.1 (dd_at td_X0_takesPart 16 rfl) (by decide) ?_
        obtain ⟨st22, hx23, hf⟩ := fc_of_bv hf
        refine pp_cv (As := [.int (33 : Int32)]) (rest := []) (n := 1) C hM (c_X0_put l D o ad cs z fu (33 : Int32) st18) (cc_gdV cw134 cw135 cw136 cw55 cw66) (dd_at td_X0_takesPart 17 rfl) hx23 hl.1 hd_X0_put ⟨by show _ ≤ pp_fr (d + 1); unfold pp_fr; omega, by show _ ≤ pp_lo (d + 1); unfold pp_lo; omega⟩ rfl rfl (Nat.le_of_ble_eq_true rfl) ⟨Nat.le_refl 0, Nat.le_refl 0⟩ (fun H locs hM => ?_)
        refine lv_iconst (v := (1 : Int32)) C.1 C.2.1 (dd_at td_X0_takesPart 18 rfl) (by decide) ?_
        exact pp_rz C hM (dd_at td_X0_takesPart 19 rfl) rfl hf
      · replace hf := fc_of_t hf c21
        refine lv_iconst (v := (0 : Int32)) C.1 C.2.1 (dd_at td_X0_takesPart 13 rfl) (by decide) ?_
        exact pp_rz C hM (dd_at td_X0_takesPart 14 rfl) rfl hf
theorem c_X0_takesPart (l : Launch) (D : va_G) (o : Nat) (ad : Nat → Nat) (cs : ClassId) (z : pp_Z) (fu : Nat) (rec : Nat → Int32 → mm_S → Option (Int32 × mm_S)) {d : Nat} (hrec : ∀ (w : Nat) (x : Int32) (st : mm_S), pp_Mr l D o ad cs z w d x st (rec w x st)) (x1 : Int32) (st : mm_S) : pp_Mi l D o ad cs z yX0_takesPart cX0_takesPart 2 (some .boolean) (pp_fr (d + 1)) (pp_lo (d + 1)) [.int x1] st (P_X0_takesPart z fu rec x1 st) := by
  intro r st' hf
  refine pp_enter (cc := cX0_takesPart) (nL := 2) (ret := some .boolean) (by decide) rfl (Nat.le_of_ble_eq_true rfl) ?_
  intro p e s m args below meth c ls C hl hM
  exact w_X0_takesPart C fu rec hrec x1 st hf hl hM
/-! X0_takesBoth -/
def tb_X0_takesBoth : List (Nat × Instr × Nat) := [(0, .aload_n 0, 1), (1, .iload_n 1, 1), (2, .invokevirtual 89, 3), (5, .ifCond .ne 5, 3), (8, .iconst 0, 1), (9, .ireturn, 1), (10, .iconst 0, 1), (11, .istore_n 2, 1), (12, .iload_n 2, 1), (13, .bipush 100, 2), (15, .if_icmp .ge 34, 3), (18, .aload_n 0, 1), (19, .bipush 38, 2), (21, .invokevirtual 58, 3), (24, .ifCond .eq 25, 3), (27, .aload_n 0, 1), (28, .iload_n 1, 1), (29, .invokevirtual 89, 3), (32, .ifCond .ne 5, 3), (35, .iconst 0, 1), (36, .ireturn, 1), (37, .aload_n 0, 1), (38, .bipush 38, 2), (40, .invokevirtual 85, 3), (43, .iinc 2 1, 3), (46, .goto (-34), 3), (49, .iconst 1, 1), (50, .ireturn, 1)]
theorem td_X0_takesBoth : tb_X0_takesBoth.all (fun q => decide (decode cX0_takesBoth q.1 = .ok (q.2.1, q.2.2))) = true := by decide +kernel
def P_X0_takesBoth_b12F (z : pp_Z) (fu : Nat) (rec : Nat → Int32 → mm_S → Option (Int32 × mm_S)) (K12 : Int32 → Int32 → mm_S → Option (Int32 × mm_S)) (x1 : Int32) (x2 : Int32) (st : mm_S) : Option (Int32 × mm_S) :=
  if (100 : Int32) ≤ x2 then (
  some ((1 : Int32), st))
  else (
  fc_bn (P_X0_takes z fu (38 : Int32) st) fun r8 st6 =>
  if r8 = 0 then (
  some ((1 : Int32), st6))
  else (
  fc_bn (rec 2 x1 st6) fun r12 st10 =>
  if r12 = 0 then (
  some ((0 : Int32), st10))
  else (
  fc_bv (P_X0_put z fu (38 : Int32) st10) fun st14 =>
  fc_nm (x2 + (1 : Int32)) fun v16 =>
  K12 x1 v16 st14)))
def P_X0_takesBoth_b12 (z : pp_Z) (fu : Nat) (rec : Nat → Int32 → mm_S → Option (Int32 × mm_S)) (n : Nat) (x1 : Int32) (x2 : Int32) (st : mm_S) : Option (Int32 × mm_S) :=
  fc_lp (fun (K : Int32 × Int32 × mm_S → Option (Int32 × mm_S)) q => P_X0_takesBoth_b12F z fu rec (fun x1 x2 st => K (x1, x2, st)) q.1 q.2.1 q.2.2) n (x1, x2, st)
theorem w_X0_takesBoth_b12F {p : Program} {l : Launch} {e : Env} {s : State} {m : MethodId} {args : Array Value} {below : List Frame} {meth : Method} {c : Code} {D : va_G} {o : Nat} {ad : Nat → Nat} {cs : ClassId} {z : pp_Z} {r : Int32} {st' : mm_S} (C : pp_C p s m args meth c cX0_takesBoth 3 (some .boolean) D o ad cs z) (fu : Nat) (rec : Nat → Int32 → mm_S → Option (Int32 × mm_S)) {d : Nat} (hrec : ∀ (w : Nat) (x : Int32) (st : mm_S), pp_Mr l D o ad cs z w d x st (rec w x st)) (K12 : Int32 → Int32 → mm_S → Option (Int32 × mm_S)) (hK12 : ∀ (x1 : Int32) (x2 : Int32) (st : mm_S) (H : Heap) (locs : List Loc) (ls : Array Slot), K12 x1 x2 st = some (r, st') → lv_has ls 3 [(0, .ref o), (1, .int x1), (2, .int x2)] → pp_H D o ad cs s.heap st H locs → W p l e (mm_R (pp_fr (d + 1)) (pp_lo (d + 1))) s m args below meth c H locs 0 0 (MQ below (pp_Qi D o ad cs r st') args s 0 0 (pp_A o ad)) (F0 m 12 ls [])) (x1 : Int32) (x2 : Int32) (st : mm_S) (hf : P_X0_takesBoth_b12F z fu rec K12 x1 x2 st = some (r, st')) {H : Heap} {locs : List Loc} {ls : Array Slot} (hl : lv_has ls 3 [(0, .ref o), (1, .int x1), (2, .int x2)]) (hM : pp_H D o ad cs s.heap st H locs) : W p l e (mm_R (pp_fr (d + 1)) (pp_lo (d + 1))) s m args below meth c H locs 0 0 (MQ below (pp_Qi D o ad cs r st') args s 0 0 (pp_A o ad)) (F0 m 12 ls []) := by
  unfold P_X0_takesBoth_b12F at hf
  refine lv_iload_n C.1 C.2.1 (dd_at td_X0_takesBoth 8 rfl) rfl (lv_at hl 2 rfl) ?_
  refine lv_bipush (v := (100 : Int32)) C.1 C.2.1 (dd_at td_X0_takesBoth 9 rfl) (by decide) ?_
  refine lv_icmp_ge (tgt := 49) C.1 C.2.1 (dd_at td_X0_takesBoth 10 rfl) (by decide) (fun c5 => ?_) (fun c5 => ?_)
  · replace hf := fc_of_t hf c5
    refine lv_iconst (v := (1 : Int32)) C.1 C.2.1 (dd_at td_X0_takesBoth 26 rfl) (by decide) ?_
    exact pp_rz C hM (dd_at td_X0_takesBoth 27 rfl) rfl hf
  · replace hf := fc_of_f hf c5
    refine lv_aload_n C.1 C.2.1 (dd_at td_X0_takesBoth 11 rfl) rfl (lv_at hl 0 rfl) ?_
    refine lv_bipush (v := (38 : Int32)) C.1 C.2.1 (dd_at td_X0_takesBoth 12 rfl) (by decide) ?_
    obtain ⟨r8, st6, hx7, hf⟩ := fc_of_bn hf
    refine pp_ci (As := [.int (38 : Int32)]) (rest := []) (n := 1) C hM (c_X0_takes l D o ad cs z fu (38 : Int32) st) (cc_gdV cw57 cw58 cw59 cw55 cw56) (dd_at td_X0_takesBoth 13 rfl) hx7 hl.1 hd_X0_takes ⟨by show _ ≤ pp_fr (d + 1); unfold pp_fr; omega, by show _ ≤ pp_lo (d + 1); unfold pp_lo; omega⟩ rfl rfl (Nat.le_of_ble_eq_true rfl) ⟨Nat.le_refl 0, Nat.le_refl 0⟩ (fun H locs hM => ?_)
    refine lv_if_eq (tgt := 49) C.1 C.2.1 (dd_at td_X0_takesBoth 14 rfl) (by decide) (fun c9 => ?_) (fun c9 => ?_)
    · replace hf := fc_of_t hf c9
      refine lv_iconst (v := (1 : Int32)) C.1 C.2.1 (dd_at td_X0_takesBoth 26 rfl) (by decide) ?_
      exact pp_rz C hM (dd_at td_X0_takesBoth 27 rfl) rfl hf
    · replace hf := fc_of_f hf c9
      refine lv_aload_n C.1 C.2.1 (dd_at td_X0_takesBoth 15 rfl) rfl (lv_at hl 0 rfl) ?_
      refine lv_iload_n C.1 C.2.1 (dd_at td_X0_takesBoth 16 rfl) rfl (lv_at hl 1 rfl) ?_
      obtain ⟨r12, st10, hx11, hf⟩ := fc_of_bn hf
      refine pp_ci (As := [.int x1]) (rest := []) (n := 1) C hM (hrec 2 x1 st6 : pp_Mi l D o ad cs z yX0_takesPart cX0_takesPart 2 (some .boolean) (pp_fr d) (pp_lo d) [.int x1] st6 (rec 2 x1 st6)) (cc_gdV cw138 cw139 cw140 cw55 cw145) (dd_at td_X0_takesBoth 17 rfl) hx11 hl.1 hd_X0_takesPart ⟨by show pp_fr d + 1 ≤ pp_fr (d + 1); unfold pp_fr; omega, by show 8 + (_ + 11) + pp_lo d ≤ pp_lo (d + 1); unfold pp_lo; omega⟩ rfl rfl (Nat.le_of_ble_eq_true rfl) ⟨Nat.le_refl 0, Nat.le_refl 0⟩ (fun H locs hM => ?_)
      refine lv_if_ne (tgt := 37) C.1 C.2.1 (dd_at td_X0_takesBoth 18 rfl) (by decide) (fun c13 => ?_) (fun c13 => ?_)
      · replace hf := fc_of_f hf c13
        refine lv_aload_n C.1 C.2.1 (dd_at td_X0_takesBoth 21 rfl) rfl (lv_at hl 0 rfl) ?_
        refine lv_bipush (v := (38 : Int32)) C.1 C.2.1 (dd_at td_X0_takesBoth 22 rfl) (by decide) ?_
        obtain ⟨st14, hx15, hf⟩ := fc_of_bv hf
        refine pp_cv (As := [.int (38 : Int32)]) (rest := []) (n := 1) C hM (c_X0_put l D o ad cs z fu (38 : Int32) st10) (cc_gdV cw134 cw135 cw136 cw55 cw66) (dd_at td_X0_takesBoth 23 rfl) hx15 hl.1 hd_X0_put ⟨by show _ ≤ pp_fr (d + 1); unfold pp_fr; omega, by show _ ≤ pp_lo (d + 1); unfold pp_lo; omega⟩ rfl rfl (Nat.le_of_ble_eq_true rfl) ⟨Nat.le_refl 0, Nat.le_refl 0⟩ (fun H locs hM => ?_)
        obtain ⟨v16, ev16⟩ : ∃ y : Int32, y = x2 + (1 : Int32) := ⟨_, rfl⟩
        replace hf := fc_of_nm hf v16 ev16
        refine lv_iinc (v := v16) (lv' := [(2, .int v16), (0, .ref o), (1, .int x1)]) C.1 C.2.1 (dd_at td_X0_takesBoth 24 rfl) hl (k := 2) rfl (by rw [ev16]; rfl) (by decide) rfl (fun ls hl => ?_)
        refine lv_goto (tgt := 12) C.1 C.2.1 (dd_at td_X0_takesBoth 25 rfl) (by decide) ?_
        exact hK12 x1 v16 st14 _ _ _ hf (lv_sub hl [1, 2, 0] rfl) hM
      · replace hf := fc_of_t hf c13
        refine lv_iconst (v := (0 : Int32)) C.1 C.2.1 (dd_at td_X0_takesBoth 19 rfl) (by decide) ?_
        exact pp_rz C hM (dd_at td_X0_takesBoth 20 rfl) rfl hf
theorem w_X0_takesBoth_b12 {p : Program} {l : Launch} {e : Env} {s : State} {m : MethodId} {args : Array Value} {below : List Frame} {meth : Method} {c : Code} {D : va_G} {o : Nat} {ad : Nat → Nat} {cs : ClassId} {z : pp_Z} {r : Int32} {st' : mm_S} (C : pp_C p s m args meth c cX0_takesBoth 3 (some .boolean) D o ad cs z) (fu : Nat) (rec : Nat → Int32 → mm_S → Option (Int32 × mm_S)) {d : Nat} (hrec : ∀ (w : Nat) (x : Int32) (st : mm_S), pp_Mr l D o ad cs z w d x st (rec w x st)) (n : Nat) : ∀ (x1 : Int32) (x2 : Int32) (st : mm_S), P_X0_takesBoth_b12 z fu rec n x1 x2 st = some (r, st') → ∀ (H : Heap) (locs : List Loc) (ls : Array Slot), lv_has ls 3 [(0, .ref o), (1, .int x1), (2, .int x2)] → pp_H D o ad cs s.heap st H locs → W p l e (mm_R (pp_fr (d + 1)) (pp_lo (d + 1))) s m args below meth c H locs 0 0 (MQ below (pp_Qi D o ad cs r st') args s 0 0 (pp_A o ad)) (F0 m 12 ls []) := by
  induction n with
  | zero => exact fun _ _ _ hf => fc_no hf
  | succ n ih =>
    intro x1 x2 st hf H locs ls hl hM
    exact w_X0_takesBoth_b12F C fu rec hrec (fun x1 x2 st => P_X0_takesBoth_b12 z fu rec n x1 x2 st) (fun x1 x2 st H locs ls hf hl hM => ih x1 x2 st hf H locs ls hl hM) x1 x2 st hf hl hM
def P_X0_takesBoth (z : pp_Z) (fu : Nat) (rec : Nat → Int32 → mm_S → Option (Int32 × mm_S)) (x1 : Int32) (st : mm_S) : Option (Int32 × mm_S) :=
  fc_bn (rec 2 x1 st) fun r3 st1 =>
  if r3 = 0 then (
  some ((0 : Int32), st1))
  else (
  P_X0_takesBoth_b12 z fu rec fu x1 (0 : Int32) st1)
theorem w_X0_takesBoth {p : Program} {l : Launch} {e : Env} {s : State} {m : MethodId} {args : Array Value} {below : List Frame} {meth : Method} {c : Code} {D : va_G} {o : Nat} {ad : Nat → Nat} {cs : ClassId} {z : pp_Z} {r : Int32} {st' : mm_S} (C : pp_C p s m args meth c cX0_takesBoth 3 (some .boolean) D o ad cs z) (fu : Nat) (rec : Nat → Int32 → mm_S → Option (Int32 × mm_S)) {d : Nat} (hrec : ∀ (w : Nat) (x : Int32) (st : mm_S), pp_Mr l D o ad cs z w d x st (rec w x st)) (x1 : Int32) (st : mm_S) (hf : P_X0_takesBoth z fu rec x1 st = some (r, st')) {H : Heap} {locs : List Loc} {ls : Array Slot} (hl : lv_has ls 3 [(0, .ref o), (1, .int x1)]) (hM : pp_H D o ad cs s.heap st H locs) : W p l e (mm_R (pp_fr (d + 1)) (pp_lo (d + 1))) s m args below meth c H locs 0 0 (MQ below (pp_Qi D o ad cs r st') args s 0 0 (pp_A o ad)) (F0 m 0 ls []) := by
  unfold P_X0_takesBoth at hf
  refine lv_aload_n C.1 C.2.1 (dd_at td_X0_takesBoth 0 rfl) rfl (lv_at hl 0 rfl) ?_
  refine lv_iload_n C.1 C.2.1 (dd_at td_X0_takesBoth 1 rfl) rfl (lv_at hl 1 rfl) ?_
  obtain ⟨r3, st1, hx2, hf⟩ := fc_of_bn hf
  refine pp_ci (As := [.int x1]) (rest := []) (n := 1) C hM (hrec 2 x1 st : pp_Mi l D o ad cs z yX0_takesPart cX0_takesPart 2 (some .boolean) (pp_fr d) (pp_lo d) [.int x1] st (rec 2 x1 st)) (cc_gdV cw138 cw139 cw140 cw55 cw145) (dd_at td_X0_takesBoth 2 rfl) hx2 hl.1 hd_X0_takesPart ⟨by show pp_fr d + 1 ≤ pp_fr (d + 1); unfold pp_fr; omega, by show 8 + (_ + 11) + pp_lo d ≤ pp_lo (d + 1); unfold pp_lo; omega⟩ rfl rfl (Nat.le_of_ble_eq_true rfl) ⟨Nat.le_refl 0, Nat.le_refl 0⟩ (fun H locs hM => ?_)
  refine lv_if_ne (tgt := 10) C.1 C.2.1 (dd_at td_X0_takesBoth 3 rfl) (by decide) (fun c4 => ?_) (fun c4 => ?_)
  · replace hf := fc_of_f hf c4
    refine lv_iconst (v := (0 : Int32)) C.1 C.2.1 (dd_at td_X0_takesBoth 6 rfl) (by decide) ?_
    refine lv_istore_n (lv' := [(2, .int (0 : Int32)), (0, .ref o), (1, .int x1)]) C.1 C.2.1 (dd_at td_X0_takesBoth 7 rfl) rfl hl (by decide) rfl (fun ls hl => ?_)
    exact w_X0_takesBoth_b12 C fu rec hrec fu x1 (0 : Int32) st1 hf _ _ _ (lv_sub hl [1, 2, 0] rfl) hM
  · replace hf := fc_of_t hf c4
    refine lv_iconst (v := (0 : Int32)) C.1 C.2.1 (dd_at td_X0_takesBoth 4 rfl) (by decide) ?_
    exact pp_rz C hM (dd_at td_X0_takesBoth 5 rfl) rfl hf
theorem c_X0_takesBoth (l : Launch) (D : va_G) (o : Nat) (ad : Nat → Nat) (cs : ClassId) (z : pp_Z) (fu : Nat) (rec : Nat → Int32 → mm_S → Option (Int32 × mm_S)) {d : Nat} (hrec : ∀ (w : Nat) (x : Int32) (st : mm_S), pp_Mr l D o ad cs z w d x st (rec w x st)) (x1 : Int32) (st : mm_S) : pp_Mi l D o ad cs z yX0_takesBoth cX0_takesBoth 3 (some .boolean) (pp_fr (d + 1)) (pp_lo (d + 1)) [.int x1] st (P_X0_takesBoth z fu rec x1 st) := by
  intro r st' hf
  refine pp_enter (cc := cX0_takesBoth) (nL := 3) (ret := some .boolean) (by decide) rfl (Nat.le_of_ble_eq_true rfl) ?_
  intro p e s m args below meth c ls C hl hM
  exact w_X0_takesBoth C fu rec hrec x1 st hf hl hM
/-! X0_takesEither -/
def tb_X0_takesEither : List (Nat × Instr × Nat) := [(0, .aload_n 0, 1), (1, .iload_n 1, 1), (2, .invokevirtual 82, 3), (5, .ifCond .ne 5, 3), (8, .iconst 0, 1), (9, .ireturn, 1), (10, .iconst 0, 1), (11, .istore_n 2, 1), (12, .iload_n 2, 1), (13, .bipush 100, 2), (15, .if_icmp .ge 34, 3), (18, .aload_n 0, 1), (19, .bipush 124, 2), (21, .invokevirtual 58, 3), (24, .ifCond .eq 25, 3), (27, .aload_n 0, 1), (28, .iload_n 1, 1), (29, .invokevirtual 82, 3), (32, .ifCond .ne 5, 3), (35, .iconst 0, 1), (36, .ireturn, 1), (37, .aload_n 0, 1), (38, .bipush 124, 2), (40, .invokevirtual 85, 3), (43, .iinc 2 1, 3), (46, .goto (-34), 3), (49, .iconst 1, 1), (50, .ireturn, 1)]
theorem td_X0_takesEither : tb_X0_takesEither.all (fun q => decide (decode cX0_takesEither q.1 = .ok (q.2.1, q.2.2))) = true := by decide +kernel
def P_X0_takesEither_b12F (z : pp_Z) (fu : Nat) (rec : Nat → Int32 → mm_S → Option (Int32 × mm_S)) (K12 : Int32 → Int32 → mm_S → Option (Int32 × mm_S)) (x1 : Int32) (x2 : Int32) (st : mm_S) : Option (Int32 × mm_S) :=
  if (100 : Int32) ≤ x2 then (
  some ((1 : Int32), st))
  else (
  fc_bn (P_X0_takes z fu (124 : Int32) st) fun r8 st6 =>
  if r8 = 0 then (
  some ((1 : Int32), st6))
  else (
  fc_bn (rec 1 x1 st6) fun r12 st10 =>
  if r12 = 0 then (
  some ((0 : Int32), st10))
  else (
  fc_bv (P_X0_put z fu (124 : Int32) st10) fun st14 =>
  fc_nm (x2 + (1 : Int32)) fun v16 =>
  K12 x1 v16 st14)))
def P_X0_takesEither_b12 (z : pp_Z) (fu : Nat) (rec : Nat → Int32 → mm_S → Option (Int32 × mm_S)) (n : Nat) (x1 : Int32) (x2 : Int32) (st : mm_S) : Option (Int32 × mm_S) :=
  fc_lp (fun (K : Int32 × Int32 × mm_S → Option (Int32 × mm_S)) q => P_X0_takesEither_b12F z fu rec (fun x1 x2 st => K (x1, x2, st)) q.1 q.2.1 q.2.2) n (x1, x2, st)
theorem w_X0_takesEither_b12F {p : Program} {l : Launch} {e : Env} {s : State} {m : MethodId} {args : Array Value} {below : List Frame} {meth : Method} {c : Code} {D : va_G} {o : Nat} {ad : Nat → Nat} {cs : ClassId} {z : pp_Z} {r : Int32} {st' : mm_S} (C : pp_C p s m args meth c cX0_takesEither 3 (some .boolean) D o ad cs z) (fu : Nat) (rec : Nat → Int32 → mm_S → Option (Int32 × mm_S)) {d : Nat} (hrec : ∀ (w : Nat) (x : Int32) (st : mm_S), pp_Mr l D o ad cs z w d x st (rec w x st)) (K12 : Int32 → Int32 → mm_S → Option (Int32 × mm_S)) (hK12 : ∀ (x1 : Int32) (x2 : Int32) (st : mm_S) (H : Heap) (locs : List Loc) (ls : Array Slot), K12 x1 x2 st = some (r, st') → lv_has ls 3 [(0, .ref o), (1, .int x1), (2, .int x2)] → pp_H D o ad cs s.heap st H locs → W p l e (mm_R (pp_fr (d + 1)) (pp_lo (d + 1))) s m args below meth c H locs 0 0 (MQ below (pp_Qi D o ad cs r st') args s 0 0 (pp_A o ad)) (F0 m 12 ls [])) (x1 : Int32) (x2 : Int32) (st : mm_S) (hf : P_X0_takesEither_b12F z fu rec K12 x1 x2 st = some (r, st')) {H : Heap} {locs : List Loc} {ls : Array Slot} (hl : lv_has ls 3 [(0, .ref o), (1, .int x1), (2, .int x2)]) (hM : pp_H D o ad cs s.heap st H locs) : W p l e (mm_R (pp_fr (d + 1)) (pp_lo (d + 1))) s m args below meth c H locs 0 0 (MQ below (pp_Qi D o ad cs r st') args s 0 0 (pp_A o ad)) (F0 m 12 ls []) := by
  unfold P_X0_takesEither_b12F at hf
  refine lv_iload_n C.1 C.2.1 (dd_at td_X0_takesEither 8 rfl) rfl (lv_at hl 2 rfl) ?_
  refine lv_bipush (v := (100 : Int32)) C.1 C.2.1 (dd_at td_X0_takesEither 9 rfl) (by decide) ?_
  refine lv_icmp_ge (tgt := 49) C.1 C.2.1 (dd_at td_X0_takesEither 10 rfl) (by decide) (fun c5 => ?_) (fun c5 => ?_)
  · replace hf := fc_of_t hf c5
    refine lv_iconst (v := (1 : Int32)) C.1 C.2.1 (dd_at td_X0_takesEither 26 rfl) (by decide) ?_
    exact pp_rz C hM (dd_at td_X0_takesEither 27 rfl) rfl hf
  · replace hf := fc_of_f hf c5
    refine lv_aload_n C.1 C.2.1 (dd_at td_X0_takesEither 11 rfl) rfl (lv_at hl 0 rfl) ?_
    refine lv_bipush (v := (124 : Int32)) C.1 C.2.1 (dd_at td_X0_takesEither 12 rfl) (by decide) ?_
    obtain ⟨r8, st6, hx7, hf⟩ := fc_of_bn hf
    refine pp_ci (As := [.int (124 : Int32)]) (rest := []) (n := 1) C hM (c_X0_takes l D o ad cs z fu (124 : Int32) st) (cc_gdV cw57 cw58 cw59 cw55 cw56) (dd_at td_X0_takesEither 13 rfl) hx7 hl.1 hd_X0_takes ⟨by show _ ≤ pp_fr (d + 1); unfold pp_fr; omega, by show _ ≤ pp_lo (d + 1); unfold pp_lo; omega⟩ rfl rfl (Nat.le_of_ble_eq_true rfl) ⟨Nat.le_refl 0, Nat.le_refl 0⟩ (fun H locs hM => ?_)
    refine lv_if_eq (tgt := 49) C.1 C.2.1 (dd_at td_X0_takesEither 14 rfl) (by decide) (fun c9 => ?_) (fun c9 => ?_)
    · replace hf := fc_of_t hf c9
      refine lv_iconst (v := (1 : Int32)) C.1 C.2.1 (dd_at td_X0_takesEither 26 rfl) (by decide) ?_
      exact pp_rz C hM (dd_at td_X0_takesEither 27 rfl) rfl hf
    · replace hf := fc_of_f hf c9
      refine lv_aload_n C.1 C.2.1 (dd_at td_X0_takesEither 15 rfl) rfl (lv_at hl 0 rfl) ?_
      refine lv_iload_n C.1 C.2.1 (dd_at td_X0_takesEither 16 rfl) rfl (lv_at hl 1 rfl) ?_
      obtain ⟨r12, st10, hx11, hf⟩ := fc_of_bn hf
      refine pp_ci (As := [.int x1]) (rest := []) (n := 1) C hM (hrec 1 x1 st6 : pp_Mi l D o ad cs z yX0_takesBoth cX0_takesBoth 3 (some .boolean) (pp_fr d) (pp_lo d) [.int x1] st6 (rec 1 x1 st6)) (cc_gdV cw142 cw143 cw144 cw55 cw152) (dd_at td_X0_takesEither 17 rfl) hx11 hl.1 hd_X0_takesBoth ⟨by show pp_fr d + 1 ≤ pp_fr (d + 1); unfold pp_fr; omega, by show 8 + (_ + 11) + pp_lo d ≤ pp_lo (d + 1); unfold pp_lo; omega⟩ rfl rfl (Nat.le_of_ble_eq_true rfl) ⟨Nat.le_refl 0, Nat.le_refl 0⟩ (fun H locs hM => ?_)
      refine lv_if_ne (tgt := 37) C.1 C.2.1 (dd_at td_X0_takesEither 18 rfl) (by decide) (fun c13 => ?_) (fun c13 => ?_)
      · replace hf := fc_of_f hf c13
        refine lv_aload_n C.1 C.2.1 (dd_at td_X0_takesEither 21 rfl) rfl (lv_at hl 0 rfl) ?_
        refine lv_bipush (v := (124 : Int32)) C.1 C.2.1 (dd_at td_X0_takesEither 22 rfl) (by decide) ?_
        obtain ⟨st14, hx15, hf⟩ := fc_of_bv hf
        refine pp_cv (As := [.int (124 : Int32)]) (rest := []) (n := 1) C hM (c_X0_put l D o ad cs z fu (124 : Int32) st10) (cc_gdV cw134 cw135 cw136 cw55 cw66) (dd_at td_X0_takesEither 23 rfl) hx15 hl.1 hd_X0_put ⟨by show _ ≤ pp_fr (d + 1); unfold pp_fr; omega, by show _ ≤ pp_lo (d + 1); unfold pp_lo; omega⟩ rfl rfl (Nat.le_of_ble_eq_true rfl) ⟨Nat.le_refl 0, Nat.le_refl 0⟩ (fun H locs hM => ?_)
        obtain ⟨v16, ev16⟩ : ∃ y : Int32, y = x2 + (1 : Int32) := ⟨_, rfl⟩
        replace hf := fc_of_nm hf v16 ev16
        refine lv_iinc (v := v16) (lv' := [(2, .int v16), (0, .ref o), (1, .int x1)]) C.1 C.2.1 (dd_at td_X0_takesEither 24 rfl) hl (k := 2) rfl (by rw [ev16]; rfl) (by decide) rfl (fun ls hl => ?_)
        refine lv_goto (tgt := 12) C.1 C.2.1 (dd_at td_X0_takesEither 25 rfl) (by decide) ?_
        exact hK12 x1 v16 st14 _ _ _ hf (lv_sub hl [1, 2, 0] rfl) hM
      · replace hf := fc_of_t hf c13
        refine lv_iconst (v := (0 : Int32)) C.1 C.2.1 (dd_at td_X0_takesEither 19 rfl) (by decide) ?_
        exact pp_rz C hM (dd_at td_X0_takesEither 20 rfl) rfl hf
theorem w_X0_takesEither_b12 {p : Program} {l : Launch} {e : Env} {s : State} {m : MethodId} {args : Array Value} {below : List Frame} {meth : Method} {c : Code} {D : va_G} {o : Nat} {ad : Nat → Nat} {cs : ClassId} {z : pp_Z} {r : Int32} {st' : mm_S} (C : pp_C p s m args meth c cX0_takesEither 3 (some .boolean) D o ad cs z) (fu : Nat) (rec : Nat → Int32 → mm_S → Option (Int32 × mm_S)) {d : Nat} (hrec : ∀ (w : Nat) (x : Int32) (st : mm_S), pp_Mr l D o ad cs z w d x st (rec w x st)) (n : Nat) : ∀ (x1 : Int32) (x2 : Int32) (st : mm_S), P_X0_takesEither_b12 z fu rec n x1 x2 st = some (r, st') → ∀ (H : Heap) (locs : List Loc) (ls : Array Slot), lv_has ls 3 [(0, .ref o), (1, .int x1), (2, .int x2)] → pp_H D o ad cs s.heap st H locs → W p l e (mm_R (pp_fr (d + 1)) (pp_lo (d + 1))) s m args below meth c H locs 0 0 (MQ below (pp_Qi D o ad cs r st') args s 0 0 (pp_A o ad)) (F0 m 12 ls []) := by
  induction n with
  | zero => exact fun _ _ _ hf => fc_no hf
  | succ n ih =>
    intro x1 x2 st hf H locs ls hl hM
    exact w_X0_takesEither_b12F C fu rec hrec (fun x1 x2 st => P_X0_takesEither_b12 z fu rec n x1 x2 st) (fun x1 x2 st H locs ls hf hl hM => ih x1 x2 st hf H locs ls hl hM) x1 x2 st hf hl hM
def P_X0_takesEither (z : pp_Z) (fu : Nat) (rec : Nat → Int32 → mm_S → Option (Int32 × mm_S)) (x1 : Int32) (st : mm_S) : Option (Int32 × mm_S) :=
  fc_bn (rec 1 x1 st) fun r3 st1 =>
  if r3 = 0 then (
  some ((0 : Int32), st1))
  else (
  P_X0_takesEither_b12 z fu rec fu x1 (0 : Int32) st1)
theorem w_X0_takesEither {p : Program} {l : Launch} {e : Env} {s : State} {m : MethodId} {args : Array Value} {below : List Frame} {meth : Method} {c : Code} {D : va_G} {o : Nat} {ad : Nat → Nat} {cs : ClassId} {z : pp_Z} {r : Int32} {st' : mm_S} (C : pp_C p s m args meth c cX0_takesEither 3 (some .boolean) D o ad cs z) (fu : Nat) (rec : Nat → Int32 → mm_S → Option (Int32 × mm_S)) {d : Nat} (hrec : ∀ (w : Nat) (x : Int32) (st : mm_S), pp_Mr l D o ad cs z w d x st (rec w x st)) (x1 : Int32) (st : mm_S) (hf : P_X0_takesEither z fu rec x1 st = some (r, st')) {H : Heap} {locs : List Loc} {ls : Array Slot} (hl : lv_has ls 3 [(0, .ref o), (1, .int x1)]) (hM : pp_H D o ad cs s.heap st H locs) : W p l e (mm_R (pp_fr (d + 1)) (pp_lo (d + 1))) s m args below meth c H locs 0 0 (MQ below (pp_Qi D o ad cs r st') args s 0 0 (pp_A o ad)) (F0 m 0 ls []) := by
  unfold P_X0_takesEither at hf
  refine lv_aload_n C.1 C.2.1 (dd_at td_X0_takesEither 0 rfl) rfl (lv_at hl 0 rfl) ?_
  refine lv_iload_n C.1 C.2.1 (dd_at td_X0_takesEither 1 rfl) rfl (lv_at hl 1 rfl) ?_
  obtain ⟨r3, st1, hx2, hf⟩ := fc_of_bn hf
  refine pp_ci (As := [.int x1]) (rest := []) (n := 1) C hM (hrec 1 x1 st : pp_Mi l D o ad cs z yX0_takesBoth cX0_takesBoth 3 (some .boolean) (pp_fr d) (pp_lo d) [.int x1] st (rec 1 x1 st)) (cc_gdV cw142 cw143 cw144 cw55 cw152) (dd_at td_X0_takesEither 2 rfl) hx2 hl.1 hd_X0_takesBoth ⟨by show pp_fr d + 1 ≤ pp_fr (d + 1); unfold pp_fr; omega, by show 8 + (_ + 11) + pp_lo d ≤ pp_lo (d + 1); unfold pp_lo; omega⟩ rfl rfl (Nat.le_of_ble_eq_true rfl) ⟨Nat.le_refl 0, Nat.le_refl 0⟩ (fun H locs hM => ?_)
  refine lv_if_ne (tgt := 10) C.1 C.2.1 (dd_at td_X0_takesEither 3 rfl) (by decide) (fun c4 => ?_) (fun c4 => ?_)
  · replace hf := fc_of_f hf c4
    refine lv_iconst (v := (0 : Int32)) C.1 C.2.1 (dd_at td_X0_takesEither 6 rfl) (by decide) ?_
    refine lv_istore_n (lv' := [(2, .int (0 : Int32)), (0, .ref o), (1, .int x1)]) C.1 C.2.1 (dd_at td_X0_takesEither 7 rfl) rfl hl (by decide) rfl (fun ls hl => ?_)
    exact w_X0_takesEither_b12 C fu rec hrec fu x1 (0 : Int32) st1 hf _ _ _ (lv_sub hl [1, 2, 0] rfl) hM
  · replace hf := fc_of_t hf c4
    refine lv_iconst (v := (0 : Int32)) C.1 C.2.1 (dd_at td_X0_takesEither 4 rfl) (by decide) ?_
    exact pp_rz C hM (dd_at td_X0_takesEither 5 rfl) rfl hf
theorem c_X0_takesEither (l : Launch) (D : va_G) (o : Nat) (ad : Nat → Nat) (cs : ClassId) (z : pp_Z) (fu : Nat) (rec : Nat → Int32 → mm_S → Option (Int32 × mm_S)) {d : Nat} (hrec : ∀ (w : Nat) (x : Int32) (st : mm_S), pp_Mr l D o ad cs z w d x st (rec w x st)) (x1 : Int32) (st : mm_S) : pp_Mi l D o ad cs z yX0_takesEither cX0_takesEither 3 (some .boolean) (pp_fr (d + 1)) (pp_lo (d + 1)) [.int x1] st (P_X0_takesEither z fu rec x1 st) := by
  intro r st' hf
  refine pp_enter (cc := cX0_takesEither) (nL := 3) (ret := some .boolean) (by decide) rfl (Nat.le_of_ble_eq_true rfl) ?_
  intro p e s m args below meth c ls C hl hM
  exact w_X0_takesEither C fu rec hrec x1 st hf hl hM
def P_rec (z : pp_Z) (fu : Nat) : Nat → Nat → Int32 → mm_S → Option (Int32 × mm_S)
  | 0, _, _, _ => none
  | d + 1, 0, x, st => P_X0_takesEither z fu (P_rec z fu d) x st
  | d + 1, 1, x, st => P_X0_takesBoth z fu (P_rec z fu d) x st
  | d + 1, _, x, st => P_X0_takesPart z fu (P_rec z fu d) x st
theorem c_rec (l : Launch) (D : va_G) (o : Nat) (ad : Nat → Nat) (cs : ClassId) (z : pp_Z) (fu : Nat) : ∀ (d w : Nat) (x : Int32) (st : mm_S), pp_Mr l D o ad cs z w d x st (P_rec z fu d w x st) := by
  intro d
  induction d with
  | zero =>
    intro w x st
    match w with
    | 0 => exact fun r st' hf => fc_no hf
    | 1 => exact fun r st' hf => fc_no hf
    | w + 2 => exact fun r st' hf => fc_no hf
  | succ d ih =>
    intro w x st
    match w with
    | 0 => exact c_X0_takesEither l D o ad cs z fu (P_rec z fu d) ih x st
    | 1 => exact c_X0_takesBoth l D o ad cs z fu (P_rec z fu d) ih x st
    | w + 2 => exact c_X0_takesPart l D o ad cs z fu (P_rec z fu d) ih x st
/-! X0_takesClause -/
def tb_X0_takesClause : List (Nat × Instr × Nat) := [(0, .aload_n 0, 1), (1, .bipush 115, 2), (3, .invokevirtual 62, 3), (6, .ifCond .eq 7, 3), (9, .iconst (-1), 1), (10, .goto 17, 3), (13, .aload_n 0, 1), (14, .bipush 107, 2), (16, .invokevirtual 62, 3), (19, .ifCond .eq 7, 3), (22, .iconst 0, 1), (23, .goto 4, 3), (26, .iconst 1, 1), (27, .istore_n 1, 1), (28, .iload_n 1, 1), (29, .iconst (-1), 1), (30, .if_icmp .ne 8, 3), (33, .ldc 65, 2), (35, .goto 14, 3), (38, .iload_n 1, 1), (39, .ifCond .ne 8, 3), (42, .ldc 67, 2), (44, .goto 5, 3), (47, .ldc 69, 2), (49, .astore_n 2, 1), (50, .aload_n 0, 1), (51, .aload_n 2, 1), (52, .invokevirtual 71, 3), (55, .ifCond .ne 5, 3), (58, .iconst 0, 1), (59, .ireturn, 1), (60, .aload_n 0, 1), (61, .invokevirtual 75, 3), (64, .istore_n 3, 1), (65, .iload_n 3, 1), (66, .ifCond .ge 5, 3), (69, .iconst 0, 1), (70, .ireturn, 1), (71, .iload_n 1, 1), (72, .ifCond .ne 11, 3), (75, .aload_n 0, 1), (76, .iload_n 3, 1), (77, .putfield 34, 3), (80, .goto 22, 3), (83, .aload_n 0, 1), (84, .bipush 32, 2), (86, .invokevirtual 58, 3), (89, .ifCond .eq 11, 3), (92, .aload_n 0, 1), (93, .iconst 0, 1), (94, .invokevirtual 78, 3), (97, .ifCond .ne 5, 3), (100, .iconst 0, 1), (101, .ireturn, 1), (102, .aload_n 0, 1), (103, .getfield 15, 3), (106, .aload_n 0, 1), (107, .getfield 28, 3), (110, .iload_n 1, 1), (111, .iastore, 1), (112, .aload_n 0, 1), (113, .getfield 19, 3), (116, .aload_n 0, 1), (117, .getfield 28, 3), (120, .iload_n 3, 1), (121, .iastore, 1), (122, .aload_n 0, 1), (123, .dup, 1), (124, .getfield 28, 3), (127, .iconst 1, 1), (128, .iadd, 1), (129, .putfield 28, 3), (132, .aload_n 0, 1), (133, .getfield 22, 3), (136, .aload_n 0, 1), (137, .getfield 28, 3), (140, .aload_n 0, 1), (141, .getfield 31, 3), (144, .iastore, 1), (145, .iconst 1, 1), (146, .ireturn, 1)]
theorem td_X0_takesClause : tb_X0_takesClause.all (fun q => decide (decode cX0_takesClause q.1 = .ok (q.2.1, q.2.2))) = true := by decide +kernel
theorem hd_X0_takesClause : yX0_takesClause.cls = RX0 ∧ yX0_takesClause.cls ≠ "java/lang/invoke/MethodHandle" ∧ yX0_takesClause.cls ≠ "java/lang/invoke/VarHandle" ∧ (parseMethodDescriptor yX0_takesClause.desc).map (fun d => d.parameters.length) = some 0 := by decide +kernel
def P_X0_takesClause_b102 (z : pp_Z) (fu : Nat) (x1 : Int32) (x3 : Int32) (st : mm_S) : Option (Int32 × mm_S) :=
  fc_gd (fc_ix (mm_I st 7) 10) <|
  fc_nm (mm_sG st 3 (mm_I st 7).toNatClampNeg x1) fun st30 =>
  fc_gd (fc_ix (mm_I st30 7) 10) <|
  fc_nm (mm_sG st30 4 (mm_I st30 7).toNatClampNeg x3) fun st32 =>
  fc_nm (mm_sI st32 7 ((mm_I st32 7) + (1 : Int32))) fun st33 =>
  fc_gd (fc_ix (mm_I st33 7) 11) <|
  fc_nm (mm_sG st33 5 (mm_I st33 7).toNatClampNeg (mm_I st33 8)) fun st35 =>
  some ((1 : Int32), st35)
theorem w_X0_takesClause_b102 {p : Program} {l : Launch} {e : Env} {s : State} {m : MethodId} {args : Array Value} {below : List Frame} {meth : Method} {c : Code} {D : va_G} {o : Nat} {ad : Nat → Nat} {cs : ClassId} {z : pp_Z} {r : Int32} {st' : mm_S} (C : pp_C p s m args meth c cX0_takesClause 4 (some .boolean) D o ad cs z) (fu : Nat) (x1 : Int32) (x3 : Int32) (st : mm_S) (hf : P_X0_takesClause_b102 z fu x1 x3 st = some (r, st')) {H : Heap} {locs : List Loc} {ls : Array Slot} (hl : lv_has ls 4 [(0, .ref o), (1, .int x1), (3, .int x3)]) (hM : pp_H D o ad cs s.heap st H locs) : W p l e (mm_R 51 1822) s m args below meth c H locs 0 0 (MQ below (pp_Qi D o ad cs r st') args s 0 0 (pp_A o ad)) (F0 m 102 ls []) := by
  unfold P_X0_takesClause_b102 at hf
  refine lv_aload_n C.1 C.2.1 (dd_at td_X0_takesClause 54 rfl) rfl (lv_at hl 0 rfl) ?_
  refine pp_gA C hM 3 (dd_at td_X0_takesClause 55 rfl) (by decide) (by decide) cw154 ?_
  refine lv_aload_n C.1 C.2.1 (dd_at td_X0_takesClause 56 rfl) rfl (lv_at hl 0 rfl) ?_
  refine pp_gI C hM 7 (dd_at td_X0_takesClause 57 rfl) (by decide) (by decide) cw155 ?_
  refine lv_iload_n C.1 C.2.1 (dd_at td_X0_takesClause 58 rfl) rfl (lv_at hl 1 rfl) ?_
  obtain ⟨g29, hf⟩ := fc_of_gd hf
  refine pp_iast C hM 3 (dd_at td_X0_takesClause 59 rfl) (by decide) (by decide) (fc_of_ix g29) (fun st30 H locs est30 hM => ?_)
  replace hf := fc_of_nm hf st30 est30
  refine lv_aload_n C.1 C.2.1 (dd_at td_X0_takesClause 60 rfl) rfl (lv_at hl 0 rfl) ?_
  refine pp_gA C hM 4 (dd_at td_X0_takesClause 61 rfl) (by decide) (by decide) cw156 ?_
  refine lv_aload_n C.1 C.2.1 (dd_at td_X0_takesClause 62 rfl) rfl (lv_at hl 0 rfl) ?_
  refine pp_gI C hM 7 (dd_at td_X0_takesClause 63 rfl) (by decide) (by decide) cw155 ?_
  refine lv_iload_n C.1 C.2.1 (dd_at td_X0_takesClause 64 rfl) rfl (lv_at hl 2 rfl) ?_
  obtain ⟨g31, hf⟩ := fc_of_gd hf
  refine pp_iast C hM 4 (dd_at td_X0_takesClause 65 rfl) (by decide) (by decide) (fc_of_ix g31) (fun st32 H locs est32 hM => ?_)
  replace hf := fc_of_nm hf st32 est32
  refine lv_aload_n C.1 C.2.1 (dd_at td_X0_takesClause 66 rfl) rfl (lv_at hl 0 rfl) ?_
  refine lv_dup C.1 C.2.1 (dd_at td_X0_takesClause 67 rfl) rfl ?_
  refine pp_gI C hM 7 (dd_at td_X0_takesClause 68 rfl) (by decide) (by decide) cw155 ?_
  refine lv_iconst (v := (1 : Int32)) C.1 C.2.1 (dd_at td_X0_takesClause 69 rfl) (by decide) ?_
  refine lv_iadd C.1 C.2.1 (dd_at td_X0_takesClause 70 rfl) ?_
  refine pp_pI C hM 7 (dd_at td_X0_takesClause 71 rfl) (by decide) (by decide) (by decide) cw155 rfl rfl (fun st33 H locs est33 hM => ?_)
  replace hf := fc_of_nm hf st33 est33
  refine lv_aload_n C.1 C.2.1 (dd_at td_X0_takesClause 72 rfl) rfl (lv_at hl 0 rfl) ?_
  refine pp_gA C hM 5 (dd_at td_X0_takesClause 73 rfl) (by decide) (by decide) cw157 ?_
  refine lv_aload_n C.1 C.2.1 (dd_at td_X0_takesClause 74 rfl) rfl (lv_at hl 0 rfl) ?_
  refine pp_gI C hM 7 (dd_at td_X0_takesClause 75 rfl) (by decide) (by decide) cw155 ?_
  refine lv_aload_n C.1 C.2.1 (dd_at td_X0_takesClause 76 rfl) rfl (lv_at hl 0 rfl) ?_
  refine pp_gI C hM 8 (dd_at td_X0_takesClause 77 rfl) (by decide) (by decide) cw67 ?_
  obtain ⟨g34, hf⟩ := fc_of_gd hf
  refine pp_iast C hM 5 (dd_at td_X0_takesClause 78 rfl) (by decide) (by decide) (fc_of_ix g34) (fun st35 H locs est35 hM => ?_)
  replace hf := fc_of_nm hf st35 est35
  refine lv_iconst (v := (1 : Int32)) C.1 C.2.1 (dd_at td_X0_takesClause 79 rfl) (by decide) ?_
  exact pp_rz C hM (dd_at td_X0_takesClause 80 rfl) rfl hf
def P_X0_takesClause_b49 (z : pp_Z) (fu : Nat) (x1 : Int32) (s0 : Nat) (st : mm_S) : Option (Int32 × mm_S) :=
  fc_bn (P_X0_takesWord z fu s0 st) fun r13 st11 =>
  if r13 = 0 then (
  some ((0 : Int32), st11))
  else (
  fc_bn (P_X0_takesNumber z fu st11) fun r17 st15 =>
  if 0 ≤ r17 then (
  if x1 = 0 then (
  fc_nm (mm_sI st15 9 r17) fun st28 =>
  P_X0_takesClause_b102 z fu x1 r17 st28)
  else (
  fc_bn (P_X0_takes z fu (32 : Int32) st15) fun r22 st20 =>
  if r22 = 0 then (
  some ((0 : Int32), st20))
  else (
  fc_bn (P_rec z fu 20 0 (0 : Int32) st20) fun r26 st24 =>
  if r26 = 0 then (
  some ((0 : Int32), st24))
  else (
  P_X0_takesClause_b102 z fu x1 r17 st24))))
  else (
  some ((0 : Int32), st15)))
theorem w_X0_takesClause_b49 {p : Program} {l : Launch} {e : Env} {s : State} {m : MethodId} {args : Array Value} {below : List Frame} {meth : Method} {c : Code} {D : va_G} {o : Nat} {ad : Nat → Nat} {cs : ClassId} {z : pp_Z} {r : Int32} {st' : mm_S} (C : pp_C p s m args meth c cX0_takesClause 4 (some .boolean) D o ad cs z) (fu : Nat) (x1 : Int32) (s0 : Nat) (st : mm_S) (hf : P_X0_takesClause_b49 z fu x1 s0 st = some (r, st')) {H : Heap} {locs : List Loc} {ls : Array Slot} (hl : lv_has ls 4 [(0, .ref o), (1, .int x1)]) (hM : pp_H D o ad cs s.heap st H locs) : W p l e (mm_R 51 1822) s m args below meth c H locs 0 0 (MQ below (pp_Qi D o ad cs r st') args s 0 0 (pp_A o ad)) (F0 m 49 ls [.ref (z s0).1]) := by
  unfold P_X0_takesClause_b49 at hf
  refine lv_astore_n (lv' := [(2, .ref (z s0).1), (0, .ref o), (1, .int x1)]) C.1 C.2.1 (dd_at td_X0_takesClause 24 rfl) rfl hl (by decide) rfl (fun ls hl => ?_)
  refine lv_aload_n C.1 C.2.1 (dd_at td_X0_takesClause 25 rfl) rfl (lv_at hl 1 rfl) ?_
  refine lv_aload_n C.1 C.2.1 (dd_at td_X0_takesClause 26 rfl) rfl (lv_at hl 0 rfl) ?_
  obtain ⟨r13, st11, hx12, hf⟩ := fc_of_bn hf
  refine pp_ci (As := [.ref (z s0).1]) (rest := []) (n := 1) C hM (c_X0_takesWord l D o ad cs z fu s0 st) (cc_gdV cw158 cw159 cw160 cw55 cw60) (dd_at td_X0_takesClause 27 rfl) hx12 hl.1 hd_X0_takesWord ⟨Nat.le_of_ble_eq_true rfl, Nat.le_of_ble_eq_true rfl⟩ rfl rfl (Nat.le_of_ble_eq_true rfl) ⟨Nat.le_refl 0, Nat.le_refl 0⟩ (fun H locs hM => ?_)
  refine lv_if_ne (tgt := 60) C.1 C.2.1 (dd_at td_X0_takesClause 28 rfl) (by decide) (fun c14 => ?_) (fun c14 => ?_)
  · replace hf := fc_of_f hf c14
    refine lv_aload_n C.1 C.2.1 (dd_at td_X0_takesClause 31 rfl) rfl (lv_at hl 1 rfl) ?_
    obtain ⟨r17, st15, hx16, hf⟩ := fc_of_bn hf
    refine pp_ci (As := []) (rest := []) (n := 0) C hM (c_X0_takesNumber l D o ad cs z fu st11) (cc_gdV cw131 cw132 cw133 cw55 cw65) (dd_at td_X0_takesClause 32 rfl) hx16 hl.1 hd_X0_takesNumber ⟨Nat.le_of_ble_eq_true rfl, Nat.le_of_ble_eq_true rfl⟩ rfl rfl (Nat.le_of_ble_eq_true rfl) ⟨Nat.le_refl 0, Nat.le_refl 0⟩ (fun H locs hM => ?_)
    refine lv_istore_n (lv' := [(3, .int r17), (2, .ref (z s0).1), (0, .ref o), (1, .int x1)]) C.1 C.2.1 (dd_at td_X0_takesClause 33 rfl) rfl hl (by decide) rfl (fun ls hl => ?_)
    refine lv_iload_n C.1 C.2.1 (dd_at td_X0_takesClause 34 rfl) rfl (lv_at hl 0 rfl) ?_
    refine lv_if_ge (tgt := 71) C.1 C.2.1 (dd_at td_X0_takesClause 35 rfl) (by decide) (fun c18 => ?_) (fun c18 => ?_)
    · replace hf := fc_of_t hf c18
      refine lv_iload_n C.1 C.2.1 (dd_at td_X0_takesClause 38 rfl) rfl (lv_at hl 3 rfl) ?_
      refine lv_if_ne (tgt := 83) C.1 C.2.1 (dd_at td_X0_takesClause 39 rfl) (by decide) (fun c19 => ?_) (fun c19 => ?_)
      · replace hf := fc_of_f hf c19
        refine lv_aload_n C.1 C.2.1 (dd_at td_X0_takesClause 44 rfl) rfl (lv_at hl 2 rfl) ?_
        refine lv_bipush (v := (32 : Int32)) C.1 C.2.1 (dd_at td_X0_takesClause 45 rfl) (by decide) ?_
        obtain ⟨r22, st20, hx21, hf⟩ := fc_of_bn hf
        refine pp_ci (As := [.int (32 : Int32)]) (rest := []) (n := 1) C hM (c_X0_takes l D o ad cs z fu (32 : Int32) st15) (cc_gdV cw57 cw58 cw59 cw55 cw56) (dd_at td_X0_takesClause 46 rfl) hx21 hl.1 hd_X0_takes ⟨Nat.le_of_ble_eq_true rfl, Nat.le_of_ble_eq_true rfl⟩ rfl rfl (Nat.le_of_ble_eq_true rfl) ⟨Nat.le_refl 0, Nat.le_refl 0⟩ (fun H locs hM => ?_)
        refine lv_if_eq (tgt := 100) C.1 C.2.1 (dd_at td_X0_takesClause 47 rfl) (by decide) (fun c23 => ?_) (fun c23 => ?_)
        · replace hf := fc_of_t hf c23
          refine lv_iconst (v := (0 : Int32)) C.1 C.2.1 (dd_at td_X0_takesClause 52 rfl) (by decide) ?_
          exact pp_rz C hM (dd_at td_X0_takesClause 53 rfl) rfl hf
        · replace hf := fc_of_f hf c23
          refine lv_aload_n C.1 C.2.1 (dd_at td_X0_takesClause 48 rfl) rfl (lv_at hl 2 rfl) ?_
          refine lv_iconst (v := (0 : Int32)) C.1 C.2.1 (dd_at td_X0_takesClause 49 rfl) (by decide) ?_
          obtain ⟨r26, st24, hx25, hf⟩ := fc_of_bn hf
          refine pp_ci (As := [.int (0 : Int32)]) (rest := []) (n := 1) C hM (c_rec l D o ad cs z fu 20 0 (0 : Int32) st20 : pp_Mi l D o ad cs z yX0_takesEither cX0_takesEither 3 (some .boolean) (pp_fr 20) (pp_lo 20) [.int (0 : Int32)] st20 (P_rec z fu 20 0 (0 : Int32) st20)) (cc_gdV cw146 cw147 cw148 cw55 cw141) (dd_at td_X0_takesClause 50 rfl) hx25 hl.1 hd_X0_takesEither ⟨Nat.le_of_ble_eq_true rfl, Nat.le_of_ble_eq_true rfl⟩ rfl rfl (Nat.le_of_ble_eq_true rfl) ⟨Nat.le_refl 0, Nat.le_refl 0⟩ (fun H locs hM => ?_)
          refine lv_if_ne (tgt := 102) C.1 C.2.1 (dd_at td_X0_takesClause 51 rfl) (by decide) (fun c27 => ?_) (fun c27 => ?_)
          · replace hf := fc_of_f hf c27
            exact w_X0_takesClause_b102 C fu x1 r17 st24 hf (lv_sub hl [2, 3, 0] rfl) hM
          · replace hf := fc_of_t hf c27
            refine lv_iconst (v := (0 : Int32)) C.1 C.2.1 (dd_at td_X0_takesClause 52 rfl) (by decide) ?_
            exact pp_rz C hM (dd_at td_X0_takesClause 53 rfl) rfl hf
      · replace hf := fc_of_t hf c19
        refine lv_aload_n C.1 C.2.1 (dd_at td_X0_takesClause 40 rfl) rfl (lv_at hl 2 rfl) ?_
        refine lv_iload_n C.1 C.2.1 (dd_at td_X0_takesClause 41 rfl) rfl (lv_at hl 0 rfl) ?_
        refine pp_pI C hM 9 (dd_at td_X0_takesClause 42 rfl) (by decide) (by decide) (by decide) cw153 rfl rfl (fun st28 H locs est28 hM => ?_)
        replace hf := fc_of_nm hf st28 est28
        refine lv_goto (tgt := 102) C.1 C.2.1 (dd_at td_X0_takesClause 43 rfl) (by decide) ?_
        exact w_X0_takesClause_b102 C fu x1 r17 st28 hf (lv_sub hl [2, 3, 0] rfl) hM
    · replace hf := fc_of_f hf c18
      refine lv_iconst (v := (0 : Int32)) C.1 C.2.1 (dd_at td_X0_takesClause 36 rfl) (by decide) ?_
      exact pp_rz C hM (dd_at td_X0_takesClause 37 rfl) rfl hf
  · replace hf := fc_of_t hf c14
    refine lv_iconst (v := (0 : Int32)) C.1 C.2.1 (dd_at td_X0_takesClause 29 rfl) (by decide) ?_
    exact pp_rz C hM (dd_at td_X0_takesClause 30 rfl) rfl hf
def P_X0_takesClause_b27 (z : pp_Z) (fu : Nat) (s0 : Int32) (st : mm_S) : Option (Int32 × mm_S) :=
  if s0 = (-1 : Int32) then (
  P_X0_takesClause_b49 z fu s0 1 st)
  else (
  if s0 = 0 then (
  P_X0_takesClause_b49 z fu s0 2 st)
  else (
  P_X0_takesClause_b49 z fu s0 3 st))
theorem w_X0_takesClause_b27 {p : Program} {l : Launch} {e : Env} {s : State} {m : MethodId} {args : Array Value} {below : List Frame} {meth : Method} {c : Code} {D : va_G} {o : Nat} {ad : Nat → Nat} {cs : ClassId} {z : pp_Z} {r : Int32} {st' : mm_S} (C : pp_C p s m args meth c cX0_takesClause 4 (some .boolean) D o ad cs z) (fu : Nat) (s0 : Int32) (st : mm_S) (hf : P_X0_takesClause_b27 z fu s0 st = some (r, st')) {H : Heap} {locs : List Loc} {ls : Array Slot} (hl : lv_has ls 4 [(0, .ref o)]) (hM : pp_H D o ad cs s.heap st H locs) : W p l e (mm_R 51 1822) s m args below meth c H locs 0 0 (MQ below (pp_Qi D o ad cs r st') args s 0 0 (pp_A o ad)) (F0 m 27 ls [.int s0]) := by
  unfold P_X0_takesClause_b27 at hf
  refine lv_istore_n (lv' := [(1, .int s0), (0, .ref o)]) C.1 C.2.1 (dd_at td_X0_takesClause 13 rfl) rfl hl (by decide) rfl (fun ls hl => ?_)
  refine lv_iload_n C.1 C.2.1 (dd_at td_X0_takesClause 14 rfl) rfl (lv_at hl 0 rfl) ?_
  refine lv_iconst (v := (-1 : Int32)) C.1 C.2.1 (dd_at td_X0_takesClause 15 rfl) (by decide) ?_
  refine lv_icmp_ne (tgt := 38) C.1 C.2.1 (dd_at td_X0_takesClause 16 rfl) (by decide) (fun c9 => ?_) (fun c9 => ?_)
  · replace hf := fc_of_f hf c9
    refine lv_iload_n C.1 C.2.1 (dd_at td_X0_takesClause 19 rfl) rfl (lv_at hl 0 rfl) ?_
    refine lv_if_ne (tgt := 47) C.1 C.2.1 (dd_at td_X0_takesClause 20 rfl) (by decide) (fun c10 => ?_) (fun c10 => ?_)
    · replace hf := fc_of_f hf c10
      refine pp_ldc C 2 rfl (by decide) (dd_at td_X0_takesClause 23 rfl) ?_
      show W p l e (mm_R 51 1822) s m args below meth c H locs 0 0 (MQ below (pp_Qi D o ad cs r st') args s 0 0 (pp_A o ad)) (F0 m 49 ls [.ref (z 3).1])
      exact w_X0_takesClause_b49 C fu s0 3 st hf (lv_sub hl [1, 0] rfl) hM
    · replace hf := fc_of_t hf c10
      refine pp_ldc C 1 rfl (by decide) (dd_at td_X0_takesClause 21 rfl) ?_
      show W p l e (mm_R 51 1822) s m args below meth c H locs 0 0 (MQ below (pp_Qi D o ad cs r st') args s 0 0 (pp_A o ad)) (F0 m 44 ls [.ref (z 2).1])
      refine lv_goto (tgt := 49) C.1 C.2.1 (dd_at td_X0_takesClause 22 rfl) (by decide) ?_
      exact w_X0_takesClause_b49 C fu s0 2 st hf (lv_sub hl [1, 0] rfl) hM
  · replace hf := fc_of_t hf c9
    refine pp_ldc C 0 rfl (by decide) (dd_at td_X0_takesClause 17 rfl) ?_
    show W p l e (mm_R 51 1822) s m args below meth c H locs 0 0 (MQ below (pp_Qi D o ad cs r st') args s 0 0 (pp_A o ad)) (F0 m 35 ls [.ref (z 1).1])
    refine lv_goto (tgt := 49) C.1 C.2.1 (dd_at td_X0_takesClause 18 rfl) (by decide) ?_
    exact w_X0_takesClause_b49 C fu s0 1 st hf (lv_sub hl [1, 0] rfl) hM
def P_X0_takesClause (z : pp_Z) (fu : Nat) (st : mm_S) : Option (Int32 × mm_S) :=
  fc_bn (P_X0_sees z fu (115 : Int32) st) fun r3 st1 =>
  if r3 = 0 then (
  fc_bn (P_X0_sees z fu (107 : Int32) st1) fun r7 st5 =>
  if r7 = 0 then (
  P_X0_takesClause_b27 z fu (1 : Int32) st5)
  else (
  P_X0_takesClause_b27 z fu (0 : Int32) st5))
  else (
  P_X0_takesClause_b27 z fu (-1 : Int32) st1)
theorem w_X0_takesClause {p : Program} {l : Launch} {e : Env} {s : State} {m : MethodId} {args : Array Value} {below : List Frame} {meth : Method} {c : Code} {D : va_G} {o : Nat} {ad : Nat → Nat} {cs : ClassId} {z : pp_Z} {r : Int32} {st' : mm_S} (C : pp_C p s m args meth c cX0_takesClause 4 (some .boolean) D o ad cs z) (fu : Nat) (st : mm_S) (hf : P_X0_takesClause z fu st = some (r, st')) {H : Heap} {locs : List Loc} {ls : Array Slot} (hl : lv_has ls 4 [(0, .ref o)]) (hM : pp_H D o ad cs s.heap st H locs) : W p l e (mm_R 51 1822) s m args below meth c H locs 0 0 (MQ below (pp_Qi D o ad cs r st') args s 0 0 (pp_A o ad)) (F0 m 0 ls []) := by
  unfold P_X0_takesClause at hf
  refine lv_aload_n C.1 C.2.1 (dd_at td_X0_takesClause 0 rfl) rfl (lv_at hl 0 rfl) ?_
  refine lv_bipush (v := (115 : Int32)) C.1 C.2.1 (dd_at td_X0_takesClause 1 rfl) (by decide) ?_
  obtain ⟨r3, st1, hx2, hf⟩ := fc_of_bn hf
  refine pp_ci (As := [.int (115 : Int32)]) (rest := []) (n := 1) C hM (c_X0_sees l D o ad cs z fu (115 : Int32) st) (cc_gdV cw52 cw53 cw54 cw55 cw51) (dd_at td_X0_takesClause 2 rfl) hx2 hl.1 hd_X0_sees ⟨Nat.le_of_ble_eq_true rfl, Nat.le_of_ble_eq_true rfl⟩ rfl rfl (Nat.le_of_ble_eq_true rfl) ⟨Nat.le_refl 0, Nat.le_refl 0⟩ (fun H locs hM => ?_)
  refine lv_if_eq (tgt := 13) C.1 C.2.1 (dd_at td_X0_takesClause 3 rfl) (by decide) (fun c4 => ?_) (fun c4 => ?_)
  · replace hf := fc_of_t hf c4
    refine lv_aload_n C.1 C.2.1 (dd_at td_X0_takesClause 6 rfl) rfl (lv_at hl 0 rfl) ?_
    refine lv_bipush (v := (107 : Int32)) C.1 C.2.1 (dd_at td_X0_takesClause 7 rfl) (by decide) ?_
    obtain ⟨r7, st5, hx6, hf⟩ := fc_of_bn hf
    refine pp_ci (As := [.int (107 : Int32)]) (rest := []) (n := 1) C hM (c_X0_sees l D o ad cs z fu (107 : Int32) st1) (cc_gdV cw52 cw53 cw54 cw55 cw51) (dd_at td_X0_takesClause 8 rfl) hx6 hl.1 hd_X0_sees ⟨Nat.le_of_ble_eq_true rfl, Nat.le_of_ble_eq_true rfl⟩ rfl rfl (Nat.le_of_ble_eq_true rfl) ⟨Nat.le_refl 0, Nat.le_refl 0⟩ (fun H locs hM => ?_)
    refine lv_if_eq (tgt := 26) C.1 C.2.1 (dd_at td_X0_takesClause 9 rfl) (by decide) (fun c8 => ?_) (fun c8 => ?_)
    · replace hf := fc_of_t hf c8
      refine lv_iconst (v := (1 : Int32)) C.1 C.2.1 (dd_at td_X0_takesClause 12 rfl) (by decide) ?_
      exact w_X0_takesClause_b27 C fu (1 : Int32) st5 hf (lv_sub hl [0] rfl) hM
    · replace hf := fc_of_f hf c8
      refine lv_iconst (v := (0 : Int32)) C.1 C.2.1 (dd_at td_X0_takesClause 10 rfl) (by decide) ?_
      refine lv_goto (tgt := 27) C.1 C.2.1 (dd_at td_X0_takesClause 11 rfl) (by decide) ?_
      exact w_X0_takesClause_b27 C fu (0 : Int32) st5 hf (lv_sub hl [0] rfl) hM
  · replace hf := fc_of_f hf c4
    refine lv_iconst (v := (-1 : Int32)) C.1 C.2.1 (dd_at td_X0_takesClause 4 rfl) (by decide) ?_
    refine lv_goto (tgt := 27) C.1 C.2.1 (dd_at td_X0_takesClause 5 rfl) (by decide) ?_
    exact w_X0_takesClause_b27 C fu (-1 : Int32) st1 hf (lv_sub hl [0] rfl) hM
theorem c_X0_takesClause (l : Launch) (D : va_G) (o : Nat) (ad : Nat → Nat) (cs : ClassId) (z : pp_Z) (fu : Nat) (st : mm_S) : pp_Mi l D o ad cs z yX0_takesClause cX0_takesClause 4 (some .boolean) 51 1822 [] st (P_X0_takesClause z fu st) := by
  intro r st' hf
  refine pp_enter (cc := cX0_takesClause) (nL := 4) (ret := some .boolean) (by decide) rfl (Nat.le_of_ble_eq_true rfl) ?_
  intro p e s m args below meth c ls C hl hM
  exact w_X0_takesClause C fu st hf hl hM
/-! X0_takesClauses -/
def tb_X0_takesClauses : List (Nat × Instr × Nat) := [(0, .iconst 0, 1), (1, .istore_n 1, 1), (2, .iload_n 1, 1), (3, .bipush 10, 2), (5, .if_icmp .ge 51, 3), (8, .aload_n 0, 1), (9, .invokevirtual 49, 3), (12, .ifCond .ne 5, 3), (15, .iconst 0, 1), (16, .ireturn, 1), (17, .aload_n 0, 1), (18, .getfield 9, 3), (21, .aload_n 0, 1), (22, .getfield 37, 3), (25, .invokevirtual 52, 3), (28, .if_icmp .ne 5, 3), (31, .iconst 1, 1), (32, .ireturn, 1), (33, .iload_n 1, 1), (34, .bipush 9, 2), (36, .if_icmp .eq 12, 3), (39, .aload_n 0, 1), (40, .bipush 59, 2), (42, .invokevirtual 58, 3), (45, .ifCond .ne 5, 3), (48, .iconst 0, 1), (49, .ireturn, 1), (50, .iinc 1 1, 3), (53, .goto (-51), 3), (56, .iconst 0, 1), (57, .ireturn, 1)]
theorem td_X0_takesClauses : tb_X0_takesClauses.all (fun q => decide (decode cX0_takesClauses q.1 = .ok (q.2.1, q.2.2))) = true := by decide +kernel
theorem hd_X0_takesClauses : yX0_takesClauses.cls = RX0 ∧ yX0_takesClauses.cls ≠ "java/lang/invoke/MethodHandle" ∧ yX0_takesClauses.cls ≠ "java/lang/invoke/VarHandle" ∧ (parseMethodDescriptor yX0_takesClauses.desc).map (fun d => d.parameters.length) = some 0 := by decide +kernel
def P_X0_takesClauses_b2F (z : pp_Z) (fu : Nat) (K2 : Int32 → mm_S → Option (Int32 × mm_S)) (x1 : Int32) (st : mm_S) : Option (Int32 × mm_S) :=
  if (10 : Int32) ≤ x1 then (
  some ((0 : Int32), st))
  else (
  fc_bn (P_X0_takesClause z fu st) fun r4 st2 =>
  if r4 = 0 then (
  some ((0 : Int32), st2))
  else (
  fc_bv (J_J0_length_8abf5 (z 0).2.2.1 (z 0).2.2.2 fu) fun r6 =>
  if (mm_I st2 2) = r6 then (
  some ((1 : Int32), st2))
  else (
  if x1 = (9 : Int32) then (
  some ((0 : Int32), st2))
  else (
  fc_bn (P_X0_takes z fu (59 : Int32) st2) fun r12 st10 =>
  if r12 = 0 then (
  some ((0 : Int32), st10))
  else (
  fc_nm (x1 + (1 : Int32)) fun v14 =>
  K2 v14 st10)))))
def P_X0_takesClauses_b2 (z : pp_Z) (fu : Nat) (n : Nat) (x1 : Int32) (st : mm_S) : Option (Int32 × mm_S) :=
  fc_lp (fun (K : Int32 × mm_S → Option (Int32 × mm_S)) q => P_X0_takesClauses_b2F z fu (fun x1 st => K (x1, st)) q.1 q.2) n (x1, st)
theorem w_X0_takesClauses_b2F {p : Program} {l : Launch} {e : Env} {s : State} {m : MethodId} {args : Array Value} {below : List Frame} {meth : Method} {c : Code} {D : va_G} {o : Nat} {ad : Nat → Nat} {cs : ClassId} {z : pp_Z} {r : Int32} {st' : mm_S} (C : pp_C p s m args meth c cX0_takesClauses 2 (some .boolean) D o ad cs z) (fu : Nat) (K2 : Int32 → mm_S → Option (Int32 × mm_S)) (hK2 : ∀ (x1 : Int32) (st : mm_S) (H : Heap) (locs : List Loc) (ls : Array Slot), K2 x1 st = some (r, st') → lv_has ls 2 [(0, .ref o), (1, .int x1)] → pp_H D o ad cs s.heap st H locs → W p l e (mm_R 52 1845) s m args below meth c H locs 0 0 (MQ below (pp_Qi D o ad cs r st') args s 0 0 (pp_A o ad)) (F0 m 2 ls [])) (x1 : Int32) (st : mm_S) (hf : P_X0_takesClauses_b2F z fu K2 x1 st = some (r, st')) {H : Heap} {locs : List Loc} {ls : Array Slot} (hl : lv_has ls 2 [(0, .ref o), (1, .int x1)]) (hM : pp_H D o ad cs s.heap st H locs) : W p l e (mm_R 52 1845) s m args below meth c H locs 0 0 (MQ below (pp_Qi D o ad cs r st') args s 0 0 (pp_A o ad)) (F0 m 2 ls []) := by
  unfold P_X0_takesClauses_b2F at hf
  refine lv_iload_n C.1 C.2.1 (dd_at td_X0_takesClauses 2 rfl) rfl (lv_at hl 1 rfl) ?_
  refine lv_bipush (v := (10 : Int32)) C.1 C.2.1 (dd_at td_X0_takesClauses 3 rfl) (by decide) ?_
  refine lv_icmp_ge (tgt := 56) C.1 C.2.1 (dd_at td_X0_takesClauses 4 rfl) (by decide) (fun c1 => ?_) (fun c1 => ?_)
  · replace hf := fc_of_t hf c1
    refine lv_iconst (v := (0 : Int32)) C.1 C.2.1 (dd_at td_X0_takesClauses 29 rfl) (by decide) ?_
    exact pp_rz C hM (dd_at td_X0_takesClauses 30 rfl) rfl hf
  · replace hf := fc_of_f hf c1
    refine lv_aload_n C.1 C.2.1 (dd_at td_X0_takesClauses 5 rfl) rfl (lv_at hl 0 rfl) ?_
    obtain ⟨r4, st2, hx3, hf⟩ := fc_of_bn hf
    refine pp_ci (As := []) (rest := []) (n := 0) C hM (c_X0_takesClause l D o ad cs z fu st) (cc_gdV cw162 cw163 cw164 cw55 cw161) (dd_at td_X0_takesClauses 6 rfl) hx3 hl.1 hd_X0_takesClause ⟨Nat.le_of_ble_eq_true rfl, Nat.le_of_ble_eq_true rfl⟩ rfl rfl (Nat.le_of_ble_eq_true rfl) ⟨Nat.le_refl 0, Nat.le_refl 0⟩ (fun H locs hM => ?_)
    refine lv_if_ne (tgt := 17) C.1 C.2.1 (dd_at td_X0_takesClauses 7 rfl) (by decide) (fun c5 => ?_) (fun c5 => ?_)
    · replace hf := fc_of_f hf c5
      refine lv_aload_n C.1 C.2.1 (dd_at td_X0_takesClauses 10 rfl) rfl (lv_at hl 0 rfl) ?_
      refine pp_gI C hM 2 (dd_at td_X0_takesClauses 11 rfl) (by decide) (by decide) cw43 ?_
      refine lv_aload_n C.1 C.2.1 (dd_at td_X0_takesClauses 12 rfl) rfl (lv_at hl 0 rfl) ?_
      refine pp_gT C hM (dd_at td_X0_takesClauses 13 rfl) cw44 ?_
      obtain ⟨r6, hx7, hf⟩ := fc_of_bv hf
      refine pp_js (i := 0) (k := 0) (As := []) (rest := [.int (mm_I st2 2)]) C hM (by decide) (c_J0_length_8abf5 l (z 0).1 (z 0).2.1 (z 0).2.2.1 (z 0).2.2.2 fu r6 hx7) (cc_gdV cw45 cw46 cw47 cw8 cw3) hd_J0_length_8abf5 ⟨Nat.le_of_ble_eq_true rfl, Nat.le_of_ble_eq_true rfl⟩ rfl hl.1 rfl (Nat.le_of_ble_eq_true rfl) (dd_at td_X0_takesClauses 14 rfl) ⟨Nat.le_refl 0, Nat.le_refl 0⟩ ?_
      refine lv_icmp_ne (tgt := 33) C.1 C.2.1 (dd_at td_X0_takesClauses 15 rfl) (by decide) (fun c8 => ?_) (fun c8 => ?_)
      · replace hf := fc_of_f hf c8
        refine lv_iload_n C.1 C.2.1 (dd_at td_X0_takesClauses 18 rfl) rfl (lv_at hl 1 rfl) ?_
        refine lv_bipush (v := (9 : Int32)) C.1 C.2.1 (dd_at td_X0_takesClauses 19 rfl) (by decide) ?_
        refine lv_icmp_eq (tgt := 48) C.1 C.2.1 (dd_at td_X0_takesClauses 20 rfl) (by decide) (fun c9 => ?_) (fun c9 => ?_)
        · replace hf := fc_of_t hf c9
          refine lv_iconst (v := (0 : Int32)) C.1 C.2.1 (dd_at td_X0_takesClauses 25 rfl) (by decide) ?_
          exact pp_rz C hM (dd_at td_X0_takesClauses 26 rfl) rfl hf
        · replace hf := fc_of_f hf c9
          refine lv_aload_n C.1 C.2.1 (dd_at td_X0_takesClauses 21 rfl) rfl (lv_at hl 0 rfl) ?_
          refine lv_bipush (v := (59 : Int32)) C.1 C.2.1 (dd_at td_X0_takesClauses 22 rfl) (by decide) ?_
          obtain ⟨r12, st10, hx11, hf⟩ := fc_of_bn hf
          refine pp_ci (As := [.int (59 : Int32)]) (rest := []) (n := 1) C hM (c_X0_takes l D o ad cs z fu (59 : Int32) st2) (cc_gdV cw57 cw58 cw59 cw55 cw56) (dd_at td_X0_takesClauses 23 rfl) hx11 hl.1 hd_X0_takes ⟨Nat.le_of_ble_eq_true rfl, Nat.le_of_ble_eq_true rfl⟩ rfl rfl (Nat.le_of_ble_eq_true rfl) ⟨Nat.le_refl 0, Nat.le_refl 0⟩ (fun H locs hM => ?_)
          refine lv_if_ne (tgt := 50) C.1 C.2.1 (dd_at td_X0_takesClauses 24 rfl) (by decide) (fun c13 => ?_) (fun c13 => ?_)
          · replace hf := fc_of_f hf c13
            obtain ⟨v14, ev14⟩ : ∃ y : Int32, y = x1 + (1 : Int32) := ⟨_, rfl⟩
            replace hf := fc_of_nm hf v14 ev14
            refine lv_iinc (v := v14) (lv' := [(1, .int v14), (0, .ref o)]) C.1 C.2.1 (dd_at td_X0_takesClauses 27 rfl) hl (k := 1) rfl (by rw [ev14]; rfl) (by decide) rfl (fun ls hl => ?_)
            refine lv_goto (tgt := 2) C.1 C.2.1 (dd_at td_X0_takesClauses 28 rfl) (by decide) ?_
            exact hK2 v14 st10 _ _ _ hf (lv_sub hl [1, 0] rfl) hM
          · replace hf := fc_of_t hf c13
            refine lv_iconst (v := (0 : Int32)) C.1 C.2.1 (dd_at td_X0_takesClauses 25 rfl) (by decide) ?_
            exact pp_rz C hM (dd_at td_X0_takesClauses 26 rfl) rfl hf
      · replace hf := fc_of_t hf c8
        refine lv_iconst (v := (1 : Int32)) C.1 C.2.1 (dd_at td_X0_takesClauses 16 rfl) (by decide) ?_
        exact pp_rz C hM (dd_at td_X0_takesClauses 17 rfl) rfl hf
    · replace hf := fc_of_t hf c5
      refine lv_iconst (v := (0 : Int32)) C.1 C.2.1 (dd_at td_X0_takesClauses 8 rfl) (by decide) ?_
      exact pp_rz C hM (dd_at td_X0_takesClauses 9 rfl) rfl hf
theorem w_X0_takesClauses_b2 {p : Program} {l : Launch} {e : Env} {s : State} {m : MethodId} {args : Array Value} {below : List Frame} {meth : Method} {c : Code} {D : va_G} {o : Nat} {ad : Nat → Nat} {cs : ClassId} {z : pp_Z} {r : Int32} {st' : mm_S} (C : pp_C p s m args meth c cX0_takesClauses 2 (some .boolean) D o ad cs z) (fu : Nat) (n : Nat) : ∀ (x1 : Int32) (st : mm_S), P_X0_takesClauses_b2 z fu n x1 st = some (r, st') → ∀ (H : Heap) (locs : List Loc) (ls : Array Slot), lv_has ls 2 [(0, .ref o), (1, .int x1)] → pp_H D o ad cs s.heap st H locs → W p l e (mm_R 52 1845) s m args below meth c H locs 0 0 (MQ below (pp_Qi D o ad cs r st') args s 0 0 (pp_A o ad)) (F0 m 2 ls []) := by
  induction n with
  | zero => exact fun _ _ hf => fc_no hf
  | succ n ih =>
    intro x1 st hf H locs ls hl hM
    exact w_X0_takesClauses_b2F C fu (fun x1 st => P_X0_takesClauses_b2 z fu n x1 st) (fun x1 st H locs ls hf hl hM => ih x1 st hf H locs ls hl hM) x1 st hf hl hM
def P_X0_takesClauses (z : pp_Z) (fu : Nat) (st : mm_S) : Option (Int32 × mm_S) :=
  P_X0_takesClauses_b2 z fu fu (0 : Int32) st
theorem w_X0_takesClauses {p : Program} {l : Launch} {e : Env} {s : State} {m : MethodId} {args : Array Value} {below : List Frame} {meth : Method} {c : Code} {D : va_G} {o : Nat} {ad : Nat → Nat} {cs : ClassId} {z : pp_Z} {r : Int32} {st' : mm_S} (C : pp_C p s m args meth c cX0_takesClauses 2 (some .boolean) D o ad cs z) (fu : Nat) (st : mm_S) (hf : P_X0_takesClauses z fu st = some (r, st')) {H : Heap} {locs : List Loc} {ls : Array Slot} (hl : lv_has ls 2 [(0, .ref o)]) (hM : pp_H D o ad cs s.heap st H locs) : W p l e (mm_R 52 1845) s m args below meth c H locs 0 0 (MQ below (pp_Qi D o ad cs r st') args s 0 0 (pp_A o ad)) (F0 m 0 ls []) := by
  unfold P_X0_takesClauses at hf
  refine lv_iconst (v := (0 : Int32)) C.1 C.2.1 (dd_at td_X0_takesClauses 0 rfl) (by decide) ?_
  refine lv_istore_n (lv' := [(1, .int (0 : Int32)), (0, .ref o)]) C.1 C.2.1 (dd_at td_X0_takesClauses 1 rfl) rfl hl (by decide) rfl (fun ls hl => ?_)
  exact w_X0_takesClauses_b2 C fu fu (0 : Int32) st hf _ _ _ (lv_sub hl [1, 0] rfl) hM
theorem c_X0_takesClauses (l : Launch) (D : va_G) (o : Nat) (ad : Nat → Nat) (cs : ClassId) (z : pp_Z) (fu : Nat) (st : mm_S) : pp_Mi l D o ad cs z yX0_takesClauses cX0_takesClauses 2 (some .boolean) 52 1845 [] st (P_X0_takesClauses z fu st) := by
  intro r st' hf
  refine pp_enter (cc := cX0_takesClauses) (nL := 2) (ret := some .boolean) (by decide) rfl (Nat.le_of_ble_eq_true rfl) ?_
  intro p e s m args below meth c ls C hl hM
  exact w_X0_takesClauses C fu st hf hl hM
