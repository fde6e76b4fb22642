/-! in -/
def tb_in : List (Nat × Instr × Nat) := [(0, .iload_n 1, 1), (1, .iload_n 2, 1), (2, .if_icmp .lt 12, 3), (5, .iload_n 1, 1), (6, .iload_n 3, 1), (7, .if_icmp .gt 7, 3), (10, .iconst 1, 1), (11, .goto 4, 3), (14, .iconst 0, 1), (15, .ireturn, 1)]
theorem td_in : tb_in.all (fun q => decide (decode cX12_in q.1 = .ok (q.2.1, q.2.2))) = true := by decide +kernel
theorem hd_in : yX12_in.cls = RX12 ∧ yX12_in.cls ≠ "java/lang/invoke/MethodHandle" ∧ yX12_in.cls ≠ "java/lang/invoke/VarHandle" ∧ (parseMethodDescriptor yX12_in.desc).map (fun d => d.parameters.length) = some 3 := by decide +kernel
theorem w_in {p : Program} {l : Launch} {e : Env} {s : State} {m : MethodId} {args : Array Value} {below : List Frame} {meth : Method} {c : Code} {D : va_G} {o : Nat} {ad : Nat → Nat} {cs : ClassId × ClassId × ClassId} {r : Int32} {st' : mm_S} (C : mm_C p s m args meth c cX12_in 4 (some .boolean) D cs) (fu : Nat) (x1 : Int32) (x2 : Int32) (x3 : Int32) (st : mm_S) (hf : M_in fu x1 x2 x3 st = some (r, st')) {H : Heap} {locs : List Loc} {ls : Array Slot} (hl : lv_has ls 4 [(0, .ref o), (1, .int x1), (2, .int x2), (3, .int x3)]) (hM : mm_H D o ad cs s.heap st H locs) : W p l e (mm_R 0 0) s m args below meth c H locs 0 0 (MQ below (mm_Qi D o ad cs r st') args s 0 0 (mm_A o ad)) (F0 m 0 ls []) := by
  unfold M_in at hf
  refine lv_iload_n C.1 C.2.1 (dd_at td_in 0 rfl) rfl (lv_at hl 1 rfl) ?_
  refine lv_iload_n C.1 C.2.1 (dd_at td_in 1 rfl) rfl (lv_at hl 2 rfl) ?_
  refine lv_icmp_lt (tgt := 14) C.1 C.2.1 (dd_at td_in 2 rfl) (by decide) (fun c1 => ?_) (fun c1 => ?_)
  · replace hf := fc_of_t hf c1
    refine lv_iconst (v := (0 : Int32)) C.1 C.2.1 (dd_at td_in 8 rfl) (by decide) ?_
    exact mm_rz C hM (dd_at td_in 9 rfl) rfl hf
  · replace hf := fc_of_f hf c1
    refine lv_iload_n C.1 C.2.1 (dd_at td_in 3 rfl) rfl (lv_at hl 1 rfl) ?_
    refine lv_iload_n C.1 C.2.1 (dd_at td_in 4 rfl) rfl (lv_at hl 3 rfl) ?_
    refine lv_icmp_gt (tgt := 14) C.1 C.2.1 (dd_at td_in 5 rfl) (by decide) (fun c2 => ?_) (fun c2 => ?_)
    · replace hf := fc_of_t hf c2
      refine lv_iconst (v := (0 : Int32)) C.1 C.2.1 (dd_at td_in 8 rfl) (by decide) ?_
      exact mm_rz C hM (dd_at td_in 9 rfl) rfl hf
    · replace hf := fc_of_f hf c2
      refine lv_iconst (v := (1 : Int32)) C.1 C.2.1 (dd_at td_in 6 rfl) (by decide) ?_
      refine lv_goto (tgt := 15) C.1 C.2.1 (dd_at td_in 7 rfl) (by decide) ?_
      exact mm_rz C hM (dd_at td_in 9 rfl) rfl hf
theorem c_in (l : Launch) (D : va_G) (o : Nat) (ad : Nat → Nat) (cs : ClassId × ClassId × ClassId) (fu : Nat) (x1 : Int32) (x2 : Int32) (x3 : Int32) (st : mm_S) : mm_Mi l D o ad cs yX12_in cX12_in 4 (some .boolean) 0 0 [.int x1, .int x2, .int x3] st (M_in fu x1 x2 x3 st) := by
  intro r st' hf
  refine mm_enter (cc := cX12_in) (nL := 4) (ret := some .boolean) (by decide) rfl (Nat.le_of_ble_eq_true rfl) ?_
  intro p e s m args below meth c ls C hl hM
  exact w_in C fu x1 x2 x3 st hf hl hM

/-! has -/
def tb_has : List (Nat × Instr × Nat) := [(0, .iload_n 1, 1), (1, .iload_n 2, 1), (2, .ishr, 1), (3, .iconst 1, 1), (4, .iand, 1), (5, .iconst 1, 1), (6, .if_icmp .ne 7, 3), (9, .iconst 1, 1), (10, .goto 4, 3), (13, .iconst 0, 1), (14, .ireturn, 1)]
theorem td_has : tb_has.all (fun q => decide (decode cX12_has q.1 = .ok (q.2.1, q.2.2))) = true := by decide +kernel
theorem hd_has : yX12_has.cls = RX12 ∧ yX12_has.cls ≠ "java/lang/invoke/MethodHandle" ∧ yX12_has.cls ≠ "java/lang/invoke/VarHandle" ∧ (parseMethodDescriptor yX12_has.desc).map (fun d => d.parameters.length) = some 2 := by decide +kernel
theorem w_has {p : Program} {l : Launch} {e : Env} {s : State} {m : MethodId} {args : Array Value} {below : List Frame} {meth : Method} {c : Code} {D : va_G} {o : Nat} {ad : Nat → Nat} {cs : ClassId × ClassId × ClassId} {r : Int32} {st' : mm_S} (C : mm_C p s m args meth c cX12_has 3 (some .boolean) D cs) (fu : Nat) (x1 : Int32) (x2 : Int32) (st : mm_S) (hf : M_has fu x1 x2 st = some (r, st')) {H : Heap} {locs : List Loc} {ls : Array Slot} (hl : lv_has ls 3 [(0, .ref o), (1, .int x1), (2, .int x2)]) (hM : mm_H D o ad cs s.heap st H locs) : W p l e (mm_R 0 0) s m args below meth c H locs 0 0 (MQ below (mm_Qi D o ad cs r st') args s 0 0 (mm_A o ad)) (F0 m 0 ls []) := by
  unfold M_has at hf
  refine lv_iload_n C.1 C.2.1 (dd_at td_has 0 rfl) rfl (lv_at hl 1 rfl) ?_
  refine lv_iload_n C.1 C.2.1 (dd_at td_has 1 rfl) rfl (lv_at hl 2 rfl) ?_
  refine lv_ishr C.1 C.2.1 (dd_at td_has 2 rfl) ?_
  refine lv_iconst (v := (1 : Int32)) C.1 C.2.1 (dd_at td_has 3 rfl) (by decide) ?_
  refine lv_iand C.1 C.2.1 (dd_at td_has 4 rfl) ?_
  refine lv_iconst (v := (1 : Int32)) C.1 C.2.1 (dd_at td_has 5 rfl) (by decide) ?_
  refine lv_icmp_ne (tgt := 13) C.1 C.2.1 (dd_at td_has 6 rfl) (by decide) (fun c1 => ?_) (fun c1 => ?_)
  · replace hf := fc_of_f hf c1
    refine lv_iconst (v := (0 : Int32)) C.1 C.2.1 (dd_at td_has 9 rfl) (by decide) ?_
    exact mm_rz C hM (dd_at td_has 10 rfl) rfl hf
  · replace hf := fc_of_t hf c1
    refine lv_iconst (v := (1 : Int32)) C.1 C.2.1 (dd_at td_has 7 rfl) (by decide) ?_
    refine lv_goto (tgt := 14) C.1 C.2.1 (dd_at td_has 8 rfl) (by decide) ?_
    exact mm_rz C hM (dd_at td_has 10 rfl) rfl hf
theorem c_has (l : Launch) (D : va_G) (o : Nat) (ad : Nat → Nat) (cs : ClassId × ClassId × ClassId) (fu : Nat) (x1 : Int32) (x2 : Int32) (st : mm_S) : mm_Mi l D o ad cs yX12_has cX12_has 3 (some .boolean) 0 0 [.int x1, .int x2] st (M_has fu x1 x2 st) := by
  intro r st' hf
  refine mm_enter (cc := cX12_has) (nL := 3) (ret := some .boolean) (by decide) rfl (Nat.le_of_ble_eq_true rfl) ?_
  intro p e s m args below meth c ls C hl hM
  exact w_has C fu x1 x2 st hf hl hM

/-! bits -/
def tb_bits : List (Nat × Instr × Nat) := [(0, .iconst 0, 1), (1, .istore_n 2, 1), (2, .iconst 0, 1), (3, .istore_n 3, 1), (4, .iload_n 3, 1), (5, .bipush 8, 2), (7, .if_icmp .ge 26, 3), (10, .iload_n 2, 1), (11, .aload_n 0, 1), (12, .iload_n 1, 1), (13, .iload_n 3, 1), (14, .invokevirtual 203, 3), (17, .ifCond .eq 7, 3), (20, .iconst 1, 1), (21, .goto 4, 3), (24, .iconst 0, 1), (25, .iadd, 1), (26, .istore_n 2, 1), (27, .iinc 3 1, 3), (30, .goto (-26), 3), (33, .iload_n 2, 1), (34, .ireturn, 1)]
theorem td_bits : tb_bits.all (fun q => decide (decode cX12_bits q.1 = .ok (q.2.1, q.2.2))) = true := by decide +kernel
theorem hd_bits : yX12_bits.cls = RX12 ∧ yX12_bits.cls ≠ "java/lang/invoke/MethodHandle" ∧ yX12_bits.cls ≠ "java/lang/invoke/VarHandle" ∧ (parseMethodDescriptor yX12_bits.desc).map (fun d => d.parameters.length) = some 1 := by decide +kernel
theorem w_bits_b25 {p : Program} {l : Launch} {e : Env} {s : State} {m : MethodId} {args : Array Value} {below : List Frame} {meth : Method} {c : Code} {D : va_G} {o : Nat} {ad : Nat → Nat} {cs : ClassId × ClassId × ClassId} {r : Int32} {st' : mm_S} (C : mm_C p s m args meth c cX12_bits 4 (some .int) D cs) (fu : Nat) (K4 : Int32 → Int32 → Int32 → mm_S → Option (Int32 × mm_S)) (hK4 : ∀ (x1 : Int32) (x2 : Int32) (x3 : Int32) (st : mm_S) (H : Heap) (locs : List Loc) (ls : Array Slot), K4 x1 x2 x3 st = some (r, st') → lv_has ls 4 [(0, .ref o), (1, .int x1), (2, .int x2), (3, .int x3)] → mm_H D o ad cs s.heap st H locs → W p l e (mm_R 1 22) s m args below meth c H locs 0 0 (MQ below (mm_Qi D o ad cs r st') args s 0 0 (mm_A o ad)) (F0 m 4 ls [])) (x1 : Int32) (x3 : Int32) (s0 : Int32) (s1 : Int32) (st : mm_S) (hf : M_bits_b25 fu K4 x1 x3 s0 s1 st = some (r, st')) {H : Heap} {locs : List Loc} {ls : Array Slot} (hl : lv_has ls 4 [(0, .ref o), (1, .int x1), (3, .int x3)]) (hM : mm_H D o ad cs s.heap st H locs) : W p l e (mm_R 1 22) s m args below meth c H locs 0 0 (MQ below (mm_Qi D o ad cs r st') args s 0 0 (mm_A o ad)) (F0 m 25 ls [.int s0, .int s1]) := by
  unfold M_bits_b25 at hf
  refine lv_iadd C.1 C.2.1 (dd_at td_bits 16 rfl) ?_
  refine lv_topi (fun v6 ev6 => ?_)
  replace hf := fc_of_nm hf v6 ev6
  refine lv_istore_n (lv' := [(2, .int v6), (0, .ref o), (1, .int x1), (3, .int x3)]) C.1 C.2.1 (dd_at td_bits 17 rfl) rfl hl (by decide) rfl (fun ls hl => ?_)
  obtain ⟨v7, ev7⟩ : ∃ y : Int32, y = x3 + (1 : Int32) := ⟨_, rfl⟩
  replace hf := fc_of_nm hf v7 ev7
  refine lv_iinc (v := v7) (lv' := [(3, .int v7), (2, .int v6), (0, .ref o), (1, .int x1)]) C.1 C.2.1 (dd_at td_bits 18 rfl) hl (k := 3) rfl (by rw [ev7]; rfl) (by decide) rfl (fun ls hl => ?_)
  refine lv_goto (tgt := 4) C.1 C.2.1 (dd_at td_bits 19 rfl) (by decide) ?_
  exact hK4 x1 v6 v7 st _ _ _ hf (lv_sub hl [2, 3, 1, 0] rfl) hM
theorem w_bits_b4F {p : Program} {l : Launch} {e : Env} {s : State} {m : MethodId} {args : Array Value} {below : List Frame} {meth : Method} {c : Code} {D : va_G} {o : Nat} {ad : Nat → Nat} {cs : ClassId × ClassId × ClassId} {r : Int32} {st' : mm_S} (C : mm_C p s m args meth c cX12_bits 4 (some .int) D cs) (fu : Nat) (K4 : Int32 → Int32 → Int32 → mm_S → Option (Int32 × mm_S)) (hK4 : ∀ (x1 : Int32) (x2 : Int32) (x3 : Int32) (st : mm_S) (H : Heap) (locs : List Loc) (ls : Array Slot), K4 x1 x2 x3 st = some (r, st') → lv_has ls 4 [(0, .ref o), (1, .int x1), (2, .int x2), (3, .int x3)] → mm_H D o ad cs s.heap st H locs → W p l e (mm_R 1 22) s m args below meth c H locs 0 0 (MQ below (mm_Qi D o ad cs r st') args s 0 0 (mm_A o ad)) (F0 m 4 ls [])) (x1 : Int32) (x2 : Int32) (x3 : Int32) (st : mm_S) (hf : M_bits_b4F fu K4 x1 x2 x3 st = some (r, st')) {H : Heap} {locs : List Loc} {ls : Array Slot} (hl : lv_has ls 4 [(0, .ref o), (1, .int x1), (2, .int x2), (3, .int x3)]) (hM : mm_H D o ad cs s.heap st H locs) : W p l e (mm_R 1 22) s m args below meth c H locs 0 0 (MQ below (mm_Qi D o ad cs r st') args s 0 0 (mm_A o ad)) (F0 m 4 ls []) := by
  unfold M_bits_b4F at hf
  refine lv_iload_n C.1 C.2.1 (dd_at td_bits 4 rfl) rfl (lv_at hl 3 rfl) ?_
  refine lv_bipush (v := (8 : Int32)) C.1 C.2.1 (dd_at td_bits 5 rfl) (by decide) ?_
  refine lv_icmp_ge (tgt := 33) C.1 C.2.1 (dd_at td_bits 6 rfl) (by decide) (fun c1 => ?_) (fun c1 => ?_)
  · replace hf := fc_of_t hf c1
    refine lv_iload_n C.1 C.2.1 (dd_at td_bits 20 rfl) rfl (lv_at hl 2 rfl) ?_
    exact mm_ri C hM (dd_at td_bits 21 rfl) hf
  · replace hf := fc_of_f hf c1
    refine lv_iload_n C.1 C.2.1 (dd_at td_bits 7 rfl) rfl (lv_at hl 2 rfl) ?_
    refine lv_aload_n C.1 C.2.1 (dd_at td_bits 8 rfl) rfl (lv_at hl 0 rfl) ?_
    refine lv_iload_n C.1 C.2.1 (dd_at td_bits 9 rfl) rfl (lv_at hl 1 rfl) ?_
    refine lv_iload_n C.1 C.2.1 (dd_at td_bits 10 rfl) rfl (lv_at hl 3 rfl) ?_
    obtain ⟨r4, st2, hx3, hf⟩ := fc_of_bn hf
    refine mm_ci (As := [.int x1, .int x3]) (rest := [.int x2]) (n := 2) C hM (c_has l D o ad cs fu x1 x3 st) (List.mem_of_getElem? (i := 13) rfl) (dd_at td_bits 11 rfl) hx3 hl.1 hd_has ⟨Nat.le_of_ble_eq_true rfl, Nat.le_of_ble_eq_true rfl⟩ rfl rfl (Nat.le_of_ble_eq_true rfl) ⟨Nat.le_refl 0, Nat.le_refl 0⟩ (fun H locs hM => ?_)
    refine lv_if_eq (tgt := 24) C.1 C.2.1 (dd_at td_bits 12 rfl) (by decide) (fun c5 => ?_) (fun c5 => ?_)
    · replace hf := fc_of_t hf c5
      refine lv_iconst (v := (0 : Int32)) C.1 C.2.1 (dd_at td_bits 15 rfl) (by decide) ?_
      exact w_bits_b25 C fu K4 hK4 x1 x3 (0 : Int32) x2 st2 hf (lv_sub hl [0, 1, 3] rfl) hM
    · replace hf := fc_of_f hf c5
      refine lv_iconst (v := (1 : Int32)) C.1 C.2.1 (dd_at td_bits 13 rfl) (by decide) ?_
      refine lv_goto (tgt := 25) C.1 C.2.1 (dd_at td_bits 14 rfl) (by decide) ?_
      exact w_bits_b25 C fu K4 hK4 x1 x3 (1 : Int32) x2 st2 hf (lv_sub hl [0, 1, 3] rfl) hM
theorem w_bits_b4 {p : Program} {l : Launch} {e : Env} {s : State} {m : MethodId} {args : Array Value} {below : List Frame} {meth : Method} {c : Code} {D : va_G} {o : Nat} {ad : Nat → Nat} {cs : ClassId × ClassId × ClassId} {r : Int32} {st' : mm_S} (C : mm_C p s m args meth c cX12_bits 4 (some .int) D cs) (fu : Nat) (n : Nat) : ∀ (x1 : Int32) (x2 : Int32) (x3 : Int32) (st : mm_S), M_bits_b4 fu n x1 x2 x3 st = some (r, st') → ∀ (H : Heap) (locs : List Loc) (ls : Array Slot), lv_has ls 4 [(0, .ref o), (1, .int x1), (2, .int x2), (3, .int x3)] → mm_H D o ad cs s.heap st H locs → W p l e (mm_R 1 22) s m args below meth c H locs 0 0 (MQ below (mm_Qi D o ad cs r st') args s 0 0 (mm_A o ad)) (F0 m 4 ls []) := by
  induction n with
  | zero => exact fun _ _ _ _ hf => fc_no hf
  | succ n ih =>
    intro x1 x2 x3 st hf H locs ls hl hM
    exact w_bits_b4F C fu (fun x1 x2 x3 st => M_bits_b4 fu n x1 x2 x3 st) (fun x1 x2 x3 st H locs ls hf hl hM => ih x1 x2 x3 st hf H locs ls hl hM) x1 x2 x3 st hf hl hM
theorem w_bits {p : Program} {l : Launch} {e : Env} {s : State} {m : MethodId} {args : Array Value} {below : List Frame} {meth : Method} {c : Code} {D : va_G} {o : Nat} {ad : Nat → Nat} {cs : ClassId × ClassId × ClassId} {r : Int32} {st' : mm_S} (C : mm_C p s m args meth c cX12_bits 4 (some .int) D cs) (fu : Nat) (x1 : Int32) (st : mm_S) (hf : M_bits fu x1 st = some (r, st')) {H : Heap} {locs : List Loc} {ls : Array Slot} (hl : lv_has ls 4 [(0, .ref o), (1, .int x1)]) (hM : mm_H D o ad cs s.heap st H locs) : W p l e (mm_R 1 22) s m args below meth c H locs 0 0 (MQ below (mm_Qi D o ad cs r st') args s 0 0 (mm_A o ad)) (F0 m 0 ls []) := by
  unfold M_bits at hf
  refine lv_iconst (v := (0 : Int32)) C.1 C.2.1 (dd_at td_bits 0 rfl) (by decide) ?_
  refine lv_istore_n (lv' := [(2, .int (0 : Int32)), (0, .ref o), (1, .int x1)]) C.1 C.2.1 (dd_at td_bits 1 rfl) rfl hl (by decide) rfl (fun ls hl => ?_)
  refine lv_iconst (v := (0 : Int32)) C.1 C.2.1 (dd_at td_bits 2 rfl) (by decide) ?_
  refine lv_istore_n (lv' := [(3, .int (0 : Int32)), (2, .int (0 : Int32)), (0, .ref o), (1, .int x1)]) C.1 C.2.1 (dd_at td_bits 3 rfl) rfl hl (by decide) rfl (fun ls hl => ?_)
  exact w_bits_b4 C fu fu x1 (0 : Int32) (0 : Int32) st hf _ _ _ (lv_sub hl [2, 3, 1, 0] rfl) hM
theorem c_bits (l : Launch) (D : va_G) (o : Nat) (ad : Nat → Nat) (cs : ClassId × ClassId × ClassId) (fu : Nat) (x1 : Int32) (st : mm_S) : mm_Mi l D o ad cs yX12_bits cX12_bits 4 (some .int) 1 22 [.int x1] st (M_bits fu x1 st) := by
  intro r st' hf
  refine mm_enter (cc := cX12_bits) (nL := 4) (ret := some .int) (by decide) rfl (Nat.le_of_ble_eq_true rfl) ?_
  intro p e s m args below meth c ls C hl hM
  exact w_bits C fu x1 st hf hl hM

/-! isNeed -/
def tb_isNeed : List (Nat × Instr × Nat) := [(0, .aload_n 0, 1), (1, .iload_n 1, 1), (2, .iconst 0, 1), (3, .aload_n 0, 1), (4, .getfield 7, 3), (7, .iconst 1, 1), (8, .isub, 1), (9, .invokevirtual 207, 3), (12, .ireturn, 1)]
theorem td_isNeed : tb_isNeed.all (fun q => decide (decode cX12_isNeed q.1 = .ok (q.2.1, q.2.2))) = true := by decide +kernel
theorem hd_isNeed : yX12_isNeed.cls = RX12 ∧ yX12_isNeed.cls ≠ "java/lang/invoke/MethodHandle" ∧ yX12_isNeed.cls ≠ "java/lang/invoke/VarHandle" ∧ (parseMethodDescriptor yX12_isNeed.desc).map (fun d => d.parameters.length) = some 1 := by decide +kernel
theorem w_isNeed {p : Program} {l : Launch} {e : Env} {s : State} {m : MethodId} {args : Array Value} {below : List Frame} {meth : Method} {c : Code} {D : va_G} {o : Nat} {ad : Nat → Nat} {cs : ClassId × ClassId × ClassId} {r : Int32} {st' : mm_S} (C : mm_C p s m args meth c cX12_isNeed 2 (some .boolean) D cs) (fu : Nat) (x1 : Int32) (st : mm_S) (hf : M_isNeed fu x1 st = some (r, st')) {H : Heap} {locs : List Loc} {ls : Array Slot} (hl : lv_has ls 2 [(0, .ref o), (1, .int x1)]) (hM : mm_H D o ad cs s.heap st H locs) : W p l e (mm_R 1 23) s m args below meth c H locs 0 0 (MQ below (mm_Qi D o ad cs r st') args s 0 0 (mm_A o ad)) (F0 m 0 ls []) := by
  unfold M_isNeed at hf
  refine lv_aload_n C.1 C.2.1 (dd_at td_isNeed 0 rfl) rfl (lv_at hl 0 rfl) ?_
  refine lv_iload_n C.1 C.2.1 (dd_at td_isNeed 1 rfl) rfl (lv_at hl 1 rfl) ?_
  refine lv_iconst (v := (0 : Int32)) C.1 C.2.1 (dd_at td_isNeed 2 rfl) (by decide) ?_
  refine lv_aload_n C.1 C.2.1 (dd_at td_isNeed 3 rfl) rfl (lv_at hl 0 rfl) ?_
  refine mm_gI C hM 0 (dd_at td_isNeed 4 rfl) (by decide) (by decide) (by decide) ?_
  refine lv_iconst (v := (1 : Int32)) C.1 C.2.1 (dd_at td_isNeed 5 rfl) (by decide) ?_
  refine lv_isub C.1 C.2.1 (dd_at td_isNeed 6 rfl) ?_
  obtain ⟨r3, st1, hx2, hf⟩ := fc_of_bn hf
  refine mm_ci (As := [.int x1, .int (0 : Int32), .int ((mm_I st 0) - (1 : Int32))]) (rest := []) (n := 3) C hM (c_in l D o ad cs fu x1 (0 : Int32) ((mm_I st 0) - (1 : Int32)) st) (List.mem_of_getElem? (i := 18) rfl) (dd_at td_isNeed 7 rfl) hx2 hl.1 hd_in ⟨Nat.le_of_ble_eq_true rfl, Nat.le_of_ble_eq_true rfl⟩ rfl rfl (Nat.le_of_ble_eq_true rfl) ⟨Nat.le_refl 0, Nat.le_refl 0⟩ (fun H locs hM => ?_)
  obtain ⟨g4, hf⟩ := fc_of_gd hf
  exact mm_rz C hM (dd_at td_isNeed 8 rfl) (fc_of_zb g4) hf
theorem c_isNeed (l : Launch) (D : va_G) (o : Nat) (ad : Nat → Nat) (cs : ClassId × ClassId × ClassId) (fu : Nat) (x1 : Int32) (st : mm_S) : mm_Mi l D o ad cs yX12_isNeed cX12_isNeed 2 (some .boolean) 1 23 [.int x1] st (M_isNeed fu x1 st) := by
  intro r st' hf
  refine mm_enter (cc := cX12_isNeed) (nL := 2) (ret := some .boolean) (by decide) rfl (Nat.le_of_ble_eq_true rfl) ?_
  intro p e s m args below meth c ls C hl hM
  exact w_isNeed C fu x1 st hf hl hM

/-! isDarks -/
def tb_isDarks : List (Nat × Instr × Nat) := [(0, .aload_n 0, 1), (1, .iload_n 1, 1), (2, .iconst 0, 1), (3, .bipush 8, 2), (5, .invokevirtual 207, 3), (8, .ireturn, 1)]
theorem td_isDarks : tb_isDarks.all (fun q => decide (decode cX12_isDarks q.1 = .ok (q.2.1, q.2.2))) = true := by decide +kernel
theorem hd_isDarks : yX12_isDarks.cls = RX12 ∧ yX12_isDarks.cls ≠ "java/lang/invoke/MethodHandle" ∧ yX12_isDarks.cls ≠ "java/lang/invoke/VarHandle" ∧ (parseMethodDescriptor yX12_isDarks.desc).map (fun d => d.parameters.length) = some 1 := by decide +kernel
theorem w_isDarks {p : Program} {l : Launch} {e : Env} {s : State} {m : MethodId} {args : Array Value} {below : List Frame} {meth : Method} {c : Code} {D : va_G} {o : Nat} {ad : Nat → Nat} {cs : ClassId × ClassId × ClassId} {r : Int32} {st' : mm_S} (C : mm_C p s m args meth c cX12_isDarks 2 (some .boolean) D cs) (fu : Nat) (x1 : Int32) (st : mm_S) (hf : M_isDarks fu x1 st = some (r, st')) {H : Heap} {locs : List Loc} {ls : Array Slot} (hl : lv_has ls 2 [(0, .ref o), (1, .int x1)]) (hM : mm_H D o ad cs s.heap st H locs) : W p l e (mm_R 1 23) s m args below meth c H locs 0 0 (MQ below (mm_Qi D o ad cs r st') args s 0 0 (mm_A o ad)) (F0 m 0 ls []) := by
  unfold M_isDarks at hf
  refine lv_aload_n C.1 C.2.1 (dd_at td_isDarks 0 rfl) rfl (lv_at hl 0 rfl) ?_
  refine lv_iload_n C.1 C.2.1 (dd_at td_isDarks 1 rfl) rfl (lv_at hl 1 rfl) ?_
  refine lv_iconst (v := (0 : Int32)) C.1 C.2.1 (dd_at td_isDarks 2 rfl) (by decide) ?_
  refine lv_bipush (v := (8 : Int32)) C.1 C.2.1 (dd_at td_isDarks 3 rfl) (by decide) ?_
  obtain ⟨r3, st1, hx2, hf⟩ := fc_of_bn hf
  refine mm_ci (As := [.int x1, .int (0 : Int32), .int (8 : Int32)]) (rest := []) (n := 3) C hM (c_in l D o ad cs fu x1 (0 : Int32) (8 : Int32) st) (List.mem_of_getElem? (i := 18) rfl) (dd_at td_isDarks 4 rfl) hx2 hl.1 hd_in ⟨Nat.le_of_ble_eq_true rfl, Nat.le_of_ble_eq_true rfl⟩ rfl rfl (Nat.le_of_ble_eq_true rfl) ⟨Nat.le_refl 0, Nat.le_refl 0⟩ (fun H locs hM => ?_)
  obtain ⟨g4, hf⟩ := fc_of_gd hf
  exact mm_rz C hM (dd_at td_isDarks 5 rfl) (fc_of_zb g4) hf
theorem c_isDarks (l : Launch) (D : va_G) (o : Nat) (ad : Nat → Nat) (cs : ClassId × ClassId × ClassId) (fu : Nat) (x1 : Int32) (st : mm_S) : mm_Mi l D o ad cs yX12_isDarks cX12_isDarks 2 (some .boolean) 1 23 [.int x1] st (M_isDarks fu x1 st) := by
  intro r st' hf
  refine mm_enter (cc := cX12_isDarks) (nL := 2) (ret := some .boolean) (by decide) rfl (Nat.le_of_ble_eq_true rfl) ?_
  intro p e s m args below meth c ls C hl hM
  exact w_isDarks C fu x1 st hf hl hM

/-! need -/
def tb_need : List (Nat × Instr × Nat) := [(0, .aload_n 0, 1), (1, .iload_n 1, 1), (2, .iconst 0, 1), (3, .bipush 6, 2), (5, .invokevirtual 207, 3), (8, .ifCond .ne 5, 3), (11, .iconst (-1), 1), (12, .ireturn, 1), (13, .aload_n 0, 1), (14, .iload_n 2, 1), (15, .iconst 0, 1), (16, .bipush 9, 2), (18, .invokevirtual 207, 3), (21, .ifCond .ne 6, 3), (24, .bipush (-2), 2), (26, .ireturn, 1), (27, .aload_n 0, 1), (28, .getfield 7, 3), (31, .bipush 6, 2), (33, .if_icmp .ne 6, 3), (36, .bipush (-4), 2), (38, .ireturn, 1), (39, .aload_n 0, 1), (40, .getfield 22, 3), (43, .aload_n 0, 1), (44, .getfield 7, 3), (47, .iload_n 1, 1), (48, .iastore, 1), (49, .aload_n 0, 1), (50, .getfield 26, 3), (53, .aload_n 0, 1), (54, .getfield 7, 3), (57, .iload_n 2, 1), (58, .iastore, 1), (59, .aload_n 0, 1), (60, .getfield 29, 3), (63, .aload_n 0, 1), (64, .getfield 7, 3), (67, .iconst 0, 1), (68, .iastore, 1), (69, .iconst 0, 1), (70, .istore_n 3, 1), (71, .iload_n 3, 1), (72, .iconst 4, 1), (73, .if_icmp .ge 23, 3), (76, .aload_n 0, 1), (77, .getfield 32, 3), (80, .iconst 4, 1), (81, .aload_n 0, 1), (82, .getfield 7, 3), (85, .imul, 1), (86, .iload_n 3, 1), (87, .iadd, 1), (88, .iconst 0, 1), (89, .iastore, 1), (90, .iinc 3 1, 3), (93, .goto (-22), 3), (96, .aload_n 0, 1), (97, .dup, 1), (98, .getfield 7, 3), (101, .iconst 1, 1), (102, .iadd, 1), (103, .putfield 7, 3), (106, .aload_n 0, 1), (107, .getfield 7, 3), (110, .iconst 1, 1), (111, .isub, 1), (112, .ireturn, 1)]
theorem td_need : tb_need.all (fun q => decide (decode cX12_need q.1 = .ok (q.2.1, q.2.2))) = true := by decide +kernel
theorem w_need_b71F {p : Program} {l : Launch} {e : Env} {s : State} {m : MethodId} {args : Array Value} {below : List Frame} {meth : Method} {c : Code} {D : va_G} {o : Nat} {ad : Nat → Nat} {cs : ClassId × ClassId × ClassId} {r : Int32} {st' : mm_S} (C : mm_C p s m args meth c cX12_need 4 (some .int) D cs) (fu : Nat) (K71 : Int32 → mm_S → Option (Int32 × mm_S)) (hK71 : ∀ (x3 : Int32) (st : mm_S) (H : Heap) (locs : List Loc) (ls : Array Slot), K71 x3 st = some (r, st') → lv_has ls 4 [(0, .ref o), (3, .int x3)] → mm_H D o ad cs s.heap st H locs → W p l e (mm_R 1 23) s m args below meth c H locs 0 0 (MQ below (mm_Qi D o ad cs r st') args s 0 0 (mm_A o ad)) (F0 m 71 ls [])) (x3 : Int32) (st : mm_S) (hf : M_need_b71F fu K71 x3 st = some (r, st')) {H : Heap} {locs : List Loc} {ls : Array Slot} (hl : lv_has ls 4 [(0, .ref o), (3, .int x3)]) (hM : mm_H D o ad cs s.heap st H locs) : W p l e (mm_R 1 23) s m args below meth c H locs 0 0 (MQ below (mm_Qi D o ad cs r st') args s 0 0 (mm_A o ad)) (F0 m 71 ls []) := by
  unfold M_need_b71F at hf
  refine lv_iload_n C.1 C.2.1 (dd_at td_need 42 rfl) rfl (lv_at hl 1 rfl) ?_
  refine lv_iconst (v := (4 : Int32)) C.1 C.2.1 (dd_at td_need 43 rfl) (by decide) ?_
  refine lv_icmp_ge (tgt := 96) C.1 C.2.1 (dd_at td_need 44 rfl) (by decide) (fun c16 => ?_) (fun c16 => ?_)
  · replace hf := fc_of_t hf c16
    refine lv_aload_n C.1 C.2.1 (dd_at td_need 57 rfl) rfl (lv_at hl 0 rfl) ?_
    refine lv_dup C.1 C.2.1 (dd_at td_need 58 rfl) rfl ?_
    refine mm_gI C hM 0 (dd_at td_need 59 rfl) (by decide) (by decide) (by decide) ?_
    refine lv_iconst (v := (1 : Int32)) C.1 C.2.1 (dd_at td_need 60 rfl) (by decide) ?_
    refine lv_iadd C.1 C.2.1 (dd_at td_need 61 rfl) ?_
    refine mm_pI C hM 0 (dd_at td_need 62 rfl) (by decide) (by decide) (by decide) rfl rfl (fun st17 H locs est17 hM => ?_)
    replace hf := fc_of_nm hf st17 est17
    refine lv_aload_n C.1 C.2.1 (dd_at td_need 63 rfl) rfl (lv_at hl 0 rfl) ?_
    refine mm_gI C hM 0 (dd_at td_need 64 rfl) (by decide) (by decide) (by decide) ?_
    refine lv_iconst (v := (1 : Int32)) C.1 C.2.1 (dd_at td_need 65 rfl) (by decide) ?_
    refine lv_isub C.1 C.2.1 (dd_at td_need 66 rfl) ?_
    exact mm_ri C hM (dd_at td_need 67 rfl) hf
  · replace hf := fc_of_f hf c16
    refine lv_aload_n C.1 C.2.1 (dd_at td_need 45 rfl) rfl (lv_at hl 0 rfl) ?_
    refine mm_gA C hM 7 (dd_at td_need 46 rfl) (by decide) (by decide) (by decide) ?_
    refine lv_iconst (v := (4 : Int32)) C.1 C.2.1 (dd_at td_need 47 rfl) (by decide) ?_
    refine lv_aload_n C.1 C.2.1 (dd_at td_need 48 rfl) rfl (lv_at hl 0 rfl) ?_
    refine mm_gI C hM 0 (dd_at td_need 49 rfl) (by decide) (by decide) (by decide) ?_
    refine lv_imul C.1 C.2.1 (dd_at td_need 50 rfl) ?_
    refine lv_iload_n C.1 C.2.1 (dd_at td_need 51 rfl) rfl (lv_at hl 1 rfl) ?_
    refine lv_iadd C.1 C.2.1 (dd_at td_need 52 rfl) ?_
    refine lv_iconst (v := (0 : Int32)) C.1 C.2.1 (dd_at td_need 53 rfl) (by decide) ?_
    obtain ⟨g18, hf⟩ := fc_of_gd hf
    refine mm_iast C hM 7 (dd_at td_need 54 rfl) (by decide) (by decide) (fc_of_ix g18) (fun st19 H locs est19 hM => ?_)
    replace hf := fc_of_nm hf st19 est19
    obtain ⟨v20, ev20⟩ : ∃ y : Int32, y = x3 + (1 : Int32) := ⟨_, rfl⟩
    replace hf := fc_of_nm hf v20 ev20
    refine lv_iinc (v := v20) (lv' := [(3, .int v20), (0, .ref o)]) C.1 C.2.1 (dd_at td_need 55 rfl) hl (k := 1) rfl (by rw [ev20]; rfl) (by decide) rfl (fun ls hl => ?_)
    refine lv_goto (tgt := 71) C.1 C.2.1 (dd_at td_need 56 rfl) (by decide) ?_
    exact hK71 v20 st19 _ _ _ hf (lv_sub hl [1, 0] rfl) hM
theorem w_need_b71 {p : Program} {l : Launch} {e : Env} {s : State} {m : MethodId} {args : Array Value} {below : List Frame} {meth : Method} {c : Code} {D : va_G} {o : Nat} {ad : Nat → Nat} {cs : ClassId × ClassId × ClassId} {r : Int32} {st' : mm_S} (C : mm_C p s m args meth c cX12_need 4 (some .int) D cs) (fu : Nat) (n : Nat) : ∀ (x3 : Int32) (st : mm_S), M_need_b71 fu n x3 st = some (r, st') → ∀ (H : Heap) (locs : List Loc) (ls : Array Slot), lv_has ls 4 [(0, .ref o), (3, .int x3)] → mm_H D o ad cs s.heap st H locs → W p l e (mm_R 1 23) s m args below meth c H locs 0 0 (MQ below (mm_Qi D o ad cs r st') args s 0 0 (mm_A o ad)) (F0 m 71 ls []) := by
  induction n with
  | zero => exact fun _ _ hf => fc_no hf
  | succ n ih =>
    intro x3 st hf H locs ls hl hM
    exact w_need_b71F C fu (fun x3 st => M_need_b71 fu n x3 st) (fun x3 st H locs ls hf hl hM => ih x3 st hf H locs ls hl hM) x3 st hf hl hM
theorem w_need {p : Program} {l : Launch} {e : Env} {s : State} {m : MethodId} {args : Array Value} {below : List Frame} {meth : Method} {c : Code} {D : va_G} {o : Nat} {ad : Nat → Nat} {cs : ClassId × ClassId × ClassId} {r : Int32} {st' : mm_S} (C : mm_C p s m args meth c cX12_need 4 (some .int) D cs) (fu : Nat) (x1 : Int32) (x2 : Int32) (st : mm_S) (hf : M_need fu x1 x2 st = some (r, st')) {H : Heap} {locs : List Loc} {ls : Array Slot} (hl : lv_has ls 4 [(0, .ref o), (1, .int x1), (2, .int x2)]) (hM : mm_H D o ad cs s.heap st H locs) : W p l e (mm_R 1 23) s m args below meth c H locs 0 0 (MQ below (mm_Qi D o ad cs r st') args s 0 0 (mm_A o ad)) (F0 m 0 ls []) := by
  unfold M_need at hf
  refine lv_aload_n C.1 C.2.1 (dd_at td_need 0 rfl) rfl (lv_at hl 0 rfl) ?_
  refine lv_iload_n C.1 C.2.1 (dd_at td_need 1 rfl) rfl (lv_at hl 1 rfl) ?_
  refine lv_iconst (v := (0 : Int32)) C.1 C.2.1 (dd_at td_need 2 rfl) (by decide) ?_
  refine lv_bipush (v := (6 : Int32)) C.1 C.2.1 (dd_at td_need 3 rfl) (by decide) ?_
  obtain ⟨r3, st1, hx2, hf⟩ := fc_of_bn hf
  refine mm_ci (As := [.int x1, .int (0 : Int32), .int (6 : Int32)]) (rest := []) (n := 3) C hM (c_in l D o ad cs fu x1 (0 : Int32) (6 : Int32) st) (List.mem_of_getElem? (i := 18) rfl) (dd_at td_need 4 rfl) hx2 hl.1 hd_in ⟨Nat.le_of_ble_eq_true rfl, Nat.le_of_ble_eq_true rfl⟩ rfl rfl (Nat.le_of_ble_eq_true rfl) ⟨Nat.le_refl 0, Nat.le_refl 0⟩ (fun H locs hM => ?_)
  refine lv_if_ne (tgt := 13) C.1 C.2.1 (dd_at td_need 5 rfl) (by decide) (fun c4 => ?_) (fun c4 => ?_)
  · replace hf := fc_of_f hf c4
    refine lv_aload_n C.1 C.2.1 (dd_at td_need 8 rfl) rfl (lv_at hl 0 rfl) ?_
    refine lv_iload_n C.1 C.2.1 (dd_at td_need 9 rfl) rfl (lv_at hl 2 rfl) ?_
    refine lv_iconst (v := (0 : Int32)) C.1 C.2.1 (dd_at td_need 10 rfl) (by decide) ?_
    refine lv_bipush (v := (9 : Int32)) C.1 C.2.1 (dd_at td_need 11 rfl) (by decide) ?_
    obtain ⟨r7, st5, hx6, hf⟩ := fc_of_bn hf
    refine mm_ci (As := [.int x2, .int (0 : Int32), .int (9 : Int32)]) (rest := []) (n := 3) C hM (c_in l D o ad cs fu x2 (0 : Int32) (9 : Int32) st1) (List.mem_of_getElem? (i := 18) rfl) (dd_at td_need 12 rfl) hx6 hl.1 hd_in ⟨Nat.le_of_ble_eq_true rfl, Nat.le_of_ble_eq_true rfl⟩ rfl rfl (Nat.le_of_ble_eq_true rfl) ⟨Nat.le_refl 0, Nat.le_refl 0⟩ (fun H locs hM => ?_)
    refine lv_if_ne (tgt := 27) C.1 C.2.1 (dd_at td_need 13 rfl) (by decide) (fun c8 => ?_) (fun c8 => ?_)
    · replace hf := fc_of_f hf c8
      refine lv_aload_n C.1 C.2.1 (dd_at td_need 16 rfl) rfl (lv_at hl 0 rfl) ?_
      refine mm_gI C hM 0 (dd_at td_need 17 rfl) (by decide) (by decide) (by decide) ?_
      refine lv_bipush (v := (6 : Int32)) C.1 C.2.1 (dd_at td_need 18 rfl) (by decide) ?_
      refine lv_icmp_ne (tgt := 39) C.1 C.2.1 (dd_at td_need 19 rfl) (by decide) (fun c9 => ?_) (fun c9 => ?_)
      · replace hf := fc_of_f hf c9
        refine lv_aload_n C.1 C.2.1 (dd_at td_need 22 rfl) rfl (lv_at hl 0 rfl) ?_
        refine mm_gA C hM 4 (dd_at td_need 23 rfl) (by decide) (by decide) (by decide) ?_
        refine lv_aload_n C.1 C.2.1 (dd_at td_need 24 rfl) rfl (lv_at hl 0 rfl) ?_
        refine mm_gI C hM 0 (dd_at td_need 25 rfl) (by decide) (by decide) (by decide) ?_
        refine lv_iload_n C.1 C.2.1 (dd_at td_need 26 rfl) rfl (lv_at hl 1 rfl) ?_
        obtain ⟨g10, hf⟩ := fc_of_gd hf
        refine mm_iast C hM 4 (dd_at td_need 27 rfl) (by decide) (by decide) (fc_of_ix g10) (fun st11 H locs est11 hM => ?_)
        replace hf := fc_of_nm hf st11 est11
        refine lv_aload_n C.1 C.2.1 (dd_at td_need 28 rfl) rfl (lv_at hl 0 rfl) ?_
        refine mm_gA C hM 5 (dd_at td_need 29 rfl) (by decide) (by decide) (by decide) ?_
        refine lv_aload_n C.1 C.2.1 (dd_at td_need 30 rfl) rfl (lv_at hl 0 rfl) ?_
        refine mm_gI C hM 0 (dd_at td_need 31 rfl) (by decide) (by decide) (by decide) ?_
        refine lv_iload_n C.1 C.2.1 (dd_at td_need 32 rfl) rfl (lv_at hl 2 rfl) ?_
        obtain ⟨g12, hf⟩ := fc_of_gd hf
        refine mm_iast C hM 5 (dd_at td_need 33 rfl) (by decide) (by decide) (fc_of_ix g12) (fun st13 H locs est13 hM => ?_)
        replace hf := fc_of_nm hf st13 est13
        refine lv_aload_n C.1 C.2.1 (dd_at td_need 34 rfl) rfl (lv_at hl 0 rfl) ?_
        refine mm_gA C hM 6 (dd_at td_need 35 rfl) (by decide) (by decide) (by decide) ?_
        refine lv_aload_n C.1 C.2.1 (dd_at td_need 36 rfl) rfl (lv_at hl 0 rfl) ?_
        refine mm_gI C hM 0 (dd_at td_need 37 rfl) (by decide) (by decide) (by decide) ?_
        refine lv_iconst (v := (0 : Int32)) C.1 C.2.1 (dd_at td_need 38 rfl) (by decide) ?_
        obtain ⟨g14, hf⟩ := fc_of_gd hf
        refine mm_iast C hM 6 (dd_at td_need 39 rfl) (by decide) (by decide) (fc_of_ix g14) (fun st15 H locs est15 hM => ?_)
        replace hf := fc_of_nm hf st15 est15
        refine lv_iconst (v := (0 : Int32)) C.1 C.2.1 (dd_at td_need 40 rfl) (by decide) ?_
        refine lv_istore_n (lv' := [(3, .int (0 : Int32)), (0, .ref o), (1, .int x1), (2, .int x2)]) C.1 C.2.1 (dd_at td_need 41 rfl) rfl hl (by decide) rfl (fun ls hl => ?_)
        exact w_need_b71 C fu fu (0 : Int32) st15 hf _ _ _ (lv_sub hl [1, 0] rfl) hM
      · replace hf := fc_of_t hf c9
        refine lv_bipush (v := (-4 : Int32)) C.1 C.2.1 (dd_at td_need 20 rfl) (by decide) ?_
        exact mm_ri C hM (dd_at td_need 21 rfl) hf
    · replace hf := fc_of_t hf c8
      refine lv_bipush (v := (-2 : Int32)) C.1 C.2.1 (dd_at td_need 14 rfl) (by decide) ?_
      exact mm_ri C hM (dd_at td_need 15 rfl) hf
  · replace hf := fc_of_t hf c4
    refine lv_iconst (v := (-1 : Int32)) C.1 C.2.1 (dd_at td_need 6 rfl) (by decide) ?_
    exact mm_ri C hM (dd_at td_need 7 rfl) hf
theorem c_need (l : Launch) (D : va_G) (o : Nat) (ad : Nat → Nat) (cs : ClassId × ClassId × ClassId) (fu : Nat) (x1 : Int32) (x2 : Int32) (st : mm_S) : mm_Mi l D o ad cs yX12_need cX12_need 4 (some .int) 1 23 [.int x1, .int x2] st (M_need fu x1 x2 st) := by
  intro r st' hf
  refine mm_enter (cc := cX12_need) (nL := 4) (ret := some .int) (by decide) rfl (Nat.le_of_ble_eq_true rfl) ?_
  intro p e s m args below meth c ls C hl hM
  exact w_need C fu x1 x2 st hf hl hM

/-! darks -/
def tb_darks : List (Nat × Instr × Nat) := [(0, .aload_n 0, 1), (1, .iload_n 1, 1), (2, .invokevirtual 211, 3), (5, .ifCond .ne 6, 3), (8, .bipush (-2), 2), (10, .ireturn, 1), (11, .aload_n 0, 1), (12, .getfield 13, 3), (15, .istore_n 2, 1), (16, .aload_n 0, 1), (17, .iload_n 1, 1), (18, .putfield 13, 3), (21, .iload_n 2, 1), (22, .ireturn, 1)]
theorem td_darks : tb_darks.all (fun q => decide (decode cX12_darks q.1 = .ok (q.2.1, q.2.2))) = true := by decide +kernel
theorem w_darks {p : Program} {l : Launch} {e : Env} {s : State} {m : MethodId} {args : Array Value} {below : List Frame} {meth : Method} {c : Code} {D : va_G} {o : Nat} {ad : Nat → Nat} {cs : ClassId × ClassId × ClassId} {r : Int32} {st' : mm_S} (C : mm_C p s m args meth c cX12_darks 3 (some .int) D cs) (fu : Nat) (x1 : Int32) (st : mm_S) (hf : M_darks fu x1 st = some (r, st')) {H : Heap} {locs : List Loc} {ls : Array Slot} (hl : lv_has ls 3 [(0, .ref o), (1, .int x1)]) (hM : mm_H D o ad cs s.heap st H locs) : W p l e (mm_R 2 44) s m args below meth c H locs 0 0 (MQ below (mm_Qi D o ad cs r st') args s 0 0 (mm_A o ad)) (F0 m 0 ls []) := by
  unfold M_darks at hf
  refine lv_aload_n C.1 C.2.1 (dd_at td_darks 0 rfl) rfl (lv_at hl 0 rfl) ?_
  refine lv_iload_n C.1 C.2.1 (dd_at td_darks 1 rfl) rfl (lv_at hl 1 rfl) ?_
  obtain ⟨r3, st1, hx2, hf⟩ := fc_of_bn hf
  refine mm_ci (As := [.int x1]) (rest := []) (n := 1) C hM (c_isDarks l D o ad cs fu x1 st) (List.mem_of_getElem? (i := 20) rfl) (dd_at td_darks 2 rfl) hx2 hl.1 hd_isDarks ⟨Nat.le_of_ble_eq_true rfl, Nat.le_of_ble_eq_true rfl⟩ rfl rfl (Nat.le_of_ble_eq_true rfl) ⟨Nat.le_refl 0, Nat.le_refl 0⟩ (fun H locs hM => ?_)
  refine lv_if_ne (tgt := 11) C.1 C.2.1 (dd_at td_darks 3 rfl) (by decide) (fun c4 => ?_) (fun c4 => ?_)
  · replace hf := fc_of_f hf c4
    refine lv_aload_n C.1 C.2.1 (dd_at td_darks 6 rfl) rfl (lv_at hl 0 rfl) ?_
    refine mm_gI C hM 1 (dd_at td_darks 7 rfl) (by decide) (by decide) (by decide) ?_
    refine lv_topi (fun v5 ev5 => ?_)
    replace hf := fc_of_nm hf v5 ev5
    refine lv_istore_n (lv' := [(2, .int v5), (0, .ref o), (1, .int x1)]) C.1 C.2.1 (dd_at td_darks 8 rfl) rfl hl (by decide) rfl (fun ls hl => ?_)
    refine lv_aload_n C.1 C.2.1 (dd_at td_darks 9 rfl) rfl (lv_at hl 1 rfl) ?_
    refine lv_iload_n C.1 C.2.1 (dd_at td_darks 10 rfl) rfl (lv_at hl 2 rfl) ?_
    refine mm_pI C hM 1 (dd_at td_darks 11 rfl) (by decide) (by decide) (by decide) rfl rfl (fun st6 H locs est6 hM => ?_)
    replace hf := fc_of_nm hf st6 est6
    refine lv_iload_n C.1 C.2.1 (dd_at td_darks 12 rfl) rfl (lv_at hl 0 rfl) ?_
    exact mm_ri C hM (dd_at td_darks 13 rfl) hf
  · replace hf := fc_of_t hf c4
    refine lv_bipush (v := (-2 : Int32)) C.1 C.2.1 (dd_at td_darks 4 rfl) (by decide) ?_
    exact mm_ri C hM (dd_at td_darks 5 rfl) hf
theorem c_darks (l : Launch) (D : va_G) (o : Nat) (ad : Nat → Nat) (cs : ClassId × ClassId × ClassId) (fu : Nat) (x1 : Int32) (st : mm_S) : mm_Mi l D o ad cs yX12_darks cX12_darks 3 (some .int) 2 44 [.int x1] st (M_darks fu x1 st) := by
  intro r st' hf
  refine mm_enter (cc := cX12_darks) (nL := 3) (ret := some .int) (by decide) rfl (Nat.le_of_ble_eq_true rfl) ?_
  intro p e s m args below meth c ls C hl hM
  exact w_darks C fu x1 st hf hl hM

/-! row -/
def tb_row : List (Nat × Instr × Nat) := [(0, .aload_n 0, 1), (1, .iload_n 1, 1), (2, .invokevirtual 215, 3), (5, .ifCond .eq 13, 3), (8, .aload_n 0, 1), (9, .iload_n 2, 1), (10, .iconst 0, 1), (11, .iconst 3, 1), (12, .invokevirtual 207, 3), (15, .ifCond .ne 5, 3), (18, .iconst (-1), 1), (19, .ireturn, 1), (20, .aload_n 0, 1), (21, .iload_n 3, 1), (22, .iconst 0, 1), (23, .bipush 9, 2), (25, .invokevirtual 207, 3), (28, .ifCond .ne 6, 3), (31, .bipush (-2), 2), (33, .ireturn, 1), (34, .aload_n 0, 1), (35, .getfield 22, 3), (38, .iload_n 1, 1), (39, .iaload, 1), (40, .bipush 6, 2), (42, .if_icmp .eq 6, 3), (45, .bipush (-3), 2), (47, .ireturn, 1), (48, .aload_n 0, 1), (49, .getfield 32, 3), (52, .iconst 4, 1), (53, .iload_n 1, 1), (54, .imul, 1), (55, .iload_n 2, 1), (56, .iadd, 1), (57, .iaload, 1), (58, .istore 4, 2), (60, .aload_n 0, 1), (61, .getfield 32, 3), (64, .iconst 4, 1), (65, .iload_n 1, 1), (66, .imul, 1), (67, .iload_n 2, 1), (68, .iadd, 1), (69, .iload_n 3, 1), (70, .iastore, 1), (71, .iload 4, 2), (73, .ireturn, 1)]
theorem td_row : tb_row.all (fun q => decide (decode cX12_row q.1 = .ok (q.2.1, q.2.2))) = true := by decide +kernel
theorem w_row {p : Program} {l : Launch} {e : Env} {s : State} {m : MethodId} {args : Array Value} {below : List Frame} {meth : Method} {c : Code} {D : va_G} {o : Nat} {ad : Nat → Nat} {cs : ClassId × ClassId × ClassId} {r : Int32} {st' : mm_S} (C : mm_C p s m args meth c cX12_row 5 (some .int) D cs) (fu : Nat) (x1 : Int32) (x2 : Int32) (x3 : Int32) (st : mm_S) (hf : M_row fu x1 x2 x3 st = some (r, st')) {H : Heap} {locs : List Loc} {ls : Array Slot} (hl : lv_has ls 5 [(0, .ref o), (1, .int x1), (2, .int x2), (3, .int x3)]) (hM : mm_H D o ad cs s.heap st H locs) : W p l e (mm_R 2 44) s m args below meth c H locs 0 0 (MQ below (mm_Qi D o ad cs r st') args s 0 0 (mm_A o ad)) (F0 m 0 ls []) := by
  unfold M_row at hf
  refine lv_aload_n C.1 C.2.1 (dd_at td_row 0 rfl) rfl (lv_at hl 0 rfl) ?_
  refine lv_iload_n C.1 C.2.1 (dd_at td_row 1 rfl) rfl (lv_at hl 1 rfl) ?_
  obtain ⟨r3, st1, hx2, hf⟩ := fc_of_bn hf
  refine mm_ci (As := [.int x1]) (rest := []) (n := 1) C hM (c_isNeed l D o ad cs fu x1 st) (List.mem_of_getElem? (i := 22) rfl) (dd_at td_row 2 rfl) hx2 hl.1 hd_isNeed ⟨Nat.le_of_ble_eq_true rfl, Nat.le_of_ble_eq_true rfl⟩ rfl rfl (Nat.le_of_ble_eq_true rfl) ⟨Nat.le_refl 0, Nat.le_refl 0⟩ (fun H locs hM => ?_)
  refine lv_if_eq (tgt := 18) C.1 C.2.1 (dd_at td_row 3 rfl) (by decide) (fun c4 => ?_) (fun c4 => ?_)
  · replace hf := fc_of_t hf c4
    refine lv_iconst (v := (-1 : Int32)) C.1 C.2.1 (dd_at td_row 10 rfl) (by decide) ?_
    exact mm_ri C hM (dd_at td_row 11 rfl) hf
  · replace hf := fc_of_f hf c4
    refine lv_aload_n C.1 C.2.1 (dd_at td_row 4 rfl) rfl (lv_at hl 0 rfl) ?_
    refine lv_iload_n C.1 C.2.1 (dd_at td_row 5 rfl) rfl (lv_at hl 2 rfl) ?_
    refine lv_iconst (v := (0 : Int32)) C.1 C.2.1 (dd_at td_row 6 rfl) (by decide) ?_
    refine lv_iconst (v := (3 : Int32)) C.1 C.2.1 (dd_at td_row 7 rfl) (by decide) ?_
    obtain ⟨r7, st5, hx6, hf⟩ := fc_of_bn hf
    refine mm_ci (As := [.int x2, .int (0 : Int32), .int (3 : Int32)]) (rest := []) (n := 3) C hM (c_in l D o ad cs fu x2 (0 : Int32) (3 : Int32) st1) (List.mem_of_getElem? (i := 18) rfl) (dd_at td_row 8 rfl) hx6 hl.1 hd_in ⟨Nat.le_of_ble_eq_true rfl, Nat.le_of_ble_eq_true rfl⟩ rfl rfl (Nat.le_of_ble_eq_true rfl) ⟨Nat.le_refl 0, Nat.le_refl 0⟩ (fun H locs hM => ?_)
    refine lv_if_ne (tgt := 20) C.1 C.2.1 (dd_at td_row 9 rfl) (by decide) (fun c8 => ?_) (fun c8 => ?_)
    · replace hf := fc_of_f hf c8
      refine lv_aload_n C.1 C.2.1 (dd_at td_row 12 rfl) rfl (lv_at hl 0 rfl) ?_
      refine lv_iload_n C.1 C.2.1 (dd_at td_row 13 rfl) rfl (lv_at hl 3 rfl) ?_
      refine lv_iconst (v := (0 : Int32)) C.1 C.2.1 (dd_at td_row 14 rfl) (by decide) ?_
      refine lv_bipush (v := (9 : Int32)) C.1 C.2.1 (dd_at td_row 15 rfl) (by decide) ?_
      obtain ⟨r11, st9, hx10, hf⟩ := fc_of_bn hf
      refine mm_ci (As := [.int x3, .int (0 : Int32), .int (9 : Int32)]) (rest := []) (n := 3) C hM (c_in l D o ad cs fu x3 (0 : Int32) (9 : Int32) st5) (List.mem_of_getElem? (i := 18) rfl) (dd_at td_row 16 rfl) hx10 hl.1 hd_in ⟨Nat.le_of_ble_eq_true rfl, Nat.le_of_ble_eq_true rfl⟩ rfl rfl (Nat.le_of_ble_eq_true rfl) ⟨Nat.le_refl 0, Nat.le_refl 0⟩ (fun H locs hM => ?_)
      refine lv_if_ne (tgt := 34) C.1 C.2.1 (dd_at td_row 17 rfl) (by decide) (fun c12 => ?_) (fun c12 => ?_)
      · replace hf := fc_of_f hf c12
        refine lv_aload_n C.1 C.2.1 (dd_at td_row 20 rfl) rfl (lv_at hl 0 rfl) ?_
        refine mm_gA C hM 4 (dd_at td_row 21 rfl) (by decide) (by decide) (by decide) ?_
        refine lv_iload_n C.1 C.2.1 (dd_at td_row 22 rfl) rfl (lv_at hl 1 rfl) ?_
        obtain ⟨g13, hf⟩ := fc_of_gd hf
        refine mm_iald C hM 4 (dd_at td_row 23 rfl) (by decide) (by decide) (fc_of_ix g13) ?_
        refine lv_bipush (v := (6 : Int32)) C.1 C.2.1 (dd_at td_row 24 rfl) (by decide) ?_
        refine lv_icmp_eq (tgt := 48) C.1 C.2.1 (dd_at td_row 25 rfl) (by decide) (fun c14 => ?_) (fun c14 => ?_)
        · replace hf := fc_of_t hf c14
          refine lv_aload_n C.1 C.2.1 (dd_at td_row 28 rfl) rfl (lv_at hl 0 rfl) ?_
          refine mm_gA C hM 7 (dd_at td_row 29 rfl) (by decide) (by decide) (by decide) ?_
          refine lv_iconst (v := (4 : Int32)) C.1 C.2.1 (dd_at td_row 30 rfl) (by decide) ?_
          refine lv_iload_n C.1 C.2.1 (dd_at td_row 31 rfl) rfl (lv_at hl 1 rfl) ?_
          refine lv_imul C.1 C.2.1 (dd_at td_row 32 rfl) ?_
          refine lv_iload_n C.1 C.2.1 (dd_at td_row 33 rfl) rfl (lv_at hl 2 rfl) ?_
          refine lv_iadd C.1 C.2.1 (dd_at td_row 34 rfl) ?_
          obtain ⟨g15, hf⟩ := fc_of_gd hf
          refine mm_iald C hM 7 (dd_at td_row 35 rfl) (by decide) (by decide) (fc_of_ix g15) ?_
          refine lv_topi (fun v16 ev16 => ?_)
          replace hf := fc_of_nm hf v16 ev16
          refine lv_istore (lv' := [(4, .int v16), (0, .ref o), (1, .int x1), (2, .int x2), (3, .int x3)]) C.1 C.2.1 (dd_at td_row 36 rfl) hl (by decide) rfl (fun ls hl => ?_)
          refine lv_aload_n C.1 C.2.1 (dd_at td_row 37 rfl) rfl (lv_at hl 1 rfl) ?_
          refine mm_gA C hM 7 (dd_at td_row 38 rfl) (by decide) (by decide) (by decide) ?_
          refine lv_iconst (v := (4 : Int32)) C.1 C.2.1 (dd_at td_row 39 rfl) (by decide) ?_
          refine lv_iload_n C.1 C.2.1 (dd_at td_row 40 rfl) rfl (lv_at hl 2 rfl) ?_
          refine lv_imul C.1 C.2.1 (dd_at td_row 41 rfl) ?_
          refine lv_iload_n C.1 C.2.1 (dd_at td_row 42 rfl) rfl (lv_at hl 3 rfl) ?_
          refine lv_iadd C.1 C.2.1 (dd_at td_row 43 rfl) ?_
          refine lv_iload_n C.1 C.2.1 (dd_at td_row 44 rfl) rfl (lv_at hl 4 rfl) ?_
          obtain ⟨g17, hf⟩ := fc_of_gd hf
          refine mm_iast C hM 7 (dd_at td_row 45 rfl) (by decide) (by decide) (fc_of_ix g17) (fun st18 H locs est18 hM => ?_)
          replace hf := fc_of_nm hf st18 est18
          refine lv_iload C.1 C.2.1 (dd_at td_row 46 rfl) (lv_at hl 0 rfl) ?_
          exact mm_ri C hM (dd_at td_row 47 rfl) hf
        · replace hf := fc_of_f hf c14
          refine lv_bipush (v := (-3 : Int32)) C.1 C.2.1 (dd_at td_row 26 rfl) (by decide) ?_
          exact mm_ri C hM (dd_at td_row 27 rfl) hf
      · replace hf := fc_of_t hf c12
        refine lv_bipush (v := (-2 : Int32)) C.1 C.2.1 (dd_at td_row 18 rfl) (by decide) ?_
        exact mm_ri C hM (dd_at td_row 19 rfl) hf
    · replace hf := fc_of_t hf c8
      refine lv_iconst (v := (-1 : Int32)) C.1 C.2.1 (dd_at td_row 10 rfl) (by decide) ?_
      exact mm_ri C hM (dd_at td_row 11 rfl) hf
theorem c_row (l : Launch) (D : va_G) (o : Nat) (ad : Nat → Nat) (cs : ClassId × ClassId × ClassId) (fu : Nat) (x1 : Int32) (x2 : Int32) (x3 : Int32) (st : mm_S) : mm_Mi l D o ad cs yX12_row cX12_row 5 (some .int) 2 44 [.int x1, .int x2, .int x3] st (M_row fu x1 x2 x3 st) := by
  intro r st' hf
  refine mm_enter (cc := cX12_row) (nL := 5) (ret := some .int) (by decide) rfl (Nat.le_of_ble_eq_true rfl) ?_
  intro p e s m args below meth c ls C hl hM
  exact w_row C fu x1 x2 x3 st hf hl hM

/-! feed -/
def tb_feed : List (Nat × Instr × Nat) := [(0, .aload_n 0, 1), (1, .iload_n 1, 1), (2, .iconst 0, 1), (3, .bipush 127, 2), (5, .invokevirtual 207, 3), (8, .ifCond .ne 6, 3), (11, .bipush (-2), 2), (13, .ireturn, 1), (14, .aload_n 0, 1), (15, .getfield 41, 3), (18, .bipush 100, 2), (20, .if_icmp .ne 6, 3), (23, .bipush (-4), 2), (25, .ireturn, 1), (26, .aload_n 0, 1), (27, .getfield 50, 3), (30, .aload_n 0, 1), (31, .getfield 41, 3), (34, .iload_n 1, 1), (35, .iastore, 1), (36, .aload_n 0, 1), (37, .dup, 1), (38, .getfield 41, 3), (41, .iconst 1, 1), (42, .iadd, 1), (43, .putfield 41, 3), (46, .aload_n 0, 1), (47, .getfield 41, 3), (50, .ireturn, 1)]
theorem td_feed : tb_feed.all (fun q => decide (decode cX12_feed q.1 = .ok (q.2.1, q.2.2))) = true := by decide +kernel
theorem w_feed {p : Program} {l : Launch} {e : Env} {s : State} {m : MethodId} {args : Array Value} {below : List Frame} {meth : Method} {c : Code} {D : va_G} {o : Nat} {ad : Nat → Nat} {cs : ClassId × ClassId × ClassId} {r : Int32} {st' : mm_S} (C : mm_C p s m args meth c cX12_feed 2 (some .int) D cs) (fu : Nat) (x1 : Int32) (st : mm_S) (hf : M_feed fu x1 st = some (r, st')) {H : Heap} {locs : List Loc} {ls : Array Slot} (hl : lv_has ls 2 [(0, .ref o), (1, .int x1)]) (hM : mm_H D o ad cs s.heap st H locs) : W p l e (mm_R 1 23) s m args below meth c H locs 0 0 (MQ below (mm_Qi D o ad cs r st') args s 0 0 (mm_A o ad)) (F0 m 0 ls []) := by
  unfold M_feed at hf
  refine lv_aload_n C.1 C.2.1 (dd_at td_feed 0 rfl) rfl (lv_at hl 0 rfl) ?_
  refine lv_iload_n C.1 C.2.1 (dd_at td_feed 1 rfl) rfl (lv_at hl 1 rfl) ?_
  refine lv_iconst (v := (0 : Int32)) C.1 C.2.1 (dd_at td_feed 2 rfl) (by decide) ?_
  refine lv_bipush (v := (127 : Int32)) C.1 C.2.1 (dd_at td_feed 3 rfl) (by decide) ?_
  obtain ⟨r3, st1, hx2, hf⟩ := fc_of_bn hf
  refine mm_ci (As := [.int x1, .int (0 : Int32), .int (127 : Int32)]) (rest := []) (n := 3) C hM (c_in l D o ad cs fu x1 (0 : Int32) (127 : Int32) st) (List.mem_of_getElem? (i := 18) rfl) (dd_at td_feed 4 rfl) hx2 hl.1 hd_in ⟨Nat.le_of_ble_eq_true rfl, Nat.le_of_ble_eq_true rfl⟩ rfl rfl (Nat.le_of_ble_eq_true rfl) ⟨Nat.le_refl 0, Nat.le_refl 0⟩ (fun H locs hM => ?_)
  refine lv_if_ne (tgt := 14) C.1 C.2.1 (dd_at td_feed 5 rfl) (by decide) (fun c4 => ?_) (fun c4 => ?_)
  · replace hf := fc_of_f hf c4
    refine lv_aload_n C.1 C.2.1 (dd_at td_feed 8 rfl) rfl (lv_at hl 0 rfl) ?_
    refine mm_gI C hM 10 (dd_at td_feed 9 rfl) (by decide) (by decide) (by decide) ?_
    refine lv_bipush (v := (100 : Int32)) C.1 C.2.1 (dd_at td_feed 10 rfl) (by decide) ?_
    refine lv_icmp_ne (tgt := 26) C.1 C.2.1 (dd_at td_feed 11 rfl) (by decide) (fun c5 => ?_) (fun c5 => ?_)
    · replace hf := fc_of_f hf c5
      refine lv_aload_n C.1 C.2.1 (dd_at td_feed 14 rfl) rfl (lv_at hl 0 rfl) ?_
      refine mm_gA C hM 13 (dd_at td_feed 15 rfl) (by decide) (by decide) (by decide) ?_
      refine lv_aload_n C.1 C.2.1 (dd_at td_feed 16 rfl) rfl (lv_at hl 0 rfl) ?_
      refine mm_gI C hM 10 (dd_at td_feed 17 rfl) (by decide) (by decide) (by decide) ?_
      refine lv_iload_n C.1 C.2.1 (dd_at td_feed 18 rfl) rfl (lv_at hl 1 rfl) ?_
      obtain ⟨g6, hf⟩ := fc_of_gd hf
      refine mm_iast C hM 13 (dd_at td_feed 19 rfl) (by decide) (by decide) (fc_of_ix g6) (fun st7 H locs est7 hM => ?_)
      replace hf := fc_of_nm hf st7 est7
      refine lv_aload_n C.1 C.2.1 (dd_at td_feed 20 rfl) rfl (lv_at hl 0 rfl) ?_
      refine lv_dup C.1 C.2.1 (dd_at td_feed 21 rfl) rfl ?_
      refine mm_gI C hM 10 (dd_at td_feed 22 rfl) (by decide) (by decide) (by decide) ?_
      refine lv_iconst (v := (1 : Int32)) C.1 C.2.1 (dd_at td_feed 23 rfl) (by decide) ?_
      refine lv_iadd C.1 C.2.1 (dd_at td_feed 24 rfl) ?_
      refine mm_pI C hM 10 (dd_at td_feed 25 rfl) (by decide) (by decide) (by decide) rfl rfl (fun st8 H locs est8 hM => ?_)
      replace hf := fc_of_nm hf st8 est8
      refine lv_aload_n C.1 C.2.1 (dd_at td_feed 26 rfl) rfl (lv_at hl 0 rfl) ?_
      refine mm_gI C hM 10 (dd_at td_feed 27 rfl) (by decide) (by decide) (by decide) ?_
      exact mm_ri C hM (dd_at td_feed 28 rfl) hf
    · replace hf := fc_of_t hf c5
      refine lv_bipush (v := (-4 : Int32)) C.1 C.2.1 (dd_at td_feed 12 rfl) (by decide) ?_
      exact mm_ri C hM (dd_at td_feed 13 rfl) hf
  · replace hf := fc_of_t hf c4
    refine lv_bipush (v := (-2 : Int32)) C.1 C.2.1 (dd_at td_feed 6 rfl) (by decide) ?_
    exact mm_ri C hM (dd_at td_feed 7 rfl) hf
theorem c_feed (l : Launch) (D : va_G) (o : Nat) (ad : Nat → Nat) (cs : ClassId × ClassId × ClassId) (fu : Nat) (x1 : Int32) (st : mm_S) : mm_Mi l D o ad cs yX12_feed cX12_feed 2 (some .int) 1 23 [.int x1] st (M_feed fu x1 st) := by
  intro r st' hf
  refine mm_enter (cc := cX12_feed) (nL := 2) (ret := some .int) (by decide) rfl (Nat.le_of_ble_eq_true rfl) ?_
  intro p e s m args below meth c ls C hl hM
  exact w_feed C fu x1 st hf hl hM

/-! next -/
def tb_next : List (Nat × Instr × Nat) := [(0, .aload_n 0, 1), (1, .getfield 44, 3), (4, .aload_n 0, 1), (5, .getfield 41, 3), (8, .if_icmp .ge 15, 3), (11, .aload_n 0, 1), (12, .getfield 50, 3), (15, .aload_n 0, 1), (16, .getfield 44, 3), (19, .iaload, 1), (20, .goto 4, 3), (23, .iconst (-1), 1), (24, .ireturn, 1)]
theorem td_next : tb_next.all (fun q => decide (decode cX12_next q.1 = .ok (q.2.1, q.2.2))) = true := by decide +kernel
theorem hd_next : yX12_next.cls = RX12 ∧ yX12_next.cls ≠ "java/lang/invoke/MethodHandle" ∧ yX12_next.cls ≠ "java/lang/invoke/VarHandle" ∧ (parseMethodDescriptor yX12_next.desc).map (fun d => d.parameters.length) = some 0 := by decide +kernel
theorem w_next {p : Program} {l : Launch} {e : Env} {s : State} {m : MethodId} {args : Array Value} {below : List Frame} {meth : Method} {c : Code} {D : va_G} {o : Nat} {ad : Nat → Nat} {cs : ClassId × ClassId × ClassId} {r : Int32} {st' : mm_S} (C : mm_C p s m args meth c cX12_next 1 (some .int) D cs) (fu : Nat) (st : mm_S) (hf : M_next fu st = some (r, st')) {H : Heap} {locs : List Loc} {ls : Array Slot} (hl : lv_has ls 1 [(0, .ref o)]) (hM : mm_H D o ad cs s.heap st H locs) : W p l e (mm_R 0 0) s m args below meth c H locs 0 0 (MQ below (mm_Qi D o ad cs r st') args s 0 0 (mm_A o ad)) (F0 m 0 ls []) := by
  unfold M_next at hf
  refine lv_aload_n C.1 C.2.1 (dd_at td_next 0 rfl) rfl (lv_at hl 0 rfl) ?_
  refine mm_gI C hM 11 (dd_at td_next 1 rfl) (by decide) (by decide) (by decide) ?_
  refine lv_aload_n C.1 C.2.1 (dd_at td_next 2 rfl) rfl (lv_at hl 0 rfl) ?_
  refine mm_gI C hM 10 (dd_at td_next 3 rfl) (by decide) (by decide) (by decide) ?_
  refine lv_icmp_ge (tgt := 23) C.1 C.2.1 (dd_at td_next 4 rfl) (by decide) (fun c1 => ?_) (fun c1 => ?_)
  · replace hf := fc_of_t hf c1
    refine lv_iconst (v := (-1 : Int32)) C.1 C.2.1 (dd_at td_next 11 rfl) (by decide) ?_
    exact mm_ri C hM (dd_at td_next 12 rfl) hf
  · replace hf := fc_of_f hf c1
    refine lv_aload_n C.1 C.2.1 (dd_at td_next 5 rfl) rfl (lv_at hl 0 rfl) ?_
    refine mm_gA C hM 13 (dd_at td_next 6 rfl) (by decide) (by decide) (by decide) ?_
    refine lv_aload_n C.1 C.2.1 (dd_at td_next 7 rfl) rfl (lv_at hl 0 rfl) ?_
    refine mm_gI C hM 11 (dd_at td_next 8 rfl) (by decide) (by decide) (by decide) ?_
    obtain ⟨g2, hf⟩ := fc_of_gd hf
    refine mm_iald C hM 13 (dd_at td_next 9 rfl) (by decide) (by decide) (fc_of_ix g2) ?_
    refine lv_goto (tgt := 24) C.1 C.2.1 (dd_at td_next 10 rfl) (by decide) ?_
    exact mm_ri C hM (dd_at td_next 12 rfl) hf
theorem c_next (l : Launch) (D : va_G) (o : Nat) (ad : Nat → Nat) (cs : ClassId × ClassId × ClassId) (fu : Nat) (st : mm_S) : mm_Mi l D o ad cs yX12_next cX12_next 1 (some .int) 0 0 [] st (M_next fu st) := by
  intro r st' hf
  refine mm_enter (cc := cX12_next) (nL := 1) (ret := some .int) (by decide) rfl (Nat.le_of_ble_eq_true rfl) ?_
  intro p e s m args below meth c ls C hl hM
  exact w_next C fu st hf hl hM

/-! takes -/
def tb_takes : List (Nat × Instr × Nat) := [(0, .aload_n 0, 1), (1, .invokevirtual 218, 3), (4, .iload_n 1, 1), (5, .if_icmp .eq 5, 3), (8, .iconst 0, 1), (9, .ireturn, 1), (10, .aload_n 0, 1), (11, .dup, 1), (12, .getfield 44, 3), (15, .iconst 1, 1), (16, .iadd, 1), (17, .putfield 44, 3), (20, .iconst 1, 1), (21, .ireturn, 1)]
theorem td_takes : tb_takes.all (fun q => decide (decode cX12_takes q.1 = .ok (q.2.1, q.2.2))) = true := by decide +kernel
theorem hd_takes : yX12_takes.cls = RX12 ∧ yX12_takes.cls ≠ "java/lang/invoke/MethodHandle" ∧ yX12_takes.cls ≠ "java/lang/invoke/VarHandle" ∧ (parseMethodDescriptor yX12_takes.desc).map (fun d => d.parameters.length) = some 1 := by decide +kernel
theorem w_takes {p : Program} {l : Launch} {e : Env} {s : State} {m : MethodId} {args : Array Value} {below : List Frame} {meth : Method} {c : Code} {D : va_G} {o : Nat} {ad : Nat → Nat} {cs : ClassId × ClassId × ClassId} {r : Int32} {st' : mm_S} (C : mm_C p s m args meth c cX12_takes 2 (some .boolean) D cs) (fu : Nat) (x1 : Int32) (st : mm_S) (hf : M_takes fu x1 st = some (r, st')) {H : Heap} {locs : List Loc} {ls : Array Slot} (hl : lv_has ls 2 [(0, .ref o), (1, .int x1)]) (hM : mm_H D o ad cs s.heap st H locs) : W p l e (mm_R 1 20) s m args below meth c H locs 0 0 (MQ below (mm_Qi D o ad cs r st') args s 0 0 (mm_A o ad)) (F0 m 0 ls []) := by
  unfold M_takes at hf
  refine lv_aload_n C.1 C.2.1 (dd_at td_takes 0 rfl) rfl (lv_at hl 0 rfl) ?_
  obtain ⟨r3, st1, hx2, hf⟩ := fc_of_bn hf
  refine mm_ci (As := []) (rest := []) (n := 0) C hM (c_next l D o ad cs fu st) (List.mem_of_getElem? (i := 33) rfl) (dd_at td_takes 1 rfl) hx2 hl.1 hd_next ⟨Nat.le_of_ble_eq_true rfl, Nat.le_of_ble_eq_true rfl⟩ rfl rfl (Nat.le_of_ble_eq_true rfl) ⟨Nat.le_refl 0, Nat.le_refl 0⟩ (fun H locs hM => ?_)
  refine lv_iload_n C.1 C.2.1 (dd_at td_takes 2 rfl) rfl (lv_at hl 1 rfl) ?_
  refine lv_icmp_eq (tgt := 10) C.1 C.2.1 (dd_at td_takes 3 rfl) (by decide) (fun c4 => ?_) (fun c4 => ?_)
  · replace hf := fc_of_t hf c4
    refine lv_aload_n C.1 C.2.1 (dd_at td_takes 6 rfl) rfl (lv_at hl 0 rfl) ?_
    refine lv_dup C.1 C.2.1 (dd_at td_takes 7 rfl) rfl ?_
    refine mm_gI C hM 11 (dd_at td_takes 8 rfl) (by decide) (by decide) (by decide) ?_
    refine lv_iconst (v := (1 : Int32)) C.1 C.2.1 (dd_at td_takes 9 rfl) (by decide) ?_
    refine lv_iadd C.1 C.2.1 (dd_at td_takes 10 rfl) ?_
    refine mm_pI C hM 11 (dd_at td_takes 11 rfl) (by decide) (by decide) (by decide) rfl rfl (fun st5 H locs est5 hM => ?_)
    replace hf := fc_of_nm hf st5 est5
    refine lv_iconst (v := (1 : Int32)) C.1 C.2.1 (dd_at td_takes 12 rfl) (by decide) ?_
    exact mm_rz C hM (dd_at td_takes 13 rfl) rfl hf
  · replace hf := fc_of_f hf c4
    refine lv_iconst (v := (0 : Int32)) C.1 C.2.1 (dd_at td_takes 4 rfl) (by decide) ?_
    exact mm_rz C hM (dd_at td_takes 5 rfl) rfl hf
theorem c_takes (l : Launch) (D : va_G) (o : Nat) (ad : Nat → Nat) (cs : ClassId × ClassId × ClassId) (fu : Nat) (x1 : Int32) (st : mm_S) : mm_Mi l D o ad cs yX12_takes cX12_takes 2 (some .boolean) 1 20 [.int x1] st (M_takes fu x1 st) := by
  intro r st' hf
  refine mm_enter (cc := cX12_takes) (nL := 2) (ret := some .boolean) (by decide) rfl (Nat.le_of_ble_eq_true rfl) ?_
  intro p e s m args below meth c ls C hl hM
  exact w_takes C fu x1 st hf hl hM

/-! takesWord -/
def tb_takesWord : List (Nat × Instr × Nat) := [(0, .iconst 0, 1), (1, .istore_n 3, 1), (2, .iload_n 3, 1), (3, .iload_n 2, 1), (4, .if_icmp .ge 26, 3), (7, .aload_n 0, 1), (8, .aload_n 0, 1), (9, .getfield 83, 3), (12, .iload_n 1, 1), (13, .iload_n 3, 1), (14, .iadd, 1), (15, .iaload, 1), (16, .invokevirtual 222, 3), (19, .ifCond .ne 5, 3), (22, .iconst 0, 1), (23, .ireturn, 1), (24, .iinc 3 1, 3), (27, .goto (-25), 3), (30, .aload_n 0, 1), (31, .bipush 32, 2), (33, .invokevirtual 222, 3), (36, .ireturn, 1)]
theorem td_takesWord : tb_takesWord.all (fun q => decide (decode cX12_takesWord q.1 = .ok (q.2.1, q.2.2))) = true := by decide +kernel
theorem hd_takesWord : yX12_takesWord.cls = RX12 ∧ yX12_takesWord.cls ≠ "java/lang/invoke/MethodHandle" ∧ yX12_takesWord.cls ≠ "java/lang/invoke/VarHandle" ∧ (parseMethodDescriptor yX12_takesWord.desc).map (fun d => d.parameters.length) = some 2 := by decide +kernel
theorem w_takesWord_b2F {p : Program} {l : Launch} {e : Env} {s : State} {m : MethodId} {args : Array Value} {below : List Frame} {meth : Method} {c : Code} {D : va_G} {o : Nat} {ad : Nat → Nat} {cs : ClassId × ClassId × ClassId} {r : Int32} {st' : mm_S} (C : mm_C p s m args meth c cX12_takesWord 4 (some .boolean) D cs) (fu : Nat) (K2 : Int32 → Int32 → Int32 → mm_S → Option (Int32 × mm_S)) (hK2 : ∀ (x1 : Int32) (x2 : Int32) (x3 : Int32) (st : mm_S) (H : Heap) (locs : List Loc) (ls : Array Slot), K2 x1 x2 x3 st = some (r, st') → lv_has ls 4 [(0, .ref o), (1, .int x1), (2, .int x2), (3, .int x3)] → mm_H D o ad cs s.heap st H locs → W p l e (mm_R 2 41) s m args below meth c H locs 0 0 (MQ below (mm_Qi D o ad cs r st') args s 0 0 (mm_A o ad)) (F0 m 2 ls [])) (x1 : Int32) (x2 : Int32) (x3 : Int32) (st : mm_S) (hf : M_takesWord_b2F fu K2 x1 x2 x3 st = some (r, st')) {H : Heap} {locs : List Loc} {ls : Array Slot} (hl : lv_has ls 4 [(0, .ref o), (1, .int x1), (2, .int x2), (3, .int x3)]) (hM : mm_H D o ad cs s.heap st H locs) : W p l e (mm_R 2 41) s m args below meth c H locs 0 0 (MQ below (mm_Qi D o ad cs r st') args s 0 0 (mm_A o ad)) (F0 m 2 ls []) := by
  unfold M_takesWord_b2F at hf
  refine lv_iload_n C.1 C.2.1 (dd_at td_takesWord 2 rfl) rfl (lv_at hl 3 rfl) ?_
  refine lv_iload_n C.1 C.2.1 (dd_at td_takesWord 3 rfl) rfl (lv_at hl 2 rfl) ?_
  refine lv_icmp_ge (tgt := 30) C.1 C.2.1 (dd_at td_takesWord 4 rfl) (by decide) (fun c1 => ?_) (fun c1 => ?_)
  · replace hf := fc_of_t hf c1
    refine lv_aload_n C.1 C.2.1 (dd_at td_takesWord 18 rfl) rfl (lv_at hl 0 rfl) ?_
    refine lv_bipush (v := (32 : Int32)) C.1 C.2.1 (dd_at td_takesWord 19 rfl) (by decide) ?_
    obtain ⟨r4, st2, hx3, hf⟩ := fc_of_bn hf
    refine mm_ci (As := [.int (32 : Int32)]) (rest := []) (n := 1) C hM (c_takes l D o ad cs fu (32 : Int32) st) (List.mem_of_getElem? (i := 38) rfl) (dd_at td_takesWord 20 rfl) hx3 hl.1 hd_takes ⟨Nat.le_of_ble_eq_true rfl, Nat.le_of_ble_eq_true rfl⟩ rfl rfl (Nat.le_of_ble_eq_true rfl) ⟨Nat.le_refl 0, Nat.le_refl 0⟩ (fun H locs hM => ?_)
    obtain ⟨g5, hf⟩ := fc_of_gd hf
    exact mm_rz C hM (dd_at td_takesWord 21 rfl) (fc_of_zb g5) hf
  · replace hf := fc_of_f hf c1
    refine lv_aload_n C.1 C.2.1 (dd_at td_takesWord 5 rfl) rfl (lv_at hl 0 rfl) ?_
    refine lv_aload_n C.1 C.2.1 (dd_at td_takesWord 6 rfl) rfl (lv_at hl 0 rfl) ?_
    refine mm_gA C hM 24 (dd_at td_takesWord 7 rfl) (by decide) (by decide) (by decide) ?_
    refine lv_iload_n C.1 C.2.1 (dd_at td_takesWord 8 rfl) rfl (lv_at hl 1 rfl) ?_
    refine lv_iload_n C.1 C.2.1 (dd_at td_takesWord 9 rfl) rfl (lv_at hl 3 rfl) ?_
    refine lv_iadd C.1 C.2.1 (dd_at td_takesWord 10 rfl) ?_
    obtain ⟨g6, hf⟩ := fc_of_gd hf
    refine mm_iald C hM 24 (dd_at td_takesWord 11 rfl) (by decide) (by decide) (fc_of_ix g6) ?_
    obtain ⟨r9, st7, hx8, hf⟩ := fc_of_bn hf
    refine mm_ci (As := [.int (mm_G st 24 (x1 + x3).toNatClampNeg)]) (rest := []) (n := 1) C hM (c_takes l D o ad cs fu (mm_G st 24 (x1 + x3).toNatClampNeg) st) (List.mem_of_getElem? (i := 38) rfl) (dd_at td_takesWord 12 rfl) hx8 hl.1 hd_takes ⟨Nat.le_of_ble_eq_true rfl, Nat.le_of_ble_eq_true rfl⟩ rfl rfl (Nat.le_of_ble_eq_true rfl) ⟨Nat.le_refl 0, Nat.le_refl 0⟩ (fun H locs hM => ?_)
    refine lv_if_ne (tgt := 24) C.1 C.2.1 (dd_at td_takesWord 13 rfl) (by decide) (fun c10 => ?_) (fun c10 => ?_)
    · replace hf := fc_of_f hf c10
      obtain ⟨v11, ev11⟩ : ∃ y : Int32, y = x3 + (1 : Int32) := ⟨_, rfl⟩
      replace hf := fc_of_nm hf v11 ev11
      refine lv_iinc (v := v11) (lv' := [(3, .int v11), (0, .ref o), (1, .int x1), (2, .int x2)]) C.1 C.2.1 (dd_at td_takesWord 16 rfl) hl (k := 3) rfl (by rw [ev11]; rfl) (by decide) rfl (fun ls hl => ?_)
      refine lv_goto (tgt := 2) C.1 C.2.1 (dd_at td_takesWord 17 rfl) (by decide) ?_
      exact hK2 x1 x2 v11 st7 _ _ _ hf (lv_sub hl [1, 2, 3, 0] rfl) hM
    · replace hf := fc_of_t hf c10
      refine lv_iconst (v := (0 : Int32)) C.1 C.2.1 (dd_at td_takesWord 14 rfl) (by decide) ?_
      exact mm_rz C hM (dd_at td_takesWord 15 rfl) rfl hf
theorem w_takesWord_b2 {p : Program} {l : Launch} {e : Env} {s : State} {m : MethodId} {args : Array Value} {below : List Frame} {meth : Method} {c : Code} {D : va_G} {o : Nat} {ad : Nat → Nat} {cs : ClassId × ClassId × ClassId} {r : Int32} {st' : mm_S} (C : mm_C p s m args meth c cX12_takesWord 4 (some .boolean) D cs) (fu : Nat) (n : Nat) : ∀ (x1 : Int32) (x2 : Int32) (x3 : Int32) (st : mm_S), M_takesWord_b2 fu n x1 x2 x3 st = some (r, st') → ∀ (H : Heap) (locs : List Loc) (ls : Array Slot), lv_has ls 4 [(0, .ref o), (1, .int x1), (2, .int x2), (3, .int x3)] → mm_H D o ad cs s.heap st H locs → W p l e (mm_R 2 41) s m args below meth c H locs 0 0 (MQ below (mm_Qi D o ad cs r st') args s 0 0 (mm_A o ad)) (F0 m 2 ls []) := by
  induction n with
  | zero => exact fun _ _ _ _ hf => fc_no hf
  | succ n ih =>
    intro x1 x2 x3 st hf H locs ls hl hM
    exact w_takesWord_b2F C fu (fun x1 x2 x3 st => M_takesWord_b2 fu n x1 x2 x3 st) (fun x1 x2 x3 st H locs ls hf hl hM => ih x1 x2 x3 st hf H locs ls hl hM) x1 x2 x3 st hf hl hM
theorem w_takesWord {p : Program} {l : Launch} {e : Env} {s : State} {m : MethodId} {args : Array Value} {below : List Frame} {meth : Method} {c : Code} {D : va_G} {o : Nat} {ad : Nat → Nat} {cs : ClassId × ClassId × ClassId} {r : Int32} {st' : mm_S} (C : mm_C p s m args meth c cX12_takesWord 4 (some .boolean) D cs) (fu : Nat) (x1 : Int32) (x2 : Int32) (st : mm_S) (hf : M_takesWord fu x1 x2 st = some (r, st')) {H : Heap} {locs : List Loc} {ls : Array Slot} (hl : lv_has ls 4 [(0, .ref o), (1, .int x1), (2, .int x2)]) (hM : mm_H D o ad cs s.heap st H locs) : W p l e (mm_R 2 41) s m args below meth c H locs 0 0 (MQ below (mm_Qi D o ad cs r st') args s 0 0 (mm_A o ad)) (F0 m 0 ls []) := by
  unfold M_takesWord at hf
  refine lv_iconst (v := (0 : Int32)) C.1 C.2.1 (dd_at td_takesWord 0 rfl) (by decide) ?_
  refine lv_istore_n (lv' := [(3, .int (0 : Int32)), (0, .ref o), (1, .int x1), (2, .int x2)]) C.1 C.2.1 (dd_at td_takesWord 1 rfl) rfl hl (by decide) rfl (fun ls hl => ?_)
  exact w_takesWord_b2 C fu fu x1 x2 (0 : Int32) st hf _ _ _ (lv_sub hl [1, 2, 3, 0] rfl) hM
theorem c_takesWord (l : Launch) (D : va_G) (o : Nat) (ad : Nat → Nat) (cs : ClassId × ClassId × ClassId) (fu : Nat) (x1 : Int32) (x2 : Int32) (st : mm_S) : mm_Mi l D o ad cs yX12_takesWord cX12_takesWord 4 (some .boolean) 2 41 [.int x1, .int x2] st (M_takesWord fu x1 x2 st) := by
  intro r st' hf
  refine mm_enter (cc := cX12_takesWord) (nL := 4) (ret := some .boolean) (by decide) rfl (Nat.le_of_ble_eq_true rfl) ?_
  intro p e s m args below meth c ls C hl hM
  exact w_takesWord C fu x1 x2 st hf hl hM

/-! isDigit -/
def tb_isDigit : List (Nat × Instr × Nat) := [(0, .aload_n 0, 1), (1, .aload_n 0, 1), (2, .invokevirtual 218, 3), (5, .bipush 48, 2), (7, .bipush 57, 2), (9, .invokevirtual 207, 3), (12, .ireturn, 1)]
theorem td_isDigit : tb_isDigit.all (fun q => decide (decode cX12_isDigit q.1 = .ok (q.2.1, q.2.2))) = true := by decide +kernel
theorem hd_isDigit : yX12_isDigit.cls = RX12 ∧ yX12_isDigit.cls ≠ "java/lang/invoke/MethodHandle" ∧ yX12_isDigit.cls ≠ "java/lang/invoke/VarHandle" ∧ (parseMethodDescriptor yX12_isDigit.desc).map (fun d => d.parameters.length) = some 0 := by decide +kernel
theorem w_isDigit {p : Program} {l : Launch} {e : Env} {s : State} {m : MethodId} {args : Array Value} {below : List Frame} {meth : Method} {c : Code} {D : va_G} {o : Nat} {ad : Nat → Nat} {cs : ClassId × ClassId × ClassId} {r : Int32} {st' : mm_S} (C : mm_C p s m args meth c cX12_isDigit 1 (some .boolean) D cs) (fu : Nat) (st : mm_S) (hf : M_isDigit fu st = some (r, st')) {H : Heap} {locs : List Loc} {ls : Array Slot} (hl : lv_has ls 1 [(0, .ref o)]) (hM : mm_H D o ad cs s.heap st H locs) : W p l e (mm_R 1 23) s m args below meth c H locs 0 0 (MQ below (mm_Qi D o ad cs r st') args s 0 0 (mm_A o ad)) (F0 m 0 ls []) := by
  unfold M_isDigit at hf
  refine lv_aload_n C.1 C.2.1 (dd_at td_isDigit 0 rfl) rfl (lv_at hl 0 rfl) ?_
  refine lv_aload_n C.1 C.2.1 (dd_at td_isDigit 1 rfl) rfl (lv_at hl 0 rfl) ?_
  obtain ⟨r3, st1, hx2, hf⟩ := fc_of_bn hf
  refine mm_ci (As := []) (rest := [.ref o]) (n := 0) C hM (c_next l D o ad cs fu st) (List.mem_of_getElem? (i := 33) rfl) (dd_at td_isDigit 2 rfl) hx2 hl.1 hd_next ⟨Nat.le_of_ble_eq_true rfl, Nat.le_of_ble_eq_true rfl⟩ rfl rfl (Nat.le_of_ble_eq_true rfl) ⟨Nat.le_refl 0, Nat.le_refl 0⟩ (fun H locs hM => ?_)
  refine lv_bipush (v := (48 : Int32)) C.1 C.2.1 (dd_at td_isDigit 3 rfl) (by decide) ?_
  refine lv_bipush (v := (57 : Int32)) C.1 C.2.1 (dd_at td_isDigit 4 rfl) (by decide) ?_
  obtain ⟨r6, st4, hx5, hf⟩ := fc_of_bn hf
  refine mm_ci (As := [.int r3, .int (48 : Int32), .int (57 : Int32)]) (rest := []) (n := 3) C hM (c_in l D o ad cs fu r3 (48 : Int32) (57 : Int32) st1) (List.mem_of_getElem? (i := 18) rfl) (dd_at td_isDigit 5 rfl) hx5 hl.1 hd_in ⟨Nat.le_of_ble_eq_true rfl, Nat.le_of_ble_eq_true rfl⟩ rfl rfl (Nat.le_of_ble_eq_true rfl) ⟨Nat.le_refl 0, Nat.le_refl 0⟩ (fun H locs hM => ?_)
  obtain ⟨g7, hf⟩ := fc_of_gd hf
  exact mm_rz C hM (dd_at td_isDigit 6 rfl) (fc_of_zb g7) hf
theorem c_isDigit (l : Launch) (D : va_G) (o : Nat) (ad : Nat → Nat) (cs : ClassId × ClassId × ClassId) (fu : Nat) (st : mm_S) : mm_Mi l D o ad cs yX12_isDigit cX12_isDigit 1 (some .boolean) 1 23 [] st (M_isDigit fu st) := by
  intro r st' hf
  refine mm_enter (cc := cX12_isDigit) (nL := 1) (ret := some .boolean) (by decide) rfl (Nat.le_of_ble_eq_true rfl) ?_
  intro p e s m args below meth c ls C hl hM
  exact w_isDigit C fu st hf hl hM

/-! takesNumber -/
def tb_takesNumber : List (Nat × Instr × Nat) := [(0, .aload_n 0, 1), (1, .invokevirtual 225, 3), (4, .ifCond .ne 5, 3), (7, .iconst 0, 1), (8, .ireturn, 1), (9, .aload_n 0, 1), (10, .iconst 0, 1), (11, .putfield 47, 3), (14, .iconst 0, 1), (15, .istore_n 1, 1), (16, .iload_n 1, 1), (17, .iconst 2, 1), (18, .if_icmp .ge 45, 3), (21, .aload_n 0, 1), (22, .invokevirtual 225, 3), (25, .ifCond .eq 38, 3), (28, .aload_n 0, 1), (29, .bipush 10, 2), (31, .aload_n 0, 1), (32, .getfield 47, 3), (35, .imul, 1), (36, .aload_n 0, 1), (37, .invokevirtual 218, 3), (40, .iadd, 1), (41, .bipush 48, 2), (43, .isub, 1), (44, .putfield 47, 3), (47, .aload_n 0, 1), (48, .dup, 1), (49, .getfield 44, 3), (52, .iconst 1, 1), (53, .iadd, 1), (54, .putfield 44, 3), (57, .iinc 1 1, 3), (60, .goto (-44), 3), (63, .iconst 1, 1), (64, .ireturn, 1)]
theorem td_takesNumber : tb_takesNumber.all (fun q => decide (decode cX12_takesNumber q.1 = .ok (q.2.1, q.2.2))) = true := by decide +kernel
theorem hd_takesNumber : yX12_takesNumber.cls = RX12 ∧ yX12_takesNumber.cls ≠ "java/lang/invoke/MethodHandle" ∧ yX12_takesNumber.cls ≠ "java/lang/invoke/VarHandle" ∧ (parseMethodDescriptor yX12_takesNumber.desc).map (fun d => d.parameters.length) = some 0 := by decide +kernel
theorem w_takesNumber_b16F {p : Program} {l : Launch} {e : Env} {s : State} {m : MethodId} {args : Array Value} {below : List Frame} {meth : Method} {c : Code} {D : va_G} {o : Nat} {ad : Nat → Nat} {cs : ClassId × ClassId × ClassId} {r : Int32} {st' : mm_S} (C : mm_C p s m args meth c cX12_takesNumber 2 (some .boolean) D cs) (fu : Nat) (K16 : Int32 → mm_S → Option (Int32 × mm_S)) (hK16 : ∀ (x1 : Int32) (st : mm_S) (H : Heap) (locs : List Loc) (ls : Array Slot), K16 x1 st = some (r, st') → lv_has ls 2 [(0, .ref o), (1, .int x1)] → mm_H D o ad cs s.heap st H locs → W p l e (mm_R 2 43) s m args below meth c H locs 0 0 (MQ below (mm_Qi D o ad cs r st') args s 0 0 (mm_A o ad)) (F0 m 16 ls [])) (x1 : Int32) (st : mm_S) (hf : M_takesNumber_b16F fu K16 x1 st = some (r, st')) {H : Heap} {locs : List Loc} {ls : Array Slot} (hl : lv_has ls 2 [(0, .ref o), (1, .int x1)]) (hM : mm_H D o ad cs s.heap st H locs) : W p l e (mm_R 2 43) s m args below meth c H locs 0 0 (MQ below (mm_Qi D o ad cs r st') args s 0 0 (mm_A o ad)) (F0 m 16 ls []) := by
  unfold M_takesNumber_b16F at hf
  refine lv_iload_n C.1 C.2.1 (dd_at td_takesNumber 10 rfl) rfl (lv_at hl 1 rfl) ?_
  refine lv_iconst (v := (2 : Int32)) C.1 C.2.1 (dd_at td_takesNumber 11 rfl) (by decide) ?_
  refine lv_icmp_ge (tgt := 63) C.1 C.2.1 (dd_at td_takesNumber 12 rfl) (by decide) (fun c6 => ?_) (fun c6 => ?_)
  · replace hf := fc_of_t hf c6
    refine lv_iconst (v := (1 : Int32)) C.1 C.2.1 (dd_at td_takesNumber 35 rfl) (by decide) ?_
    exact mm_rz C hM (dd_at td_takesNumber 36 rfl) rfl hf
  · replace hf := fc_of_f hf c6
    refine lv_aload_n C.1 C.2.1 (dd_at td_takesNumber 13 rfl) rfl (lv_at hl 0 rfl) ?_
    obtain ⟨r9, st7, hx8, hf⟩ := fc_of_bn hf
    refine mm_ci (As := []) (rest := []) (n := 0) C hM (c_isDigit l D o ad cs fu st) (List.mem_of_getElem? (i := 21) rfl) (dd_at td_takesNumber 14 rfl) hx8 hl.1 hd_isDigit ⟨Nat.le_of_ble_eq_true rfl, Nat.le_of_ble_eq_true rfl⟩ rfl rfl (Nat.le_of_ble_eq_true rfl) ⟨Nat.le_refl 0, Nat.le_refl 0⟩ (fun H locs hM => ?_)
    refine lv_if_eq (tgt := 63) C.1 C.2.1 (dd_at td_takesNumber 15 rfl) (by decide) (fun c10 => ?_) (fun c10 => ?_)
    · replace hf := fc_of_t hf c10
      refine lv_iconst (v := (1 : Int32)) C.1 C.2.1 (dd_at td_takesNumber 35 rfl) (by decide) ?_
      exact mm_rz C hM (dd_at td_takesNumber 36 rfl) rfl hf
    · replace hf := fc_of_f hf c10
      refine lv_aload_n C.1 C.2.1 (dd_at td_takesNumber 16 rfl) rfl (lv_at hl 0 rfl) ?_
      refine lv_bipush (v := (10 : Int32)) C.1 C.2.1 (dd_at td_takesNumber 17 rfl) (by decide) ?_
      refine lv_aload_n C.1 C.2.1 (dd_at td_takesNumber 18 rfl) rfl (lv_at hl 0 rfl) ?_
      refine mm_gI C hM 12 (dd_at td_takesNumber 19 rfl) (by decide) (by decide) (by decide) ?_
      refine lv_imul C.1 C.2.1 (dd_at td_takesNumber 20 rfl) ?_
      refine lv_aload_n C.1 C.2.1 (dd_at td_takesNumber 21 rfl) rfl (lv_at hl 0 rfl) ?_
      obtain ⟨r13, st11, hx12, hf⟩ := fc_of_bn hf
      refine mm_ci (As := []) (rest := [.int ((10 : Int32) * (mm_I st7 12)), .ref o]) (n := 0) C hM (c_next l D o ad cs fu st7) (List.mem_of_getElem? (i := 33) rfl) (dd_at td_takesNumber 22 rfl) hx12 hl.1 hd_next ⟨Nat.le_of_ble_eq_true rfl, Nat.le_of_ble_eq_true rfl⟩ rfl rfl (Nat.le_of_ble_eq_true rfl) ⟨Nat.le_refl 0, Nat.le_refl 0⟩ (fun H locs hM => ?_)
      refine lv_iadd C.1 C.2.1 (dd_at td_takesNumber 23 rfl) ?_
      refine lv_bipush (v := (48 : Int32)) C.1 C.2.1 (dd_at td_takesNumber 24 rfl) (by decide) ?_
      refine lv_isub C.1 C.2.1 (dd_at td_takesNumber 25 rfl) ?_
      refine mm_pI C hM 12 (dd_at td_takesNumber 26 rfl) (by decide) (by decide) (by decide) rfl rfl (fun st14 H locs est14 hM => ?_)
      replace hf := fc_of_nm hf st14 est14
      refine lv_aload_n C.1 C.2.1 (dd_at td_takesNumber 27 rfl) rfl (lv_at hl 0 rfl) ?_
      refine lv_dup C.1 C.2.1 (dd_at td_takesNumber 28 rfl) rfl ?_
      refine mm_gI C hM 11 (dd_at td_takesNumber 29 rfl) (by decide) (by decide) (by decide) ?_
      refine lv_iconst (v := (1 : Int32)) C.1 C.2.1 (dd_at td_takesNumber 30 rfl) (by decide) ?_
      refine lv_iadd C.1 C.2.1 (dd_at td_takesNumber 31 rfl) ?_
      refine mm_pI C hM 11 (dd_at td_takesNumber 32 rfl) (by decide) (by decide) (by decide) rfl rfl (fun st15 H locs est15 hM => ?_)
      replace hf := fc_of_nm hf st15 est15
      obtain ⟨v16, ev16⟩ : ∃ y : Int32, y = x1 + (1 : Int32) := ⟨_, rfl⟩
      replace hf := fc_of_nm hf v16 ev16
      refine lv_iinc (v := v16) (lv' := [(1, .int v16), (0, .ref o)]) C.1 C.2.1 (dd_at td_takesNumber 33 rfl) hl (k := 1) rfl (by rw [ev16]; rfl) (by decide) rfl (fun ls hl => ?_)
      refine lv_goto (tgt := 16) C.1 C.2.1 (dd_at td_takesNumber 34 rfl) (by decide) ?_
      exact hK16 v16 st15 _ _ _ hf (lv_sub hl [1, 0] rfl) hM
theorem w_takesNumber_b16 {p : Program} {l : Launch} {e : Env} {s : State} {m : MethodId} {args : Array Value} {below : List Frame} {meth : Method} {c : Code} {D : va_G} {o : Nat} {ad : Nat → Nat} {cs : ClassId × ClassId × ClassId} {r : Int32} {st' : mm_S} (C : mm_C p s m args meth c cX12_takesNumber 2 (some .boolean) D cs) (fu : Nat) (n : Nat) : ∀ (x1 : Int32) (st : mm_S), M_takesNumber_b16 fu n x1 st = some (r, st') → ∀ (H : Heap) (locs : List Loc) (ls : Array Slot), lv_has ls 2 [(0, .ref o), (1, .int x1)] → mm_H D o ad cs s.heap st H locs → W p l e (mm_R 2 43) s m args below meth c H locs 0 0 (MQ below (mm_Qi D o ad cs r st') args s 0 0 (mm_A o ad)) (F0 m 16 ls []) := by
  induction n with
  | zero => exact fun _ _ hf => fc_no hf
  | succ n ih =>
    intro x1 st hf H locs ls hl hM
    exact w_takesNumber_b16F C fu (fun x1 st => M_takesNumber_b16 fu n x1 st) (fun x1 st H locs ls hf hl hM => ih x1 st hf H locs ls hl hM) x1 st hf hl hM
theorem w_takesNumber {p : Program} {l : Launch} {e : Env} {s : State} {m : MethodId} {args : Array Value} {below : List Frame} {meth : Method} {c : Code} {D : va_G} {o : Nat} {ad : Nat → Nat} {cs : ClassId × ClassId × ClassId} {r : Int32} {st' : mm_S} (C : mm_C p s m args meth c cX12_takesNumber 2 (some .boolean) D cs) (fu : Nat) (st : mm_S) (hf : M_takesNumber fu st = some (r, st')) {H : Heap} {locs : List Loc} {ls : Array Slot} (hl : lv_has ls 2 [(0, .ref o)]) (hM : mm_H D o ad cs s.heap st H locs) : W p l e (mm_R 2 43) s m args below meth c H locs 0 0 (MQ below (mm_Qi D o ad cs r st') args s 0 0 (mm_A o ad)) (F0 m 0 ls []) := by
  unfold M_takesNumber at hf
  refine lv_aload_n C.1 C.2.1 (dd_at td_takesNumber 0 rfl) rfl (lv_at hl 0 rfl) ?_
  obtain ⟨r3, st1, hx2, hf⟩ := fc_of_bn hf
  refine mm_ci (As := []) (rest := []) (n := 0) C hM (c_isDigit l D o ad cs fu st) (List.mem_of_getElem? (i := 21) rfl) (dd_at td_takesNumber 1 rfl) hx2 hl.1 hd_isDigit ⟨Nat.le_of_ble_eq_true rfl, Nat.le_of_ble_eq_true rfl⟩ rfl rfl (Nat.le_of_ble_eq_true rfl) ⟨Nat.le_refl 0, Nat.le_refl 0⟩ (fun H locs hM => ?_)
  refine lv_if_ne (tgt := 9) C.1 C.2.1 (dd_at td_takesNumber 2 rfl) (by decide) (fun c4 => ?_) (fun c4 => ?_)
  · replace hf := fc_of_f hf c4
    refine lv_aload_n C.1 C.2.1 (dd_at td_takesNumber 5 rfl) rfl (lv_at hl 0 rfl) ?_
    refine lv_iconst (v := (0 : Int32)) C.1 C.2.1 (dd_at td_takesNumber 6 rfl) (by decide) ?_
    refine mm_pI C hM 12 (dd_at td_takesNumber 7 rfl) (by decide) (by decide) (by decide) rfl rfl (fun st5 H locs est5 hM => ?_)
    replace hf := fc_of_nm hf st5 est5
    refine lv_iconst (v := (0 : Int32)) C.1 C.2.1 (dd_at td_takesNumber 8 rfl) (by decide) ?_
    refine lv_istore_n (lv' := [(1, .int (0 : Int32)), (0, .ref o)]) C.1 C.2.1 (dd_at td_takesNumber 9 rfl) rfl hl (by decide) rfl (fun ls hl => ?_)
    exact w_takesNumber_b16 C fu fu (0 : Int32) st5 hf _ _ _ (lv_sub hl [1, 0] rfl) hM
  · replace hf := fc_of_t hf c4
    refine lv_iconst (v := (0 : Int32)) C.1 C.2.1 (dd_at td_takesNumber 3 rfl) (by decide) ?_
    exact mm_rz C hM (dd_at td_takesNumber 4 rfl) rfl hf
theorem c_takesNumber (l : Launch) (D : va_G) (o : Nat) (ad : Nat → Nat) (cs : ClassId × ClassId × ClassId) (fu : Nat) (st : mm_S) : mm_Mi l D o ad cs yX12_takesNumber cX12_takesNumber 2 (some .boolean) 2 43 [] st (M_takesNumber fu st) := by
  intro r st' hf
  refine mm_enter (cc := cX12_takesNumber) (nL := 2) (ret := some .boolean) (by decide) rfl (Nat.le_of_ble_eq_true rfl) ?_
  intro p e s m args below meth c ls C hl hM
  exact w_takesNumber C fu st hf hl hM

/-! emits -/
def tb_emits : List (Nat × Instr × Nat) := [(0, .aload_n 0, 1), (1, .getfield 68, 3), (4, .aload_n 0, 1), (5, .getfield 74, 3), (8, .iload_n 1, 1), (9, .iastore, 1), (10, .aload_n 0, 1), (11, .dup, 1), (12, .getfield 74, 3), (15, .iconst 1, 1), (16, .iadd, 1), (17, .putfield 74, 3), (20, .return_, 1)]
theorem td_emits : tb_emits.all (fun q => decide (decode cX12_emits q.1 = .ok (q.2.1, q.2.2))) = true := by decide +kernel
theorem hd_emits : yX12_emits.cls = RX12 ∧ yX12_emits.cls ≠ "java/lang/invoke/MethodHandle" ∧ yX12_emits.cls ≠ "java/lang/invoke/VarHandle" ∧ (parseMethodDescriptor yX12_emits.desc).map (fun d => d.parameters.length) = some 1 := by decide +kernel
theorem w_emits {p : Program} {l : Launch} {e : Env} {s : State} {m : MethodId} {args : Array Value} {below : List Frame} {meth : Method} {c : Code} {D : va_G} {o : Nat} {ad : Nat → Nat} {cs : ClassId × ClassId × ClassId} {st' : mm_S} (C : mm_C p s m args meth c cX12_emits 2 (none) D cs) (fu : Nat) (x1 : Int32) (st : mm_S) (hf : M_emits fu x1 st = some st') {H : Heap} {locs : List Loc} {ls : Array Slot} (hl : lv_has ls 2 [(0, .ref o), (1, .int x1)]) (hM : mm_H D o ad cs s.heap st H locs) : W p l e (mm_R 0 0) s m args below meth c H locs 0 0 (MQ below (mm_Qv D o ad cs st') args s 0 0 (mm_A o ad)) (F0 m 0 ls []) := by
  unfold M_emits at hf
  refine lv_aload_n C.1 C.2.1 (dd_at td_emits 0 rfl) rfl (lv_at hl 0 rfl) ?_
  refine mm_gA C hM 19 (dd_at td_emits 1 rfl) (by decide) (by decide) (by decide) ?_
  refine lv_aload_n C.1 C.2.1 (dd_at td_emits 2 rfl) rfl (lv_at hl 0 rfl) ?_
  refine mm_gI C hM 21 (dd_at td_emits 3 rfl) (by decide) (by decide) (by decide) ?_
  refine lv_iload_n C.1 C.2.1 (dd_at td_emits 4 rfl) rfl (lv_at hl 1 rfl) ?_
  obtain ⟨g1, hf⟩ := fc_of_gd hf
  refine mm_iast C hM 19 (dd_at td_emits 5 rfl) (by decide) (by decide) (fc_of_ix g1) (fun st2 H locs est2 hM => ?_)
  replace hf := fc_of_nm hf st2 est2
  refine lv_aload_n C.1 C.2.1 (dd_at td_emits 6 rfl) rfl (lv_at hl 0 rfl) ?_
  refine lv_dup C.1 C.2.1 (dd_at td_emits 7 rfl) rfl ?_
  refine mm_gI C hM 21 (dd_at td_emits 8 rfl) (by decide) (by decide) (by decide) ?_
  refine lv_iconst (v := (1 : Int32)) C.1 C.2.1 (dd_at td_emits 9 rfl) (by decide) ?_
  refine lv_iadd C.1 C.2.1 (dd_at td_emits 10 rfl) ?_
  refine mm_pI C hM 21 (dd_at td_emits 11 rfl) (by decide) (by decide) (by decide) rfl rfl (fun st3 H locs est3 hM => ?_)
  replace hf := fc_of_nm hf st3 est3
  exact mm_rv C hM (dd_at td_emits 12 rfl) hf
theorem c_emits (l : Launch) (D : va_G) (o : Nat) (ad : Nat → Nat) (cs : ClassId × ClassId × ClassId) (fu : Nat) (x1 : Int32) (st : mm_S) : mm_Mv l D o ad cs yX12_emits cX12_emits 2 (none) 0 0 [.int x1] st (M_emits fu x1 st) := by
  intro st' hf
  refine mm_enter (cc := cX12_emits) (nL := 2) (ret := none) (by decide) rfl (Nat.le_of_ble_eq_true rfl) ?_
  intro p e s m args below meth c ls C hl hM
  exact w_emits C fu x1 st hf hl hM

/-! whole -/
def tb_whole : List (Nat × Instr × Nat) := [(0, .aload_n 0, 1), (1, .getfield 77, 3), (4, .ifCond .le 48, 3), (7, .aload_n 0, 1), (8, .getfield 71, 3), (11, .aload_n 0, 1), (12, .getfield 77, 3), (15, .iconst 1, 1), (16, .isub, 1), (17, .iaload, 1), (18, .bipush 33, 2), (20, .if_icmp .ne 32, 3), (23, .aload_n 0, 1), (24, .bipush (-33), 2), (26, .invokevirtual 229, 3), (29, .aload_n 0, 1), (30, .dup, 1), (31, .getfield 77, 3), (34, .iconst 1, 1), (35, .isub, 1), (36, .putfield 77, 3), (39, .aload_n 0, 1), (40, .dup, 1), (41, .getfield 80, 3), (44, .iconst 1, 1), (45, .isub, 1), (46, .putfield 80, 3), (49, .goto (-49), 3), (52, .return_, 1)]
theorem td_whole : tb_whole.all (fun q => decide (decode cX12_whole q.1 = .ok (q.2.1, q.2.2))) = true := by decide +kernel
theorem hd_whole : yX12_whole.cls = RX12 ∧ yX12_whole.cls ≠ "java/lang/invoke/MethodHandle" ∧ yX12_whole.cls ≠ "java/lang/invoke/VarHandle" ∧ (parseMethodDescriptor yX12_whole.desc).map (fun d => d.parameters.length) = some 0 := by decide +kernel
theorem w_whole_b0F {p : Program} {l : Launch} {e : Env} {s : State} {m : MethodId} {args : Array Value} {below : List Frame} {meth : Method} {c : Code} {D : va_G} {o : Nat} {ad : Nat → Nat} {cs : ClassId × ClassId × ClassId} {st' : mm_S} (C : mm_C p s m args meth c cX12_whole 1 (none) D cs) (fu : Nat) (K0 : mm_S → Option mm_S) (hK0 : ∀ (st : mm_S) (H : Heap) (locs : List Loc) (ls : Array Slot), K0 st = some st' → lv_has ls 1 [(0, .ref o)] → mm_H D o ad cs s.heap st H locs → W p l e (mm_R 1 21) s m args below meth c H locs 0 0 (MQ below (mm_Qv D o ad cs st') args s 0 0 (mm_A o ad)) (F0 m 0 ls [])) (st : mm_S) (hf : M_whole_b0F fu K0 st = some st') {H : Heap} {locs : List Loc} {ls : Array Slot} (hl : lv_has ls 1 [(0, .ref o)]) (hM : mm_H D o ad cs s.heap st H locs) : W p l e (mm_R 1 21) s m args below meth c H locs 0 0 (MQ below (mm_Qv D o ad cs st') args s 0 0 (mm_A o ad)) (F0 m 0 ls []) := by
  unfold M_whole_b0F at hf
  refine lv_aload_n C.1 C.2.1 (dd_at td_whole 0 rfl) rfl (lv_at hl 0 rfl) ?_
  refine mm_gI C hM 22 (dd_at td_whole 1 rfl) (by decide) (by decide) (by decide) ?_
  refine lv_if_le (tgt := 52) C.1 C.2.1 (dd_at td_whole 2 rfl) (by decide) (fun c1 => ?_) (fun c1 => ?_)
  · replace hf := fc_of_t hf c1
    exact mm_rv C hM (dd_at td_whole 28 rfl) hf
  · replace hf := fc_of_f hf c1
    refine lv_aload_n C.1 C.2.1 (dd_at td_whole 3 rfl) rfl (lv_at hl 0 rfl) ?_
    refine mm_gA C hM 20 (dd_at td_whole 4 rfl) (by decide) (by decide) (by decide) ?_
    refine lv_aload_n C.1 C.2.1 (dd_at td_whole 5 rfl) rfl (lv_at hl 0 rfl) ?_
    refine mm_gI C hM 22 (dd_at td_whole 6 rfl) (by decide) (by decide) (by decide) ?_
    refine lv_iconst (v := (1 : Int32)) C.1 C.2.1 (dd_at td_whole 7 rfl) (by decide) ?_
    refine lv_isub C.1 C.2.1 (dd_at td_whole 8 rfl) ?_
    obtain ⟨g2, hf⟩ := fc_of_gd hf
    refine mm_iald C hM 20 (dd_at td_whole 9 rfl) (by decide) (by decide) (fc_of_ix g2) ?_
    refine lv_bipush (v := (33 : Int32)) C.1 C.2.1 (dd_at td_whole 10 rfl) (by decide) ?_
    refine lv_icmp_ne (tgt := 52) C.1 C.2.1 (dd_at td_whole 11 rfl) (by decide) (fun c3 => ?_) (fun c3 => ?_)
    · replace hf := fc_of_f hf c3
      exact mm_rv C hM (dd_at td_whole 28 rfl) hf
    · replace hf := fc_of_t hf c3
      refine lv_aload_n C.1 C.2.1 (dd_at td_whole 12 rfl) rfl (lv_at hl 0 rfl) ?_
      refine lv_bipush (v := (-33 : Int32)) C.1 C.2.1 (dd_at td_whole 13 rfl) (by decide) ?_
      obtain ⟨st4, hx5, hf⟩ := fc_of_bv hf
      refine mm_cv (As := [.int (-33 : Int32)]) (rest := []) (n := 1) C hM (c_emits l D o ad cs fu (-33 : Int32) st) (List.mem_of_getElem? (i := 8) rfl) (dd_at td_whole 14 rfl) hx5 hl.1 hd_emits ⟨Nat.le_of_ble_eq_true rfl, Nat.le_of_ble_eq_true rfl⟩ rfl rfl (Nat.le_of_ble_eq_true rfl) ⟨Nat.le_refl 0, Nat.le_refl 0⟩ (fun H locs hM => ?_)
      refine lv_aload_n C.1 C.2.1 (dd_at td_whole 15 rfl) rfl (lv_at hl 0 rfl) ?_
      refine lv_dup C.1 C.2.1 (dd_at td_whole 16 rfl) rfl ?_
      refine mm_gI C hM 22 (dd_at td_whole 17 rfl) (by decide) (by decide) (by decide) ?_
      refine lv_iconst (v := (1 : Int32)) C.1 C.2.1 (dd_at td_whole 18 rfl) (by decide) ?_
      refine lv_isub C.1 C.2.1 (dd_at td_whole 19 rfl) ?_
      refine mm_pI C hM 22 (dd_at td_whole 20 rfl) (by decide) (by decide) (by decide) rfl rfl (fun st6 H locs est6 hM => ?_)
      replace hf := fc_of_nm hf st6 est6
      refine lv_aload_n C.1 C.2.1 (dd_at td_whole 21 rfl) rfl (lv_at hl 0 rfl) ?_
      refine lv_dup C.1 C.2.1 (dd_at td_whole 22 rfl) rfl ?_
      refine mm_gI C hM 23 (dd_at td_whole 23 rfl) (by decide) (by decide) (by decide) ?_
      refine lv_iconst (v := (1 : Int32)) C.1 C.2.1 (dd_at td_whole 24 rfl) (by decide) ?_
      refine lv_isub C.1 C.2.1 (dd_at td_whole 25 rfl) ?_
      refine mm_pI C hM 23 (dd_at td_whole 26 rfl) (by decide) (by decide) (by decide) rfl rfl (fun st7 H locs est7 hM => ?_)
      replace hf := fc_of_nm hf st7 est7
      refine lv_goto (tgt := 0) C.1 C.2.1 (dd_at td_whole 27 rfl) (by decide) ?_
      exact hK0 st7 _ _ _ hf (lv_sub hl [0] rfl) hM
theorem w_whole_b0 {p : Program} {l : Launch} {e : Env} {s : State} {m : MethodId} {args : Array Value} {below : List Frame} {meth : Method} {c : Code} {D : va_G} {o : Nat} {ad : Nat → Nat} {cs : ClassId × ClassId × ClassId} {st' : mm_S} (C : mm_C p s m args meth c cX12_whole 1 (none) D cs) (fu : Nat) (n : Nat) : ∀ (st : mm_S), M_whole_b0 fu n st = some st' → ∀ (H : Heap) (locs : List Loc) (ls : Array Slot), lv_has ls 1 [(0, .ref o)] → mm_H D o ad cs s.heap st H locs → W p l e (mm_R 1 21) s m args below meth c H locs 0 0 (MQ below (mm_Qv D o ad cs st') args s 0 0 (mm_A o ad)) (F0 m 0 ls []) := by
  induction n with
  | zero => exact fun _ hf => fc_no hf
  | succ n ih =>
    intro st hf H locs ls hl hM
    exact w_whole_b0F C fu (fun st => M_whole_b0 fu n st) (fun st H locs ls hf hl hM => ih st hf H locs ls hl hM) st hf hl hM
theorem w_whole {p : Program} {l : Launch} {e : Env} {s : State} {m : MethodId} {args : Array Value} {below : List Frame} {meth : Method} {c : Code} {D : va_G} {o : Nat} {ad : Nat → Nat} {cs : ClassId × ClassId × ClassId} {st' : mm_S} (C : mm_C p s m args meth c cX12_whole 1 (none) D cs) (fu : Nat) (st : mm_S) (hf : M_whole fu st = some st') {H : Heap} {locs : List Loc} {ls : Array Slot} (hl : lv_has ls 1 [(0, .ref o)]) (hM : mm_H D o ad cs s.heap st H locs) : W p l e (mm_R 1 21) s m args below meth c H locs 0 0 (MQ below (mm_Qv D o ad cs st') args s 0 0 (mm_A o ad)) (F0 m 0 ls []) := by
  unfold M_whole at hf
  exact w_whole_b0 C fu fu st hf _ _ _ (lv_sub hl [0] rfl) hM
theorem c_whole (l : Launch) (D : va_G) (o : Nat) (ad : Nat → Nat) (cs : ClassId × ClassId × ClassId) (fu : Nat) (st : mm_S) : mm_Mv l D o ad cs yX12_whole cX12_whole 1 (none) 1 21 [] st (M_whole fu st) := by
  intro st' hf
  refine mm_enter (cc := cX12_whole) (nL := 1) (ret := none) (by decide) rfl (Nat.le_of_ble_eq_true rfl) ?_
  intro p e s m args below meth c ls C hl hM
  exact w_whole C fu st hf hl hM

/-! settle -/
def tb_settle : List (Nat × Instr × Nat) := [(0, .aload_n 0, 1), (1, .getfield 77, 3), (4, .ifCond .le 68, 3), (7, .aload_n 0, 1), (8, .getfield 71, 3), (11, .aload_n 0, 1), (12, .getfield 77, 3), (15, .iconst 1, 1), (16, .isub, 1), (17, .iaload, 1), (18, .bipush 38, 2), (20, .if_icmp .eq 25, 3), (23, .aload_n 0, 1), (24, .getfield 71, 3), (27, .aload_n 0, 1), (28, .getfield 77, 3), (31, .iconst 1, 1), (32, .isub, 1), (33, .iaload, 1), (34, .bipush 124, 2), (36, .if_icmp .ne 36, 3), (39, .iload_n 1, 1), (40, .bipush 38, 2), (42, .if_icmp .eq 30, 3), (45, .aload_n 0, 1), (46, .dup, 1), (47, .getfield 77, 3), (50, .iconst 1, 1), (51, .isub, 1), (52, .putfield 77, 3), (55, .aload_n 0, 1), (56, .aload_n 0, 1), (57, .getfield 71, 3), (60, .aload_n 0, 1), (61, .getfield 77, 3), (64, .iaload, 1), (65, .ineg, 1), (66, .invokevirtual 229, 3), (69, .goto (-69), 3), (72, .return_, 1)]
theorem td_settle : tb_settle.all (fun q => decide (decode cX12_settle q.1 = .ok (q.2.1, q.2.2))) = true := by decide +kernel
theorem hd_settle : yX12_settle.cls = RX12 ∧ yX12_settle.cls ≠ "java/lang/invoke/MethodHandle" ∧ yX12_settle.cls ≠ "java/lang/invoke/VarHandle" ∧ (parseMethodDescriptor yX12_settle.desc).map (fun d => d.parameters.length) = some 1 := by decide +kernel
theorem w_settle_b45 {p : Program} {l : Launch} {e : Env} {s : State} {m : MethodId} {args : Array Value} {below : List Frame} {meth : Method} {c : Code} {D : va_G} {o : Nat} {ad : Nat → Nat} {cs : ClassId × ClassId × ClassId} {st' : mm_S} (C : mm_C p s m args meth c cX12_settle 2 (none) D cs) (fu : Nat) (K0 : Int32 → mm_S → Option mm_S) (hK0 : ∀ (x1 : Int32) (st : mm_S) (H : Heap) (locs : List Loc) (ls : Array Slot), K0 x1 st = some st' → lv_has ls 2 [(0, .ref o), (1, .int x1)] → mm_H D o ad cs s.heap st H locs → W p l e (mm_R 1 21) s m args below meth c H locs 0 0 (MQ below (mm_Qv D o ad cs st') args s 0 0 (mm_A o ad)) (F0 m 0 ls [])) (x1 : Int32) (st : mm_S) (hf : M_settle_b45 fu K0 x1 st = some st') {H : Heap} {locs : List Loc} {ls : Array Slot} (hl : lv_has ls 2 [(0, .ref o), (1, .int x1)]) (hM : mm_H D o ad cs s.heap st H locs) : W p l e (mm_R 1 21) s m args below meth c H locs 0 0 (MQ below (mm_Qv D o ad cs st') args s 0 0 (mm_A o ad)) (F0 m 45 ls []) := by
  unfold M_settle_b45 at hf
  refine lv_aload_n C.1 C.2.1 (dd_at td_settle 24 rfl) rfl (lv_at hl 0 rfl) ?_
  refine lv_dup C.1 C.2.1 (dd_at td_settle 25 rfl) rfl ?_
  refine mm_gI C hM 22 (dd_at td_settle 26 rfl) (by decide) (by decide) (by decide) ?_
  refine lv_iconst (v := (1 : Int32)) C.1 C.2.1 (dd_at td_settle 27 rfl) (by decide) ?_
  refine lv_isub C.1 C.2.1 (dd_at td_settle 28 rfl) ?_
  refine mm_pI C hM 22 (dd_at td_settle 29 rfl) (by decide) (by decide) (by decide) rfl rfl (fun st7 H locs est7 hM => ?_)
  replace hf := fc_of_nm hf st7 est7
  refine lv_aload_n C.1 C.2.1 (dd_at td_settle 30 rfl) rfl (lv_at hl 0 rfl) ?_
  refine lv_aload_n C.1 C.2.1 (dd_at td_settle 31 rfl) rfl (lv_at hl 0 rfl) ?_
  refine mm_gA C hM 20 (dd_at td_settle 32 rfl) (by decide) (by decide) (by decide) ?_
  refine lv_aload_n C.1 C.2.1 (dd_at td_settle 33 rfl) rfl (lv_at hl 0 rfl) ?_
  refine mm_gI C hM 22 (dd_at td_settle 34 rfl) (by decide) (by decide) (by decide) ?_
  obtain ⟨g8, hf⟩ := fc_of_gd hf
  refine mm_iald C hM 20 (dd_at td_settle 35 rfl) (by decide) (by decide) (fc_of_ix g8) ?_
  refine lv_ineg C.1 C.2.1 (dd_at td_settle 36 rfl) ?_
  obtain ⟨st9, hx10, hf⟩ := fc_of_bv hf
  refine mm_cv (As := [.int (-(mm_G st7 20 (mm_I st7 22).toNatClampNeg))]) (rest := []) (n := 1) C hM (c_emits l D o ad cs fu (-(mm_G st7 20 (mm_I st7 22).toNatClampNeg)) st7) (List.mem_of_getElem? (i := 8) rfl) (dd_at td_settle 37 rfl) hx10 hl.1 hd_emits ⟨Nat.le_of_ble_eq_true rfl, Nat.le_of_ble_eq_true rfl⟩ rfl rfl (Nat.le_of_ble_eq_true rfl) ⟨Nat.le_refl 0, Nat.le_refl 0⟩ (fun H locs hM => ?_)
  refine lv_goto (tgt := 0) C.1 C.2.1 (dd_at td_settle 38 rfl) (by decide) ?_
  exact hK0 x1 st9 _ _ _ hf (lv_sub hl [0, 1] rfl) hM
theorem w_settle_b0F {p : Program} {l : Launch} {e : Env} {s : State} {m : MethodId} {args : Array Value} {below : List Frame} {meth : Method} {c : Code} {D : va_G} {o : Nat} {ad : Nat → Nat} {cs : ClassId × ClassId × ClassId} {st' : mm_S} (C : mm_C p s m args meth c cX12_settle 2 (none) D cs) (fu : Nat) (K0 : Int32 → mm_S → Option mm_S) (hK0 : ∀ (x1 : Int32) (st : mm_S) (H : Heap) (locs : List Loc) (ls : Array Slot), K0 x1 st = some st' → lv_has ls 2 [(0, .ref o), (1, .int x1)] → mm_H D o ad cs s.heap st H locs → W p l e (mm_R 1 21) s m args below meth c H locs 0 0 (MQ below (mm_Qv D o ad cs st') args s 0 0 (mm_A o ad)) (F0 m 0 ls [])) (x1 : Int32) (st : mm_S) (hf : M_settle_b0F fu K0 x1 st = some st') {H : Heap} {locs : List Loc} {ls : Array Slot} (hl : lv_has ls 2 [(0, .ref o), (1, .int x1)]) (hM : mm_H D o ad cs s.heap st H locs) : W p l e (mm_R 1 21) s m args below meth c H locs 0 0 (MQ below (mm_Qv D o ad cs st') args s 0 0 (mm_A o ad)) (F0 m 0 ls []) := by
  unfold M_settle_b0F at hf
  refine lv_aload_n C.1 C.2.1 (dd_at td_settle 0 rfl) rfl (lv_at hl 0 rfl) ?_
  refine mm_gI C hM 22 (dd_at td_settle 1 rfl) (by decide) (by decide) (by decide) ?_
  refine lv_if_le (tgt := 72) C.1 C.2.1 (dd_at td_settle 2 rfl) (by decide) (fun c1 => ?_) (fun c1 => ?_)
  · replace hf := fc_of_t hf c1
    exact mm_rv C hM (dd_at td_settle 39 rfl) hf
  · replace hf := fc_of_f hf c1
    refine lv_aload_n C.1 C.2.1 (dd_at td_settle 3 rfl) rfl (lv_at hl 0 rfl) ?_
    refine mm_gA C hM 20 (dd_at td_settle 4 rfl) (by decide) (by decide) (by decide) ?_
    refine lv_aload_n C.1 C.2.1 (dd_at td_settle 5 rfl) rfl (lv_at hl 0 rfl) ?_
    refine mm_gI C hM 22 (dd_at td_settle 6 rfl) (by decide) (by decide) (by decide) ?_
    refine lv_iconst (v := (1 : Int32)) C.1 C.2.1 (dd_at td_settle 7 rfl) (by decide) ?_
    refine lv_isub C.1 C.2.1 (dd_at td_settle 8 rfl) ?_
    obtain ⟨g2, hf⟩ := fc_of_gd hf
    refine mm_iald C hM 20 (dd_at td_settle 9 rfl) (by decide) (by decide) (fc_of_ix g2) ?_
    refine lv_bipush (v := (38 : Int32)) C.1 C.2.1 (dd_at td_settle 10 rfl) (by decide) ?_
    refine lv_icmp_eq (tgt := 45) C.1 C.2.1 (dd_at td_settle 11 rfl) (by decide) (fun c3 => ?_) (fun c3 => ?_)
    · replace hf := fc_of_t hf c3
      exact w_settle_b45 C fu K0 hK0 x1 st hf (lv_sub hl [0, 1] rfl) hM
    · replace hf := fc_of_f hf c3
      refine lv_aload_n C.1 C.2.1 (dd_at td_settle 12 rfl) rfl (lv_at hl 0 rfl) ?_
      refine mm_gA C hM 20 (dd_at td_settle 13 rfl) (by decide) (by decide) (by decide) ?_
      refine lv_aload_n C.1 C.2.1 (dd_at td_settle 14 rfl) rfl (lv_at hl 0 rfl) ?_
      refine mm_gI C hM 22 (dd_at td_settle 15 rfl) (by decide) (by decide) (by decide) ?_
      refine lv_iconst (v := (1 : Int32)) C.1 C.2.1 (dd_at td_settle 16 rfl) (by decide) ?_
      refine lv_isub C.1 C.2.1 (dd_at td_settle 17 rfl) ?_
      obtain ⟨g4, hf⟩ := fc_of_gd hf
      refine mm_iald C hM 20 (dd_at td_settle 18 rfl) (by decide) (by decide) (fc_of_ix g4) ?_
      refine lv_bipush (v := (124 : Int32)) C.1 C.2.1 (dd_at td_settle 19 rfl) (by decide) ?_
      refine lv_icmp_ne (tgt := 72) C.1 C.2.1 (dd_at td_settle 20 rfl) (by decide) (fun c5 => ?_) (fun c5 => ?_)
      · replace hf := fc_of_f hf c5
        exact mm_rv C hM (dd_at td_settle 39 rfl) hf
      · replace hf := fc_of_t hf c5
        refine lv_iload_n C.1 C.2.1 (dd_at td_settle 21 rfl) rfl (lv_at hl 1 rfl) ?_
        refine lv_bipush (v := (38 : Int32)) C.1 C.2.1 (dd_at td_settle 22 rfl) (by decide) ?_
        refine lv_icmp_eq (tgt := 72) C.1 C.2.1 (dd_at td_settle 23 rfl) (by decide) (fun c6 => ?_) (fun c6 => ?_)
        · replace hf := fc_of_t hf c6
          exact mm_rv C hM (dd_at td_settle 39 rfl) hf
        · replace hf := fc_of_f hf c6
          exact w_settle_b45 C fu K0 hK0 x1 st hf (lv_sub hl [0, 1] rfl) hM
theorem w_settle_b0 {p : Program} {l : Launch} {e : Env} {s : State} {m : MethodId} {args : Array Value} {below : List Frame} {meth : Method} {c : Code} {D : va_G} {o : Nat} {ad : Nat → Nat} {cs : ClassId × ClassId × ClassId} {st' : mm_S} (C : mm_C p s m args meth c cX12_settle 2 (none) D cs) (fu : Nat) (n : Nat) : ∀ (x1 : Int32) (st : mm_S), M_settle_b0 fu n x1 st = some st' → ∀ (H : Heap) (locs : List Loc) (ls : Array Slot), lv_has ls 2 [(0, .ref o), (1, .int x1)] → mm_H D o ad cs s.heap st H locs → W p l e (mm_R 1 21) s m args below meth c H locs 0 0 (MQ below (mm_Qv D o ad cs st') args s 0 0 (mm_A o ad)) (F0 m 0 ls []) := by
  induction n with
  | zero => exact fun _ _ hf => fc_no hf
  | succ n ih =>
    intro x1 st hf H locs ls hl hM
    exact w_settle_b0F C fu (fun x1 st => M_settle_b0 fu n x1 st) (fun x1 st H locs ls hf hl hM => ih x1 st hf H locs ls hl hM) x1 st hf hl hM
theorem w_settle {p : Program} {l : Launch} {e : Env} {s : State} {m : MethodId} {args : Array Value} {below : List Frame} {meth : Method} {c : Code} {D : va_G} {o : Nat} {ad : Nat → Nat} {cs : ClassId × ClassId × ClassId} {st' : mm_S} (C : mm_C p s m args meth c cX12_settle 2 (none) D cs) (fu : Nat) (x1 : Int32) (st : mm_S) (hf : M_settle fu x1 st = some st') {H : Heap} {locs : List Loc} {ls : Array Slot} (hl : lv_has ls 2 [(0, .ref o), (1, .int x1)]) (hM : mm_H D o ad cs s.heap st H locs) : W p l e (mm_R 1 21) s m args below meth c H locs 0 0 (MQ below (mm_Qv D o ad cs st') args s 0 0 (mm_A o ad)) (F0 m 0 ls []) := by
  unfold M_settle at hf
  exact w_settle_b0 C fu fu x1 st hf _ _ _ (lv_sub hl [0, 1] rfl) hM
theorem c_settle (l : Launch) (D : va_G) (o : Nat) (ad : Nat → Nat) (cs : ClassId × ClassId × ClassId) (fu : Nat) (x1 : Int32) (st : mm_S) : mm_Mv l D o ad cs yX12_settle cX12_settle 2 (none) 1 21 [.int x1] st (M_settle fu x1 st) := by
  intro st' hf
  refine mm_enter (cc := cX12_settle) (nL := 2) (ret := none) (by decide) rfl (Nat.le_of_ble_eq_true rfl) ?_
  intro p e s m args below meth c ls C hl hM
  exact w_settle C fu x1 st hf hl hM

/-! place -/
def tb_place : List (Nat × Instr × Nat) := [(0, .iload_n 1, 1), (1, .lookupswitch 71 #[(99, 67), (100, 69), (105, 59), (107, 61), (118, 63), (121, 65)], 59), (60, .iconst 0, 1), (61, .ireturn, 1), (62, .iconst 1, 1), (63, .ireturn, 1), (64, .iconst 2, 1), (65, .ireturn, 1), (66, .iconst 3, 1), (67, .ireturn, 1), (68, .iconst 4, 1), (69, .ireturn, 1), (70, .iconst 5, 1), (71, .ireturn, 1), (72, .iconst (-1), 1), (73, .ireturn, 1)]
theorem td_place : tb_place.all (fun q => decide (decode cX12_place q.1 = .ok (q.2.1, q.2.2))) = true := by decide +kernel
theorem hd_place : yX12_place.cls = RX12 ∧ yX12_place.cls ≠ "java/lang/invoke/MethodHandle" ∧ yX12_place.cls ≠ "java/lang/invoke/VarHandle" ∧ (parseMethodDescriptor yX12_place.desc).map (fun d => d.parameters.length) = some 1 := by decide +kernel
theorem w_place {p : Program} {l : Launch} {e : Env} {s : State} {m : MethodId} {args : Array Value} {below : List Frame} {meth : Method} {c : Code} {D : va_G} {o : Nat} {ad : Nat → Nat} {cs : ClassId × ClassId × ClassId} {r : Int32} {st' : mm_S} (C : mm_C p s m args meth c cX12_place 2 (some .int) D cs) (fu : Nat) (x1 : Int32) (st : mm_S) (hf : M_place fu x1 st = some (r, st')) {H : Heap} {locs : List Loc} {ls : Array Slot} (hl : lv_has ls 2 [(0, .ref o), (1, .int x1)]) (hM : mm_H D o ad cs s.heap st H locs) : W p l e (mm_R 0 0) s m args below meth c H locs 0 0 (MQ below (mm_Qi D o ad cs r st') args s 0 0 (mm_A o ad)) (F0 m 0 ls []) := by
  unfold M_place at hf
  refine lv_iload_n C.1 C.2.1 (dd_at td_place 0 rfl) rfl (lv_at hl 1 rfl) ?_
  by_cases c1 : x1 = (99 : Int32)
  · replace hf := fc_of_t hf c1
    refine lv_lookup (off := 67) (tgt := 68) C.1 C.2.1 (dd_at td_place 1 rfl) (by decide) (by rw [c1]; decide) (by decide) ?_
    refine lv_iconst (v := (4 : Int32)) C.1 C.2.1 (dd_at td_place 10 rfl) (by decide) ?_
    exact mm_ri C hM (dd_at td_place 11 rfl) hf
  · replace hf := fc_of_f hf c1
    by_cases c2 : x1 = (100 : Int32)
    · replace hf := fc_of_t hf c2
      refine lv_lookup (off := 69) (tgt := 70) C.1 C.2.1 (dd_at td_place 1 rfl) (by decide) (by rw [c2]; decide) (by decide) ?_
      refine lv_iconst (v := (5 : Int32)) C.1 C.2.1 (dd_at td_place 12 rfl) (by decide) ?_
      exact mm_ri C hM (dd_at td_place 13 rfl) hf
    · replace hf := fc_of_f hf c2
      by_cases c3 : x1 = (105 : Int32)
      · replace hf := fc_of_t hf c3
        refine lv_lookup (off := 59) (tgt := 60) C.1 C.2.1 (dd_at td_place 1 rfl) (by decide) (by rw [c3]; decide) (by decide) ?_
        refine lv_iconst (v := (0 : Int32)) C.1 C.2.1 (dd_at td_place 2 rfl) (by decide) ?_
        exact mm_ri C hM (dd_at td_place 3 rfl) hf
      · replace hf := fc_of_f hf c3
        by_cases c4 : x1 = (107 : Int32)
        · replace hf := fc_of_t hf c4
          refine lv_lookup (off := 61) (tgt := 62) C.1 C.2.1 (dd_at td_place 1 rfl) (by decide) (by rw [c4]; decide) (by decide) ?_
          refine lv_iconst (v := (1 : Int32)) C.1 C.2.1 (dd_at td_place 4 rfl) (by decide) ?_
          exact mm_ri C hM (dd_at td_place 5 rfl) hf
        · replace hf := fc_of_f hf c4
          by_cases c5 : x1 = (118 : Int32)
          · replace hf := fc_of_t hf c5
            refine lv_lookup (off := 63) (tgt := 64) C.1 C.2.1 (dd_at td_place 1 rfl) (by decide) (by rw [c5]; decide) (by decide) ?_
            refine lv_iconst (v := (2 : Int32)) C.1 C.2.1 (dd_at td_place 6 rfl) (by decide) ?_
            exact mm_ri C hM (dd_at td_place 7 rfl) hf
          · replace hf := fc_of_f hf c5
            by_cases c6 : x1 = (121 : Int32)
            · replace hf := fc_of_t hf c6
              refine lv_lookup (off := 65) (tgt := 66) C.1 C.2.1 (dd_at td_place 1 rfl) (by decide) (by rw [c6]; decide) (by decide) ?_
              refine lv_iconst (v := (3 : Int32)) C.1 C.2.1 (dd_at td_place 8 rfl) (by decide) ?_
              exact mm_ri C hM (dd_at td_place 9 rfl) hf
            · replace hf := fc_of_f hf c6
              refine lv_lookup (off := 71) (tgt := 72) C.1 C.2.1 (dd_at td_place 1 rfl) (by decide) (by show Op.lookupswitch.offset [(99, 67), (100, 69), (105, 59), (107, 61), (118, 63), (121, 65)] 71 _ = _; rw [lv_osw c1 (by decide), lv_osw c2 (by decide), lv_osw c3 (by decide), lv_osw c4 (by decide), lv_osw c5 (by decide), lv_osw c6 (by decide)]; rfl) (by decide) ?_
              refine lv_iconst (v := (-1 : Int32)) C.1 C.2.1 (dd_at td_place 14 rfl) (by decide) ?_
              exact mm_ri C hM (dd_at td_place 15 rfl) hf
theorem c_place (l : Launch) (D : va_G) (o : Nat) (ad : Nat → Nat) (cs : ClassId × ClassId × ClassId) (fu : Nat) (x1 : Int32) (st : mm_S) : mm_Mi l D o ad cs yX12_place cX12_place 2 (some .int) 0 0 [.int x1] st (M_place fu x1 st) := by
  intro r st' hf
  refine mm_enter (cc := cX12_place) (nL := 2) (ret := some .int) (by decide) rfl (Nat.le_of_ble_eq_true rfl) ?_
  intro p e s m args below meth c ls C hl hM
  exact w_place C fu x1 st hf hl hM

/-! takesTest -/
def tb_takesTest : List (Nat × Instr × Nat) := [(0, .aload_n 0, 1), (1, .aload_n 0, 1), (2, .invokevirtual 218, 3), (5, .invokevirtual 233, 3), (8, .istore_n 1, 1), (9, .iload_n 1, 1), (10, .ifCond .ge 5, 3), (13, .iconst 0, 1), (14, .ireturn, 1), (15, .aload_n 0, 1), (16, .dup, 1), (17, .getfield 44, 3), (20, .iconst 1, 1), (21, .iadd, 1), (22, .putfield 44, 3), (25, .aload_n 0, 1), (26, .invokevirtual 218, 3), (29, .istore_n 2, 1), (30, .aload_n 0, 1), (31, .iload_n 2, 1), (32, .bipush 60, 2), (34, .bipush 62, 2), (36, .invokevirtual 207, 3), (39, .ifCond .ne 5, 3), (42, .iconst 0, 1), (43, .ireturn, 1), (44, .aload_n 0, 1), (45, .dup, 1), (46, .getfield 44, 3), (49, .iconst 1, 1), (50, .iadd, 1), (51, .putfield 44, 3), (54, .aload_n 0, 1), (55, .invokevirtual 237, 3), (58, .ifCond .ne 5, 3), (61, .iconst 0, 1), (62, .ireturn, 1), (63, .aload_n 0, 1), (64, .sipush 1000, 3), (67, .iload_n 1, 1), (68, .imul, 1), (69, .bipush 100, 2), (71, .iload_n 2, 1), (72, .bipush 60, 2), (74, .isub, 1), (75, .imul, 1), (76, .iadd, 1), (77, .aload_n 0, 1), (78, .getfield 47, 3), (81, .iadd, 1), (82, .invokevirtual 229, 3), (85, .aload_n 0, 1), (86, .invokevirtual 240, 3), (89, .iconst 1, 1), (90, .ireturn, 1)]
theorem td_takesTest : tb_takesTest.all (fun q => decide (decode cX12_takesTest q.1 = .ok (q.2.1, q.2.2))) = true := by decide +kernel
theorem hd_takesTest : yX12_takesTest.cls = RX12 ∧ yX12_takesTest.cls ≠ "java/lang/invoke/MethodHandle" ∧ yX12_takesTest.cls ≠ "java/lang/invoke/VarHandle" ∧ (parseMethodDescriptor yX12_takesTest.desc).map (fun d => d.parameters.length) = some 0 := by decide +kernel
theorem w_takesTest {p : Program} {l : Launch} {e : Env} {s : State} {m : MethodId} {args : Array Value} {below : List Frame} {meth : Method} {c : Code} {D : va_G} {o : Nat} {ad : Nat → Nat} {cs : ClassId × ClassId × ClassId} {r : Int32} {st' : mm_S} (C : mm_C p s m args meth c cX12_takesTest 3 (some .boolean) D cs) (fu : Nat) (st : mm_S) (hf : M_takesTest fu st = some (r, st')) {H : Heap} {locs : List Loc} {ls : Array Slot} (hl : lv_has ls 3 [(0, .ref o)]) (hM : mm_H D o ad cs s.heap st H locs) : W p l e (mm_R 3 64) s m args below meth c H locs 0 0 (MQ below (mm_Qi D o ad cs r st') args s 0 0 (mm_A o ad)) (F0 m 0 ls []) := by
  unfold M_takesTest at hf
  refine lv_aload_n C.1 C.2.1 (dd_at td_takesTest 0 rfl) rfl (lv_at hl 0 rfl) ?_
  refine lv_aload_n C.1 C.2.1 (dd_at td_takesTest 1 rfl) rfl (lv_at hl 0 rfl) ?_
  obtain ⟨r3, st1, hx2, hf⟩ := fc_of_bn hf
  refine mm_ci (As := []) (rest := [.ref o]) (n := 0) C hM (c_next l D o ad cs fu st) (List.mem_of_getElem? (i := 33) rfl) (dd_at td_takesTest 2 rfl) hx2 hl.1 hd_next ⟨Nat.le_of_ble_eq_true rfl, Nat.le_of_ble_eq_true rfl⟩ rfl rfl (Nat.le_of_ble_eq_true rfl) ⟨Nat.le_refl 0, Nat.le_refl 0⟩ (fun H locs hM => ?_)
  obtain ⟨r6, st4, hx5, hf⟩ := fc_of_bn hf
  refine mm_ci (As := [.int r3]) (rest := []) (n := 1) C hM (c_place l D o ad cs fu r3 st1) (List.mem_of_getElem? (i := 34) rfl) (dd_at td_takesTest 3 rfl) hx5 hl.1 hd_place ⟨Nat.le_of_ble_eq_true rfl, Nat.le_of_ble_eq_true rfl⟩ rfl rfl (Nat.le_of_ble_eq_true rfl) ⟨Nat.le_refl 0, Nat.le_refl 0⟩ (fun H locs hM => ?_)
  refine lv_istore_n (lv' := [(1, .int r6), (0, .ref o)]) C.1 C.2.1 (dd_at td_takesTest 4 rfl) rfl hl (by decide) rfl (fun ls hl => ?_)
  refine lv_iload_n C.1 C.2.1 (dd_at td_takesTest 5 rfl) rfl (lv_at hl 0 rfl) ?_
  refine lv_if_ge (tgt := 15) C.1 C.2.1 (dd_at td_takesTest 6 rfl) (by decide) (fun c7 => ?_) (fun c7 => ?_)
  · replace hf := fc_of_t hf c7
    refine lv_aload_n C.1 C.2.1 (dd_at td_takesTest 9 rfl) rfl (lv_at hl 1 rfl) ?_
    refine lv_dup C.1 C.2.1 (dd_at td_takesTest 10 rfl) rfl ?_
    refine mm_gI C hM 11 (dd_at td_takesTest 11 rfl) (by decide) (by decide) (by decide) ?_
    refine lv_iconst (v := (1 : Int32)) C.1 C.2.1 (dd_at td_takesTest 12 rfl) (by decide) ?_
    refine lv_iadd C.1 C.2.1 (dd_at td_takesTest 13 rfl) ?_
    refine mm_pI C hM 11 (dd_at td_takesTest 14 rfl) (by decide) (by decide) (by decide) rfl rfl (fun st8 H locs est8 hM => ?_)
    replace hf := fc_of_nm hf st8 est8
    refine lv_aload_n C.1 C.2.1 (dd_at td_takesTest 15 rfl) rfl (lv_at hl 1 rfl) ?_
    obtain ⟨r11, st9, hx10, hf⟩ := fc_of_bn hf
    refine mm_ci (As := []) (rest := []) (n := 0) C hM (c_next l D o ad cs fu st8) (List.mem_of_getElem? (i := 33) rfl) (dd_at td_takesTest 16 rfl) hx10 hl.1 hd_next ⟨Nat.le_of_ble_eq_true rfl, Nat.le_of_ble_eq_true rfl⟩ rfl rfl (Nat.le_of_ble_eq_true rfl) ⟨Nat.le_refl 0, Nat.le_refl 0⟩ (fun H locs hM => ?_)
    refine lv_istore_n (lv' := [(2, .int r11), (1, .int r6), (0, .ref o)]) C.1 C.2.1 (dd_at td_takesTest 17 rfl) rfl hl (by decide) rfl (fun ls hl => ?_)
    refine lv_aload_n C.1 C.2.1 (dd_at td_takesTest 18 rfl) rfl (lv_at hl 2 rfl) ?_
    refine lv_iload_n C.1 C.2.1 (dd_at td_takesTest 19 rfl) rfl (lv_at hl 0 rfl) ?_
    refine lv_bipush (v := (60 : Int32)) C.1 C.2.1 (dd_at td_takesTest 20 rfl) (by decide) ?_
    refine lv_bipush (v := (62 : Int32)) C.1 C.2.1 (dd_at td_takesTest 21 rfl) (by decide) ?_
    obtain ⟨r14, st12, hx13, hf⟩ := fc_of_bn hf
    refine mm_ci (As := [.int r11, .int (60 : Int32), .int (62 : Int32)]) (rest := []) (n := 3) C hM (c_in l D o ad cs fu r11 (60 : Int32) (62 : Int32) st9) (List.mem_of_getElem? (i := 18) rfl) (dd_at td_takesTest 22 rfl) hx13 hl.1 hd_in ⟨Nat.le_of_ble_eq_true rfl, Nat.le_of_ble_eq_true rfl⟩ rfl rfl (Nat.le_of_ble_eq_true rfl) ⟨Nat.le_refl 0, Nat.le_refl 0⟩ (fun H locs hM => ?_)
    refine lv_if_ne (tgt := 44) C.1 C.2.1 (dd_at td_takesTest 23 rfl) (by decide) (fun c15 => ?_) (fun c15 => ?_)
    · replace hf := fc_of_f hf c15
      refine lv_aload_n C.1 C.2.1 (dd_at td_takesTest 26 rfl) rfl (lv_at hl 2 rfl) ?_
      refine lv_dup C.1 C.2.1 (dd_at td_takesTest 27 rfl) rfl ?_
      refine mm_gI C hM 11 (dd_at td_takesTest 28 rfl) (by decide) (by decide) (by decide) ?_
      refine lv_iconst (v := (1 : Int32)) C.1 C.2.1 (dd_at td_takesTest 29 rfl) (by decide) ?_
      refine lv_iadd C.1 C.2.1 (dd_at td_takesTest 30 rfl) ?_
      refine mm_pI C hM 11 (dd_at td_takesTest 31 rfl) (by decide) (by decide) (by decide) rfl rfl (fun st16 H locs est16 hM => ?_)
      replace hf := fc_of_nm hf st16 est16
      refine lv_aload_n C.1 C.2.1 (dd_at td_takesTest 32 rfl) rfl (lv_at hl 2 rfl) ?_
      obtain ⟨r19, st17, hx18, hf⟩ := fc_of_bn hf
      refine mm_ci (As := []) (rest := []) (n := 0) C hM (c_takesNumber l D o ad cs fu st16) (List.mem_of_getElem? (i := 42) rfl) (dd_at td_takesTest 33 rfl) hx18 hl.1 hd_takesNumber ⟨Nat.le_of_ble_eq_true rfl, Nat.le_of_ble_eq_true rfl⟩ rfl rfl (Nat.le_of_ble_eq_true rfl) ⟨Nat.le_refl 0, Nat.le_refl 0⟩ (fun H locs hM => ?_)
      refine lv_if_ne (tgt := 63) C.1 C.2.1 (dd_at td_takesTest 34 rfl) (by decide) (fun c20 => ?_) (fun c20 => ?_)
      · replace hf := fc_of_f hf c20
        refine lv_aload_n C.1 C.2.1 (dd_at td_takesTest 37 rfl) rfl (lv_at hl 2 rfl) ?_
        refine lv_sipush (v := (1000 : Int32)) C.1 C.2.1 (dd_at td_takesTest 38 rfl) (by decide) ?_
        refine lv_iload_n C.1 C.2.1 (dd_at td_takesTest 39 rfl) rfl (lv_at hl 1 rfl) ?_
        refine lv_imul C.1 C.2.1 (dd_at td_takesTest 40 rfl) ?_
        refine lv_bipush (v := (100 : Int32)) C.1 C.2.1 (dd_at td_takesTest 41 rfl) (by decide) ?_
        refine lv_iload_n C.1 C.2.1 (dd_at td_takesTest 42 rfl) rfl (lv_at hl 0 rfl) ?_
        refine lv_bipush (v := (60 : Int32)) C.1 C.2.1 (dd_at td_takesTest 43 rfl) (by decide) ?_
        refine lv_isub C.1 C.2.1 (dd_at td_takesTest 44 rfl) ?_
        refine lv_imul C.1 C.2.1 (dd_at td_takesTest 45 rfl) ?_
        refine lv_iadd C.1 C.2.1 (dd_at td_takesTest 46 rfl) ?_
        refine lv_aload_n C.1 C.2.1 (dd_at td_takesTest 47 rfl) rfl (lv_at hl 2 rfl) ?_
        refine mm_gI C hM 12 (dd_at td_takesTest 48 rfl) (by decide) (by decide) (by decide) ?_
        refine lv_iadd C.1 C.2.1 (dd_at td_takesTest 49 rfl) ?_
        obtain ⟨st21, hx22, hf⟩ := fc_of_bv hf
        refine mm_cv (As := [.int ((((1000 : Int32) * r6) + ((100 : Int32) * (r11 - (60 : Int32)))) + (mm_I st17 12))]) (rest := []) (n := 1) C hM (c_emits l D o ad cs fu ((((1000 : Int32) * r6) + ((100 : Int32) * (r11 - (60 : Int32)))) + (mm_I st17 12)) st17) (List.mem_of_getElem? (i := 8) rfl) (dd_at td_takesTest 50 rfl) hx22 hl.1 hd_emits ⟨Nat.le_of_ble_eq_true rfl, Nat.le_of_ble_eq_true rfl⟩ rfl rfl (Nat.le_of_ble_eq_true rfl) ⟨Nat.le_refl 0, Nat.le_refl 0⟩ (fun H locs hM => ?_)
        refine lv_aload_n C.1 C.2.1 (dd_at td_takesTest 51 rfl) rfl (lv_at hl 2 rfl) ?_
        obtain ⟨st23, hx24, hf⟩ := fc_of_bv hf
        refine mm_cv (As := []) (rest := []) (n := 0) C hM (c_whole l D o ad cs fu st21) (List.mem_of_getElem? (i := 47) rfl) (dd_at td_takesTest 52 rfl) hx24 hl.1 hd_whole ⟨Nat.le_of_ble_eq_true rfl, Nat.le_of_ble_eq_true rfl⟩ rfl rfl (Nat.le_of_ble_eq_true rfl) ⟨Nat.le_refl 0, Nat.le_refl 0⟩ (fun H locs hM => ?_)
        refine lv_iconst (v := (1 : Int32)) C.1 C.2.1 (dd_at td_takesTest 53 rfl) (by decide) ?_
        exact mm_rz C hM (dd_at td_takesTest 54 rfl) rfl hf
      · replace hf := fc_of_t hf c20
        refine lv_iconst (v := (0 : Int32)) C.1 C.2.1 (dd_at td_takesTest 35 rfl) (by decide) ?_
        exact mm_rz C hM (dd_at td_takesTest 36 rfl) rfl hf
    · replace hf := fc_of_t hf c15
      refine lv_iconst (v := (0 : Int32)) C.1 C.2.1 (dd_at td_takesTest 24 rfl) (by decide) ?_
      exact mm_rz C hM (dd_at td_takesTest 25 rfl) rfl hf
  · replace hf := fc_of_f hf c7
    refine lv_iconst (v := (0 : Int32)) C.1 C.2.1 (dd_at td_takesTest 7 rfl) (by decide) ?_
    exact mm_rz C hM (dd_at td_takesTest 8 rfl) rfl hf
theorem c_takesTest (l : Launch) (D : va_G) (o : Nat) (ad : Nat → Nat) (cs : ClassId × ClassId × ClassId) (fu : Nat) (st : mm_S) : mm_Mi l D o ad cs yX12_takesTest cX12_takesTest 3 (some .boolean) 3 64 [] st (M_takesTest fu st) := by
  intro r st' hf
  refine mm_enter (cc := cX12_takesTest) (nL := 3) (ret := some .boolean) (by decide) rfl (Nat.le_of_ble_eq_true rfl) ?_
  intro p e s m args below meth c ls C hl hM
  exact w_takesTest C fu st hf hl hM

