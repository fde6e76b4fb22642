/-! tape -/
def tb_tape : List (Nat × Instr × Nat) := [(0, .aload_n 0, 1), (1, .iload_n 1, 1), (2, .invokevirtual 343, 3), (5, .ifCond .ne 5, 3), (8, .iconst (-1), 1), (9, .ireturn, 1), (10, .aload_n 0, 1), (11, .iload_n 2, 1), (12, .iconst (-1), 1), (13, .iconst 4, 1), (14, .invokevirtual 207, 3), (17, .ifCond .eq 13, 3), (20, .iload_n 2, 1), (21, .ifCond .lt 12, 3), (24, .iload_n 3, 1), (25, .bipush 60, 2), (27, .if_icmp .le 6, 3), (30, .bipush (-2), 2), (32, .ireturn, 1), (33, .iload_n 2, 1), (34, .ifCond .lt 10, 3), (37, .iload_n 3, 1), (38, .ifCond .ge 6, 3), (41, .bipush (-14), 2), (43, .ireturn, 1), (44, .aload_n 0, 1), (45, .getfield 191, 3), (48, .iload_n 1, 1), (49, .iload_n 2, 1), (50, .iastore, 1), (51, .aload_n 0, 1), (52, .getfield 194, 3), (55, .iload_n 1, 1), (56, .iload_n 2, 1), (57, .ifCond .ge 7, 3), (60, .iconst 0, 1), (61, .goto 4, 3), (64, .iload_n 3, 1), (65, .iastore, 1), (66, .iconst 0, 1), (67, .istore 4, 2), (69, .iload 4, 2), (71, .bipush 60, 2), (73, .if_icmp .ge 22, 3), (76, .aload_n 0, 1), (77, .getfield 197, 3), (80, .bipush 60, 2), (82, .iload_n 1, 1), (83, .imul, 1), (84, .iload 4, 2), (86, .iadd, 1), (87, .lconst 0, 1), (88, .lastore, 1), (89, .iinc 4 1, 3), (92, .goto (-23), 3), (95, .iconst 1, 1), (96, .ireturn, 1)]
theorem td_tape : tb_tape.all (fun q => decide (decode cX12_tape q.1 = .ok (q.2.1, q.2.2))) = true := by decide +kernel
theorem w_tape_b69F {p : Program} {l : Launch} {e : Env} {s : State} {m : MethodId} {args : Array Value} {below : List Frame} {meth : Method} {c : Code} {D : va_G} {o : Nat} {ad : Nat → Nat} {cs : ClassId × ClassId × ClassId} {r : Int32} {st' : mm_S} (C : mm_C p s m args meth c cX12_tape 5 (some .int) D cs) (fu : Nat) (K69 : Int32 → Int32 → mm_S → Option (Int32 × mm_S)) (hK69 : ∀ (x1 : Int32) (x4 : Int32) (st : mm_S) (H : Heap) (locs : List Loc) (ls : Array Slot), K69 x1 x4 st = some (r, st') → lv_has ls 5 [(0, .ref o), (1, .int x1), (4, .int x4)] → mm_H D o ad cs s.heap st H locs → W p l e (mm_R 2 44) s m args below meth c H locs 0 0 (MQ below (mm_Qi D o ad cs r st') args s 0 0 (mm_A o ad)) (F0 m 69 ls [])) (x1 : Int32) (x4 : Int32) (st : mm_S) (hf : M_tape_b69F fu K69 x1 x4 st = some (r, st')) {H : Heap} {locs : List Loc} {ls : Array Slot} (hl : lv_has ls 5 [(0, .ref o), (1, .int x1), (4, .int x4)]) (hM : mm_H D o ad cs s.heap st H locs) : W p l e (mm_R 2 44) s m args below meth c H locs 0 0 (MQ below (mm_Qi D o ad cs r st') args s 0 0 (mm_A o ad)) (F0 m 69 ls []) := by
  unfold M_tape_b69F at hf
  refine lv_iload C.1 C.2.1 (dd_at td_tape 41 rfl) (lv_at hl 2 rfl) ?_
  refine lv_bipush (v := (60 : Int32)) C.1 C.2.1 (dd_at td_tape 42 rfl) (by decide) ?_
  refine lv_icmp_ge (tgt := 95) C.1 C.2.1 (dd_at td_tape 43 rfl) (by decide) (fun c18 => ?_) (fun c18 => ?_)
  · replace hf := fc_of_t hf c18
    refine lv_iconst (v := (1 : Int32)) C.1 C.2.1 (dd_at td_tape 55 rfl) (by decide) ?_
    exact mm_ri C hM (dd_at td_tape 56 rfl) hf
  · replace hf := fc_of_f hf c18
    refine lv_aload_n C.1 C.2.1 (dd_at td_tape 44 rfl) rfl (lv_at hl 0 rfl) ?_
    refine mm_gA C hM 61 (dd_at td_tape 45 rfl) (by decide) (by decide) (by decide) ?_
    refine lv_bipush (v := (60 : Int32)) C.1 C.2.1 (dd_at td_tape 46 rfl) (by decide) ?_
    refine lv_iload_n C.1 C.2.1 (dd_at td_tape 47 rfl) rfl (lv_at hl 1 rfl) ?_
    refine lv_imul C.1 C.2.1 (dd_at td_tape 48 rfl) ?_
    refine lv_iload C.1 C.2.1 (dd_at td_tape 49 rfl) (lv_at hl 2 rfl) ?_
    refine lv_iadd C.1 C.2.1 (dd_at td_tape 50 rfl) ?_
    refine lv_lconst (v := (0 : Int64)) C.1 C.2.1 (dd_at td_tape 51 rfl) (by decide) ?_
    obtain ⟨g19, hf⟩ := fc_of_gd hf
    refine mm_last C hM 61 (dd_at td_tape 52 rfl) (by decide) (by decide) (fc_of_ix g19) (fun st20 H locs est20 hM => ?_)
    replace hf := fc_of_nm hf st20 est20
    obtain ⟨v21, ev21⟩ : ∃ y : Int32, y = x4 + (1 : Int32) := ⟨_, rfl⟩
    replace hf := fc_of_nm hf v21 ev21
    refine lv_iinc (v := v21) (lv' := [(4, .int v21), (0, .ref o), (1, .int x1)]) C.1 C.2.1 (dd_at td_tape 53 rfl) hl (k := 2) rfl (by rw [ev21]; rfl) (by decide) rfl (fun ls hl => ?_)
    refine lv_goto (tgt := 69) C.1 C.2.1 (dd_at td_tape 54 rfl) (by decide) ?_
    exact hK69 x1 v21 st20 _ _ _ hf (lv_sub hl [1, 2, 0] rfl) hM
theorem w_tape_b69 {p : Program} {l : Launch} {e : Env} {s : State} {m : MethodId} {args : Array Value} {below : List Frame} {meth : Method} {c : Code} {D : va_G} {o : Nat} {ad : Nat → Nat} {cs : ClassId × ClassId × ClassId} {r : Int32} {st' : mm_S} (C : mm_C p s m args meth c cX12_tape 5 (some .int) D cs) (fu : Nat) (n : Nat) : ∀ (x1 : Int32) (x4 : Int32) (st : mm_S), M_tape_b69 fu n x1 x4 st = some (r, st') → ∀ (H : Heap) (locs : List Loc) (ls : Array Slot), lv_has ls 5 [(0, .ref o), (1, .int x1), (4, .int x4)] → mm_H D o ad cs s.heap st H locs → W p l e (mm_R 2 44) s m args below meth c H locs 0 0 (MQ below (mm_Qi D o ad cs r st') args s 0 0 (mm_A o ad)) (F0 m 69 ls []) := by
  induction n with
  | zero => exact fun _ _ _ hf => fc_no hf
  | succ n ih =>
    intro x1 x4 st hf H locs ls hl hM
    exact w_tape_b69F C fu (fun x1 x4 st => M_tape_b69 fu n x1 x4 st) (fun x1 x4 st H locs ls hf hl hM => ih x1 x4 st hf H locs ls hl hM) x1 x4 st hf hl hM
theorem w_tape_b65 {p : Program} {l : Launch} {e : Env} {s : State} {m : MethodId} {args : Array Value} {below : List Frame} {meth : Method} {c : Code} {D : va_G} {o : Nat} {ad : Nat → Nat} {cs : ClassId × ClassId × ClassId} {r : Int32} {st' : mm_S} (C : mm_C p s m args meth c cX12_tape 5 (some .int) D cs) (fu : Nat) (x1 : Int32) (s0 : Int32) (s1 : Int32) (st : mm_S) (hf : M_tape_b65 fu x1 s0 s1 st = some (r, st')) {H : Heap} {locs : List Loc} {ls : Array Slot} (hl : lv_has ls 5 [(0, .ref o), (1, .int x1)]) (hM : mm_H D o ad cs s.heap st H locs) : W p l e (mm_R 2 44) s m args below meth c H locs 0 0 (MQ below (mm_Qi D o ad cs r st') args s 0 0 (mm_A o ad)) (F0 m 65 ls [.int s0, .int s1, .ref (ad 60)]) := by
  unfold M_tape_b65 at hf
  obtain ⟨g16, hf⟩ := fc_of_gd hf
  refine mm_iast C hM 60 (dd_at td_tape 38 rfl) (by decide) (by decide) (fc_of_ix g16) (fun st17 H locs est17 hM => ?_)
  replace hf := fc_of_nm hf st17 est17
  refine lv_iconst (v := (0 : Int32)) C.1 C.2.1 (dd_at td_tape 39 rfl) (by decide) ?_
  refine lv_istore (lv' := [(4, .int (0 : Int32)), (0, .ref o), (1, .int x1)]) C.1 C.2.1 (dd_at td_tape 40 rfl) hl (by decide) rfl (fun ls hl => ?_)
  exact w_tape_b69 C fu fu x1 (0 : Int32) st17 hf _ _ _ (lv_sub hl [1, 2, 0] rfl) hM
theorem w_tape_b44 {p : Program} {l : Launch} {e : Env} {s : State} {m : MethodId} {args : Array Value} {below : List Frame} {meth : Method} {c : Code} {D : va_G} {o : Nat} {ad : Nat → Nat} {cs : ClassId × ClassId × ClassId} {r : Int32} {st' : mm_S} (C : mm_C p s m args meth c cX12_tape 5 (some .int) D cs) (fu : Nat) (x1 : Int32) (x2 : Int32) (x3 : Int32) (st : mm_S) (hf : M_tape_b44 fu x1 x2 x3 st = some (r, st')) {H : Heap} {locs : List Loc} {ls : Array Slot} (hl : lv_has ls 5 [(0, .ref o), (1, .int x1), (2, .int x2), (3, .int x3)]) (hM : mm_H D o ad cs s.heap st H locs) : W p l e (mm_R 2 44) s m args below meth c H locs 0 0 (MQ below (mm_Qi D o ad cs r st') args s 0 0 (mm_A o ad)) (F0 m 44 ls []) := by
  unfold M_tape_b44 at hf
  refine lv_aload_n C.1 C.2.1 (dd_at td_tape 25 rfl) rfl (lv_at hl 0 rfl) ?_
  refine mm_gA C hM 59 (dd_at td_tape 26 rfl) (by decide) (by decide) (by decide) ?_
  refine lv_iload_n C.1 C.2.1 (dd_at td_tape 27 rfl) rfl (lv_at hl 1 rfl) ?_
  refine lv_iload_n C.1 C.2.1 (dd_at td_tape 28 rfl) rfl (lv_at hl 2 rfl) ?_
  obtain ⟨g13, hf⟩ := fc_of_gd hf
  refine mm_iast C hM 59 (dd_at td_tape 29 rfl) (by decide) (by decide) (fc_of_ix g13) (fun st14 H locs est14 hM => ?_)
  replace hf := fc_of_nm hf st14 est14
  refine lv_aload_n C.1 C.2.1 (dd_at td_tape 30 rfl) rfl (lv_at hl 0 rfl) ?_
  refine mm_gA C hM 60 (dd_at td_tape 31 rfl) (by decide) (by decide) (by decide) ?_
  refine lv_iload_n C.1 C.2.1 (dd_at td_tape 32 rfl) rfl (lv_at hl 1 rfl) ?_
  refine lv_iload_n C.1 C.2.1 (dd_at td_tape 33 rfl) rfl (lv_at hl 2 rfl) ?_
  refine lv_if_ge (tgt := 64) C.1 C.2.1 (dd_at td_tape 34 rfl) (by decide) (fun c15 => ?_) (fun c15 => ?_)
  · replace hf := fc_of_t hf c15
    refine lv_iload_n C.1 C.2.1 (dd_at td_tape 37 rfl) rfl (lv_at hl 3 rfl) ?_
    exact w_tape_b65 C fu x1 x3 x1 st14 hf (lv_sub hl [0, 1] rfl) hM
  · replace hf := fc_of_f hf c15
    refine lv_iconst (v := (0 : Int32)) C.1 C.2.1 (dd_at td_tape 35 rfl) (by decide) ?_
    refine lv_goto (tgt := 65) C.1 C.2.1 (dd_at td_tape 36 rfl) (by decide) ?_
    exact w_tape_b65 C fu x1 (0 : Int32) x1 st14 hf (lv_sub hl [0, 1] rfl) hM
theorem w_tape_b33 {p : Program} {l : Launch} {e : Env} {s : State} {m : MethodId} {args : Array Value} {below : List Frame} {meth : Method} {c : Code} {D : va_G} {o : Nat} {ad : Nat → Nat} {cs : ClassId × ClassId × ClassId} {r : Int32} {st' : mm_S} (C : mm_C p s m args meth c cX12_tape 5 (some .int) D cs) (fu : Nat) (x1 : Int32) (x2 : Int32) (x3 : Int32) (st : mm_S) (hf : M_tape_b33 fu x1 x2 x3 st = some (r, st')) {H : Heap} {locs : List Loc} {ls : Array Slot} (hl : lv_has ls 5 [(0, .ref o), (1, .int x1), (2, .int x2), (3, .int x3)]) (hM : mm_H D o ad cs s.heap st H locs) : W p l e (mm_R 2 44) s m args below meth c H locs 0 0 (MQ below (mm_Qi D o ad cs r st') args s 0 0 (mm_A o ad)) (F0 m 33 ls []) := by
  unfold M_tape_b33 at hf
  refine lv_iload_n C.1 C.2.1 (dd_at td_tape 19 rfl) rfl (lv_at hl 2 rfl) ?_
  refine lv_if_lt (tgt := 44) C.1 C.2.1 (dd_at td_tape 20 rfl) (by decide) (fun c11 => ?_) (fun c11 => ?_)
  · replace hf := fc_of_t hf c11
    exact w_tape_b44 C fu x1 x2 x3 st hf (lv_sub hl [0, 1, 2, 3] rfl) hM
  · replace hf := fc_of_f hf c11
    refine lv_iload_n C.1 C.2.1 (dd_at td_tape 21 rfl) rfl (lv_at hl 3 rfl) ?_
    refine lv_if_ge (tgt := 44) C.1 C.2.1 (dd_at td_tape 22 rfl) (by decide) (fun c12 => ?_) (fun c12 => ?_)
    · replace hf := fc_of_t hf c12
      exact w_tape_b44 C fu x1 x2 x3 st hf (lv_sub hl [0, 1, 2, 3] rfl) hM
    · replace hf := fc_of_f hf c12
      refine lv_bipush (v := (-14 : Int32)) C.1 C.2.1 (dd_at td_tape 23 rfl) (by decide) ?_
      exact mm_ri C hM (dd_at td_tape 24 rfl) hf
theorem w_tape {p : Program} {l : Launch} {e : Env} {s : State} {m : MethodId} {args : Array Value} {below : List Frame} {meth : Method} {c : Code} {D : va_G} {o : Nat} {ad : Nat → Nat} {cs : ClassId × ClassId × ClassId} {r : Int32} {st' : mm_S} (C : mm_C p s m args meth c cX12_tape 5 (some .int) D cs) (fu : Nat) (x1 : Int32) (x2 : Int32) (x3 : Int32) (st : mm_S) (hf : M_tape fu x1 x2 x3 st = some (r, st')) {H : Heap} {locs : List Loc} {ls : Array Slot} (hl : lv_has ls 5 [(0, .ref o), (1, .int x1), (2, .int x2), (3, .int x3)]) (hM : mm_H D o ad cs s.heap st H locs) : W p l e (mm_R 2 44) s m args below meth c H locs 0 0 (MQ below (mm_Qi D o ad cs r st') args s 0 0 (mm_A o ad)) (F0 m 0 ls []) := by
  unfold M_tape at hf
  refine lv_aload_n C.1 C.2.1 (dd_at td_tape 0 rfl) rfl (lv_at hl 0 rfl) ?_
  refine lv_iload_n C.1 C.2.1 (dd_at td_tape 1 rfl) rfl (lv_at hl 1 rfl) ?_
  obtain ⟨r3, st1, hx2, hf⟩ := fc_of_bn hf
  refine mm_ci (As := [.int x1]) (rest := []) (n := 1) C hM (c_isTape l D o ad cs fu x1 st) (List.mem_of_getElem? (i := 24) rfl) (dd_at td_tape 2 rfl) hx2 hl.1 hd_isTape ⟨Nat.le_of_ble_eq_true rfl, Nat.le_of_ble_eq_true rfl⟩ rfl rfl (Nat.le_of_ble_eq_true rfl) ⟨Nat.le_refl 0, Nat.le_refl 0⟩ (fun H locs hM => ?_)
  refine lv_if_ne (tgt := 10) C.1 C.2.1 (dd_at td_tape 3 rfl) (by decide) (fun c4 => ?_) (fun c4 => ?_)
  · replace hf := fc_of_f hf c4
    refine lv_aload_n C.1 C.2.1 (dd_at td_tape 6 rfl) rfl (lv_at hl 0 rfl) ?_
    refine lv_iload_n C.1 C.2.1 (dd_at td_tape 7 rfl) rfl (lv_at hl 2 rfl) ?_
    refine lv_iconst (v := (-1 : Int32)) C.1 C.2.1 (dd_at td_tape 8 rfl) (by decide) ?_
    refine lv_iconst (v := (4 : Int32)) C.1 C.2.1 (dd_at td_tape 9 rfl) (by decide) ?_
    obtain ⟨r7, st5, hx6, hf⟩ := fc_of_bn hf
    refine mm_ci (As := [.int x2, .int (-1 : Int32), .int (4 : Int32)]) (rest := []) (n := 3) C hM (c_in l D o ad cs fu x2 (-1 : Int32) (4 : Int32) st1) (List.mem_of_getElem? (i := 18) rfl) (dd_at td_tape 10 rfl) hx6 hl.1 hd_in ⟨Nat.le_of_ble_eq_true rfl, Nat.le_of_ble_eq_true rfl⟩ rfl rfl (Nat.le_of_ble_eq_true rfl) ⟨Nat.le_refl 0, Nat.le_refl 0⟩ (fun H locs hM => ?_)
    refine lv_if_eq (tgt := 30) C.1 C.2.1 (dd_at td_tape 11 rfl) (by decide) (fun c8 => ?_) (fun c8 => ?_)
    · replace hf := fc_of_t hf c8
      refine lv_bipush (v := (-2 : Int32)) C.1 C.2.1 (dd_at td_tape 17 rfl) (by decide) ?_
      exact mm_ri C hM (dd_at td_tape 18 rfl) hf
    · replace hf := fc_of_f hf c8
      refine lv_iload_n C.1 C.2.1 (dd_at td_tape 12 rfl) rfl (lv_at hl 2 rfl) ?_
      refine lv_if_lt (tgt := 33) C.1 C.2.1 (dd_at td_tape 13 rfl) (by decide) (fun c9 => ?_) (fun c9 => ?_)
      · replace hf := fc_of_t hf c9
        exact w_tape_b33 C fu x1 x2 x3 st5 hf (lv_sub hl [0, 1, 2, 3] rfl) hM
      · replace hf := fc_of_f hf c9
        refine lv_iload_n C.1 C.2.1 (dd_at td_tape 14 rfl) rfl (lv_at hl 3 rfl) ?_
        refine lv_bipush (v := (60 : Int32)) C.1 C.2.1 (dd_at td_tape 15 rfl) (by decide) ?_
        refine lv_icmp_le (tgt := 33) C.1 C.2.1 (dd_at td_tape 16 rfl) (by decide) (fun c10 => ?_) (fun c10 => ?_)
        · replace hf := fc_of_t hf c10
          exact w_tape_b33 C fu x1 x2 x3 st5 hf (lv_sub hl [0, 1, 2, 3] rfl) hM
        · replace hf := fc_of_f hf c10
          refine lv_bipush (v := (-2 : Int32)) C.1 C.2.1 (dd_at td_tape 17 rfl) (by decide) ?_
          exact mm_ri C hM (dd_at td_tape 18 rfl) hf
  · replace hf := fc_of_t hf c4
    refine lv_iconst (v := (-1 : Int32)) C.1 C.2.1 (dd_at td_tape 4 rfl) (by decide) ?_
    exact mm_ri C hM (dd_at td_tape 5 rfl) hf
theorem c_tape (l : Launch) (D : va_G) (o : Nat) (ad : Nat → Nat) (cs : ClassId × ClassId × ClassId) (fu : Nat) (x1 : Int32) (x2 : Int32) (x3 : Int32) (st : mm_S) : mm_Mi l D o ad cs yX12_tape cX12_tape 5 (some .int) 2 44 [.int x1, .int x2, .int x3] st (M_tape fu x1 x2 x3 st) := by
  intro r st' hf
  refine mm_enter (cc := cX12_tape) (nL := 5) (ret := some .int) (by decide) rfl (Nat.le_of_ble_eq_true rfl) ?_
  intro p e s m args below meth c ls C hl hM
  exact w_tape C fu x1 x2 x3 st hf hl hM

/-! narrow -/
def tb_narrow : List (Nat × Instr × Nat) := [(0, .iload_n 1, 1), (1, .ifCond .ne 10, 3), (4, .lload_n 2, 1), (5, .l2i, 1), (6, .i2b, 1), (7, .i2l, 1), (8, .goto 46, 3), (11, .iload_n 1, 1), (12, .iconst 1, 1), (13, .if_icmp .ne 10, 3), (16, .lload_n 2, 1), (17, .l2i, 1), (18, .i2s, 1), (19, .i2l, 1), (20, .goto 34, 3), (23, .iload_n 1, 1), (24, .iconst 2, 1), (25, .if_icmp .ne 9, 3), (28, .lload_n 2, 1), (29, .l2i, 1), (30, .i2l, 1), (31, .goto 23, 3), (34, .iload_n 1, 1), (35, .iconst 4, 1), (36, .if_icmp .ne 17, 3), (39, .lload_n 2, 1), (40, .lconst 0, 1), (41, .lcmp, 1), (42, .ifCond .eq 7, 3), (45, .lconst 1, 1), (46, .goto 8, 3), (49, .lconst 0, 1), (50, .goto 4, 3), (53, .lload_n 2, 1), (54, .lreturn, 1)]
theorem td_narrow : tb_narrow.all (fun q => decide (decode cX12_narrow q.1 = .ok (q.2.1, q.2.2))) = true := by decide +kernel
theorem hd_narrow : yX12_narrow.cls = RX12 ∧ yX12_narrow.cls ≠ "java/lang/invoke/MethodHandle" ∧ yX12_narrow.cls ≠ "java/lang/invoke/VarHandle" ∧ (parseMethodDescriptor yX12_narrow.desc).map (fun d => d.parameters.length) = some 2 := by decide +kernel
theorem w_narrow {p : Program} {l : Launch} {e : Env} {s : State} {m : MethodId} {args : Array Value} {below : List Frame} {meth : Method} {c : Code} {D : va_G} {o : Nat} {ad : Nat → Nat} {cs : ClassId × ClassId × ClassId} {r : Int64} {st' : mm_S} (C : mm_C p s m args meth c cX12_narrow 4 (some .long) D cs) (fu : Nat) (x1 : Int32) (x2 : Int64) (st : mm_S) (hf : M_narrow fu x1 x2 st = some (r, st')) {H : Heap} {locs : List Loc} {ls : Array Slot} (hl : lv_has ls 4 [(0, .ref o), (1, .int x1), (2, .long x2)]) (hM : mm_H D o ad cs s.heap st H locs) : W p l e (mm_R 0 0) s m args below meth c H locs 0 0 (MQ below (mm_Ql D o ad cs r st') args s 0 0 (mm_A o ad)) (F0 m 0 ls []) := by
  unfold M_narrow at hf
  refine lv_iload_n C.1 C.2.1 (dd_at td_narrow 0 rfl) rfl (lv_at hl 1 rfl) ?_
  refine lv_if_ne (tgt := 11) C.1 C.2.1 (dd_at td_narrow 1 rfl) (by decide) (fun c1 => ?_) (fun c1 => ?_)
  · replace hf := fc_of_f hf c1
    refine lv_iload_n C.1 C.2.1 (dd_at td_narrow 7 rfl) rfl (lv_at hl 1 rfl) ?_
    refine lv_iconst (v := (1 : Int32)) C.1 C.2.1 (dd_at td_narrow 8 rfl) (by decide) ?_
    refine lv_icmp_ne (tgt := 23) C.1 C.2.1 (dd_at td_narrow 9 rfl) (by decide) (fun c2 => ?_) (fun c2 => ?_)
    · replace hf := fc_of_f hf c2
      refine lv_iload_n C.1 C.2.1 (dd_at td_narrow 15 rfl) rfl (lv_at hl 1 rfl) ?_
      refine lv_iconst (v := (2 : Int32)) C.1 C.2.1 (dd_at td_narrow 16 rfl) (by decide) ?_
      refine lv_icmp_ne (tgt := 34) C.1 C.2.1 (dd_at td_narrow 17 rfl) (by decide) (fun c3 => ?_) (fun c3 => ?_)
      · replace hf := fc_of_f hf c3
        refine lv_iload_n C.1 C.2.1 (dd_at td_narrow 22 rfl) rfl (lv_at hl 1 rfl) ?_
        refine lv_iconst (v := (4 : Int32)) C.1 C.2.1 (dd_at td_narrow 23 rfl) (by decide) ?_
        refine lv_icmp_ne (tgt := 53) C.1 C.2.1 (dd_at td_narrow 24 rfl) (by decide) (fun c4 => ?_) (fun c4 => ?_)
        · replace hf := fc_of_f hf c4
          refine lv_lload_n C.1 C.2.1 (dd_at td_narrow 33 rfl) rfl (lv_at hl 2 rfl) ?_
          exact mm_rl C hM (dd_at td_narrow 34 rfl) hf
        · replace hf := fc_of_t hf c4
          refine lv_lload_n C.1 C.2.1 (dd_at td_narrow 25 rfl) rfl (lv_at hl 2 rfl) ?_
          refine lv_lconst (v := (0 : Int64)) C.1 C.2.1 (dd_at td_narrow 26 rfl) (by decide) ?_
          refine W.lcmp C.1 C.2.1 (dd_at td_narrow 27 rfl) ?_
          refine lv_if_eq (tgt := 49) C.1 C.2.1 (dd_at td_narrow 28 rfl) (by decide) (fun c5 => ?_) (fun c5 => ?_)
          · replace hf := fc_of_t hf c5
            refine lv_lconst (v := (0 : Int64)) C.1 C.2.1 (dd_at td_narrow 31 rfl) (by decide) ?_
            refine lv_goto (tgt := 54) C.1 C.2.1 (dd_at td_narrow 32 rfl) (by decide) ?_
            exact mm_rl C hM (dd_at td_narrow 34 rfl) hf
          · replace hf := fc_of_f hf c5
            refine lv_lconst (v := (1 : Int64)) C.1 C.2.1 (dd_at td_narrow 29 rfl) (by decide) ?_
            refine lv_goto (tgt := 54) C.1 C.2.1 (dd_at td_narrow 30 rfl) (by decide) ?_
            exact mm_rl C hM (dd_at td_narrow 34 rfl) hf
      · replace hf := fc_of_t hf c3
        refine lv_lload_n C.1 C.2.1 (dd_at td_narrow 18 rfl) rfl (lv_at hl 2 rfl) ?_
        refine lv_l2i C.1 C.2.1 (dd_at td_narrow 19 rfl) rfl ?_
        refine lv_i2l C.1 C.2.1 (dd_at td_narrow 20 rfl) rfl ?_
        refine lv_goto (tgt := 54) C.1 C.2.1 (dd_at td_narrow 21 rfl) (by decide) ?_
        exact mm_rl C hM (dd_at td_narrow 34 rfl) hf
    · replace hf := fc_of_t hf c2
      refine lv_lload_n C.1 C.2.1 (dd_at td_narrow 10 rfl) rfl (lv_at hl 2 rfl) ?_
      refine lv_l2i C.1 C.2.1 (dd_at td_narrow 11 rfl) rfl ?_
      refine lv_i2s C.1 C.2.1 (dd_at td_narrow 12 rfl) rfl ?_
      refine lv_i2l C.1 C.2.1 (dd_at td_narrow 13 rfl) rfl ?_
      refine lv_goto (tgt := 54) C.1 C.2.1 (dd_at td_narrow 14 rfl) (by decide) ?_
      exact mm_rl C hM (dd_at td_narrow 34 rfl) hf
  · replace hf := fc_of_t hf c1
    refine lv_lload_n C.1 C.2.1 (dd_at td_narrow 2 rfl) rfl (lv_at hl 2 rfl) ?_
    refine lv_l2i C.1 C.2.1 (dd_at td_narrow 3 rfl) rfl ?_
    refine lv_i2b C.1 C.2.1 (dd_at td_narrow 4 rfl) rfl ?_
    refine lv_i2l C.1 C.2.1 (dd_at td_narrow 5 rfl) rfl ?_
    refine lv_goto (tgt := 54) C.1 C.2.1 (dd_at td_narrow 6 rfl) (by decide) ?_
    exact mm_rl C hM (dd_at td_narrow 34 rfl) hf
theorem c_narrow (l : Launch) (D : va_G) (o : Nat) (ad : Nat → Nat) (cs : ClassId × ClassId × ClassId) (fu : Nat) (x1 : Int32) (x2 : Int64) (st : mm_S) : mm_Ml l D o ad cs yX12_narrow cX12_narrow 4 (some .long) 0 0 [.int x1, .long x2] st (M_narrow fu x1 x2 st) := by
  intro r st' hf
  refine mm_enter (cc := cX12_narrow) (nL := 4) (ret := some .long) (by decide) rfl (Nat.le_of_ble_eq_true rfl) ?_
  intro p e s m args below meth c ls C hl hM
  exact w_narrow C fu x1 x2 st hf hl hM

/-! item -/
def tb_item : List (Nat × Instr × Nat) := [(0, .aload_n 0, 1), (1, .iload_n 1, 1), (2, .invokevirtual 343, 3), (5, .ifCond .ne 5, 3), (8, .iconst (-1), 1), (9, .ireturn, 1), (10, .aload_n 0, 1), (11, .getfield 191, 3), (14, .iload_n 1, 1), (15, .iaload, 1), (16, .ifCond .ge 6, 3), (19, .bipush (-11), 2), (21, .ireturn, 1), (22, .aload_n 0, 1), (23, .iload_n 2, 1), (24, .iconst 0, 1), (25, .aload_n 0, 1), (26, .getfield 194, 3), (29, .iload_n 1, 1), (30, .iaload, 1), (31, .iconst 1, 1), (32, .isub, 1), (33, .invokevirtual 207, 3), (36, .ifCond .ne 6, 3), (39, .bipush (-13), 2), (41, .ireturn, 1), (42, .aload_n 0, 1), (43, .getfield 197, 3), (46, .bipush 60, 2), (48, .iload_n 1, 1), (49, .imul, 1), (50, .iload_n 2, 1), (51, .iadd, 1), (52, .aload_n 0, 1), (53, .aload_n 0, 1), (54, .getfield 191, 3), (57, .iload_n 1, 1), (58, .iaload, 1), (59, .lload_n 3, 1), (60, .invokevirtual 371, 3), (63, .lastore, 1), (64, .iconst 1, 1), (65, .ireturn, 1)]
theorem td_item : tb_item.all (fun q => decide (decode cX12_item q.1 = .ok (q.2.1, q.2.2))) = true := by decide +kernel
theorem w_item {p : Program} {l : Launch} {e : Env} {s : State} {m : MethodId} {args : Array Value} {below : List Frame} {meth : Method} {c : Code} {D : va_G} {o : Nat} {ad : Nat → Nat} {cs : ClassId × ClassId × ClassId} {r : Int32} {st' : mm_S} (C : mm_C p s m args meth c cX12_item 5 (some .int) D cs) (fu : Nat) (x1 : Int32) (x2 : Int32) (x3 : Int64) (st : mm_S) (hf : M_item fu x1 x2 x3 st = some (r, st')) {H : Heap} {locs : List Loc} {ls : Array Slot} (hl : lv_has ls 5 [(0, .ref o), (1, .int x1), (2, .int x2), (3, .long x3)]) (hM : mm_H D o ad cs s.heap st H locs) : W p l e (mm_R 2 44) s m args below meth c H locs 0 0 (MQ below (mm_Qi D o ad cs r st') args s 0 0 (mm_A o ad)) (F0 m 0 ls []) := by
  unfold M_item at hf
  refine lv_aload_n C.1 C.2.1 (dd_at td_item 0 rfl) rfl (lv_at hl 0 rfl) ?_
  refine lv_iload_n C.1 C.2.1 (dd_at td_item 1 rfl) rfl (lv_at hl 1 rfl) ?_
  obtain ⟨r3, st1, hx2, hf⟩ := fc_of_bn hf
  refine mm_ci (As := [.int x1]) (rest := []) (n := 1) C hM (c_isTape l D o ad cs fu x1 st) (List.mem_of_getElem? (i := 24) rfl) (dd_at td_item 2 rfl) hx2 hl.1 hd_isTape ⟨Nat.le_of_ble_eq_true rfl, Nat.le_of_ble_eq_true rfl⟩ rfl rfl (Nat.le_of_ble_eq_true rfl) ⟨Nat.le_refl 0, Nat.le_refl 0⟩ (fun H locs hM => ?_)
  refine lv_if_ne (tgt := 10) C.1 C.2.1 (dd_at td_item 3 rfl) (by decide) (fun c4 => ?_) (fun c4 => ?_)
  · replace hf := fc_of_f hf c4
    refine lv_aload_n C.1 C.2.1 (dd_at td_item 6 rfl) rfl (lv_at hl 0 rfl) ?_
    refine mm_gA C hM 59 (dd_at td_item 7 rfl) (by decide) (by decide) (by decide) ?_
    refine lv_iload_n C.1 C.2.1 (dd_at td_item 8 rfl) rfl (lv_at hl 1 rfl) ?_
    obtain ⟨g5, hf⟩ := fc_of_gd hf
    refine mm_iald C hM 59 (dd_at td_item 9 rfl) (by decide) (by decide) (fc_of_ix g5) ?_
    refine lv_if_ge (tgt := 22) C.1 C.2.1 (dd_at td_item 10 rfl) (by decide) (fun c6 => ?_) (fun c6 => ?_)
    · replace hf := fc_of_t hf c6
      refine lv_aload_n C.1 C.2.1 (dd_at td_item 13 rfl) rfl (lv_at hl 0 rfl) ?_
      refine lv_iload_n C.1 C.2.1 (dd_at td_item 14 rfl) rfl (lv_at hl 2 rfl) ?_
      refine lv_iconst (v := (0 : Int32)) C.1 C.2.1 (dd_at td_item 15 rfl) (by decide) ?_
      refine lv_aload_n C.1 C.2.1 (dd_at td_item 16 rfl) rfl (lv_at hl 0 rfl) ?_
      refine mm_gA C hM 60 (dd_at td_item 17 rfl) (by decide) (by decide) (by decide) ?_
      refine lv_iload_n C.1 C.2.1 (dd_at td_item 18 rfl) rfl (lv_at hl 1 rfl) ?_
      obtain ⟨g7, hf⟩ := fc_of_gd hf
      refine mm_iald C hM 60 (dd_at td_item 19 rfl) (by decide) (by decide) (fc_of_ix g7) ?_
      refine lv_iconst (v := (1 : Int32)) C.1 C.2.1 (dd_at td_item 20 rfl) (by decide) ?_
      refine lv_isub C.1 C.2.1 (dd_at td_item 21 rfl) ?_
      obtain ⟨r10, st8, hx9, hf⟩ := fc_of_bn hf
      refine mm_ci (As := [.int x2, .int (0 : Int32), .int ((mm_G st1 60 x1.toNatClampNeg) - (1 : Int32))]) (rest := []) (n := 3) C hM (c_in l D o ad cs fu x2 (0 : Int32) ((mm_G st1 60 x1.toNatClampNeg) - (1 : Int32)) st1) (List.mem_of_getElem? (i := 18) rfl) (dd_at td_item 22 rfl) hx9 hl.1 hd_in ⟨Nat.le_of_ble_eq_true rfl, Nat.le_of_ble_eq_true rfl⟩ rfl rfl (Nat.le_of_ble_eq_true rfl) ⟨Nat.le_refl 0, Nat.le_refl 0⟩ (fun H locs hM => ?_)
      refine lv_if_ne (tgt := 42) C.1 C.2.1 (dd_at td_item 23 rfl) (by decide) (fun c11 => ?_) (fun c11 => ?_)
      · replace hf := fc_of_f hf c11
        refine lv_aload_n C.1 C.2.1 (dd_at td_item 26 rfl) rfl (lv_at hl 0 rfl) ?_
        refine mm_gA C hM 61 (dd_at td_item 27 rfl) (by decide) (by decide) (by decide) ?_
        refine lv_bipush (v := (60 : Int32)) C.1 C.2.1 (dd_at td_item 28 rfl) (by decide) ?_
        refine lv_iload_n C.1 C.2.1 (dd_at td_item 29 rfl) rfl (lv_at hl 1 rfl) ?_
        refine lv_imul C.1 C.2.1 (dd_at td_item 30 rfl) ?_
        refine lv_iload_n C.1 C.2.1 (dd_at td_item 31 rfl) rfl (lv_at hl 2 rfl) ?_
        refine lv_iadd C.1 C.2.1 (dd_at td_item 32 rfl) ?_
        refine lv_aload_n C.1 C.2.1 (dd_at td_item 33 rfl) rfl (lv_at hl 0 rfl) ?_
        refine lv_aload_n C.1 C.2.1 (dd_at td_item 34 rfl) rfl (lv_at hl 0 rfl) ?_
        refine mm_gA C hM 59 (dd_at td_item 35 rfl) (by decide) (by decide) (by decide) ?_
        refine lv_iload_n C.1 C.2.1 (dd_at td_item 36 rfl) rfl (lv_at hl 1 rfl) ?_
        obtain ⟨g12, hf⟩ := fc_of_gd hf
        refine mm_iald C hM 59 (dd_at td_item 37 rfl) (by decide) (by decide) (fc_of_ix g12) ?_
        refine lv_lload_n C.1 C.2.1 (dd_at td_item 38 rfl) rfl (lv_at hl 3 rfl) ?_
        obtain ⟨r15, st13, hx14, hf⟩ := fc_of_bn hf
        refine mm_cl (As := [.int (mm_G st8 59 x1.toNatClampNeg), .long x3]) (rest := [.int (((60 : Int32) * x1) + x2), .ref (ad 61)]) (n := 2) C hM (c_narrow l D o ad cs fu (mm_G st8 59 x1.toNatClampNeg) x3 st8) (List.mem_of_getElem? (i := 29) rfl) (dd_at td_item 39 rfl) hx14 hl.1 hd_narrow ⟨Nat.le_of_ble_eq_true rfl, Nat.le_of_ble_eq_true rfl⟩ rfl rfl (Nat.le_of_ble_eq_true rfl) ⟨Nat.le_refl 0, Nat.le_refl 0⟩ (fun H locs hM => ?_)
        obtain ⟨g16, hf⟩ := fc_of_gd hf
        refine mm_last C hM 61 (dd_at td_item 40 rfl) (by decide) (by decide) (fc_of_ix g16) (fun st17 H locs est17 hM => ?_)
        replace hf := fc_of_nm hf st17 est17
        refine lv_iconst (v := (1 : Int32)) C.1 C.2.1 (dd_at td_item 41 rfl) (by decide) ?_
        exact mm_ri C hM (dd_at td_item 42 rfl) hf
      · replace hf := fc_of_t hf c11
        refine lv_bipush (v := (-13 : Int32)) C.1 C.2.1 (dd_at td_item 24 rfl) (by decide) ?_
        exact mm_ri C hM (dd_at td_item 25 rfl) hf
    · replace hf := fc_of_f hf c6
      refine lv_bipush (v := (-11 : Int32)) C.1 C.2.1 (dd_at td_item 11 rfl) (by decide) ?_
      exact mm_ri C hM (dd_at td_item 12 rfl) hf
  · replace hf := fc_of_t hf c4
    refine lv_iconst (v := (-1 : Int32)) C.1 C.2.1 (dd_at td_item 4 rfl) (by decide) ?_
    exact mm_ri C hM (dd_at td_item 5 rfl) hf
theorem c_item (l : Launch) (D : va_G) (o : Nat) (ad : Nat → Nat) (cs : ClassId × ClassId × ClassId) (fu : Nat) (x1 : Int32) (x2 : Int32) (x3 : Int64) (st : mm_S) : mm_Mi l D o ad cs yX12_item cX12_item 5 (some .int) 2 44 [.int x1, .int x2, .long x3] st (M_item fu x1 x2 x3 st) := by
  intro r st' hf
  refine mm_enter (cc := cX12_item) (nL := 5) (ret := some .int) (by decide) rfl (Nat.le_of_ble_eq_true rfl) ?_
  intro p e s m args below meth c ls C hl hM
  exact w_item C fu x1 x2 x3 st hf hl hM

/-! read -/
def tb_read : List (Nat × Instr × Nat) := [(0, .aload_n 0, 1), (1, .iload_n 1, 1), (2, .invokevirtual 343, 3), (5, .ifCond .eq 29, 3), (8, .aload_n 0, 1), (9, .getfield 191, 3), (12, .iload_n 1, 1), (13, .iaload, 1), (14, .ifCond .lt 20, 3), (17, .aload_n 0, 1), (18, .iload_n 2, 1), (19, .iconst 0, 1), (20, .aload_n 0, 1), (21, .getfield 194, 3), (24, .iload_n 1, 1), (25, .iaload, 1), (26, .iconst 1, 1), (27, .isub, 1), (28, .invokevirtual 207, 3), (31, .ifCond .ne 9, 3), (34, .ldc2_w 321, 3), (37, .goto 14, 3), (40, .aload_n 0, 1), (41, .getfield 197, 3), (44, .bipush 60, 2), (46, .iload_n 1, 1), (47, .imul, 1), (48, .iload_n 2, 1), (49, .iadd, 1), (50, .laload, 1), (51, .lreturn, 1)]
theorem td_read : tb_read.all (fun q => decide (decode cX12_read q.1 = .ok (q.2.1, q.2.2))) = true := by decide +kernel
theorem w_read {p : Program} {l : Launch} {e : Env} {s : State} {m : MethodId} {args : Array Value} {below : List Frame} {meth : Method} {c : Code} {D : va_G} {o : Nat} {ad : Nat → Nat} {cs : ClassId × ClassId × ClassId} {r : Int64} {st' : mm_S} (C : mm_C p s m args meth c cX12_read 3 (some .long) D cs) (fu : Nat) (x1 : Int32) (x2 : Int32) (st : mm_S) (hf : M_read fu x1 x2 st = some (r, st')) {H : Heap} {locs : List Loc} {ls : Array Slot} (hl : lv_has ls 3 [(0, .ref o), (1, .int x1), (2, .int x2)]) (hM : mm_H D o ad cs s.heap st H locs) : W p l e (mm_R 2 44) s m args below meth c H locs 0 0 (MQ below (mm_Ql D o ad cs r st') args s 0 0 (mm_A o ad)) (F0 m 0 ls []) := by
  unfold M_read at hf
  refine lv_aload_n C.1 C.2.1 (dd_at td_read 0 rfl) rfl (lv_at hl 0 rfl) ?_
  refine lv_iload_n C.1 C.2.1 (dd_at td_read 1 rfl) rfl (lv_at hl 1 rfl) ?_
  obtain ⟨r3, st1, hx2, hf⟩ := fc_of_bn hf
  refine mm_ci (As := [.int x1]) (rest := []) (n := 1) C hM (c_isTape l D o ad cs fu x1 st) (List.mem_of_getElem? (i := 24) rfl) (dd_at td_read 2 rfl) hx2 hl.1 hd_isTape ⟨Nat.le_of_ble_eq_true rfl, Nat.le_of_ble_eq_true rfl⟩ rfl rfl (Nat.le_of_ble_eq_true rfl) ⟨Nat.le_refl 0, Nat.le_refl 0⟩ (fun H locs hM => ?_)
  refine lv_if_eq (tgt := 34) C.1 C.2.1 (dd_at td_read 3 rfl) (by decide) (fun c4 => ?_) (fun c4 => ?_)
  · replace hf := fc_of_t hf c4
    refine lv_ldc2 (v := (-9223372036854775808 : Int64)) C.1 C.2.1 C.2.2.2.2.1 (C.2.2.2.2.2.1 (.constantLong RX12 321 (-9223372036854775808 : Int64)) (mm_Wk (by decide +kernel))) (dd_at td_read 20 rfl) ?_
    refine lv_goto (tgt := 51) C.1 C.2.1 (dd_at td_read 21 rfl) (by decide) ?_
    exact mm_rl C hM (dd_at td_read 30 rfl) hf
  · replace hf := fc_of_f hf c4
    refine lv_aload_n C.1 C.2.1 (dd_at td_read 4 rfl) rfl (lv_at hl 0 rfl) ?_
    refine mm_gA C hM 59 (dd_at td_read 5 rfl) (by decide) (by decide) (by decide) ?_
    refine lv_iload_n C.1 C.2.1 (dd_at td_read 6 rfl) rfl (lv_at hl 1 rfl) ?_
    obtain ⟨g5, hf⟩ := fc_of_gd hf
    refine mm_iald C hM 59 (dd_at td_read 7 rfl) (by decide) (by decide) (fc_of_ix g5) ?_
    refine lv_if_lt (tgt := 34) C.1 C.2.1 (dd_at td_read 8 rfl) (by decide) (fun c6 => ?_) (fun c6 => ?_)
    · replace hf := fc_of_t hf c6
      refine lv_ldc2 (v := (-9223372036854775808 : Int64)) C.1 C.2.1 C.2.2.2.2.1 (C.2.2.2.2.2.1 (.constantLong RX12 321 (-9223372036854775808 : Int64)) (mm_Wk (by decide +kernel))) (dd_at td_read 20 rfl) ?_
      refine lv_goto (tgt := 51) C.1 C.2.1 (dd_at td_read 21 rfl) (by decide) ?_
      exact mm_rl C hM (dd_at td_read 30 rfl) hf
    · replace hf := fc_of_f hf c6
      refine lv_aload_n C.1 C.2.1 (dd_at td_read 9 rfl) rfl (lv_at hl 0 rfl) ?_
      refine lv_iload_n C.1 C.2.1 (dd_at td_read 10 rfl) rfl (lv_at hl 2 rfl) ?_
      refine lv_iconst (v := (0 : Int32)) C.1 C.2.1 (dd_at td_read 11 rfl) (by decide) ?_
      refine lv_aload_n C.1 C.2.1 (dd_at td_read 12 rfl) rfl (lv_at hl 0 rfl) ?_
      refine mm_gA C hM 60 (dd_at td_read 13 rfl) (by decide) (by decide) (by decide) ?_
      refine lv_iload_n C.1 C.2.1 (dd_at td_read 14 rfl) rfl (lv_at hl 1 rfl) ?_
      obtain ⟨g7, hf⟩ := fc_of_gd hf
      refine mm_iald C hM 60 (dd_at td_read 15 rfl) (by decide) (by decide) (fc_of_ix g7) ?_
      refine lv_iconst (v := (1 : Int32)) C.1 C.2.1 (dd_at td_read 16 rfl) (by decide) ?_
      refine lv_isub C.1 C.2.1 (dd_at td_read 17 rfl) ?_
      obtain ⟨r10, st8, hx9, hf⟩ := fc_of_bn hf
      refine mm_ci (As := [.int x2, .int (0 : Int32), .int ((mm_G st1 60 x1.toNatClampNeg) - (1 : Int32))]) (rest := []) (n := 3) C hM (c_in l D o ad cs fu x2 (0 : Int32) ((mm_G st1 60 x1.toNatClampNeg) - (1 : Int32)) st1) (List.mem_of_getElem? (i := 18) rfl) (dd_at td_read 18 rfl) hx9 hl.1 hd_in ⟨Nat.le_of_ble_eq_true rfl, Nat.le_of_ble_eq_true rfl⟩ rfl rfl (Nat.le_of_ble_eq_true rfl) ⟨Nat.le_refl 0, Nat.le_refl 0⟩ (fun H locs hM => ?_)
      refine lv_if_ne (tgt := 40) C.1 C.2.1 (dd_at td_read 19 rfl) (by decide) (fun c11 => ?_) (fun c11 => ?_)
      · replace hf := fc_of_f hf c11
        refine lv_aload_n C.1 C.2.1 (dd_at td_read 22 rfl) rfl (lv_at hl 0 rfl) ?_
        refine mm_gA C hM 61 (dd_at td_read 23 rfl) (by decide) (by decide) (by decide) ?_
        refine lv_bipush (v := (60 : Int32)) C.1 C.2.1 (dd_at td_read 24 rfl) (by decide) ?_
        refine lv_iload_n C.1 C.2.1 (dd_at td_read 25 rfl) rfl (lv_at hl 1 rfl) ?_
        refine lv_imul C.1 C.2.1 (dd_at td_read 26 rfl) ?_
        refine lv_iload_n C.1 C.2.1 (dd_at td_read 27 rfl) rfl (lv_at hl 2 rfl) ?_
        refine lv_iadd C.1 C.2.1 (dd_at td_read 28 rfl) ?_
        obtain ⟨g12, hf⟩ := fc_of_gd hf
        refine mm_lald C hM 61 (dd_at td_read 29 rfl) (by decide) (by decide) (fc_of_ix g12) ?_
        exact mm_rl C hM (dd_at td_read 30 rfl) hf
      · replace hf := fc_of_t hf c11
        refine lv_ldc2 (v := (-9223372036854775808 : Int64)) C.1 C.2.1 C.2.2.2.2.1 (C.2.2.2.2.2.1 (.constantLong RX12 321 (-9223372036854775808 : Int64)) (mm_Wk (by decide +kernel))) (dd_at td_read 20 rfl) ?_
        refine lv_goto (tgt := 51) C.1 C.2.1 (dd_at td_read 21 rfl) (by decide) ?_
        exact mm_rl C hM (dd_at td_read 30 rfl) hf
theorem c_read (l : Launch) (D : va_G) (o : Nat) (ad : Nat → Nat) (cs : ClassId × ClassId × ClassId) (fu : Nat) (x1 : Int32) (x2 : Int32) (st : mm_S) : mm_Ml l D o ad cs yX12_read cX12_read 3 (some .long) 2 44 [.int x1, .int x2] st (M_read fu x1 x2 st) := by
  intro r st' hf
  refine mm_enter (cc := cX12_read) (nL := 3) (ret := some .long) (by decide) rfl (Nat.le_of_ble_eq_true rfl) ?_
  intro p e s m args below meth c ls C hl hM
  exact w_read C fu x1 x2 st hf hl hM

/-! shift -/
def tb_shift : List (Nat × Instr × Nat) := [(0, .aload_n 0, 1), (1, .iload_n 1, 1), (2, .invokevirtual 343, 3), (5, .ifCond .eq 11, 3), (8, .aload_n 0, 1), (9, .iload_n 3, 1), (10, .invokevirtual 343, 3), (13, .ifCond .ne 5, 3), (16, .iconst (-1), 1), (17, .ireturn, 1), (18, .aload_n 0, 1), (19, .getfield 191, 3), (22, .iload_n 1, 1), (23, .iaload, 1), (24, .ifCond .lt 12, 3), (27, .aload_n 0, 1), (28, .getfield 191, 3), (31, .iload_n 3, 1), (32, .iaload, 1), (33, .ifCond .ge 6, 3), (36, .bipush (-11), 2), (38, .ireturn, 1), (39, .aload_n 0, 1), (40, .getfield 191, 3), (43, .iload_n 1, 1), (44, .iaload, 1), (45, .aload_n 0, 1), (46, .getfield 191, 3), (49, .iload_n 3, 1), (50, .iaload, 1), (51, .if_icmp .eq 6, 3), (54, .bipush (-12), 2), (56, .ireturn, 1), (57, .iload 5, 2), (59, .ifCond .lt 39, 3), (62, .iload_n 2, 1), (63, .ifCond .lt 35, 3), (66, .iload 4, 2), (68, .ifCond .lt 30, 3), (71, .iload_n 2, 1), (72, .aload_n 0, 1), (73, .getfield 194, 3), (76, .iload_n 1, 1), (77, .iaload, 1), (78, .iload 5, 2), (80, .isub, 1), (81, .if_icmp .gt 17, 3), (84, .iload 4, 2), (86, .aload_n 0, 1), (87, .getfield 194, 3), (90, .iload_n 3, 1), (91, .iaload, 1), (92, .iload 5, 2), (94, .isub, 1), (95, .if_icmp .le 6, 3), (98, .bipush (-13), 2), (100, .ireturn, 1), (101, .iconst 0, 1), (102, .istore 6, 2), (104, .iload 6, 2), (106, .iload 5, 2), (108, .if_icmp .ge 30, 3), (111, .aload_n 0, 1), (112, .getfield 200, 3), (115, .iload 6, 2), (117, .aload_n 0, 1), (118, .getfield 197, 3), (121, .bipush 60, 2), (123, .iload_n 1, 1), (124, .imul, 1), (125, .iload_n 2, 1), (126, .iadd, 1), (127, .iload 6, 2), (129, .iadd, 1), (130, .laload, 1), (131, .lastore, 1), (132, .iinc 6 1, 3), (135, .goto (-31), 3), (138, .iconst 0, 1), (139, .istore 6, 2), (141, .iload 6, 2), (143, .iload 5, 2), (145, .if_icmp .ge 31, 3), (148, .aload_n 0, 1), (149, .getfield 197, 3), (152, .bipush 60, 2), (154, .iload_n 3, 1), (155, .imul, 1), (156, .iload 4, 2), (158, .iadd, 1), (159, .iload 6, 2), (161, .iadd, 1), (162, .aload_n 0, 1), (163, .getfield 200, 3), (166, .iload 6, 2), (168, .laload, 1), (169, .lastore, 1), (170, .iinc 6 1, 3), (173, .goto (-32), 3), (176, .iload 5, 2), (178, .ireturn, 1)]
theorem td_shift : tb_shift.all (fun q => decide (decode cX12_shift q.1 = .ok (q.2.1, q.2.2))) = true := by decide +kernel
theorem w_shift_b141F {p : Program} {l : Launch} {e : Env} {s : State} {m : MethodId} {args : Array Value} {below : List Frame} {meth : Method} {c : Code} {D : va_G} {o : Nat} {ad : Nat → Nat} {cs : ClassId × ClassId × ClassId} {r : Int32} {st' : mm_S} (C : mm_C p s m args meth c cX12_shift 7 (some .int) D cs) (fu : Nat) (K141 : Int32 → Int32 → Int32 → Int32 → mm_S → Option (Int32 × mm_S)) (hK141 : ∀ (x3 : Int32) (x4 : Int32) (x5 : Int32) (x6 : Int32) (st : mm_S) (H : Heap) (locs : List Loc) (ls : Array Slot), K141 x3 x4 x5 x6 st = some (r, st') → lv_has ls 7 [(0, .ref o), (3, .int x3), (4, .int x4), (5, .int x5), (6, .int x6)] → mm_H D o ad cs s.heap st H locs → W p l e (mm_R 2 44) s m args below meth c H locs 0 0 (MQ below (mm_Qi D o ad cs r st') args s 0 0 (mm_A o ad)) (F0 m 141 ls [])) (x3 : Int32) (x4 : Int32) (x5 : Int32) (x6 : Int32) (st : mm_S) (hf : M_shift_b141F fu K141 x3 x4 x5 x6 st = some (r, st')) {H : Heap} {locs : List Loc} {ls : Array Slot} (hl : lv_has ls 7 [(0, .ref o), (3, .int x3), (4, .int x4), (5, .int x5), (6, .int x6)]) (hM : mm_H D o ad cs s.heap st H locs) : W p l e (mm_R 2 44) s m args below meth c H locs 0 0 (MQ below (mm_Qi D o ad cs r st') args s 0 0 (mm_A o ad)) (F0 m 141 ls []) := by
  unfold M_shift_b141F at hf
  refine lv_iload C.1 C.2.1 (dd_at td_shift 80 rfl) (lv_at hl 4 rfl) ?_
  refine lv_iload C.1 C.2.1 (dd_at td_shift 81 rfl) (lv_at hl 3 rfl) ?_
  refine lv_icmp_ge (tgt := 176) C.1 C.2.1 (dd_at td_shift 82 rfl) (by decide) (fun c28 => ?_) (fun c28 => ?_)
  · replace hf := fc_of_t hf c28
    refine lv_iload C.1 C.2.1 (dd_at td_shift 99 rfl) (lv_at hl 3 rfl) ?_
    exact mm_ri C hM (dd_at td_shift 100 rfl) hf
  · replace hf := fc_of_f hf c28
    refine lv_aload_n C.1 C.2.1 (dd_at td_shift 83 rfl) rfl (lv_at hl 0 rfl) ?_
    refine mm_gA C hM 61 (dd_at td_shift 84 rfl) (by decide) (by decide) (by decide) ?_
    refine lv_bipush (v := (60 : Int32)) C.1 C.2.1 (dd_at td_shift 85 rfl) (by decide) ?_
    refine lv_iload_n C.1 C.2.1 (dd_at td_shift 86 rfl) rfl (lv_at hl 1 rfl) ?_
    refine lv_imul C.1 C.2.1 (dd_at td_shift 87 rfl) ?_
    refine lv_iload C.1 C.2.1 (dd_at td_shift 88 rfl) (lv_at hl 2 rfl) ?_
    refine lv_iadd C.1 C.2.1 (dd_at td_shift 89 rfl) ?_
    refine lv_iload C.1 C.2.1 (dd_at td_shift 90 rfl) (lv_at hl 4 rfl) ?_
    refine lv_iadd C.1 C.2.1 (dd_at td_shift 91 rfl) ?_
    refine lv_aload_n C.1 C.2.1 (dd_at td_shift 92 rfl) rfl (lv_at hl 0 rfl) ?_
    refine mm_gA C hM 62 (dd_at td_shift 93 rfl) (by decide) (by decide) (by decide) ?_
    refine lv_iload C.1 C.2.1 (dd_at td_shift 94 rfl) (lv_at hl 4 rfl) ?_
    obtain ⟨g29, hf⟩ := fc_of_gd hf
    refine mm_lald C hM 62 (dd_at td_shift 95 rfl) (by decide) (by decide) (fc_of_ix g29) ?_
    obtain ⟨g30, hf⟩ := fc_of_gd hf
    refine mm_last C hM 61 (dd_at td_shift 96 rfl) (by decide) (by decide) (fc_of_ix g30) (fun st31 H locs est31 hM => ?_)
    replace hf := fc_of_nm hf st31 est31
    obtain ⟨v32, ev32⟩ : ∃ y : Int32, y = x6 + (1 : Int32) := ⟨_, rfl⟩
    replace hf := fc_of_nm hf v32 ev32
    refine lv_iinc (v := v32) (lv' := [(6, .int v32), (0, .ref o), (3, .int x3), (4, .int x4), (5, .int x5)]) C.1 C.2.1 (dd_at td_shift 97 rfl) hl (k := 4) rfl (by rw [ev32]; rfl) (by decide) rfl (fun ls hl => ?_)
    refine lv_goto (tgt := 141) C.1 C.2.1 (dd_at td_shift 98 rfl) (by decide) ?_
    exact hK141 x3 x4 x5 v32 st31 _ _ _ hf (lv_sub hl [1, 2, 3, 4, 0] rfl) hM
theorem w_shift_b141 {p : Program} {l : Launch} {e : Env} {s : State} {m : MethodId} {args : Array Value} {below : List Frame} {meth : Method} {c : Code} {D : va_G} {o : Nat} {ad : Nat → Nat} {cs : ClassId × ClassId × ClassId} {r : Int32} {st' : mm_S} (C : mm_C p s m args meth c cX12_shift 7 (some .int) D cs) (fu : Nat) (n : Nat) : ∀ (x3 : Int32) (x4 : Int32) (x5 : Int32) (x6 : Int32) (st : mm_S), M_shift_b141 fu n x3 x4 x5 x6 st = some (r, st') → ∀ (H : Heap) (locs : List Loc) (ls : Array Slot), lv_has ls 7 [(0, .ref o), (3, .int x3), (4, .int x4), (5, .int x5), (6, .int x6)] → mm_H D o ad cs s.heap st H locs → W p l e (mm_R 2 44) s m args below meth c H locs 0 0 (MQ below (mm_Qi D o ad cs r st') args s 0 0 (mm_A o ad)) (F0 m 141 ls []) := by
  induction n with
  | zero => exact fun _ _ _ _ _ hf => fc_no hf
  | succ n ih =>
    intro x3 x4 x5 x6 st hf H locs ls hl hM
    exact w_shift_b141F C fu (fun x3 x4 x5 x6 st => M_shift_b141 fu n x3 x4 x5 x6 st) (fun x3 x4 x5 x6 st H locs ls hf hl hM => ih x3 x4 x5 x6 st hf H locs ls hl hM) x3 x4 x5 x6 st hf hl hM
theorem w_shift_b104F {p : Program} {l : Launch} {e : Env} {s : State} {m : MethodId} {args : Array Value} {below : List Frame} {meth : Method} {c : Code} {D : va_G} {o : Nat} {ad : Nat → Nat} {cs : ClassId × ClassId × ClassId} {r : Int32} {st' : mm_S} (C : mm_C p s m args meth c cX12_shift 7 (some .int) D cs) (fu : Nat) (K104 : Int32 → Int32 → Int32 → Int32 → Int32 → Int32 → mm_S → Option (Int32 × mm_S)) (hK104 : ∀ (x1 : Int32) (x2 : Int32) (x3 : Int32) (x4 : Int32) (x5 : Int32) (x6 : Int32) (st : mm_S) (H : Heap) (locs : List Loc) (ls : Array Slot), K104 x1 x2 x3 x4 x5 x6 st = some (r, st') → lv_has ls 7 [(0, .ref o), (1, .int x1), (2, .int x2), (3, .int x3), (4, .int x4), (5, .int x5), (6, .int x6)] → mm_H D o ad cs s.heap st H locs → W p l e (mm_R 2 44) s m args below meth c H locs 0 0 (MQ below (mm_Qi D o ad cs r st') args s 0 0 (mm_A o ad)) (F0 m 104 ls [])) (x1 : Int32) (x2 : Int32) (x3 : Int32) (x4 : Int32) (x5 : Int32) (x6 : Int32) (st : mm_S) (hf : M_shift_b104F fu K104 x1 x2 x3 x4 x5 x6 st = some (r, st')) {H : Heap} {locs : List Loc} {ls : Array Slot} (hl : lv_has ls 7 [(0, .ref o), (1, .int x1), (2, .int x2), (3, .int x3), (4, .int x4), (5, .int x5), (6, .int x6)]) (hM : mm_H D o ad cs s.heap st H locs) : W p l e (mm_R 2 44) s m args below meth c H locs 0 0 (MQ below (mm_Qi D o ad cs r st') args s 0 0 (mm_A o ad)) (F0 m 104 ls []) := by
  unfold M_shift_b104F at hf
  refine lv_iload C.1 C.2.1 (dd_at td_shift 59 rfl) (lv_at hl 6 rfl) ?_
  refine lv_iload C.1 C.2.1 (dd_at td_shift 60 rfl) (lv_at hl 5 rfl) ?_
  refine lv_icmp_ge (tgt := 138) C.1 C.2.1 (dd_at td_shift 61 rfl) (by decide) (fun c23 => ?_) (fun c23 => ?_)
  · replace hf := fc_of_t hf c23
    refine lv_iconst (v := (0 : Int32)) C.1 C.2.1 (dd_at td_shift 78 rfl) (by decide) ?_
    refine lv_istore (lv' := [(6, .int (0 : Int32)), (0, .ref o), (1, .int x1), (2, .int x2), (3, .int x3), (4, .int x4), (5, .int x5)]) C.1 C.2.1 (dd_at td_shift 79 rfl) hl (by decide) rfl (fun ls hl => ?_)
    exact w_shift_b141 C fu fu x3 x4 x5 (0 : Int32) st hf _ _ _ (lv_sub hl [1, 4, 5, 6, 0] rfl) hM
  · replace hf := fc_of_f hf c23
    refine lv_aload_n C.1 C.2.1 (dd_at td_shift 62 rfl) rfl (lv_at hl 0 rfl) ?_
    refine mm_gA C hM 62 (dd_at td_shift 63 rfl) (by decide) (by decide) (by decide) ?_
    refine lv_iload C.1 C.2.1 (dd_at td_shift 64 rfl) (lv_at hl 6 rfl) ?_
    refine lv_aload_n C.1 C.2.1 (dd_at td_shift 65 rfl) rfl (lv_at hl 0 rfl) ?_
    refine mm_gA C hM 61 (dd_at td_shift 66 rfl) (by decide) (by decide) (by decide) ?_
    refine lv_bipush (v := (60 : Int32)) C.1 C.2.1 (dd_at td_shift 67 rfl) (by decide) ?_
    refine lv_iload_n C.1 C.2.1 (dd_at td_shift 68 rfl) rfl (lv_at hl 1 rfl) ?_
    refine lv_imul C.1 C.2.1 (dd_at td_shift 69 rfl) ?_
    refine lv_iload_n C.1 C.2.1 (dd_at td_shift 70 rfl) rfl (lv_at hl 2 rfl) ?_
    refine lv_iadd C.1 C.2.1 (dd_at td_shift 71 rfl) ?_
    refine lv_iload C.1 C.2.1 (dd_at td_shift 72 rfl) (lv_at hl 6 rfl) ?_
    refine lv_iadd C.1 C.2.1 (dd_at td_shift 73 rfl) ?_
    obtain ⟨g24, hf⟩ := fc_of_gd hf
    refine mm_lald C hM 61 (dd_at td_shift 74 rfl) (by decide) (by decide) (fc_of_ix g24) ?_
    obtain ⟨g25, hf⟩ := fc_of_gd hf
    refine mm_last C hM 62 (dd_at td_shift 75 rfl) (by decide) (by decide) (fc_of_ix g25) (fun st26 H locs est26 hM => ?_)
    replace hf := fc_of_nm hf st26 est26
    obtain ⟨v27, ev27⟩ : ∃ y : Int32, y = x6 + (1 : Int32) := ⟨_, rfl⟩
    replace hf := fc_of_nm hf v27 ev27
    refine lv_iinc (v := v27) (lv' := [(6, .int v27), (0, .ref o), (1, .int x1), (2, .int x2), (3, .int x3), (4, .int x4), (5, .int x5)]) C.1 C.2.1 (dd_at td_shift 76 rfl) hl (k := 6) rfl (by rw [ev27]; rfl) (by decide) rfl (fun ls hl => ?_)
    refine lv_goto (tgt := 104) C.1 C.2.1 (dd_at td_shift 77 rfl) (by decide) ?_
    exact hK104 x1 x2 x3 x4 x5 v27 st26 _ _ _ hf (lv_sub hl [1, 2, 3, 4, 5, 6, 0] rfl) hM
theorem w_shift_b104 {p : Program} {l : Launch} {e : Env} {s : State} {m : MethodId} {args : Array Value} {below : List Frame} {meth : Method} {c : Code} {D : va_G} {o : Nat} {ad : Nat → Nat} {cs : ClassId × ClassId × ClassId} {r : Int32} {st' : mm_S} (C : mm_C p s m args meth c cX12_shift 7 (some .int) D cs) (fu : Nat) (n : Nat) : ∀ (x1 : Int32) (x2 : Int32) (x3 : Int32) (x4 : Int32) (x5 : Int32) (x6 : Int32) (st : mm_S), M_shift_b104 fu n x1 x2 x3 x4 x5 x6 st = some (r, st') → ∀ (H : Heap) (locs : List Loc) (ls : Array Slot), lv_has ls 7 [(0, .ref o), (1, .int x1), (2, .int x2), (3, .int x3), (4, .int x4), (5, .int x5), (6, .int x6)] → mm_H D o ad cs s.heap st H locs → W p l e (mm_R 2 44) s m args below meth c H locs 0 0 (MQ below (mm_Qi D o ad cs r st') args s 0 0 (mm_A o ad)) (F0 m 104 ls []) := by
  induction n with
  | zero => exact fun _ _ _ _ _ _ _ hf => fc_no hf
  | succ n ih =>
    intro x1 x2 x3 x4 x5 x6 st hf H locs ls hl hM
    exact w_shift_b104F C fu (fun x1 x2 x3 x4 x5 x6 st => M_shift_b104 fu n x1 x2 x3 x4 x5 x6 st) (fun x1 x2 x3 x4 x5 x6 st H locs ls hf hl hM => ih x1 x2 x3 x4 x5 x6 st hf H locs ls hl hM) x1 x2 x3 x4 x5 x6 st hf hl hM
theorem w_shift {p : Program} {l : Launch} {e : Env} {s : State} {m : MethodId} {args : Array Value} {below : List Frame} {meth : Method} {c : Code} {D : va_G} {o : Nat} {ad : Nat → Nat} {cs : ClassId × ClassId × ClassId} {r : Int32} {st' : mm_S} (C : mm_C p s m args meth c cX12_shift 7 (some .int) D cs) (fu : Nat) (x1 : Int32) (x2 : Int32) (x3 : Int32) (x4 : Int32) (x5 : Int32) (st : mm_S) (hf : M_shift fu x1 x2 x3 x4 x5 st = some (r, st')) {H : Heap} {locs : List Loc} {ls : Array Slot} (hl : lv_has ls 7 [(0, .ref o), (1, .int x1), (2, .int x2), (3, .int x3), (4, .int x4), (5, .int x5)]) (hM : mm_H D o ad cs s.heap st H locs) : W p l e (mm_R 2 44) s m args below meth c H locs 0 0 (MQ below (mm_Qi D o ad cs r st') args s 0 0 (mm_A o ad)) (F0 m 0 ls []) := by
  unfold M_shift at hf
  refine lv_aload_n C.1 C.2.1 (dd_at td_shift 0 rfl) rfl (lv_at hl 0 rfl) ?_
  refine lv_iload_n C.1 C.2.1 (dd_at td_shift 1 rfl) rfl (lv_at hl 1 rfl) ?_
  obtain ⟨r3, st1, hx2, hf⟩ := fc_of_bn hf
  refine mm_ci (As := [.int x1]) (rest := []) (n := 1) C hM (c_isTape l D o ad cs fu x1 st) (List.mem_of_getElem? (i := 24) rfl) (dd_at td_shift 2 rfl) hx2 hl.1 hd_isTape ⟨Nat.le_of_ble_eq_true rfl, Nat.le_of_ble_eq_true rfl⟩ rfl rfl (Nat.le_of_ble_eq_true rfl) ⟨Nat.le_refl 0, Nat.le_refl 0⟩ (fun H locs hM => ?_)
  refine lv_if_eq (tgt := 16) C.1 C.2.1 (dd_at td_shift 3 rfl) (by decide) (fun c4 => ?_) (fun c4 => ?_)
  · replace hf := fc_of_t hf c4
    refine lv_iconst (v := (-1 : Int32)) C.1 C.2.1 (dd_at td_shift 8 rfl) (by decide) ?_
    exact mm_ri C hM (dd_at td_shift 9 rfl) hf
  · replace hf := fc_of_f hf c4
    refine lv_aload_n C.1 C.2.1 (dd_at td_shift 4 rfl) rfl (lv_at hl 0 rfl) ?_
    refine lv_iload_n C.1 C.2.1 (dd_at td_shift 5 rfl) rfl (lv_at hl 3 rfl) ?_
    obtain ⟨r7, st5, hx6, hf⟩ := fc_of_bn hf
    refine mm_ci (As := [.int x3]) (rest := []) (n := 1) C hM (c_isTape l D o ad cs fu x3 st1) (List.mem_of_getElem? (i := 24) rfl) (dd_at td_shift 6 rfl) hx6 hl.1 hd_isTape ⟨Nat.le_of_ble_eq_true rfl, Nat.le_of_ble_eq_true rfl⟩ rfl rfl (Nat.le_of_ble_eq_true rfl) ⟨Nat.le_refl 0, Nat.le_refl 0⟩ (fun H locs hM => ?_)
    refine lv_if_ne (tgt := 18) C.1 C.2.1 (dd_at td_shift 7 rfl) (by decide) (fun c8 => ?_) (fun c8 => ?_)
    · replace hf := fc_of_f hf c8
      refine lv_aload_n C.1 C.2.1 (dd_at td_shift 10 rfl) rfl (lv_at hl 0 rfl) ?_
      refine mm_gA C hM 59 (dd_at td_shift 11 rfl) (by decide) (by decide) (by decide) ?_
      refine lv_iload_n C.1 C.2.1 (dd_at td_shift 12 rfl) rfl (lv_at hl 1 rfl) ?_
      obtain ⟨g9, hf⟩ := fc_of_gd hf
      refine mm_iald C hM 59 (dd_at td_shift 13 rfl) (by decide) (by decide) (fc_of_ix g9) ?_
      refine lv_if_lt (tgt := 36) C.1 C.2.1 (dd_at td_shift 14 rfl) (by decide) (fun c10 => ?_) (fun c10 => ?_)
      · replace hf := fc_of_t hf c10
        refine lv_bipush (v := (-11 : Int32)) C.1 C.2.1 (dd_at td_shift 20 rfl) (by decide) ?_
        exact mm_ri C hM (dd_at td_shift 21 rfl) hf
      · replace hf := fc_of_f hf c10
        refine lv_aload_n C.1 C.2.1 (dd_at td_shift 15 rfl) rfl (lv_at hl 0 rfl) ?_
        refine mm_gA C hM 59 (dd_at td_shift 16 rfl) (by decide) (by decide) (by decide) ?_
        refine lv_iload_n C.1 C.2.1 (dd_at td_shift 17 rfl) rfl (lv_at hl 3 rfl) ?_
        obtain ⟨g11, hf⟩ := fc_of_gd hf
        refine mm_iald C hM 59 (dd_at td_shift 18 rfl) (by decide) (by decide) (fc_of_ix g11) ?_
        refine lv_if_ge (tgt := 39) C.1 C.2.1 (dd_at td_shift 19 rfl) (by decide) (fun c12 => ?_) (fun c12 => ?_)
        · replace hf := fc_of_t hf c12
          refine lv_aload_n C.1 C.2.1 (dd_at td_shift 22 rfl) rfl (lv_at hl 0 rfl) ?_
          refine mm_gA C hM 59 (dd_at td_shift 23 rfl) (by decide) (by decide) (by decide) ?_
          refine lv_iload_n C.1 C.2.1 (dd_at td_shift 24 rfl) rfl (lv_at hl 1 rfl) ?_
          obtain ⟨g13, hf⟩ := fc_of_gd hf
          refine mm_iald C hM 59 (dd_at td_shift 25 rfl) (by decide) (by decide) (fc_of_ix g13) ?_
          refine lv_aload_n C.1 C.2.1 (dd_at td_shift 26 rfl) rfl (lv_at hl 0 rfl) ?_
          refine mm_gA C hM 59 (dd_at td_shift 27 rfl) (by decide) (by decide) (by decide) ?_
          refine lv_iload_n C.1 C.2.1 (dd_at td_shift 28 rfl) rfl (lv_at hl 3 rfl) ?_
          obtain ⟨g14, hf⟩ := fc_of_gd hf
          refine mm_iald C hM 59 (dd_at td_shift 29 rfl) (by decide) (by decide) (fc_of_ix g14) ?_
          refine lv_icmp_eq (tgt := 57) C.1 C.2.1 (dd_at td_shift 30 rfl) (by decide) (fun c15 => ?_) (fun c15 => ?_)
          · replace hf := fc_of_t hf c15
            refine lv_iload C.1 C.2.1 (dd_at td_shift 33 rfl) (lv_at hl 5 rfl) ?_
            refine lv_if_lt (tgt := 98) C.1 C.2.1 (dd_at td_shift 34 rfl) (by decide) (fun c16 => ?_) (fun c16 => ?_)
            · replace hf := fc_of_t hf c16
              refine lv_bipush (v := (-13 : Int32)) C.1 C.2.1 (dd_at td_shift 55 rfl) (by decide) ?_
              exact mm_ri C hM (dd_at td_shift 56 rfl) hf
            · replace hf := fc_of_f hf c16
              refine lv_iload_n C.1 C.2.1 (dd_at td_shift 35 rfl) rfl (lv_at hl 2 rfl) ?_
              refine lv_if_lt (tgt := 98) C.1 C.2.1 (dd_at td_shift 36 rfl) (by decide) (fun c17 => ?_) (fun c17 => ?_)
              · replace hf := fc_of_t hf c17
                refine lv_bipush (v := (-13 : Int32)) C.1 C.2.1 (dd_at td_shift 55 rfl) (by decide) ?_
                exact mm_ri C hM (dd_at td_shift 56 rfl) hf
              · replace hf := fc_of_f hf c17
                refine lv_iload C.1 C.2.1 (dd_at td_shift 37 rfl) (lv_at hl 4 rfl) ?_
                refine lv_if_lt (tgt := 98) C.1 C.2.1 (dd_at td_shift 38 rfl) (by decide) (fun c18 => ?_) (fun c18 => ?_)
                · replace hf := fc_of_t hf c18
                  refine lv_bipush (v := (-13 : Int32)) C.1 C.2.1 (dd_at td_shift 55 rfl) (by decide) ?_
                  exact mm_ri C hM (dd_at td_shift 56 rfl) hf
                · replace hf := fc_of_f hf c18
                  refine lv_iload_n C.1 C.2.1 (dd_at td_shift 39 rfl) rfl (lv_at hl 2 rfl) ?_
                  refine lv_aload_n C.1 C.2.1 (dd_at td_shift 40 rfl) rfl (lv_at hl 0 rfl) ?_
                  refine mm_gA C hM 60 (dd_at td_shift 41 rfl) (by decide) (by decide) (by decide) ?_
                  refine lv_iload_n C.1 C.2.1 (dd_at td_shift 42 rfl) rfl (lv_at hl 1 rfl) ?_
                  obtain ⟨g19, hf⟩ := fc_of_gd hf
                  refine mm_iald C hM 60 (dd_at td_shift 43 rfl) (by decide) (by decide) (fc_of_ix g19) ?_
                  refine lv_iload C.1 C.2.1 (dd_at td_shift 44 rfl) (lv_at hl 5 rfl) ?_
                  refine lv_isub C.1 C.2.1 (dd_at td_shift 45 rfl) ?_
                  refine lv_icmp_gt (tgt := 98) C.1 C.2.1 (dd_at td_shift 46 rfl) (by decide) (fun c20 => ?_) (fun c20 => ?_)
                  · replace hf := fc_of_t hf c20
                    refine lv_bipush (v := (-13 : Int32)) C.1 C.2.1 (dd_at td_shift 55 rfl) (by decide) ?_
                    exact mm_ri C hM (dd_at td_shift 56 rfl) hf
                  · replace hf := fc_of_f hf c20
                    refine lv_iload C.1 C.2.1 (dd_at td_shift 47 rfl) (lv_at hl 4 rfl) ?_
                    refine lv_aload_n C.1 C.2.1 (dd_at td_shift 48 rfl) rfl (lv_at hl 0 rfl) ?_
                    refine mm_gA C hM 60 (dd_at td_shift 49 rfl) (by decide) (by decide) (by decide) ?_
                    refine lv_iload_n C.1 C.2.1 (dd_at td_shift 50 rfl) rfl (lv_at hl 3 rfl) ?_
                    obtain ⟨g21, hf⟩ := fc_of_gd hf
                    refine mm_iald C hM 60 (dd_at td_shift 51 rfl) (by decide) (by decide) (fc_of_ix g21) ?_
                    refine lv_iload C.1 C.2.1 (dd_at td_shift 52 rfl) (lv_at hl 5 rfl) ?_
                    refine lv_isub C.1 C.2.1 (dd_at td_shift 53 rfl) ?_
                    refine lv_icmp_le (tgt := 101) C.1 C.2.1 (dd_at td_shift 54 rfl) (by decide) (fun c22 => ?_) (fun c22 => ?_)
                    · replace hf := fc_of_t hf c22
                      refine lv_iconst (v := (0 : Int32)) C.1 C.2.1 (dd_at td_shift 57 rfl) (by decide) ?_
                      refine lv_istore (lv' := [(6, .int (0 : Int32)), (0, .ref o), (1, .int x1), (2, .int x2), (3, .int x3), (4, .int x4), (5, .int x5)]) C.1 C.2.1 (dd_at td_shift 58 rfl) hl (by decide) rfl (fun ls hl => ?_)
                      exact w_shift_b104 C fu fu x1 x2 x3 x4 x5 (0 : Int32) st5 hf _ _ _ (lv_sub hl [1, 2, 3, 4, 5, 6, 0] rfl) hM
                    · replace hf := fc_of_f hf c22
                      refine lv_bipush (v := (-13 : Int32)) C.1 C.2.1 (dd_at td_shift 55 rfl) (by decide) ?_
                      exact mm_ri C hM (dd_at td_shift 56 rfl) hf
          · replace hf := fc_of_f hf c15
            refine lv_bipush (v := (-12 : Int32)) C.1 C.2.1 (dd_at td_shift 31 rfl) (by decide) ?_
            exact mm_ri C hM (dd_at td_shift 32 rfl) hf
        · replace hf := fc_of_f hf c12
          refine lv_bipush (v := (-11 : Int32)) C.1 C.2.1 (dd_at td_shift 20 rfl) (by decide) ?_
          exact mm_ri C hM (dd_at td_shift 21 rfl) hf
    · replace hf := fc_of_t hf c8
      refine lv_iconst (v := (-1 : Int32)) C.1 C.2.1 (dd_at td_shift 8 rfl) (by decide) ?_
      exact mm_ri C hM (dd_at td_shift 9 rfl) hf
theorem c_shift (l : Launch) (D : va_G) (o : Nat) (ad : Nat → Nat) (cs : ClassId × ClassId × ClassId) (fu : Nat) (x1 : Int32) (x2 : Int32) (x3 : Int32) (x4 : Int32) (x5 : Int32) (st : mm_S) : mm_Mi l D o ad cs yX12_shift cX12_shift 7 (some .int) 2 44 [.int x1, .int x2, .int x3, .int x4, .int x5] st (M_shift fu x1 x2 x3 x4 x5 st) := by
  intro r st' hf
  refine mm_enter (cc := cX12_shift) (nL := 7) (ret := some .int) (by decide) rfl (Nat.le_of_ble_eq_true rfl) ?_
  intro p e s m args below meth c ls C hl hM
  exact w_shift C fu x1 x2 x3 x4 x5 st hf hl hM

