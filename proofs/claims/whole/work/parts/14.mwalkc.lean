/-! worthOf -/
def tb_worthOf : List (Nat × Instr × Nat) := [(0, .aload_n 0, 1), (1, .iload_n 1, 1), (2, .iload_n 2, 1), (3, .iload_n 3, 1), (4, .invokevirtual 278, 3), (7, .istore 4, 2), (9, .iload_n 2, 1), (10, .iconst 2, 1), (11, .irem, 1), (12, .iconst 1, 1), (13, .if_icmp .ne 7, 3), (16, .iconst 0, 1), (17, .goto 5, 3), (20, .iload 4, 2), (22, .istore 5, 2), (24, .iload 4, 2), (26, .istore 6, 2), (28, .aload_n 0, 1), (29, .getfield 22, 3), (32, .iload_n 1, 1), (33, .iaload, 1), (34, .tableswitch 125 1 6 #[38, 50, 57, 66, 89, 103], 38), (72, .iload 4, 2), (74, .iload_n 2, 1), (75, .bipush 8, 2), (77, .irem, 1), (78, .iadd, 1), (79, .istore 6, 2), (81, .goto 78, 3), (84, .iload 5, 2), (86, .istore 6, 2), (88, .goto 71, 3), (91, .iload 4, 2), (93, .iconst 2, 1), (94, .idiv, 1), (95, .istore 6, 2), (97, .goto 62, 3), (100, .iload 4, 2), (102, .iload_n 2, 1), (103, .bipush 8, 2), (105, .irem, 1), (106, .iadd, 1), (107, .iload_n 3, 1), (108, .iconst 1, 1), (109, .if_icmp .ne 7, 3), (112, .iconst 2, 1), (113, .goto 4, 3), (116, .iconst 1, 1), (117, .imul, 1), (118, .istore 6, 2), (120, .goto 39, 3), (123, .iload 5, 2), (125, .aload_n 0, 1), (126, .getfield 26, 3), (129, .iload_n 1, 1), (130, .iaload, 1), (131, .iadd, 1), (132, .istore 6, 2), (134, .goto 25, 3), (137, .iload 4, 2), (139, .iconst 2, 1), (140, .idiv, 1), (141, .aload_n 0, 1), (142, .getfield 32, 3), (145, .iconst 4, 1), (146, .iload_n 1, 1), (147, .imul, 1), (148, .iload_n 2, 1), (149, .iconst 4, 1), (150, .irem, 1), (151, .iadd, 1), (152, .iaload, 1), (153, .iadd, 1), (154, .istore 6, 2), (156, .goto 3, 3), (159, .iload 6, 2), (161, .ifCond .ge 7, 3), (164, .iconst 0, 1), (165, .goto 5, 3), (168, .iload 6, 2), (170, .ireturn, 1)]
theorem td_worthOf : tb_worthOf.all (fun q => decide (decode cX12_worthOf q.1 = .ok (q.2.1, q.2.2))) = true := by decide +kernel
theorem hd_worthOf : yX12_worthOf.cls = RX12 ∧ yX12_worthOf.cls ≠ "java/lang/invoke/MethodHandle" ∧ yX12_worthOf.cls ≠ "java/lang/invoke/VarHandle" ∧ (parseMethodDescriptor yX12_worthOf.desc).map (fun d => d.parameters.length) = some 3 := by decide +kernel
theorem w_worthOf_b159 {p : Program} {l : Launch} {e : Env} {s : State} {m : MethodId} {args : Array Value} {below : List Frame} {meth : Method} {c : Code} {D : va_G} {o : Nat} {ad : Nat → Nat} {cs : ClassId × ClassId × ClassId} {r : Int32} {st' : mm_S} (C : mm_C p s m args meth c cX12_worthOf 7 (some .int) D cs) (fu : Nat) (x6 : Int32) (st : mm_S) (hf : M_worthOf_b159 fu x6 st = some (r, st')) {H : Heap} {locs : List Loc} {ls : Array Slot} (hl : lv_has ls 7 [(0, .ref o), (6, .int x6)]) (hM : mm_H D o ad cs s.heap st H locs) : W p l e (mm_R 3 78) s m args below meth c H locs 0 0 (MQ below (mm_Qi D o ad cs r st') args s 0 0 (mm_A o ad)) (F0 m 159 ls []) := by
  unfold M_worthOf_b159 at hf
  refine lv_iload C.1 C.2.1 (dd_at td_worthOf 75 rfl) (lv_at hl 1 rfl) ?_
  refine lv_if_ge (tgt := 168) C.1 C.2.1 (dd_at td_worthOf 76 rfl) (by decide) (fun c20 => ?_) (fun c20 => ?_)
  · replace hf := fc_of_t hf c20
    refine lv_iload C.1 C.2.1 (dd_at td_worthOf 79 rfl) (lv_at hl 1 rfl) ?_
    exact mm_ri C hM (dd_at td_worthOf 80 rfl) hf
  · replace hf := fc_of_f hf c20
    refine lv_iconst (v := (0 : Int32)) C.1 C.2.1 (dd_at td_worthOf 77 rfl) (by decide) ?_
    refine lv_goto (tgt := 170) C.1 C.2.1 (dd_at td_worthOf 78 rfl) (by decide) ?_
    exact mm_ri C hM (dd_at td_worthOf 80 rfl) hf
theorem w_worthOf_b117 {p : Program} {l : Launch} {e : Env} {s : State} {m : MethodId} {args : Array Value} {below : List Frame} {meth : Method} {c : Code} {D : va_G} {o : Nat} {ad : Nat → Nat} {cs : ClassId × ClassId × ClassId} {r : Int32} {st' : mm_S} (C : mm_C p s m args meth c cX12_worthOf 7 (some .int) D cs) (fu : Nat) (s0 : Int32) (s1 : Int32) (st : mm_S) (hf : M_worthOf_b117 fu s0 s1 st = some (r, st')) {H : Heap} {locs : List Loc} {ls : Array Slot} (hl : lv_has ls 7 [(0, .ref o)]) (hM : mm_H D o ad cs s.heap st H locs) : W p l e (mm_R 3 78) s m args below meth c H locs 0 0 (MQ below (mm_Qi D o ad cs r st') args s 0 0 (mm_A o ad)) (F0 m 117 ls [.int s0, .int s1]) := by
  unfold M_worthOf_b117 at hf
  refine lv_imul C.1 C.2.1 (dd_at td_worthOf 48 rfl) ?_
  refine lv_topi (fun v21 ev21 => ?_)
  replace hf := fc_of_nm hf v21 ev21
  refine lv_istore (lv' := [(6, .int v21), (0, .ref o)]) C.1 C.2.1 (dd_at td_worthOf 49 rfl) hl (by decide) rfl (fun ls hl => ?_)
  refine lv_goto (tgt := 159) C.1 C.2.1 (dd_at td_worthOf 50 rfl) (by decide) ?_
  exact w_worthOf_b159 C fu v21 st hf (lv_sub hl [1, 0] rfl) hM
theorem w_worthOf_b22 {p : Program} {l : Launch} {e : Env} {s : State} {m : MethodId} {args : Array Value} {below : List Frame} {meth : Method} {c : Code} {D : va_G} {o : Nat} {ad : Nat → Nat} {cs : ClassId × ClassId × ClassId} {r : Int32} {st' : mm_S} (C : mm_C p s m args meth c cX12_worthOf 7 (some .int) D cs) (fu : Nat) (x1 : Int32) (x2 : Int32) (x3 : Int32) (x4 : Int32) (s0 : Int32) (st : mm_S) (hf : M_worthOf_b22 fu x1 x2 x3 x4 s0 st = some (r, st')) {H : Heap} {locs : List Loc} {ls : Array Slot} (hl : lv_has ls 7 [(0, .ref o), (1, .int x1), (2, .int x2), (3, .int x3), (4, .int x4)]) (hM : mm_H D o ad cs s.heap st H locs) : W p l e (mm_R 3 78) s m args below meth c H locs 0 0 (MQ below (mm_Qi D o ad cs r st') args s 0 0 (mm_A o ad)) (F0 m 22 ls [.int s0]) := by
  unfold M_worthOf_b22 at hf
  refine lv_istore (lv' := [(5, .int s0), (0, .ref o), (1, .int x1), (2, .int x2), (3, .int x3), (4, .int x4)]) C.1 C.2.1 (dd_at td_worthOf 14 rfl) hl (by decide) rfl (fun ls hl => ?_)
  refine lv_iload C.1 C.2.1 (dd_at td_worthOf 15 rfl) (lv_at hl 5 rfl) ?_
  refine lv_istore (lv' := [(6, .int x4), (5, .int s0), (0, .ref o), (1, .int x1), (2, .int x2), (3, .int x3), (4, .int x4)]) C.1 C.2.1 (dd_at td_worthOf 16 rfl) hl (by decide) rfl (fun ls hl => ?_)
  refine lv_aload_n C.1 C.2.1 (dd_at td_worthOf 17 rfl) rfl (lv_at hl 2 rfl) ?_
  refine mm_gA C hM 4 (dd_at td_worthOf 18 rfl) (by decide) (by decide) (by decide) ?_
  refine lv_iload_n C.1 C.2.1 (dd_at td_worthOf 19 rfl) rfl (lv_at hl 3 rfl) ?_
  obtain ⟨g5, hf⟩ := fc_of_gd hf
  refine mm_iald C hM 4 (dd_at td_worthOf 20 rfl) (by decide) (by decide) (fc_of_ix g5) ?_
  refine lv_topi (fun v6 ev6 => ?_)
  replace hf := fc_of_nm hf v6 ev6
  by_cases c7 : v6 = (1 : Int32)
  · replace hf := fc_of_t hf c7
    refine lv_tableIn (off := 38) (tgt := 72) C.1 C.2.1 (dd_at td_worthOf 21 rfl) (by rw [c7]; decide) (by rw [c7]; decide) (by rw [c7]; decide) (by decide) ?_
    refine lv_iload C.1 C.2.1 (dd_at td_worthOf 22 rfl) (lv_at hl 6 rfl) ?_
    refine lv_iload_n C.1 C.2.1 (dd_at td_worthOf 23 rfl) rfl (lv_at hl 4 rfl) ?_
    refine lv_bipush (v := (8 : Int32)) C.1 C.2.1 (dd_at td_worthOf 24 rfl) (by decide) ?_
    refine lv_irem C.1 C.2.1 (dd_at td_worthOf 25 rfl) (by decide) ?_
    refine lv_iadd C.1 C.2.1 (dd_at td_worthOf 26 rfl) ?_
    refine lv_topi (fun v8 ev8 => ?_)
    replace hf := fc_of_nm hf v8 ev8
    refine lv_istore (lv' := [(6, .int v8), (5, .int s0), (0, .ref o), (1, .int x1), (2, .int x2), (3, .int x3), (4, .int x4)]) C.1 C.2.1 (dd_at td_worthOf 27 rfl) hl (by decide) rfl (fun ls hl => ?_)
    refine lv_goto (tgt := 159) C.1 C.2.1 (dd_at td_worthOf 28 rfl) (by decide) ?_
    exact w_worthOf_b159 C fu v8 st hf (lv_sub hl [2, 0] rfl) hM
  · replace hf := fc_of_f hf c7
    by_cases c9 : v6 = (2 : Int32)
    · replace hf := fc_of_t hf c9
      refine lv_tableIn (off := 50) (tgt := 84) C.1 C.2.1 (dd_at td_worthOf 21 rfl) (by rw [c9]; decide) (by rw [c9]; decide) (by rw [c9]; decide) (by decide) ?_
      refine lv_iload C.1 C.2.1 (dd_at td_worthOf 29 rfl) (lv_at hl 1 rfl) ?_
      refine lv_istore (lv' := [(6, .int s0), (5, .int s0), (0, .ref o), (1, .int x1), (2, .int x2), (3, .int x3), (4, .int x4)]) C.1 C.2.1 (dd_at td_worthOf 30 rfl) hl (by decide) rfl (fun ls hl => ?_)
      refine lv_goto (tgt := 159) C.1 C.2.1 (dd_at td_worthOf 31 rfl) (by decide) ?_
      exact w_worthOf_b159 C fu s0 st hf (lv_sub hl [2, 0] rfl) hM
    · replace hf := fc_of_f hf c9
      by_cases c10 : v6 = (3 : Int32)
      · replace hf := fc_of_t hf c10
        refine lv_tableIn (off := 57) (tgt := 91) C.1 C.2.1 (dd_at td_worthOf 21 rfl) (by rw [c10]; decide) (by rw [c10]; decide) (by rw [c10]; decide) (by decide) ?_
        refine lv_iload C.1 C.2.1 (dd_at td_worthOf 32 rfl) (lv_at hl 6 rfl) ?_
        refine lv_iconst (v := (2 : Int32)) C.1 C.2.1 (dd_at td_worthOf 33 rfl) (by decide) ?_
        refine lv_idiv C.1 C.2.1 (dd_at td_worthOf 34 rfl) (by decide) ?_
        refine lv_topi (fun v11 ev11 => ?_)
        replace hf := fc_of_nm hf v11 ev11
        refine lv_istore (lv' := [(6, .int v11), (5, .int s0), (0, .ref o), (1, .int x1), (2, .int x2), (3, .int x3), (4, .int x4)]) C.1 C.2.1 (dd_at td_worthOf 35 rfl) hl (by decide) rfl (fun ls hl => ?_)
        refine lv_goto (tgt := 159) C.1 C.2.1 (dd_at td_worthOf 36 rfl) (by decide) ?_
        exact w_worthOf_b159 C fu v11 st hf (lv_sub hl [2, 0] rfl) hM
      · replace hf := fc_of_f hf c10
        by_cases c12 : v6 = (4 : Int32)
        · replace hf := fc_of_t hf c12
          refine lv_tableIn (off := 66) (tgt := 100) C.1 C.2.1 (dd_at td_worthOf 21 rfl) (by rw [c12]; decide) (by rw [c12]; decide) (by rw [c12]; decide) (by decide) ?_
          refine lv_iload C.1 C.2.1 (dd_at td_worthOf 37 rfl) (lv_at hl 6 rfl) ?_
          refine lv_iload_n C.1 C.2.1 (dd_at td_worthOf 38 rfl) rfl (lv_at hl 4 rfl) ?_
          refine lv_bipush (v := (8 : Int32)) C.1 C.2.1 (dd_at td_worthOf 39 rfl) (by decide) ?_
          refine lv_irem C.1 C.2.1 (dd_at td_worthOf 40 rfl) (by decide) ?_
          refine lv_iadd C.1 C.2.1 (dd_at td_worthOf 41 rfl) ?_
          refine lv_iload_n C.1 C.2.1 (dd_at td_worthOf 42 rfl) rfl (lv_at hl 5 rfl) ?_
          refine lv_iconst (v := (1 : Int32)) C.1 C.2.1 (dd_at td_worthOf 43 rfl) (by decide) ?_
          refine lv_icmp_ne (tgt := 116) C.1 C.2.1 (dd_at td_worthOf 44 rfl) (by decide) (fun c13 => ?_) (fun c13 => ?_)
          · replace hf := fc_of_f hf c13
            refine lv_iconst (v := (1 : Int32)) C.1 C.2.1 (dd_at td_worthOf 47 rfl) (by decide) ?_
            exact w_worthOf_b117 C fu (1 : Int32) (x4 + (x2 - x2 / (8 : Int32) * (8 : Int32))) st hf (lv_sub hl [2] rfl) hM
          · replace hf := fc_of_t hf c13
            refine lv_iconst (v := (2 : Int32)) C.1 C.2.1 (dd_at td_worthOf 45 rfl) (by decide) ?_
            refine lv_goto (tgt := 117) C.1 C.2.1 (dd_at td_worthOf 46 rfl) (by decide) ?_
            exact w_worthOf_b117 C fu (2 : Int32) (x4 + (x2 - x2 / (8 : Int32) * (8 : Int32))) st hf (lv_sub hl [2] rfl) hM
        · replace hf := fc_of_f hf c12
          by_cases c14 : v6 = (5 : Int32)
          · replace hf := fc_of_t hf c14
            refine lv_tableIn (off := 89) (tgt := 123) C.1 C.2.1 (dd_at td_worthOf 21 rfl) (by rw [c14]; decide) (by rw [c14]; decide) (by rw [c14]; decide) (by decide) ?_
            refine lv_iload C.1 C.2.1 (dd_at td_worthOf 51 rfl) (lv_at hl 1 rfl) ?_
            refine lv_aload_n C.1 C.2.1 (dd_at td_worthOf 52 rfl) rfl (lv_at hl 2 rfl) ?_
            refine mm_gA C hM 5 (dd_at td_worthOf 53 rfl) (by decide) (by decide) (by decide) ?_
            refine lv_iload_n C.1 C.2.1 (dd_at td_worthOf 54 rfl) rfl (lv_at hl 3 rfl) ?_
            obtain ⟨g15, hf⟩ := fc_of_gd hf
            refine mm_iald C hM 5 (dd_at td_worthOf 55 rfl) (by decide) (by decide) (fc_of_ix g15) ?_
            refine lv_iadd C.1 C.2.1 (dd_at td_worthOf 56 rfl) ?_
            refine lv_topi (fun v16 ev16 => ?_)
            replace hf := fc_of_nm hf v16 ev16
            refine lv_istore (lv' := [(6, .int v16), (5, .int s0), (0, .ref o), (1, .int x1), (2, .int x2), (3, .int x3), (4, .int x4)]) C.1 C.2.1 (dd_at td_worthOf 57 rfl) hl (by decide) rfl (fun ls hl => ?_)
            refine lv_goto (tgt := 159) C.1 C.2.1 (dd_at td_worthOf 58 rfl) (by decide) ?_
            exact w_worthOf_b159 C fu v16 st hf (lv_sub hl [2, 0] rfl) hM
          · replace hf := fc_of_f hf c14
            by_cases c17 : v6 = (6 : Int32)
            · replace hf := fc_of_t hf c17
              refine lv_tableIn (off := 103) (tgt := 137) C.1 C.2.1 (dd_at td_worthOf 21 rfl) (by rw [c17]; decide) (by rw [c17]; decide) (by rw [c17]; decide) (by decide) ?_
              refine lv_iload C.1 C.2.1 (dd_at td_worthOf 59 rfl) (lv_at hl 6 rfl) ?_
              refine lv_iconst (v := (2 : Int32)) C.1 C.2.1 (dd_at td_worthOf 60 rfl) (by decide) ?_
              refine lv_idiv C.1 C.2.1 (dd_at td_worthOf 61 rfl) (by decide) ?_
              refine lv_aload_n C.1 C.2.1 (dd_at td_worthOf 62 rfl) rfl (lv_at hl 2 rfl) ?_
              refine mm_gA C hM 7 (dd_at td_worthOf 63 rfl) (by decide) (by decide) (by decide) ?_
              refine lv_iconst (v := (4 : Int32)) C.1 C.2.1 (dd_at td_worthOf 64 rfl) (by decide) ?_
              refine lv_iload_n C.1 C.2.1 (dd_at td_worthOf 65 rfl) rfl (lv_at hl 3 rfl) ?_
              refine lv_imul C.1 C.2.1 (dd_at td_worthOf 66 rfl) ?_
              refine lv_iload_n C.1 C.2.1 (dd_at td_worthOf 67 rfl) rfl (lv_at hl 4 rfl) ?_
              refine lv_iconst (v := (4 : Int32)) C.1 C.2.1 (dd_at td_worthOf 68 rfl) (by decide) ?_
              refine lv_irem C.1 C.2.1 (dd_at td_worthOf 69 rfl) (by decide) ?_
              refine lv_iadd C.1 C.2.1 (dd_at td_worthOf 70 rfl) ?_
              obtain ⟨g18, hf⟩ := fc_of_gd hf
              refine mm_iald C hM 7 (dd_at td_worthOf 71 rfl) (by decide) (by decide) (fc_of_ix g18) ?_
              refine lv_iadd C.1 C.2.1 (dd_at td_worthOf 72 rfl) ?_
              refine lv_topi (fun v19 ev19 => ?_)
              replace hf := fc_of_nm hf v19 ev19
              refine lv_istore (lv' := [(6, .int v19), (5, .int s0), (0, .ref o), (1, .int x1), (2, .int x2), (3, .int x3), (4, .int x4)]) C.1 C.2.1 (dd_at td_worthOf 73 rfl) hl (by decide) rfl (fun ls hl => ?_)
              refine lv_goto (tgt := 159) C.1 C.2.1 (dd_at td_worthOf 74 rfl) (by decide) ?_
              exact w_worthOf_b159 C fu v19 st hf (lv_sub hl [2, 0] rfl) hM
            · replace hf := fc_of_f hf c17
              refine lv_tableOut (tgt := 159) C.1 C.2.1 (dd_at td_worthOf 21 rfl) (by have q0 := lv_neT c7 (a := 1) (by decide); have q1 := lv_neT c9 (a := 2) (by decide); have q2 := lv_neT c10 (a := 3) (by decide); have q3 := lv_neT c12 (a := 4) (by decide); have q4 := lv_neT c14 (a := 5) (by decide); have q5 := lv_neT c17 (a := 6) (by decide); omega) (by decide) ?_
              exact w_worthOf_b159 C fu x4 st hf (lv_sub hl [2, 0] rfl) hM
theorem w_worthOf {p : Program} {l : Launch} {e : Env} {s : State} {m : MethodId} {args : Array Value} {below : List Frame} {meth : Method} {c : Code} {D : va_G} {o : Nat} {ad : Nat → Nat} {cs : ClassId × ClassId × ClassId} {r : Int32} {st' : mm_S} (C : mm_C p s m args meth c cX12_worthOf 7 (some .int) D cs) (fu : Nat) (x1 : Int32) (x2 : Int32) (x3 : Int32) (st : mm_S) (hf : M_worthOf fu x1 x2 x3 st = some (r, st')) {H : Heap} {locs : List Loc} {ls : Array Slot} (hl : lv_has ls 7 [(0, .ref o), (1, .int x1), (2, .int x2), (3, .int x3)]) (hM : mm_H D o ad cs s.heap st H locs) : W p l e (mm_R 3 78) s m args below meth c H locs 0 0 (MQ below (mm_Qi D o ad cs r st') args s 0 0 (mm_A o ad)) (F0 m 0 ls []) := by
  unfold M_worthOf at hf
  refine lv_aload_n C.1 C.2.1 (dd_at td_worthOf 0 rfl) rfl (lv_at hl 0 rfl) ?_
  refine lv_iload_n C.1 C.2.1 (dd_at td_worthOf 1 rfl) rfl (lv_at hl 1 rfl) ?_
  refine lv_iload_n C.1 C.2.1 (dd_at td_worthOf 2 rfl) rfl (lv_at hl 2 rfl) ?_
  refine lv_iload_n C.1 C.2.1 (dd_at td_worthOf 3 rfl) rfl (lv_at hl 3 rfl) ?_
  obtain ⟨r3, st1, hx2, hf⟩ := fc_of_bn hf
  refine mm_ci (As := [.int x1, .int x2, .int x3]) (rest := []) (n := 3) C hM (c_base l D o ad cs fu x1 x2 x3 st) (List.mem_of_getElem? (i := 0) rfl) (dd_at td_worthOf 4 rfl) hx2 hl.1 hd_base ⟨Nat.le_of_ble_eq_true rfl, Nat.le_of_ble_eq_true rfl⟩ rfl rfl (Nat.le_of_ble_eq_true rfl) ⟨Nat.le_refl 0, Nat.le_refl 0⟩ (fun H locs hM => ?_)
  refine lv_istore (lv' := [(4, .int r3), (0, .ref o), (1, .int x1), (2, .int x2), (3, .int x3)]) C.1 C.2.1 (dd_at td_worthOf 5 rfl) hl (by decide) rfl (fun ls hl => ?_)
  refine lv_iload_n C.1 C.2.1 (dd_at td_worthOf 6 rfl) rfl (lv_at hl 3 rfl) ?_
  refine lv_iconst (v := (2 : Int32)) C.1 C.2.1 (dd_at td_worthOf 7 rfl) (by decide) ?_
  refine lv_irem C.1 C.2.1 (dd_at td_worthOf 8 rfl) (by decide) ?_
  refine lv_iconst (v := (1 : Int32)) C.1 C.2.1 (dd_at td_worthOf 9 rfl) (by decide) ?_
  refine lv_icmp_ne (tgt := 20) C.1 C.2.1 (dd_at td_worthOf 10 rfl) (by decide) (fun c4 => ?_) (fun c4 => ?_)
  · replace hf := fc_of_f hf c4
    refine lv_iload C.1 C.2.1 (dd_at td_worthOf 13 rfl) (lv_at hl 0 rfl) ?_
    exact w_worthOf_b22 C fu x1 x2 x3 r3 r3 st1 hf (lv_sub hl [1, 2, 3, 4, 0] rfl) hM
  · replace hf := fc_of_t hf c4
    refine lv_iconst (v := (0 : Int32)) C.1 C.2.1 (dd_at td_worthOf 11 rfl) (by decide) ?_
    refine lv_goto (tgt := 22) C.1 C.2.1 (dd_at td_worthOf 12 rfl) (by decide) ?_
    exact w_worthOf_b22 C fu x1 x2 x3 r3 (0 : Int32) st1 hf (lv_sub hl [1, 2, 3, 4, 0] rfl) hM
theorem c_worthOf (l : Launch) (D : va_G) (o : Nat) (ad : Nat → Nat) (cs : ClassId × ClassId × ClassId) (fu : Nat) (x1 : Int32) (x2 : Int32) (x3 : Int32) (st : mm_S) : mm_Mi l D o ad cs yX12_worthOf cX12_worthOf 7 (some .int) 3 78 [.int x1, .int x2, .int x3] st (M_worthOf fu x1 x2 x3 st) := by
  intro r st' hf
  refine mm_enter (cc := cX12_worthOf) (nL := 7) (ret := some .int) (by decide) rfl (Nat.le_of_ble_eq_true rfl) ?_
  intro p e s m args below meth c ls C hl hM
  exact w_worthOf C fu x1 x2 x3 st hf hl hM

/-! of -/
def tb_of : List (Nat × Instr × Nat) := [(0, .aload_n 0, 1), (1, .iload_n 1, 1), (2, .invokevirtual 215, 3), (5, .ifCond .ne 5, 3), (8, .iconst (-1), 1), (9, .ireturn, 1), (10, .iload_n 2, 1), (11, .tableswitch 64 0 3 #[29, 36, 43, 50], 29), (40, .aload_n 0, 1), (41, .getfield 22, 3), (44, .iload_n 1, 1), (45, .iaload, 1), (46, .ireturn, 1), (47, .aload_n 0, 1), (48, .getfield 26, 3), (51, .iload_n 1, 1), (52, .iaload, 1), (53, .ireturn, 1), (54, .aload_n 0, 1), (55, .getfield 29, 3), (58, .iload_n 1, 1), (59, .iaload, 1), (60, .ireturn, 1), (61, .aload_n 0, 1), (62, .iload_n 1, 1), (63, .aload_n 0, 1), (64, .getfield 19, 3), (67, .aload_n 0, 1), (68, .getfield 13, 3), (71, .invokevirtual 282, 3), (74, .ireturn, 1), (75, .iconst (-1), 1), (76, .ireturn, 1)]
theorem td_of : tb_of.all (fun q => decide (decode cX12_of q.1 = .ok (q.2.1, q.2.2))) = true := by decide +kernel
theorem w_of {p : Program} {l : Launch} {e : Env} {s : State} {m : MethodId} {args : Array Value} {below : List Frame} {meth : Method} {c : Code} {D : va_G} {o : Nat} {ad : Nat → Nat} {cs : ClassId × ClassId × ClassId} {r : Int32} {st' : mm_S} (C : mm_C p s m args meth c cX12_of 3 (some .int) D cs) (fu : Nat) (x1 : Int32) (x2 : Int32) (st : mm_S) (hf : M_of fu x1 x2 st = some (r, st')) {H : Heap} {locs : List Loc} {ls : Array Slot} (hl : lv_has ls 3 [(0, .ref o), (1, .int x1), (2, .int x2)]) (hM : mm_H D o ad cs s.heap st H locs) : W p l e (mm_R 4 104) s m args below meth c H locs 0 0 (MQ below (mm_Qi D o ad cs r st') args s 0 0 (mm_A o ad)) (F0 m 0 ls []) := by
  unfold M_of at hf
  refine lv_aload_n C.1 C.2.1 (dd_at td_of 0 rfl) rfl (lv_at hl 0 rfl) ?_
  refine lv_iload_n C.1 C.2.1 (dd_at td_of 1 rfl) rfl (lv_at hl 1 rfl) ?_
  obtain ⟨r3, st1, hx2, hf⟩ := fc_of_bn hf
  refine mm_ci (As := [.int x1]) (rest := []) (n := 1) C hM (c_isNeed l D o ad cs fu x1 st) (List.mem_of_getElem? (i := 22) rfl) (dd_at td_of 2 rfl) hx2 hl.1 hd_isNeed ⟨Nat.le_of_ble_eq_true rfl, Nat.le_of_ble_eq_true rfl⟩ rfl rfl (Nat.le_of_ble_eq_true rfl) ⟨Nat.le_refl 0, Nat.le_refl 0⟩ (fun H locs hM => ?_)
  refine lv_if_ne (tgt := 10) C.1 C.2.1 (dd_at td_of 3 rfl) (by decide) (fun c4 => ?_) (fun c4 => ?_)
  · replace hf := fc_of_f hf c4
    refine lv_iload_n C.1 C.2.1 (dd_at td_of 6 rfl) rfl (lv_at hl 2 rfl) ?_
    by_cases c5 : x2 = (0 : Int32)
    · replace hf := fc_of_t hf c5
      refine lv_tableIn (off := 29) (tgt := 40) C.1 C.2.1 (dd_at td_of 7 rfl) (by rw [c5]; decide) (by rw [c5]; decide) (by rw [c5]; decide) (by decide) ?_
      refine lv_aload_n C.1 C.2.1 (dd_at td_of 8 rfl) rfl (lv_at hl 0 rfl) ?_
      refine mm_gA C hM 4 (dd_at td_of 9 rfl) (by decide) (by decide) (by decide) ?_
      refine lv_iload_n C.1 C.2.1 (dd_at td_of 10 rfl) rfl (lv_at hl 1 rfl) ?_
      obtain ⟨g6, hf⟩ := fc_of_gd hf
      refine mm_iald C hM 4 (dd_at td_of 11 rfl) (by decide) (by decide) (fc_of_ix g6) ?_
      exact mm_ri C hM (dd_at td_of 12 rfl) hf
    · replace hf := fc_of_f hf c5
      by_cases c7 : x2 = (1 : Int32)
      · replace hf := fc_of_t hf c7
        refine lv_tableIn (off := 36) (tgt := 47) C.1 C.2.1 (dd_at td_of 7 rfl) (by rw [c7]; decide) (by rw [c7]; decide) (by rw [c7]; decide) (by decide) ?_
        refine lv_aload_n C.1 C.2.1 (dd_at td_of 13 rfl) rfl (lv_at hl 0 rfl) ?_
        refine mm_gA C hM 5 (dd_at td_of 14 rfl) (by decide) (by decide) (by decide) ?_
        refine lv_iload_n C.1 C.2.1 (dd_at td_of 15 rfl) rfl (lv_at hl 1 rfl) ?_
        obtain ⟨g8, hf⟩ := fc_of_gd hf
        refine mm_iald C hM 5 (dd_at td_of 16 rfl) (by decide) (by decide) (fc_of_ix g8) ?_
        exact mm_ri C hM (dd_at td_of 17 rfl) hf
      · replace hf := fc_of_f hf c7
        by_cases c9 : x2 = (2 : Int32)
        · replace hf := fc_of_t hf c9
          refine lv_tableIn (off := 43) (tgt := 54) C.1 C.2.1 (dd_at td_of 7 rfl) (by rw [c9]; decide) (by rw [c9]; decide) (by rw [c9]; decide) (by decide) ?_
          refine lv_aload_n C.1 C.2.1 (dd_at td_of 18 rfl) rfl (lv_at hl 0 rfl) ?_
          refine mm_gA C hM 6 (dd_at td_of 19 rfl) (by decide) (by decide) (by decide) ?_
          refine lv_iload_n C.1 C.2.1 (dd_at td_of 20 rfl) rfl (lv_at hl 1 rfl) ?_
          obtain ⟨g10, hf⟩ := fc_of_gd hf
          refine mm_iald C hM 6 (dd_at td_of 21 rfl) (by decide) (by decide) (fc_of_ix g10) ?_
          exact mm_ri C hM (dd_at td_of 22 rfl) hf
        · replace hf := fc_of_f hf c9
          by_cases c11 : x2 = (3 : Int32)
          · replace hf := fc_of_t hf c11
            refine lv_tableIn (off := 50) (tgt := 61) C.1 C.2.1 (dd_at td_of 7 rfl) (by rw [c11]; decide) (by rw [c11]; decide) (by rw [c11]; decide) (by decide) ?_
            refine lv_aload_n C.1 C.2.1 (dd_at td_of 23 rfl) rfl (lv_at hl 0 rfl) ?_
            refine lv_iload_n C.1 C.2.1 (dd_at td_of 24 rfl) rfl (lv_at hl 1 rfl) ?_
            refine lv_aload_n C.1 C.2.1 (dd_at td_of 25 rfl) rfl (lv_at hl 0 rfl) ?_
            refine mm_gI C hM 3 (dd_at td_of 26 rfl) (by decide) (by decide) (by decide) ?_
            refine lv_aload_n C.1 C.2.1 (dd_at td_of 27 rfl) rfl (lv_at hl 0 rfl) ?_
            refine mm_gI C hM 1 (dd_at td_of 28 rfl) (by decide) (by decide) (by decide) ?_
            obtain ⟨r14, st12, hx13, hf⟩ := fc_of_bn hf
            refine mm_ci (As := [.int x1, .int (mm_I st1 3), .int (mm_I st1 1)]) (rest := []) (n := 3) C hM (c_worthOf l D o ad cs fu x1 (mm_I st1 3) (mm_I st1 1) st1) (List.mem_of_getElem? (i := 48) rfl) (dd_at td_of 29 rfl) hx13 hl.1 hd_worthOf ⟨Nat.le_of_ble_eq_true rfl, Nat.le_of_ble_eq_true rfl⟩ rfl rfl (Nat.le_of_ble_eq_true rfl) ⟨Nat.le_refl 0, Nat.le_refl 0⟩ (fun H locs hM => ?_)
            exact mm_ri C hM (dd_at td_of 30 rfl) hf
          · replace hf := fc_of_f hf c11
            refine lv_tableOut (tgt := 75) C.1 C.2.1 (dd_at td_of 7 rfl) (by have q0 := lv_neT c5 (a := 0) (by decide); have q1 := lv_neT c7 (a := 1) (by decide); have q2 := lv_neT c9 (a := 2) (by decide); have q3 := lv_neT c11 (a := 3) (by decide); omega) (by decide) ?_
            refine lv_iconst (v := (-1 : Int32)) C.1 C.2.1 (dd_at td_of 31 rfl) (by decide) ?_
            exact mm_ri C hM (dd_at td_of 32 rfl) hf
  · replace hf := fc_of_t hf c4
    refine lv_iconst (v := (-1 : Int32)) C.1 C.2.1 (dd_at td_of 4 rfl) (by decide) ?_
    exact mm_ri C hM (dd_at td_of 5 rfl) hf
theorem c_of (l : Launch) (D : va_G) (o : Nat) (ad : Nat → Nat) (cs : ClassId × ClassId × ClassId) (fu : Nat) (x1 : Int32) (x2 : Int32) (st : mm_S) : mm_Mi l D o ad cs yX12_of cX12_of 3 (some .int) 4 104 [.int x1, .int x2] st (M_of fu x1 x2 st) := by
  intro r st' hf
  refine mm_enter (cc := cX12_of) (nL := 3) (ret := some .int) (by decide) rfl (Nat.le_of_ble_eq_true rfl) ?_
  intro p e s m args below meth c ls C hl hM
  exact w_of C fu x1 x2 st hf hl hM

/-! worth -/
def tb_worth : List (Nat × Instr × Nat) := [(0, .aload_n 0, 1), (1, .iload_n 1, 1), (2, .invokevirtual 215, 3), (5, .ifCond .ne 5, 3), (8, .iconst (-1), 1), (9, .ireturn, 1), (10, .aload_n 0, 1), (11, .iload_n 2, 1), (12, .iconst 0, 1), (13, .bipush 60, 2), (15, .invokevirtual 207, 3), (18, .ifCond .eq 26, 3), (21, .aload_n 0, 1), (22, .iload_n 3, 1), (23, .invokevirtual 211, 3), (26, .ifCond .eq 18, 3), (29, .aload_n 0, 1), (30, .iload_n 1, 1), (31, .aload_n 0, 1), (32, .getfield 19, 3), (35, .iload_n 2, 1), (36, .iadd, 1), (37, .iload_n 3, 1), (38, .invokevirtual 282, 3), (41, .goto 5, 3), (44, .bipush (-2), 2), (46, .ireturn, 1)]
theorem td_worth : tb_worth.all (fun q => decide (decode cX12_worth q.1 = .ok (q.2.1, q.2.2))) = true := by decide +kernel
theorem w_worth {p : Program} {l : Launch} {e : Env} {s : State} {m : MethodId} {args : Array Value} {below : List Frame} {meth : Method} {c : Code} {D : va_G} {o : Nat} {ad : Nat → Nat} {cs : ClassId × ClassId × ClassId} {r : Int32} {st' : mm_S} (C : mm_C p s m args meth c cX12_worth 4 (some .int) D cs) (fu : Nat) (x1 : Int32) (x2 : Int32) (x3 : Int32) (st : mm_S) (hf : M_worth fu x1 x2 x3 st = some (r, st')) {H : Heap} {locs : List Loc} {ls : Array Slot} (hl : lv_has ls 4 [(0, .ref o), (1, .int x1), (2, .int x2), (3, .int x3)]) (hM : mm_H D o ad cs s.heap st H locs) : W p l e (mm_R 4 104) s m args below meth c H locs 0 0 (MQ below (mm_Qi D o ad cs r st') args s 0 0 (mm_A o ad)) (F0 m 0 ls []) := by
  unfold M_worth at hf
  refine lv_aload_n C.1 C.2.1 (dd_at td_worth 0 rfl) rfl (lv_at hl 0 rfl) ?_
  refine lv_iload_n C.1 C.2.1 (dd_at td_worth 1 rfl) rfl (lv_at hl 1 rfl) ?_
  obtain ⟨r3, st1, hx2, hf⟩ := fc_of_bn hf
  refine mm_ci (As := [.int x1]) (rest := []) (n := 1) C hM (c_isNeed l D o ad cs fu x1 st) (List.mem_of_getElem? (i := 22) rfl) (dd_at td_worth 2 rfl) hx2 hl.1 hd_isNeed ⟨Nat.le_of_ble_eq_true rfl, Nat.le_of_ble_eq_true rfl⟩ rfl rfl (Nat.le_of_ble_eq_true rfl) ⟨Nat.le_refl 0, Nat.le_refl 0⟩ (fun H locs hM => ?_)
  refine lv_if_ne (tgt := 10) C.1 C.2.1 (dd_at td_worth 3 rfl) (by decide) (fun c4 => ?_) (fun c4 => ?_)
  · replace hf := fc_of_f hf c4
    refine lv_aload_n C.1 C.2.1 (dd_at td_worth 6 rfl) rfl (lv_at hl 0 rfl) ?_
    refine lv_iload_n C.1 C.2.1 (dd_at td_worth 7 rfl) rfl (lv_at hl 2 rfl) ?_
    refine lv_iconst (v := (0 : Int32)) C.1 C.2.1 (dd_at td_worth 8 rfl) (by decide) ?_
    refine lv_bipush (v := (60 : Int32)) C.1 C.2.1 (dd_at td_worth 9 rfl) (by decide) ?_
    obtain ⟨r7, st5, hx6, hf⟩ := fc_of_bn hf
    refine mm_ci (As := [.int x2, .int (0 : Int32), .int (60 : Int32)]) (rest := []) (n := 3) C hM (c_in l D o ad cs fu x2 (0 : Int32) (60 : Int32) st1) (List.mem_of_getElem? (i := 18) rfl) (dd_at td_worth 10 rfl) hx6 hl.1 hd_in ⟨Nat.le_of_ble_eq_true rfl, Nat.le_of_ble_eq_true rfl⟩ rfl rfl (Nat.le_of_ble_eq_true rfl) ⟨Nat.le_refl 0, Nat.le_refl 0⟩ (fun H locs hM => ?_)
    refine lv_if_eq (tgt := 44) C.1 C.2.1 (dd_at td_worth 11 rfl) (by decide) (fun c8 => ?_) (fun c8 => ?_)
    · replace hf := fc_of_t hf c8
      refine lv_bipush (v := (-2 : Int32)) C.1 C.2.1 (dd_at td_worth 25 rfl) (by decide) ?_
      exact mm_ri C hM (dd_at td_worth 26 rfl) hf
    · replace hf := fc_of_f hf c8
      refine lv_aload_n C.1 C.2.1 (dd_at td_worth 12 rfl) rfl (lv_at hl 0 rfl) ?_
      refine lv_iload_n C.1 C.2.1 (dd_at td_worth 13 rfl) rfl (lv_at hl 3 rfl) ?_
      obtain ⟨r11, st9, hx10, hf⟩ := fc_of_bn hf
      refine mm_ci (As := [.int x3]) (rest := []) (n := 1) C hM (c_isDarks l D o ad cs fu x3 st5) (List.mem_of_getElem? (i := 20) rfl) (dd_at td_worth 14 rfl) hx10 hl.1 hd_isDarks ⟨Nat.le_of_ble_eq_true rfl, Nat.le_of_ble_eq_true rfl⟩ rfl rfl (Nat.le_of_ble_eq_true rfl) ⟨Nat.le_refl 0, Nat.le_refl 0⟩ (fun H locs hM => ?_)
      refine lv_if_eq (tgt := 44) C.1 C.2.1 (dd_at td_worth 15 rfl) (by decide) (fun c12 => ?_) (fun c12 => ?_)
      · replace hf := fc_of_t hf c12
        refine lv_bipush (v := (-2 : Int32)) C.1 C.2.1 (dd_at td_worth 25 rfl) (by decide) ?_
        exact mm_ri C hM (dd_at td_worth 26 rfl) hf
      · replace hf := fc_of_f hf c12
        refine lv_aload_n C.1 C.2.1 (dd_at td_worth 16 rfl) rfl (lv_at hl 0 rfl) ?_
        refine lv_iload_n C.1 C.2.1 (dd_at td_worth 17 rfl) rfl (lv_at hl 1 rfl) ?_
        refine lv_aload_n C.1 C.2.1 (dd_at td_worth 18 rfl) rfl (lv_at hl 0 rfl) ?_
        refine mm_gI C hM 3 (dd_at td_worth 19 rfl) (by decide) (by decide) (by decide) ?_
        refine lv_iload_n C.1 C.2.1 (dd_at td_worth 20 rfl) rfl (lv_at hl 2 rfl) ?_
        refine lv_iadd C.1 C.2.1 (dd_at td_worth 21 rfl) ?_
        refine lv_iload_n C.1 C.2.1 (dd_at td_worth 22 rfl) rfl (lv_at hl 3 rfl) ?_
        obtain ⟨r15, st13, hx14, hf⟩ := fc_of_bn hf
        refine mm_ci (As := [.int x1, .int ((mm_I st9 3) + x2), .int x3]) (rest := []) (n := 3) C hM (c_worthOf l D o ad cs fu x1 ((mm_I st9 3) + x2) x3 st9) (List.mem_of_getElem? (i := 48) rfl) (dd_at td_worth 23 rfl) hx14 hl.1 hd_worthOf ⟨Nat.le_of_ble_eq_true rfl, Nat.le_of_ble_eq_true rfl⟩ rfl rfl (Nat.le_of_ble_eq_true rfl) ⟨Nat.le_refl 0, Nat.le_refl 0⟩ (fun H locs hM => ?_)
        refine lv_goto (tgt := 46) C.1 C.2.1 (dd_at td_worth 24 rfl) (by decide) ?_
        exact mm_ri C hM (dd_at td_worth 26 rfl) hf
  · replace hf := fc_of_t hf c4
    refine lv_iconst (v := (-1 : Int32)) C.1 C.2.1 (dd_at td_worth 4 rfl) (by decide) ?_
    exact mm_ri C hM (dd_at td_worth 5 rfl) hf
theorem c_worth (l : Launch) (D : va_G) (o : Nat) (ad : Nat → Nat) (cs : ClassId × ClassId × ClassId) (fu : Nat) (x1 : Int32) (x2 : Int32) (x3 : Int32) (st : mm_S) : mm_Mi l D o ad cs yX12_worth cX12_worth 4 (some .int) 4 104 [.int x1, .int x2, .int x3] st (M_worth fu x1 x2 x3 st) := by
  intro r st' hf
  refine mm_enter (cc := cX12_worth) (nL := 4) (ret := some .int) (by decide) rfl (Nat.le_of_ble_eq_true rfl) ?_
  intro p e s m args below meth c ls C hl hM
  exact w_worth C fu x1 x2 x3 st hf hl hM

/-! held -/
def tb_held : List (Nat × Instr × Nat) := [(0, .iload_n 1, 1), (1, .ldc_w 285, 3), (4, .if_icmp .le 9, 3), (7, .ldc_w 285, 3), (10, .goto 17, 3), (13, .iload_n 1, 1), (14, .ldc_w 286, 3), (17, .if_icmp .ge 9, 3), (20, .ldc_w 286, 3), (23, .goto 4, 3), (26, .iload_n 1, 1), (27, .ireturn, 1)]
theorem td_held : tb_held.all (fun q => decide (decode cX12_held q.1 = .ok (q.2.1, q.2.2))) = true := by decide +kernel
theorem hd_held : yX12_held.cls = RX12 ∧ yX12_held.cls ≠ "java/lang/invoke/MethodHandle" ∧ yX12_held.cls ≠ "java/lang/invoke/VarHandle" ∧ (parseMethodDescriptor yX12_held.desc).map (fun d => d.parameters.length) = some 1 := by decide +kernel
theorem w_held {p : Program} {l : Launch} {e : Env} {s : State} {m : MethodId} {args : Array Value} {below : List Frame} {meth : Method} {c : Code} {D : va_G} {o : Nat} {ad : Nat → Nat} {cs : ClassId × ClassId × ClassId} {r : Int32} {st' : mm_S} (C : mm_C p s m args meth c cX12_held 2 (some .int) D cs) (fu : Nat) (x1 : Int32) (st : mm_S) (hf : M_held fu x1 st = some (r, st')) {H : Heap} {locs : List Loc} {ls : Array Slot} (hl : lv_has ls 2 [(0, .ref o), (1, .int x1)]) (hM : mm_H D o ad cs s.heap st H locs) : W p l e (mm_R 0 0) s m args below meth c H locs 0 0 (MQ below (mm_Qi D o ad cs r st') args s 0 0 (mm_A o ad)) (F0 m 0 ls []) := by
  unfold M_held at hf
  refine lv_iload_n C.1 C.2.1 (dd_at td_held 0 rfl) rfl (lv_at hl 1 rfl) ?_
  refine lv_ldcw (v := (999999 : Int32)) C.1 C.2.1 C.2.2.2.2.1 (C.2.2.2.2.2.1 (.constant RX12 285 (999999 : Int32)) (mm_Wk (by decide +kernel))) (dd_at td_held 1 rfl) ?_
  refine lv_icmp_le (tgt := 13) C.1 C.2.1 (dd_at td_held 2 rfl) (by decide) (fun c1 => ?_) (fun c1 => ?_)
  · replace hf := fc_of_t hf c1
    refine lv_iload_n C.1 C.2.1 (dd_at td_held 5 rfl) rfl (lv_at hl 1 rfl) ?_
    refine lv_ldcw (v := (-999999 : Int32)) C.1 C.2.1 C.2.2.2.2.1 (C.2.2.2.2.2.1 (.constant RX12 286 (-999999 : Int32)) (mm_Wk (by decide +kernel))) (dd_at td_held 6 rfl) ?_
    refine lv_icmp_ge (tgt := 26) C.1 C.2.1 (dd_at td_held 7 rfl) (by decide) (fun c2 => ?_) (fun c2 => ?_)
    · replace hf := fc_of_t hf c2
      refine lv_iload_n C.1 C.2.1 (dd_at td_held 10 rfl) rfl (lv_at hl 1 rfl) ?_
      exact mm_ri C hM (dd_at td_held 11 rfl) hf
    · replace hf := fc_of_f hf c2
      refine lv_ldcw (v := (-999999 : Int32)) C.1 C.2.1 C.2.2.2.2.1 (C.2.2.2.2.2.1 (.constant RX12 286 (-999999 : Int32)) (mm_Wk (by decide +kernel))) (dd_at td_held 8 rfl) ?_
      refine lv_goto (tgt := 27) C.1 C.2.1 (dd_at td_held 9 rfl) (by decide) ?_
      exact mm_ri C hM (dd_at td_held 11 rfl) hf
  · replace hf := fc_of_f hf c1
    refine lv_ldcw (v := (999999 : Int32)) C.1 C.2.1 C.2.2.2.2.1 (C.2.2.2.2.2.1 (.constant RX12 285 (999999 : Int32)) (mm_Wk (by decide +kernel))) (dd_at td_held 3 rfl) ?_
    refine lv_goto (tgt := 27) C.1 C.2.1 (dd_at td_held 4 rfl) (by decide) ?_
    exact mm_ri C hM (dd_at td_held 11 rfl) hf
theorem c_held (l : Launch) (D : va_G) (o : Nat) (ad : Nat → Nat) (cs : ClassId × ClassId × ClassId) (fu : Nat) (x1 : Int32) (st : mm_S) : mm_Mi l D o ad cs yX12_held cX12_held 2 (some .int) 0 0 [.int x1] st (M_held fu x1 st) := by
  intro r st' hf
  refine mm_enter (cc := cX12_held) (nL := 2) (ret := some .int) (by decide) rfl (Nat.le_of_ble_eq_true rfl) ?_
  intro p e s m args below meth c ls C hl hM
  exact w_held C fu x1 st hf hl hM

/-! serve -/
def tb_serve : List (Nat × Instr × Nat) := [(0, .aload_n 0, 1), (1, .iload_n 1, 1), (2, .invokevirtual 215, 3), (5, .ifCond .ne 7, 3), (8, .ldc_w 287, 3), (11, .ireturn, 1), (12, .aload_n 0, 1), (13, .getfield 13, 3), (16, .ifCond .eq 25, 3), (19, .aload_n 0, 1), (20, .getfield 19, 3), (23, .sipush 9999, 3), (26, .if_icmp .eq 15, 3), (29, .aload_n 0, 1), (30, .getfield 29, 3), (33, .iload_n 1, 1), (34, .iaload, 1), (35, .sipush 9999, 3), (38, .if_icmp .ne 7, 3), (41, .ldc_w 288, 3), (44, .ireturn, 1), (45, .aload_n 0, 1), (46, .iload_n 1, 1), (47, .aload_n 0, 1), (48, .getfield 19, 3), (51, .aload_n 0, 1), (52, .getfield 13, 3), (55, .invokevirtual 282, 3), (58, .istore_n 2, 1), (59, .aload_n 0, 1), (60, .dup, 1), (61, .getfield 13, 3), (64, .iconst 1, 1), (65, .isub, 1), (66, .putfield 13, 3), (69, .aload_n 0, 1), (70, .getfield 29, 3), (73, .iload_n 1, 1), (74, .dup2, 1), (75, .iaload, 1), (76, .iconst 1, 1), (77, .iadd, 1), (78, .iastore, 1), (79, .aload_n 0, 1), (80, .aload_n 0, 1), (81, .aload_n 0, 1), (82, .getfield 16, 3), (85, .iload_n 2, 1), (86, .iadd, 1), (87, .aload_n 0, 1), (88, .invokevirtual 289, 3), (91, .aload_n 0, 1), (92, .getfield 13, 3), (95, .imul, 1), (96, .isub, 1), (97, .invokevirtual 292, 3), (100, .putfield 16, 3), (103, .aload_n 0, 1), (104, .dup, 1), (105, .getfield 19, 3), (108, .iconst 1, 1), (109, .iadd, 1), (110, .putfield 19, 3), (113, .aload_n 0, 1), (114, .getfield 16, 3), (117, .ireturn, 1)]
theorem td_serve : tb_serve.all (fun q => decide (decode cX12_serve q.1 = .ok (q.2.1, q.2.2))) = true := by decide +kernel
theorem w_serve {p : Program} {l : Launch} {e : Env} {s : State} {m : MethodId} {args : Array Value} {below : List Frame} {meth : Method} {c : Code} {D : va_G} {o : Nat} {ad : Nat → Nat} {cs : ClassId × ClassId × ClassId} {r : Int32} {st' : mm_S} (C : mm_C p s m args meth c cX12_serve 3 (some .int) D cs) (fu : Nat) (x1 : Int32) (st : mm_S) (hf : M_serve fu x1 st = some (r, st')) {H : Heap} {locs : List Loc} {ls : Array Slot} (hl : lv_has ls 3 [(0, .ref o), (1, .int x1)]) (hM : mm_H D o ad cs s.heap st H locs) : W p l e (mm_R 4 104) s m args below meth c H locs 0 0 (MQ below (mm_Qi D o ad cs r st') args s 0 0 (mm_A o ad)) (F0 m 0 ls []) := by
  unfold M_serve at hf
  refine lv_aload_n C.1 C.2.1 (dd_at td_serve 0 rfl) rfl (lv_at hl 0 rfl) ?_
  refine lv_iload_n C.1 C.2.1 (dd_at td_serve 1 rfl) rfl (lv_at hl 1 rfl) ?_
  obtain ⟨r3, st1, hx2, hf⟩ := fc_of_bn hf
  refine mm_ci (As := [.int x1]) (rest := []) (n := 1) C hM (c_isNeed l D o ad cs fu x1 st) (List.mem_of_getElem? (i := 22) rfl) (dd_at td_serve 2 rfl) hx2 hl.1 hd_isNeed ⟨Nat.le_of_ble_eq_true rfl, Nat.le_of_ble_eq_true rfl⟩ rfl rfl (Nat.le_of_ble_eq_true rfl) ⟨Nat.le_refl 0, Nat.le_refl 0⟩ (fun H locs hM => ?_)
  refine lv_if_ne (tgt := 12) C.1 C.2.1 (dd_at td_serve 3 rfl) (by decide) (fun c4 => ?_) (fun c4 => ?_)
  · replace hf := fc_of_f hf c4
    refine lv_aload_n C.1 C.2.1 (dd_at td_serve 6 rfl) rfl (lv_at hl 0 rfl) ?_
    refine mm_gI C hM 1 (dd_at td_serve 7 rfl) (by decide) (by decide) (by decide) ?_
    refine lv_if_eq (tgt := 41) C.1 C.2.1 (dd_at td_serve 8 rfl) (by decide) (fun c5 => ?_) (fun c5 => ?_)
    · replace hf := fc_of_t hf c5
      refine lv_ldcw (v := (-10000002 : Int32)) C.1 C.2.1 C.2.2.2.2.1 (C.2.2.2.2.2.1 (.constant RX12 288 (-10000002 : Int32)) (mm_Wk (by decide +kernel))) (dd_at td_serve 19 rfl) ?_
      exact mm_ri C hM (dd_at td_serve 20 rfl) hf
    · replace hf := fc_of_f hf c5
      refine lv_aload_n C.1 C.2.1 (dd_at td_serve 9 rfl) rfl (lv_at hl 0 rfl) ?_
      refine mm_gI C hM 3 (dd_at td_serve 10 rfl) (by decide) (by decide) (by decide) ?_
      refine lv_sipush (v := (9999 : Int32)) C.1 C.2.1 (dd_at td_serve 11 rfl) (by decide) ?_
      refine lv_icmp_eq (tgt := 41) C.1 C.2.1 (dd_at td_serve 12 rfl) (by decide) (fun c6 => ?_) (fun c6 => ?_)
      · replace hf := fc_of_t hf c6
        refine lv_ldcw (v := (-10000002 : Int32)) C.1 C.2.1 C.2.2.2.2.1 (C.2.2.2.2.2.1 (.constant RX12 288 (-10000002 : Int32)) (mm_Wk (by decide +kernel))) (dd_at td_serve 19 rfl) ?_
        exact mm_ri C hM (dd_at td_serve 20 rfl) hf
      · replace hf := fc_of_f hf c6
        refine lv_aload_n C.1 C.2.1 (dd_at td_serve 13 rfl) rfl (lv_at hl 0 rfl) ?_
        refine mm_gA C hM 6 (dd_at td_serve 14 rfl) (by decide) (by decide) (by decide) ?_
        refine lv_iload_n C.1 C.2.1 (dd_at td_serve 15 rfl) rfl (lv_at hl 1 rfl) ?_
        obtain ⟨g7, hf⟩ := fc_of_gd hf
        refine mm_iald C hM 6 (dd_at td_serve 16 rfl) (by decide) (by decide) (fc_of_ix g7) ?_
        refine lv_sipush (v := (9999 : Int32)) C.1 C.2.1 (dd_at td_serve 17 rfl) (by decide) ?_
        refine lv_icmp_ne (tgt := 45) C.1 C.2.1 (dd_at td_serve 18 rfl) (by decide) (fun c8 => ?_) (fun c8 => ?_)
        · replace hf := fc_of_f hf c8
          refine lv_aload_n C.1 C.2.1 (dd_at td_serve 21 rfl) rfl (lv_at hl 0 rfl) ?_
          refine lv_iload_n C.1 C.2.1 (dd_at td_serve 22 rfl) rfl (lv_at hl 1 rfl) ?_
          refine lv_aload_n C.1 C.2.1 (dd_at td_serve 23 rfl) rfl (lv_at hl 0 rfl) ?_
          refine mm_gI C hM 3 (dd_at td_serve 24 rfl) (by decide) (by decide) (by decide) ?_
          refine lv_aload_n C.1 C.2.1 (dd_at td_serve 25 rfl) rfl (lv_at hl 0 rfl) ?_
          refine mm_gI C hM 1 (dd_at td_serve 26 rfl) (by decide) (by decide) (by decide) ?_
          obtain ⟨r11, st9, hx10, hf⟩ := fc_of_bn hf
          refine mm_ci (As := [.int x1, .int (mm_I st1 3), .int (mm_I st1 1)]) (rest := []) (n := 3) C hM (c_worthOf l D o ad cs fu x1 (mm_I st1 3) (mm_I st1 1) st1) (List.mem_of_getElem? (i := 48) rfl) (dd_at td_serve 27 rfl) hx10 hl.1 hd_worthOf ⟨Nat.le_of_ble_eq_true rfl, Nat.le_of_ble_eq_true rfl⟩ rfl rfl (Nat.le_of_ble_eq_true rfl) ⟨Nat.le_refl 0, Nat.le_refl 0⟩ (fun H locs hM => ?_)
          refine lv_istore_n (lv' := [(2, .int r11), (0, .ref o), (1, .int x1)]) C.1 C.2.1 (dd_at td_serve 28 rfl) rfl hl (by decide) rfl (fun ls hl => ?_)
          refine lv_aload_n C.1 C.2.1 (dd_at td_serve 29 rfl) rfl (lv_at hl 1 rfl) ?_
          refine lv_dup C.1 C.2.1 (dd_at td_serve 30 rfl) rfl ?_
          refine mm_gI C hM 1 (dd_at td_serve 31 rfl) (by decide) (by decide) (by decide) ?_
          refine lv_iconst (v := (1 : Int32)) C.1 C.2.1 (dd_at td_serve 32 rfl) (by decide) ?_
          refine lv_isub C.1 C.2.1 (dd_at td_serve 33 rfl) ?_
          refine mm_pI C hM 1 (dd_at td_serve 34 rfl) (by decide) (by decide) (by decide) rfl rfl (fun st12 H locs est12 hM => ?_)
          replace hf := fc_of_nm hf st12 est12
          refine lv_aload_n C.1 C.2.1 (dd_at td_serve 35 rfl) rfl (lv_at hl 1 rfl) ?_
          refine mm_gA C hM 6 (dd_at td_serve 36 rfl) (by decide) (by decide) (by decide) ?_
          refine lv_iload_n C.1 C.2.1 (dd_at td_serve 37 rfl) rfl (lv_at hl 2 rfl) ?_
          refine lv_dup2_11 C.1 C.2.1 (dd_at td_serve 38 rfl) rfl rfl ?_
          obtain ⟨g13, hf⟩ := fc_of_gd hf
          refine mm_iald C hM 6 (dd_at td_serve 39 rfl) (by decide) (by decide) (fc_of_ix g13) ?_
          refine lv_iconst (v := (1 : Int32)) C.1 C.2.1 (dd_at td_serve 40 rfl) (by decide) ?_
          refine lv_iadd C.1 C.2.1 (dd_at td_serve 41 rfl) ?_
          obtain ⟨g14, hf⟩ := fc_of_gd hf
          refine mm_iast C hM 6 (dd_at td_serve 42 rfl) (by decide) (by decide) (fc_of_ix g14) (fun st15 H locs est15 hM => ?_)
          replace hf := fc_of_nm hf st15 est15
          refine lv_aload_n C.1 C.2.1 (dd_at td_serve 43 rfl) rfl (lv_at hl 1 rfl) ?_
          refine lv_aload_n C.1 C.2.1 (dd_at td_serve 44 rfl) rfl (lv_at hl 1 rfl) ?_
          refine lv_aload_n C.1 C.2.1 (dd_at td_serve 45 rfl) rfl (lv_at hl 1 rfl) ?_
          refine mm_gI C hM 2 (dd_at td_serve 46 rfl) (by decide) (by decide) (by decide) ?_
          refine lv_iload_n C.1 C.2.1 (dd_at td_serve 47 rfl) rfl (lv_at hl 0 rfl) ?_
          refine lv_iadd C.1 C.2.1 (dd_at td_serve 48 rfl) ?_
          refine lv_aload_n C.1 C.2.1 (dd_at td_serve 49 rfl) rfl (lv_at hl 1 rfl) ?_
          obtain ⟨r18, st16, hx17, hf⟩ := fc_of_bn hf
          refine mm_ci (As := []) (rest := [.int ((mm_I st15 2) + r11), .ref o, .ref o]) (n := 0) C hM (c_keep l D o ad cs fu st15) (List.mem_of_getElem? (i := 26) rfl) (dd_at td_serve 50 rfl) hx17 hl.1 hd_keep ⟨Nat.le_of_ble_eq_true rfl, Nat.le_of_ble_eq_true rfl⟩ rfl rfl (Nat.le_of_ble_eq_true rfl) ⟨Nat.le_refl 0, Nat.le_refl 0⟩ (fun H locs hM => ?_)
          refine lv_aload_n C.1 C.2.1 (dd_at td_serve 51 rfl) rfl (lv_at hl 1 rfl) ?_
          refine mm_gI C hM 1 (dd_at td_serve 52 rfl) (by decide) (by decide) (by decide) ?_
          refine lv_imul C.1 C.2.1 (dd_at td_serve 53 rfl) ?_
          refine lv_isub C.1 C.2.1 (dd_at td_serve 54 rfl) ?_
          obtain ⟨r21, st19, hx20, hf⟩ := fc_of_bn hf
          refine mm_ci (As := [.int (((mm_I st15 2) + r11) - (r18 * (mm_I st16 1)))]) (rest := [.ref o]) (n := 1) C hM (c_held l D o ad cs fu (((mm_I st15 2) + r11) - (r18 * (mm_I st16 1))) st16) (List.mem_of_getElem? (i := 14) rfl) (dd_at td_serve 55 rfl) hx20 hl.1 hd_held ⟨Nat.le_of_ble_eq_true rfl, Nat.le_of_ble_eq_true rfl⟩ rfl rfl (Nat.le_of_ble_eq_true rfl) ⟨Nat.le_refl 0, Nat.le_refl 0⟩ (fun H locs hM => ?_)
          refine mm_pI C hM 2 (dd_at td_serve 56 rfl) (by decide) (by decide) (by decide) rfl rfl (fun st22 H locs est22 hM => ?_)
          replace hf := fc_of_nm hf st22 est22
          refine lv_aload_n C.1 C.2.1 (dd_at td_serve 57 rfl) rfl (lv_at hl 1 rfl) ?_
          refine lv_dup C.1 C.2.1 (dd_at td_serve 58 rfl) rfl ?_
          refine mm_gI C hM 3 (dd_at td_serve 59 rfl) (by decide) (by decide) (by decide) ?_
          refine lv_iconst (v := (1 : Int32)) C.1 C.2.1 (dd_at td_serve 60 rfl) (by decide) ?_
          refine lv_iadd C.1 C.2.1 (dd_at td_serve 61 rfl) ?_
          refine mm_pI C hM 3 (dd_at td_serve 62 rfl) (by decide) (by decide) (by decide) rfl rfl (fun st23 H locs est23 hM => ?_)
          replace hf := fc_of_nm hf st23 est23
          refine lv_aload_n C.1 C.2.1 (dd_at td_serve 63 rfl) rfl (lv_at hl 1 rfl) ?_
          refine mm_gI C hM 2 (dd_at td_serve 64 rfl) (by decide) (by decide) (by decide) ?_
          exact mm_ri C hM (dd_at td_serve 65 rfl) hf
        · replace hf := fc_of_t hf c8
          refine lv_ldcw (v := (-10000002 : Int32)) C.1 C.2.1 C.2.2.2.2.1 (C.2.2.2.2.2.1 (.constant RX12 288 (-10000002 : Int32)) (mm_Wk (by decide +kernel))) (dd_at td_serve 19 rfl) ?_
          exact mm_ri C hM (dd_at td_serve 20 rfl) hf
  · replace hf := fc_of_t hf c4
    refine lv_ldcw (v := (-10000001 : Int32)) C.1 C.2.1 C.2.2.2.2.1 (C.2.2.2.2.2.1 (.constant RX12 287 (-10000001 : Int32)) (mm_Wk (by decide +kernel))) (dd_at td_serve 4 rfl) ?_
    exact mm_ri C hM (dd_at td_serve 5 rfl) hf
theorem c_serve (l : Launch) (D : va_G) (o : Nat) (ad : Nat → Nat) (cs : ClassId × ClassId × ClassId) (fu : Nat) (x1 : Int32) (st : mm_S) : mm_Mi l D o ad cs yX12_serve cX12_serve 3 (some .int) 4 104 [.int x1] st (M_serve fu x1 st) := by
  intro r st' hf
  refine mm_enter (cc := cX12_serve) (nL := 3) (ret := some .int) (by decide) rfl (Nat.le_of_ble_eq_true rfl) ?_
  intro p e s m args below meth c ls C hl hM
  exact w_serve C fu x1 st hf hl hM

/-! spare -/
def tb_spare : List (Nat × Instr × Nat) := [(0, .aload_n 0, 1), (1, .iload_n 1, 1), (2, .invokevirtual 215, 3), (5, .ifCond .ne 7, 3), (8, .ldc_w 287, 3), (11, .ireturn, 1), (12, .aload_n 0, 1), (13, .getfield 19, 3), (16, .sipush 9999, 3), (19, .if_icmp .ne 7, 3), (22, .ldc_w 288, 3), (25, .ireturn, 1), (26, .aload_n 0, 1), (27, .aload_n 0, 1), (28, .aload_n 0, 1), (29, .getfield 16, 3), (32, .aload_n 0, 1), (33, .invokevirtual 289, 3), (36, .aload_n 0, 1), (37, .getfield 13, 3), (40, .imul, 1), (41, .isub, 1), (42, .invokevirtual 292, 3), (45, .putfield 16, 3), (48, .aload_n 0, 1), (49, .dup, 1), (50, .getfield 19, 3), (53, .iconst 1, 1), (54, .iadd, 1), (55, .putfield 19, 3), (58, .aload_n 0, 1), (59, .getfield 16, 3), (62, .ireturn, 1)]
theorem td_spare : tb_spare.all (fun q => decide (decode cX12_spare q.1 = .ok (q.2.1, q.2.2))) = true := by decide +kernel
theorem w_spare {p : Program} {l : Launch} {e : Env} {s : State} {m : MethodId} {args : Array Value} {below : List Frame} {meth : Method} {c : Code} {D : va_G} {o : Nat} {ad : Nat → Nat} {cs : ClassId × ClassId × ClassId} {r : Int32} {st' : mm_S} (C : mm_C p s m args meth c cX12_spare 2 (some .int) D cs) (fu : Nat) (x1 : Int32) (st : mm_S) (hf : M_spare fu x1 st = some (r, st')) {H : Heap} {locs : List Loc} {ls : Array Slot} (hl : lv_has ls 2 [(0, .ref o), (1, .int x1)]) (hM : mm_H D o ad cs s.heap st H locs) : W p l e (mm_R 2 44) s m args below meth c H locs 0 0 (MQ below (mm_Qi D o ad cs r st') args s 0 0 (mm_A o ad)) (F0 m 0 ls []) := by
  unfold M_spare at hf
  refine lv_aload_n C.1 C.2.1 (dd_at td_spare 0 rfl) rfl (lv_at hl 0 rfl) ?_
  refine lv_iload_n C.1 C.2.1 (dd_at td_spare 1 rfl) rfl (lv_at hl 1 rfl) ?_
  obtain ⟨r3, st1, hx2, hf⟩ := fc_of_bn hf
  refine mm_ci (As := [.int x1]) (rest := []) (n := 1) C hM (c_isNeed l D o ad cs fu x1 st) (List.mem_of_getElem? (i := 22) rfl) (dd_at td_spare 2 rfl) hx2 hl.1 hd_isNeed ⟨Nat.le_of_ble_eq_true rfl, Nat.le_of_ble_eq_true rfl⟩ rfl rfl (Nat.le_of_ble_eq_true rfl) ⟨Nat.le_refl 0, Nat.le_refl 0⟩ (fun H locs hM => ?_)
  refine lv_if_ne (tgt := 12) C.1 C.2.1 (dd_at td_spare 3 rfl) (by decide) (fun c4 => ?_) (fun c4 => ?_)
  · replace hf := fc_of_f hf c4
    refine lv_aload_n C.1 C.2.1 (dd_at td_spare 6 rfl) rfl (lv_at hl 0 rfl) ?_
    refine mm_gI C hM 3 (dd_at td_spare 7 rfl) (by decide) (by decide) (by decide) ?_
    refine lv_sipush (v := (9999 : Int32)) C.1 C.2.1 (dd_at td_spare 8 rfl) (by decide) ?_
    refine lv_icmp_ne (tgt := 26) C.1 C.2.1 (dd_at td_spare 9 rfl) (by decide) (fun c5 => ?_) (fun c5 => ?_)
    · replace hf := fc_of_f hf c5
      refine lv_aload_n C.1 C.2.1 (dd_at td_spare 12 rfl) rfl (lv_at hl 0 rfl) ?_
      refine lv_aload_n C.1 C.2.1 (dd_at td_spare 13 rfl) rfl (lv_at hl 0 rfl) ?_
      refine lv_aload_n C.1 C.2.1 (dd_at td_spare 14 rfl) rfl (lv_at hl 0 rfl) ?_
      refine mm_gI C hM 2 (dd_at td_spare 15 rfl) (by decide) (by decide) (by decide) ?_
      refine lv_aload_n C.1 C.2.1 (dd_at td_spare 16 rfl) rfl (lv_at hl 0 rfl) ?_
      obtain ⟨r8, st6, hx7, hf⟩ := fc_of_bn hf
      refine mm_ci (As := []) (rest := [.int (mm_I st1 2), .ref o, .ref o]) (n := 0) C hM (c_keep l D o ad cs fu st1) (List.mem_of_getElem? (i := 26) rfl) (dd_at td_spare 17 rfl) hx7 hl.1 hd_keep ⟨Nat.le_of_ble_eq_true rfl, Nat.le_of_ble_eq_true rfl⟩ rfl rfl (Nat.le_of_ble_eq_true rfl) ⟨Nat.le_refl 0, Nat.le_refl 0⟩ (fun H locs hM => ?_)
      refine lv_aload_n C.1 C.2.1 (dd_at td_spare 18 rfl) rfl (lv_at hl 0 rfl) ?_
      refine mm_gI C hM 1 (dd_at td_spare 19 rfl) (by decide) (by decide) (by decide) ?_
      refine lv_imul C.1 C.2.1 (dd_at td_spare 20 rfl) ?_
      refine lv_isub C.1 C.2.1 (dd_at td_spare 21 rfl) ?_
      obtain ⟨r11, st9, hx10, hf⟩ := fc_of_bn hf
      refine mm_ci (As := [.int ((mm_I st1 2) - (r8 * (mm_I st6 1)))]) (rest := [.ref o]) (n := 1) C hM (c_held l D o ad cs fu ((mm_I st1 2) - (r8 * (mm_I st6 1))) st6) (List.mem_of_getElem? (i := 14) rfl) (dd_at td_spare 22 rfl) hx10 hl.1 hd_held ⟨Nat.le_of_ble_eq_true rfl, Nat.le_of_ble_eq_true rfl⟩ rfl rfl (Nat.le_of_ble_eq_true rfl) ⟨Nat.le_refl 0, Nat.le_refl 0⟩ (fun H locs hM => ?_)
      refine mm_pI C hM 2 (dd_at td_spare 23 rfl) (by decide) (by decide) (by decide) rfl rfl (fun st12 H locs est12 hM => ?_)
      replace hf := fc_of_nm hf st12 est12
      refine lv_aload_n C.1 C.2.1 (dd_at td_spare 24 rfl) rfl (lv_at hl 0 rfl) ?_
      refine lv_dup C.1 C.2.1 (dd_at td_spare 25 rfl) rfl ?_
      refine mm_gI C hM 3 (dd_at td_spare 26 rfl) (by decide) (by decide) (by decide) ?_
      refine lv_iconst (v := (1 : Int32)) C.1 C.2.1 (dd_at td_spare 27 rfl) (by decide) ?_
      refine lv_iadd C.1 C.2.1 (dd_at td_spare 28 rfl) ?_
      refine mm_pI C hM 3 (dd_at td_spare 29 rfl) (by decide) (by decide) (by decide) rfl rfl (fun st13 H locs est13 hM => ?_)
      replace hf := fc_of_nm hf st13 est13
      refine lv_aload_n C.1 C.2.1 (dd_at td_spare 30 rfl) rfl (lv_at hl 0 rfl) ?_
      refine mm_gI C hM 2 (dd_at td_spare 31 rfl) (by decide) (by decide) (by decide) ?_
      exact mm_ri C hM (dd_at td_spare 32 rfl) hf
    · replace hf := fc_of_t hf c5
      refine lv_ldcw (v := (-10000002 : Int32)) C.1 C.2.1 C.2.2.2.2.1 (C.2.2.2.2.2.1 (.constant RX12 288 (-10000002 : Int32)) (mm_Wk (by decide +kernel))) (dd_at td_spare 10 rfl) ?_
      exact mm_ri C hM (dd_at td_spare 11 rfl) hf
  · replace hf := fc_of_t hf c4
    refine lv_ldcw (v := (-10000001 : Int32)) C.1 C.2.1 C.2.2.2.2.1 (C.2.2.2.2.2.1 (.constant RX12 287 (-10000001 : Int32)) (mm_Wk (by decide +kernel))) (dd_at td_spare 4 rfl) ?_
    exact mm_ri C hM (dd_at td_spare 5 rfl) hf
theorem c_spare (l : Launch) (D : va_G) (o : Nat) (ad : Nat → Nat) (cs : ClassId × ClassId × ClassId) (fu : Nat) (x1 : Int32) (st : mm_S) : mm_Mi l D o ad cs yX12_spare cX12_spare 2 (some .int) 2 44 [.int x1] st (M_spare fu x1 st) := by
  intro r st' hf
  refine mm_enter (cc := cX12_spare) (nL := 2) (ret := some .int) (by decide) rfl (Nat.le_of_ble_eq_true rfl) ?_
  intro p e s m args below meth c ls C hl hM
  exact w_spare C fu x1 st hf hl hM

/-! told -/
def tb_told : List (Nat × Instr × Nat) := [(0, .iload_n 1, 1), (1, .tableswitch 51 0 3 #[31, 36, 41, 46], 31), (32, .aload_n 0, 1), (33, .getfield 19, 3), (36, .ireturn, 1), (37, .aload_n 0, 1), (38, .getfield 13, 3), (41, .ireturn, 1), (42, .aload_n 0, 1), (43, .getfield 16, 3), (46, .ireturn, 1), (47, .aload_n 0, 1), (48, .invokevirtual 289, 3), (51, .ireturn, 1), (52, .ldc_w 287, 3), (55, .ireturn, 1)]
theorem td_told : tb_told.all (fun q => decide (decode cX12_told q.1 = .ok (q.2.1, q.2.2))) = true := by decide +kernel
theorem w_told {p : Program} {l : Launch} {e : Env} {s : State} {m : MethodId} {args : Array Value} {below : List Frame} {meth : Method} {c : Code} {D : va_G} {o : Nat} {ad : Nat → Nat} {cs : ClassId × ClassId × ClassId} {r : Int32} {st' : mm_S} (C : mm_C p s m args meth c cX12_told 2 (some .int) D cs) (fu : Nat) (x1 : Int32) (st : mm_S) (hf : M_told fu x1 st = some (r, st')) {H : Heap} {locs : List Loc} {ls : Array Slot} (hl : lv_has ls 2 [(0, .ref o), (1, .int x1)]) (hM : mm_H D o ad cs s.heap st H locs) : W p l e (mm_R 2 42) s m args below meth c H locs 0 0 (MQ below (mm_Qi D o ad cs r st') args s 0 0 (mm_A o ad)) (F0 m 0 ls []) := by
  unfold M_told at hf
  refine lv_iload_n C.1 C.2.1 (dd_at td_told 0 rfl) rfl (lv_at hl 1 rfl) ?_
  by_cases c1 : x1 = (0 : Int32)
  · replace hf := fc_of_t hf c1
    refine lv_tableIn (off := 31) (tgt := 32) C.1 C.2.1 (dd_at td_told 1 rfl) (by rw [c1]; decide) (by rw [c1]; decide) (by rw [c1]; decide) (by decide) ?_
    refine lv_aload_n C.1 C.2.1 (dd_at td_told 2 rfl) rfl (lv_at hl 0 rfl) ?_
    refine mm_gI C hM 3 (dd_at td_told 3 rfl) (by decide) (by decide) (by decide) ?_
    exact mm_ri C hM (dd_at td_told 4 rfl) hf
  · replace hf := fc_of_f hf c1
    by_cases c2 : x1 = (1 : Int32)
    · replace hf := fc_of_t hf c2
      refine lv_tableIn (off := 36) (tgt := 37) C.1 C.2.1 (dd_at td_told 1 rfl) (by rw [c2]; decide) (by rw [c2]; decide) (by rw [c2]; decide) (by decide) ?_
      refine lv_aload_n C.1 C.2.1 (dd_at td_told 5 rfl) rfl (lv_at hl 0 rfl) ?_
      refine mm_gI C hM 1 (dd_at td_told 6 rfl) (by decide) (by decide) (by decide) ?_
      exact mm_ri C hM (dd_at td_told 7 rfl) hf
    · replace hf := fc_of_f hf c2
      by_cases c3 : x1 = (2 : Int32)
      · replace hf := fc_of_t hf c3
        refine lv_tableIn (off := 41) (tgt := 42) C.1 C.2.1 (dd_at td_told 1 rfl) (by rw [c3]; decide) (by rw [c3]; decide) (by rw [c3]; decide) (by decide) ?_
        refine lv_aload_n C.1 C.2.1 (dd_at td_told 8 rfl) rfl (lv_at hl 0 rfl) ?_
        refine mm_gI C hM 2 (dd_at td_told 9 rfl) (by decide) (by decide) (by decide) ?_
        exact mm_ri C hM (dd_at td_told 10 rfl) hf
      · replace hf := fc_of_f hf c3
        by_cases c4 : x1 = (3 : Int32)
        · replace hf := fc_of_t hf c4
          refine lv_tableIn (off := 46) (tgt := 47) C.1 C.2.1 (dd_at td_told 1 rfl) (by rw [c4]; decide) (by rw [c4]; decide) (by rw [c4]; decide) (by decide) ?_
          refine lv_aload_n C.1 C.2.1 (dd_at td_told 11 rfl) rfl (lv_at hl 0 rfl) ?_
          obtain ⟨r7, st5, hx6, hf⟩ := fc_of_bn hf
          refine mm_ci (As := []) (rest := []) (n := 0) C hM (c_keep l D o ad cs fu st) (List.mem_of_getElem? (i := 26) rfl) (dd_at td_told 12 rfl) hx6 hl.1 hd_keep ⟨Nat.le_of_ble_eq_true rfl, Nat.le_of_ble_eq_true rfl⟩ rfl rfl (Nat.le_of_ble_eq_true rfl) ⟨Nat.le_refl 0, Nat.le_refl 0⟩ (fun H locs hM => ?_)
          exact mm_ri C hM (dd_at td_told 13 rfl) hf
        · replace hf := fc_of_f hf c4
          refine lv_tableOut (tgt := 52) C.1 C.2.1 (dd_at td_told 1 rfl) (by have q0 := lv_neT c1 (a := 0) (by decide); have q1 := lv_neT c2 (a := 1) (by decide); have q2 := lv_neT c3 (a := 2) (by decide); have q3 := lv_neT c4 (a := 3) (by decide); omega) (by decide) ?_
          refine lv_ldcw (v := (-10000001 : Int32)) C.1 C.2.1 C.2.2.2.2.1 (C.2.2.2.2.2.1 (.constant RX12 287 (-10000001 : Int32)) (mm_Wk (by decide +kernel))) (dd_at td_told 14 rfl) ?_
          exact mm_ri C hM (dd_at td_told 15 rfl) hf
theorem c_told (l : Launch) (D : va_G) (o : Nat) (ad : Nat → Nat) (cs : ClassId × ClassId × ClassId) (fu : Nat) (x1 : Int32) (st : mm_S) : mm_Mi l D o ad cs yX12_told cX12_told 2 (some .int) 2 42 [.int x1] st (M_told fu x1 st) := by
  intro r st' hf
  refine mm_enter (cc := cX12_told) (nL := 2) (ret := some .int) (by decide) rfl (Nat.le_of_ble_eq_true rfl) ?_
  intro p e s m args below meth c ls C hl hM
  exact w_told C fu x1 st hf hl hM

/-! ways -/
def tb_ways : List (Nat × Instr × Nat) := [(0, .lconst 1, 1), (1, .lstore_n 2, 1), (2, .iconst 0, 1), (3, .istore 4, 2), (5, .iload 4, 2), (7, .iload_n 1, 1), (8, .if_icmp .ge 17, 3), (11, .lload_n 2, 1), (12, .aload_n 0, 1), (13, .getfield 7, 3), (16, .i2l, 1), (17, .lmul, 1), (18, .lstore_n 2, 1), (19, .iinc 4 1, 3), (22, .goto (-17), 3), (25, .lload_n 2, 1), (26, .lreturn, 1)]
theorem td_ways : tb_ways.all (fun q => decide (decode cX12_ways q.1 = .ok (q.2.1, q.2.2))) = true := by decide +kernel
theorem hd_ways : yX12_ways.cls = RX12 ∧ yX12_ways.cls ≠ "java/lang/invoke/MethodHandle" ∧ yX12_ways.cls ≠ "java/lang/invoke/VarHandle" ∧ (parseMethodDescriptor yX12_ways.desc).map (fun d => d.parameters.length) = some 1 := by decide +kernel
theorem w_ways_b5F {p : Program} {l : Launch} {e : Env} {s : State} {m : MethodId} {args : Array Value} {below : List Frame} {meth : Method} {c : Code} {D : va_G} {o : Nat} {ad : Nat → Nat} {cs : ClassId × ClassId × ClassId} {r : Int64} {st' : mm_S} (C : mm_C p s m args meth c cX12_ways 5 (some .long) D cs) (fu : Nat) (K5 : Int32 → Int64 → Int32 → mm_S → Option (Int64 × mm_S)) (hK5 : ∀ (x1 : Int32) (x2 : Int64) (x4 : Int32) (st : mm_S) (H : Heap) (locs : List Loc) (ls : Array Slot), K5 x1 x2 x4 st = some (r, st') → lv_has ls 5 [(0, .ref o), (1, .int x1), (2, .long x2), (4, .int x4)] → mm_H D o ad cs s.heap st H locs → W p l e (mm_R 0 0) s m args below meth c H locs 0 0 (MQ below (mm_Ql D o ad cs r st') args s 0 0 (mm_A o ad)) (F0 m 5 ls [])) (x1 : Int32) (x2 : Int64) (x4 : Int32) (st : mm_S) (hf : M_ways_b5F fu K5 x1 x2 x4 st = some (r, st')) {H : Heap} {locs : List Loc} {ls : Array Slot} (hl : lv_has ls 5 [(0, .ref o), (1, .int x1), (2, .long x2), (4, .int x4)]) (hM : mm_H D o ad cs s.heap st H locs) : W p l e (mm_R 0 0) s m args below meth c H locs 0 0 (MQ below (mm_Ql D o ad cs r st') args s 0 0 (mm_A o ad)) (F0 m 5 ls []) := by
  unfold M_ways_b5F at hf
  refine lv_iload C.1 C.2.1 (dd_at td_ways 4 rfl) (lv_at hl 3 rfl) ?_
  refine lv_iload_n C.1 C.2.1 (dd_at td_ways 5 rfl) rfl (lv_at hl 1 rfl) ?_
  refine lv_icmp_ge (tgt := 25) C.1 C.2.1 (dd_at td_ways 6 rfl) (by decide) (fun c1 => ?_) (fun c1 => ?_)
  · replace hf := fc_of_t hf c1
    refine lv_lload_n C.1 C.2.1 (dd_at td_ways 15 rfl) rfl (lv_at hl 2 rfl) ?_
    exact mm_rl C hM (dd_at td_ways 16 rfl) hf
  · replace hf := fc_of_f hf c1
    refine lv_lload_n C.1 C.2.1 (dd_at td_ways 7 rfl) rfl (lv_at hl 2 rfl) ?_
    refine lv_aload_n C.1 C.2.1 (dd_at td_ways 8 rfl) rfl (lv_at hl 0 rfl) ?_
    refine mm_gI C hM 0 (dd_at td_ways 9 rfl) (by decide) (by decide) (by decide) ?_
    refine lv_i2l C.1 C.2.1 (dd_at td_ways 10 rfl) rfl ?_
    refine lv_lmul C.1 C.2.1 (dd_at td_ways 11 rfl) ?_
    refine lv_topl (fun v2 ev2 => ?_)
    replace hf := fc_of_nm hf v2 ev2
    refine lv_lstore_n (lv' := [(2, .long v2), (0, .ref o), (1, .int x1), (4, .int x4)]) C.1 C.2.1 (dd_at td_ways 12 rfl) rfl hl (by decide) rfl (fun ls hl => ?_)
    obtain ⟨v3, ev3⟩ : ∃ y : Int32, y = x4 + (1 : Int32) := ⟨_, rfl⟩
    replace hf := fc_of_nm hf v3 ev3
    refine lv_iinc (v := v3) (lv' := [(4, .int v3), (2, .long v2), (0, .ref o), (1, .int x1)]) C.1 C.2.1 (dd_at td_ways 13 rfl) hl (k := 3) rfl (by rw [ev3]; rfl) (by decide) rfl (fun ls hl => ?_)
    refine lv_goto (tgt := 5) C.1 C.2.1 (dd_at td_ways 14 rfl) (by decide) ?_
    exact hK5 x1 v2 v3 st _ _ _ hf (lv_sub hl [2, 3, 1, 0] rfl) hM
theorem w_ways_b5 {p : Program} {l : Launch} {e : Env} {s : State} {m : MethodId} {args : Array Value} {below : List Frame} {meth : Method} {c : Code} {D : va_G} {o : Nat} {ad : Nat → Nat} {cs : ClassId × ClassId × ClassId} {r : Int64} {st' : mm_S} (C : mm_C p s m args meth c cX12_ways 5 (some .long) D cs) (fu : Nat) (n : Nat) : ∀ (x1 : Int32) (x2 : Int64) (x4 : Int32) (st : mm_S), M_ways_b5 fu n x1 x2 x4 st = some (r, st') → ∀ (H : Heap) (locs : List Loc) (ls : Array Slot), lv_has ls 5 [(0, .ref o), (1, .int x1), (2, .long x2), (4, .int x4)] → mm_H D o ad cs s.heap st H locs → W p l e (mm_R 0 0) s m args below meth c H locs 0 0 (MQ below (mm_Ql D o ad cs r st') args s 0 0 (mm_A o ad)) (F0 m 5 ls []) := by
  induction n with
  | zero => exact fun _ _ _ _ hf => fc_no hf
  | succ n ih =>
    intro x1 x2 x4 st hf H locs ls hl hM
    exact w_ways_b5F C fu (fun x1 x2 x4 st => M_ways_b5 fu n x1 x2 x4 st) (fun x1 x2 x4 st H locs ls hf hl hM => ih x1 x2 x4 st hf H locs ls hl hM) x1 x2 x4 st hf hl hM
theorem w_ways {p : Program} {l : Launch} {e : Env} {s : State} {m : MethodId} {args : Array Value} {below : List Frame} {meth : Method} {c : Code} {D : va_G} {o : Nat} {ad : Nat → Nat} {cs : ClassId × ClassId × ClassId} {r : Int64} {st' : mm_S} (C : mm_C p s m args meth c cX12_ways 5 (some .long) D cs) (fu : Nat) (x1 : Int32) (st : mm_S) (hf : M_ways fu x1 st = some (r, st')) {H : Heap} {locs : List Loc} {ls : Array Slot} (hl : lv_has ls 5 [(0, .ref o), (1, .int x1)]) (hM : mm_H D o ad cs s.heap st H locs) : W p l e (mm_R 0 0) s m args below meth c H locs 0 0 (MQ below (mm_Ql D o ad cs r st') args s 0 0 (mm_A o ad)) (F0 m 0 ls []) := by
  unfold M_ways at hf
  refine lv_lconst (v := (1 : Int64)) C.1 C.2.1 (dd_at td_ways 0 rfl) (by decide) ?_
  refine lv_lstore_n (lv' := [(2, .long (1 : Int64)), (0, .ref o), (1, .int x1)]) C.1 C.2.1 (dd_at td_ways 1 rfl) rfl hl (by decide) rfl (fun ls hl => ?_)
  refine lv_iconst (v := (0 : Int32)) C.1 C.2.1 (dd_at td_ways 2 rfl) (by decide) ?_
  refine lv_istore (lv' := [(4, .int (0 : Int32)), (2, .long (1 : Int64)), (0, .ref o), (1, .int x1)]) C.1 C.2.1 (dd_at td_ways 3 rfl) hl (by decide) rfl (fun ls hl => ?_)
  exact w_ways_b5 C fu fu x1 (1 : Int64) (0 : Int32) st hf _ _ _ (lv_sub hl [2, 3, 1, 0] rfl) hM
theorem c_ways (l : Launch) (D : va_G) (o : Nat) (ad : Nat → Nat) (cs : ClassId × ClassId × ClassId) (fu : Nat) (x1 : Int32) (st : mm_S) : mm_Ml l D o ad cs yX12_ways cX12_ways 5 (some .long) 0 0 [.int x1] st (M_ways fu x1 st) := by
  intro r st' hf
  refine mm_enter (cc := cX12_ways) (nL := 5) (ret := some .long) (by decide) rfl (Nat.le_of_ble_eq_true rfl) ?_
  intro p e s m args below meth c ls C hl hM
  exact w_ways C fu x1 st hf hl hM

/-! ifServed -/
def tb_ifServed : List (Nat × Instr × Nat) := [(0, .aload_n 0, 1), (1, .iload_n 3, 1), (2, .iload_n 2, 1), (3, .isub, 1), (4, .iconst 1, 1), (5, .isub, 1), (6, .invokevirtual 295, 3), (9, .aload_n 0, 1), (10, .iload_n 1, 1), (11, .aload_n 0, 1), (12, .getfield 19, 3), (15, .iload_n 2, 1), (16, .iadd, 1), (17, .iload 4, 2), (19, .invokevirtual 282, 3), (22, .aload_n 0, 1), (23, .invokevirtual 289, 3), (26, .iload 4, 2), (28, .iconst 1, 1), (29, .isub, 1), (30, .imul, 1), (31, .isub, 1), (32, .i2l, 1), (33, .lmul, 1), (34, .aload_n 0, 1), (35, .getfield 90, 3), (38, .bipush 10, 2), (40, .iload_n 2, 1), (41, .imul, 1), (42, .bipush 10, 2), (44, .iadd, 1), (45, .iload 4, 2), (47, .iadd, 1), (48, .iconst 1, 1), (49, .isub, 1), (50, .laload, 1), (51, .ladd, 1), (52, .lreturn, 1)]
theorem td_ifServed : tb_ifServed.all (fun q => decide (decode cX12_ifServed q.1 = .ok (q.2.1, q.2.2))) = true := by decide +kernel
theorem hd_ifServed : yX12_ifServed.cls = RX12 ∧ yX12_ifServed.cls ≠ "java/lang/invoke/MethodHandle" ∧ yX12_ifServed.cls ≠ "java/lang/invoke/VarHandle" ∧ (parseMethodDescriptor yX12_ifServed.desc).map (fun d => d.parameters.length) = some 4 := by decide +kernel
theorem w_ifServed {p : Program} {l : Launch} {e : Env} {s : State} {m : MethodId} {args : Array Value} {below : List Frame} {meth : Method} {c : Code} {D : va_G} {o : Nat} {ad : Nat → Nat} {cs : ClassId × ClassId × ClassId} {r : Int64} {st' : mm_S} (C : mm_C p s m args meth c cX12_ifServed 5 (some .long) D cs) (fu : Nat) (x1 : Int32) (x2 : Int32) (x3 : Int32) (x4 : Int32) (st : mm_S) (hf : M_ifServed fu x1 x2 x3 x4 st = some (r, st')) {H : Heap} {locs : List Loc} {ls : Array Slot} (hl : lv_has ls 5 [(0, .ref o), (1, .int x1), (2, .int x2), (3, .int x3), (4, .int x4)]) (hM : mm_H D o ad cs s.heap st H locs) : W p l e (mm_R 4 104) s m args below meth c H locs 0 0 (MQ below (mm_Ql D o ad cs r st') args s 0 0 (mm_A o ad)) (F0 m 0 ls []) := by
  unfold M_ifServed at hf
  refine lv_aload_n C.1 C.2.1 (dd_at td_ifServed 0 rfl) rfl (lv_at hl 0 rfl) ?_
  refine lv_iload_n C.1 C.2.1 (dd_at td_ifServed 1 rfl) rfl (lv_at hl 3 rfl) ?_
  refine lv_iload_n C.1 C.2.1 (dd_at td_ifServed 2 rfl) rfl (lv_at hl 2 rfl) ?_
  refine lv_isub C.1 C.2.1 (dd_at td_ifServed 3 rfl) ?_
  refine lv_iconst (v := (1 : Int32)) C.1 C.2.1 (dd_at td_ifServed 4 rfl) (by decide) ?_
  refine lv_isub C.1 C.2.1 (dd_at td_ifServed 5 rfl) ?_
  obtain ⟨r3, st1, hx2, hf⟩ := fc_of_bn hf
  refine mm_cl (As := [.int ((x3 - x2) - (1 : Int32))]) (rest := []) (n := 1) C hM (c_ways l D o ad cs fu ((x3 - x2) - (1 : Int32)) st) (List.mem_of_getElem? (i := 46) rfl) (dd_at td_ifServed 6 rfl) hx2 hl.1 hd_ways ⟨Nat.le_of_ble_eq_true rfl, Nat.le_of_ble_eq_true rfl⟩ rfl rfl (Nat.le_of_ble_eq_true rfl) ⟨Nat.le_refl 0, Nat.le_refl 0⟩ (fun H locs hM => ?_)
  refine lv_aload_n C.1 C.2.1 (dd_at td_ifServed 7 rfl) rfl (lv_at hl 0 rfl) ?_
  refine lv_iload_n C.1 C.2.1 (dd_at td_ifServed 8 rfl) rfl (lv_at hl 1 rfl) ?_
  refine lv_aload_n C.1 C.2.1 (dd_at td_ifServed 9 rfl) rfl (lv_at hl 0 rfl) ?_
  refine mm_gI C hM 3 (dd_at td_ifServed 10 rfl) (by decide) (by decide) (by decide) ?_
  refine lv_iload_n C.1 C.2.1 (dd_at td_ifServed 11 rfl) rfl (lv_at hl 2 rfl) ?_
  refine lv_iadd C.1 C.2.1 (dd_at td_ifServed 12 rfl) ?_
  refine lv_iload C.1 C.2.1 (dd_at td_ifServed 13 rfl) (lv_at hl 4 rfl) ?_
  obtain ⟨r6, st4, hx5, hf⟩ := fc_of_bn hf
  refine mm_ci (As := [.int x1, .int ((mm_I st1 3) + x2), .int x4]) (rest := [.long r3]) (n := 3) C hM (c_worthOf l D o ad cs fu x1 ((mm_I st1 3) + x2) x4 st1) (List.mem_of_getElem? (i := 48) rfl) (dd_at td_ifServed 14 rfl) hx5 hl.1 hd_worthOf ⟨Nat.le_of_ble_eq_true rfl, Nat.le_of_ble_eq_true rfl⟩ rfl rfl (Nat.le_of_ble_eq_true rfl) ⟨Nat.le_refl 0, Nat.le_refl 0⟩ (fun H locs hM => ?_)
  refine lv_aload_n C.1 C.2.1 (dd_at td_ifServed 15 rfl) rfl (lv_at hl 0 rfl) ?_
  obtain ⟨r9, st7, hx8, hf⟩ := fc_of_bn hf
  refine mm_ci (As := []) (rest := [.int r6, .long r3]) (n := 0) C hM (c_keep l D o ad cs fu st4) (List.mem_of_getElem? (i := 26) rfl) (dd_at td_ifServed 16 rfl) hx8 hl.1 hd_keep ⟨Nat.le_of_ble_eq_true rfl, Nat.le_of_ble_eq_true rfl⟩ rfl rfl (Nat.le_of_ble_eq_true rfl) ⟨Nat.le_refl 0, Nat.le_refl 0⟩ (fun H locs hM => ?_)
  refine lv_iload C.1 C.2.1 (dd_at td_ifServed 17 rfl) (lv_at hl 4 rfl) ?_
  refine lv_iconst (v := (1 : Int32)) C.1 C.2.1 (dd_at td_ifServed 18 rfl) (by decide) ?_
  refine lv_isub C.1 C.2.1 (dd_at td_ifServed 19 rfl) ?_
  refine lv_imul C.1 C.2.1 (dd_at td_ifServed 20 rfl) ?_
  refine lv_isub C.1 C.2.1 (dd_at td_ifServed 21 rfl) ?_
  refine lv_i2l C.1 C.2.1 (dd_at td_ifServed 22 rfl) rfl ?_
  refine lv_lmul C.1 C.2.1 (dd_at td_ifServed 23 rfl) ?_
  refine lv_aload_n C.1 C.2.1 (dd_at td_ifServed 24 rfl) rfl (lv_at hl 0 rfl) ?_
  refine mm_gA C hM 26 (dd_at td_ifServed 25 rfl) (by decide) (by decide) (by decide) ?_
  refine lv_bipush (v := (10 : Int32)) C.1 C.2.1 (dd_at td_ifServed 26 rfl) (by decide) ?_
  refine lv_iload_n C.1 C.2.1 (dd_at td_ifServed 27 rfl) rfl (lv_at hl 2 rfl) ?_
  refine lv_imul C.1 C.2.1 (dd_at td_ifServed 28 rfl) ?_
  refine lv_bipush (v := (10 : Int32)) C.1 C.2.1 (dd_at td_ifServed 29 rfl) (by decide) ?_
  refine lv_iadd C.1 C.2.1 (dd_at td_ifServed 30 rfl) ?_
  refine lv_iload C.1 C.2.1 (dd_at td_ifServed 31 rfl) (lv_at hl 4 rfl) ?_
  refine lv_iadd C.1 C.2.1 (dd_at td_ifServed 32 rfl) ?_
  refine lv_iconst (v := (1 : Int32)) C.1 C.2.1 (dd_at td_ifServed 33 rfl) (by decide) ?_
  refine lv_isub C.1 C.2.1 (dd_at td_ifServed 34 rfl) ?_
  obtain ⟨g10, hf⟩ := fc_of_gd hf
  refine mm_lald C hM 26 (dd_at td_ifServed 35 rfl) (by decide) (by decide) (fc_of_ix g10) ?_
  refine lv_ladd C.1 C.2.1 (dd_at td_ifServed 36 rfl) ?_
  exact mm_rl C hM (dd_at td_ifServed 37 rfl) hf
theorem c_ifServed (l : Launch) (D : va_G) (o : Nat) (ad : Nat → Nat) (cs : ClassId × ClassId × ClassId) (fu : Nat) (x1 : Int32) (x2 : Int32) (x3 : Int32) (x4 : Int32) (st : mm_S) : mm_Ml l D o ad cs yX12_ifServed cX12_ifServed 5 (some .long) 4 104 [.int x1, .int x2, .int x3, .int x4] st (M_ifServed fu x1 x2 x3 x4 st) := by
  intro r st' hf
  refine mm_enter (cc := cX12_ifServed) (nL := 5) (ret := some .long) (by decide) rfl (Nat.le_of_ble_eq_true rfl) ?_
  intro p e s m args below meth c ls C hl hM
  exact w_ifServed C fu x1 x2 x3 x4 st hf hl hM

/-! ifSpared -/
def tb_ifSpared : List (Nat × Instr × Nat) := [(0, .aload_n 0, 1), (1, .iload_n 2, 1), (2, .iload_n 1, 1), (3, .isub, 1), (4, .iconst 1, 1), (5, .isub, 1), (6, .invokevirtual 295, 3), (9, .aload_n 0, 1), (10, .invokevirtual 289, 3), (13, .ineg, 1), (14, .iload_n 3, 1), (15, .imul, 1), (16, .i2l, 1), (17, .lmul, 1), (18, .aload_n 0, 1), (19, .getfield 90, 3), (22, .bipush 10, 2), (24, .iload_n 1, 1), (25, .imul, 1), (26, .bipush 10, 2), (28, .iadd, 1), (29, .iload_n 3, 1), (30, .iadd, 1), (31, .laload, 1), (32, .ladd, 1), (33, .lreturn, 1)]
theorem td_ifSpared : tb_ifSpared.all (fun q => decide (decode cX12_ifSpared q.1 = .ok (q.2.1, q.2.2))) = true := by decide +kernel
theorem hd_ifSpared : yX12_ifSpared.cls = RX12 ∧ yX12_ifSpared.cls ≠ "java/lang/invoke/MethodHandle" ∧ yX12_ifSpared.cls ≠ "java/lang/invoke/VarHandle" ∧ (parseMethodDescriptor yX12_ifSpared.desc).map (fun d => d.parameters.length) = some 3 := by decide +kernel
theorem w_ifSpared {p : Program} {l : Launch} {e : Env} {s : State} {m : MethodId} {args : Array Value} {below : List Frame} {meth : Method} {c : Code} {D : va_G} {o : Nat} {ad : Nat → Nat} {cs : ClassId × ClassId × ClassId} {r : Int64} {st' : mm_S} (C : mm_C p s m args meth c cX12_ifSpared 4 (some .long) D cs) (fu : Nat) (x1 : Int32) (x2 : Int32) (x3 : Int32) (st : mm_S) (hf : M_ifSpared fu x1 x2 x3 st = some (r, st')) {H : Heap} {locs : List Loc} {ls : Array Slot} (hl : lv_has ls 4 [(0, .ref o), (1, .int x1), (2, .int x2), (3, .int x3)]) (hM : mm_H D o ad cs s.heap st H locs) : W p l e (mm_R 2 42) s m args below meth c H locs 0 0 (MQ below (mm_Ql D o ad cs r st') args s 0 0 (mm_A o ad)) (F0 m 0 ls []) := by
  unfold M_ifSpared at hf
  refine lv_aload_n C.1 C.2.1 (dd_at td_ifSpared 0 rfl) rfl (lv_at hl 0 rfl) ?_
  refine lv_iload_n C.1 C.2.1 (dd_at td_ifSpared 1 rfl) rfl (lv_at hl 2 rfl) ?_
  refine lv_iload_n C.1 C.2.1 (dd_at td_ifSpared 2 rfl) rfl (lv_at hl 1 rfl) ?_
  refine lv_isub C.1 C.2.1 (dd_at td_ifSpared 3 rfl) ?_
  refine lv_iconst (v := (1 : Int32)) C.1 C.2.1 (dd_at td_ifSpared 4 rfl) (by decide) ?_
  refine lv_isub C.1 C.2.1 (dd_at td_ifSpared 5 rfl) ?_
  obtain ⟨r3, st1, hx2, hf⟩ := fc_of_bn hf
  refine mm_cl (As := [.int ((x2 - x1) - (1 : Int32))]) (rest := []) (n := 1) C hM (c_ways l D o ad cs fu ((x2 - x1) - (1 : Int32)) st) (List.mem_of_getElem? (i := 46) rfl) (dd_at td_ifSpared 6 rfl) hx2 hl.1 hd_ways ⟨Nat.le_of_ble_eq_true rfl, Nat.le_of_ble_eq_true rfl⟩ rfl rfl (Nat.le_of_ble_eq_true rfl) ⟨Nat.le_refl 0, Nat.le_refl 0⟩ (fun H locs hM => ?_)
  refine lv_aload_n C.1 C.2.1 (dd_at td_ifSpared 7 rfl) rfl (lv_at hl 0 rfl) ?_
  obtain ⟨r6, st4, hx5, hf⟩ := fc_of_bn hf
  refine mm_ci (As := []) (rest := [.long r3]) (n := 0) C hM (c_keep l D o ad cs fu st1) (List.mem_of_getElem? (i := 26) rfl) (dd_at td_ifSpared 8 rfl) hx5 hl.1 hd_keep ⟨Nat.le_of_ble_eq_true rfl, Nat.le_of_ble_eq_true rfl⟩ rfl rfl (Nat.le_of_ble_eq_true rfl) ⟨Nat.le_refl 0, Nat.le_refl 0⟩ (fun H locs hM => ?_)
  refine lv_ineg C.1 C.2.1 (dd_at td_ifSpared 9 rfl) ?_
  refine lv_iload_n C.1 C.2.1 (dd_at td_ifSpared 10 rfl) rfl (lv_at hl 3 rfl) ?_
  refine lv_imul C.1 C.2.1 (dd_at td_ifSpared 11 rfl) ?_
  refine lv_i2l C.1 C.2.1 (dd_at td_ifSpared 12 rfl) rfl ?_
  refine lv_lmul C.1 C.2.1 (dd_at td_ifSpared 13 rfl) ?_
  refine lv_aload_n C.1 C.2.1 (dd_at td_ifSpared 14 rfl) rfl (lv_at hl 0 rfl) ?_
  refine mm_gA C hM 26 (dd_at td_ifSpared 15 rfl) (by decide) (by decide) (by decide) ?_
  refine lv_bipush (v := (10 : Int32)) C.1 C.2.1 (dd_at td_ifSpared 16 rfl) (by decide) ?_
  refine lv_iload_n C.1 C.2.1 (dd_at td_ifSpared 17 rfl) rfl (lv_at hl 1 rfl) ?_
  refine lv_imul C.1 C.2.1 (dd_at td_ifSpared 18 rfl) ?_
  refine lv_bipush (v := (10 : Int32)) C.1 C.2.1 (dd_at td_ifSpared 19 rfl) (by decide) ?_
  refine lv_iadd C.1 C.2.1 (dd_at td_ifSpared 20 rfl) ?_
  refine lv_iload_n C.1 C.2.1 (dd_at td_ifSpared 21 rfl) rfl (lv_at hl 3 rfl) ?_
  refine lv_iadd C.1 C.2.1 (dd_at td_ifSpared 22 rfl) ?_
  obtain ⟨g7, hf⟩ := fc_of_gd hf
  refine mm_lald C hM 26 (dd_at td_ifSpared 23 rfl) (by decide) (by decide) (fc_of_ix g7) ?_
  refine lv_ladd C.1 C.2.1 (dd_at td_ifSpared 24 rfl) ?_
  exact mm_rl C hM (dd_at td_ifSpared 25 rfl) hf
theorem c_ifSpared (l : Launch) (D : va_G) (o : Nat) (ad : Nat → Nat) (cs : ClassId × ClassId × ClassId) (fu : Nat) (x1 : Int32) (x2 : Int32) (x3 : Int32) (st : mm_S) : mm_Ml l D o ad cs yX12_ifSpared cX12_ifSpared 4 (some .long) 2 42 [.int x1, .int x2, .int x3] st (M_ifSpared fu x1 x2 x3 st) := by
  intro r st' hf
  refine mm_enter (cc := cX12_ifSpared) (nL := 4) (ret := some .long) (by decide) rfl (Nat.le_of_ble_eq_true rfl) ?_
  intro p e s m args below meth c ls C hl hM
  exact w_ifSpared C fu x1 x2 x3 st hf hl hM

/-! gainOf -/
def tb_gainOf : List (Nat × Instr × Nat) := [(0, .aload_n 0, 1), (1, .iload_n 3, 1), (2, .iload 4, 2), (4, .iload 5, 2), (6, .invokevirtual 299, 3), (9, .lstore 6, 2), (11, .iload 5, 2), (13, .ifCond .ne 6, 3), (16, .lload 6, 2), (18, .lreturn, 1), (19, .aload_n 0, 1), (20, .iload_n 2, 1), (21, .iload_n 3, 1), (22, .iload 4, 2), (24, .iload 5, 2), (26, .invokevirtual 303, 3), (29, .lstore 8, 2), (31, .iload_n 1, 1), (32, .ifCond .ne 19, 3), (35, .lload 8, 2), (37, .lload 6, 2), (39, .lcmp, 1), (40, .ifCond .le 8, 3), (43, .lload 8, 2), (45, .goto 5, 3), (48, .lload 6, 2), (50, .lreturn, 1), (51, .iload_n 1, 1), (52, .iconst 1, 1), (53, .if_icmp .ne 27, 3), (56, .aload_n 0, 1), (57, .iload_n 2, 1), (58, .aload_n 0, 1), (59, .getfield 19, 3), (62, .iload_n 3, 1), (63, .iadd, 1), (64, .iload 5, 2), (66, .invokevirtual 282, 3), (69, .ifCond .le 7, 3), (72, .iconst 1, 1), (73, .goto 16, 3), (76, .iconst 0, 1), (77, .goto 12, 3), (80, .aload_n 0, 1), (81, .aload_n 0, 1), (82, .getfield 94, 3), (85, .iload_n 2, 1), (86, .invokevirtual 203, 3), (89, .istore 10, 2), (91, .iload 10, 2), (93, .ifCond .eq 8, 3), (96, .lload 8, 2), (98, .goto 5, 3), (101, .lload 6, 2), (103, .lreturn, 1)]
theorem td_gainOf : tb_gainOf.all (fun q => decide (decode cX12_gainOf q.1 = .ok (q.2.1, q.2.2))) = true := by decide +kernel
theorem hd_gainOf : yX12_gainOf.cls = RX12 ∧ yX12_gainOf.cls ≠ "java/lang/invoke/MethodHandle" ∧ yX12_gainOf.cls ≠ "java/lang/invoke/VarHandle" ∧ (parseMethodDescriptor yX12_gainOf.desc).map (fun d => d.parameters.length) = some 5 := by decide +kernel
theorem w_gainOf_b89 {p : Program} {l : Launch} {e : Env} {s : State} {m : MethodId} {args : Array Value} {below : List Frame} {meth : Method} {c : Code} {D : va_G} {o : Nat} {ad : Nat → Nat} {cs : ClassId × ClassId × ClassId} {r : Int64} {st' : mm_S} (C : mm_C p s m args meth c cX12_gainOf 11 (some .long) D cs) (fu : Nat) (x6 : Int64) (x8 : Int64) (s0 : Int32) (st : mm_S) (hf : M_gainOf_b89 fu x6 x8 s0 st = some (r, st')) {H : Heap} {locs : List Loc} {ls : Array Slot} (hl : lv_has ls 11 [(0, .ref o), (6, .long x6), (8, .long x8)]) (hM : mm_H D o ad cs s.heap st H locs) : W p l e (mm_R 5 128) s m args below meth c H locs 0 0 (MQ below (mm_Ql D o ad cs r st') args s 0 0 (mm_A o ad)) (F0 m 89 ls [.int s0]) := by
  unfold M_gainOf_b89 at hf
  refine lv_istore (lv' := [(10, .int s0), (0, .ref o), (6, .long x6), (8, .long x8)]) C.1 C.2.1 (dd_at td_gainOf 48 rfl) hl (by decide) rfl (fun ls hl => ?_)
  refine lv_iload C.1 C.2.1 (dd_at td_gainOf 49 rfl) (lv_at hl 0 rfl) ?_
  refine lv_if_eq (tgt := 101) C.1 C.2.1 (dd_at td_gainOf 50 rfl) (by decide) (fun c18 => ?_) (fun c18 => ?_)
  · replace hf := fc_of_t hf c18
    refine lv_lload C.1 C.2.1 (dd_at td_gainOf 53 rfl) (lv_at hl 2 rfl) ?_
    exact mm_rl C hM (dd_at td_gainOf 54 rfl) hf
  · replace hf := fc_of_f hf c18
    refine lv_lload C.1 C.2.1 (dd_at td_gainOf 51 rfl) (lv_at hl 3 rfl) ?_
    refine lv_goto (tgt := 103) C.1 C.2.1 (dd_at td_gainOf 52 rfl) (by decide) ?_
    exact mm_rl C hM (dd_at td_gainOf 54 rfl) hf
theorem w_gainOf {p : Program} {l : Launch} {e : Env} {s : State} {m : MethodId} {args : Array Value} {below : List Frame} {meth : Method} {c : Code} {D : va_G} {o : Nat} {ad : Nat → Nat} {cs : ClassId × ClassId × ClassId} {r : Int64} {st' : mm_S} (C : mm_C p s m args meth c cX12_gainOf 11 (some .long) D cs) (fu : Nat) (x1 : Int32) (x2 : Int32) (x3 : Int32) (x4 : Int32) (x5 : Int32) (st : mm_S) (hf : M_gainOf fu x1 x2 x3 x4 x5 st = some (r, st')) {H : Heap} {locs : List Loc} {ls : Array Slot} (hl : lv_has ls 11 [(0, .ref o), (1, .int x1), (2, .int x2), (3, .int x3), (4, .int x4), (5, .int x5)]) (hM : mm_H D o ad cs s.heap st H locs) : W p l e (mm_R 5 128) s m args below meth c H locs 0 0 (MQ below (mm_Ql D o ad cs r st') args s 0 0 (mm_A o ad)) (F0 m 0 ls []) := by
  unfold M_gainOf at hf
  refine lv_aload_n C.1 C.2.1 (dd_at td_gainOf 0 rfl) rfl (lv_at hl 0 rfl) ?_
  refine lv_iload_n C.1 C.2.1 (dd_at td_gainOf 1 rfl) rfl (lv_at hl 3 rfl) ?_
  refine lv_iload C.1 C.2.1 (dd_at td_gainOf 2 rfl) (lv_at hl 4 rfl) ?_
  refine lv_iload C.1 C.2.1 (dd_at td_gainOf 3 rfl) (lv_at hl 5 rfl) ?_
  obtain ⟨r3, st1, hx2, hf⟩ := fc_of_bn hf
  refine mm_cl (As := [.int x3, .int x4, .int x5]) (rest := []) (n := 3) C hM (c_ifSpared l D o ad cs fu x3 x4 x5 st) (List.mem_of_getElem? (i := 17) rfl) (dd_at td_gainOf 4 rfl) hx2 hl.1 hd_ifSpared ⟨Nat.le_of_ble_eq_true rfl, Nat.le_of_ble_eq_true rfl⟩ rfl rfl (Nat.le_of_ble_eq_true rfl) ⟨Nat.le_refl 0, Nat.le_refl 0⟩ (fun H locs hM => ?_)
  refine lv_lstore (lv' := [(6, .long r3), (0, .ref o), (1, .int x1), (2, .int x2), (3, .int x3), (4, .int x4), (5, .int x5)]) C.1 C.2.1 (dd_at td_gainOf 5 rfl) hl (by decide) rfl (fun ls hl => ?_)
  refine lv_iload C.1 C.2.1 (dd_at td_gainOf 6 rfl) (lv_at hl 6 rfl) ?_
  refine lv_if_ne (tgt := 19) C.1 C.2.1 (dd_at td_gainOf 7 rfl) (by decide) (fun c4 => ?_) (fun c4 => ?_)
  · replace hf := fc_of_f hf c4
    refine lv_aload_n C.1 C.2.1 (dd_at td_gainOf 10 rfl) rfl (lv_at hl 1 rfl) ?_
    refine lv_iload_n C.1 C.2.1 (dd_at td_gainOf 11 rfl) rfl (lv_at hl 3 rfl) ?_
    refine lv_iload_n C.1 C.2.1 (dd_at td_gainOf 12 rfl) rfl (lv_at hl 4 rfl) ?_
    refine lv_iload C.1 C.2.1 (dd_at td_gainOf 13 rfl) (lv_at hl 5 rfl) ?_
    refine lv_iload C.1 C.2.1 (dd_at td_gainOf 14 rfl) (lv_at hl 6 rfl) ?_
    obtain ⟨r7, st5, hx6, hf⟩ := fc_of_bn hf
    refine mm_cl (As := [.int x2, .int x3, .int x4, .int x5]) (rest := []) (n := 4) C hM (c_ifServed l D o ad cs fu x2 x3 x4 x5 st1) (List.mem_of_getElem? (i := 16) rfl) (dd_at td_gainOf 15 rfl) hx6 hl.1 hd_ifServed ⟨Nat.le_of_ble_eq_true rfl, Nat.le_of_ble_eq_true rfl⟩ rfl rfl (Nat.le_of_ble_eq_true rfl) ⟨Nat.le_refl 0, Nat.le_refl 0⟩ (fun H locs hM => ?_)
    refine lv_lstore (lv' := [(8, .long r7), (6, .long r3), (0, .ref o), (1, .int x1), (2, .int x2), (3, .int x3), (4, .int x4), (5, .int x5)]) C.1 C.2.1 (dd_at td_gainOf 16 rfl) hl (by decide) rfl (fun ls hl => ?_)
    refine lv_iload_n C.1 C.2.1 (dd_at td_gainOf 17 rfl) rfl (lv_at hl 3 rfl) ?_
    refine lv_if_ne (tgt := 51) C.1 C.2.1 (dd_at td_gainOf 18 rfl) (by decide) (fun c8 => ?_) (fun c8 => ?_)
    · replace hf := fc_of_f hf c8
      refine lv_iload_n C.1 C.2.1 (dd_at td_gainOf 27 rfl) rfl (lv_at hl 3 rfl) ?_
      refine lv_iconst (v := (1 : Int32)) C.1 C.2.1 (dd_at td_gainOf 28 rfl) (by decide) ?_
      refine lv_icmp_ne (tgt := 80) C.1 C.2.1 (dd_at td_gainOf 29 rfl) (by decide) (fun c9 => ?_) (fun c9 => ?_)
      · replace hf := fc_of_f hf c9
        refine lv_aload_n C.1 C.2.1 (dd_at td_gainOf 43 rfl) rfl (lv_at hl 2 rfl) ?_
        refine lv_aload_n C.1 C.2.1 (dd_at td_gainOf 44 rfl) rfl (lv_at hl 2 rfl) ?_
        refine mm_gI C hM 27 (dd_at td_gainOf 45 rfl) (by decide) (by decide) (by decide) ?_
        refine lv_iload_n C.1 C.2.1 (dd_at td_gainOf 46 rfl) rfl (lv_at hl 4 rfl) ?_
        obtain ⟨r12, st10, hx11, hf⟩ := fc_of_bn hf
        refine mm_ci (As := [.int (mm_I st5 27), .int x2]) (rest := []) (n := 2) C hM (c_has l D o ad cs fu (mm_I st5 27) x2 st5) (List.mem_of_getElem? (i := 13) rfl) (dd_at td_gainOf 47 rfl) hx11 hl.1 hd_has ⟨Nat.le_of_ble_eq_true rfl, Nat.le_of_ble_eq_true rfl⟩ rfl rfl (Nat.le_of_ble_eq_true rfl) ⟨Nat.le_refl 0, Nat.le_refl 0⟩ (fun H locs hM => ?_)
        exact w_gainOf_b89 C fu r3 r7 r12 st10 hf (lv_sub hl [2, 1, 0] rfl) hM
      · replace hf := fc_of_t hf c9
        refine lv_aload_n C.1 C.2.1 (dd_at td_gainOf 30 rfl) rfl (lv_at hl 2 rfl) ?_
        refine lv_iload_n C.1 C.2.1 (dd_at td_gainOf 31 rfl) rfl (lv_at hl 4 rfl) ?_
        refine lv_aload_n C.1 C.2.1 (dd_at td_gainOf 32 rfl) rfl (lv_at hl 2 rfl) ?_
        refine mm_gI C hM 3 (dd_at td_gainOf 33 rfl) (by decide) (by decide) (by decide) ?_
        refine lv_iload_n C.1 C.2.1 (dd_at td_gainOf 34 rfl) rfl (lv_at hl 5 rfl) ?_
        refine lv_iadd C.1 C.2.1 (dd_at td_gainOf 35 rfl) ?_
        refine lv_iload C.1 C.2.1 (dd_at td_gainOf 36 rfl) (lv_at hl 7 rfl) ?_
        obtain ⟨r15, st13, hx14, hf⟩ := fc_of_bn hf
        refine mm_ci (As := [.int x2, .int ((mm_I st5 3) + x3), .int x5]) (rest := []) (n := 3) C hM (c_worthOf l D o ad cs fu x2 ((mm_I st5 3) + x3) x5 st5) (List.mem_of_getElem? (i := 48) rfl) (dd_at td_gainOf 37 rfl) hx14 hl.1 hd_worthOf ⟨Nat.le_of_ble_eq_true rfl, Nat.le_of_ble_eq_true rfl⟩ rfl rfl (Nat.le_of_ble_eq_true rfl) ⟨Nat.le_refl 0, Nat.le_refl 0⟩ (fun H locs hM => ?_)
        refine lv_if_le (tgt := 76) C.1 C.2.1 (dd_at td_gainOf 38 rfl) (by decide) (fun c16 => ?_) (fun c16 => ?_)
        · replace hf := fc_of_t hf c16
          refine lv_iconst (v := (0 : Int32)) C.1 C.2.1 (dd_at td_gainOf 41 rfl) (by decide) ?_
          refine lv_goto (tgt := 89) C.1 C.2.1 (dd_at td_gainOf 42 rfl) (by decide) ?_
          exact w_gainOf_b89 C fu r3 r7 (0 : Int32) st13 hf (lv_sub hl [2, 1, 0] rfl) hM
        · replace hf := fc_of_f hf c16
          refine lv_iconst (v := (1 : Int32)) C.1 C.2.1 (dd_at td_gainOf 39 rfl) (by decide) ?_
          refine lv_goto (tgt := 89) C.1 C.2.1 (dd_at td_gainOf 40 rfl) (by decide) ?_
          exact w_gainOf_b89 C fu r3 r7 (1 : Int32) st13 hf (lv_sub hl [2, 1, 0] rfl) hM
    · replace hf := fc_of_t hf c8
      refine lv_lload C.1 C.2.1 (dd_at td_gainOf 19 rfl) (lv_at hl 0 rfl) ?_
      refine lv_lload C.1 C.2.1 (dd_at td_gainOf 20 rfl) (lv_at hl 1 rfl) ?_
      refine W.lcmp C.1 C.2.1 (dd_at td_gainOf 21 rfl) ?_
      refine lv_if_le (tgt := 48) C.1 C.2.1 (dd_at td_gainOf 22 rfl) (by decide) (fun c17 => ?_) (fun c17 => ?_)
      · replace hf := fc_of_t hf c17
        refine lv_lload C.1 C.2.1 (dd_at td_gainOf 25 rfl) (lv_at hl 1 rfl) ?_
        exact mm_rl C hM (dd_at td_gainOf 26 rfl) hf
      · replace hf := fc_of_f hf c17
        refine lv_lload C.1 C.2.1 (dd_at td_gainOf 23 rfl) (lv_at hl 0 rfl) ?_
        refine lv_goto (tgt := 50) C.1 C.2.1 (dd_at td_gainOf 24 rfl) (by decide) ?_
        exact mm_rl C hM (dd_at td_gainOf 26 rfl) hf
  · replace hf := fc_of_t hf c4
    refine lv_lload C.1 C.2.1 (dd_at td_gainOf 8 rfl) (lv_at hl 0 rfl) ?_
    exact mm_rl C hM (dd_at td_gainOf 9 rfl) hf
theorem c_gainOf (l : Launch) (D : va_G) (o : Nat) (ad : Nat → Nat) (cs : ClassId × ClassId × ClassId) (fu : Nat) (x1 : Int32) (x2 : Int32) (x3 : Int32) (x4 : Int32) (x5 : Int32) (st : mm_S) : mm_Ml l D o ad cs yX12_gainOf cX12_gainOf 11 (some .long) 5 128 [.int x1, .int x2, .int x3, .int x4, .int x5] st (M_gainOf fu x1 x2 x3 x4 x5 st) := by
  intro r st' hf
  refine mm_enter (cc := cX12_gainOf) (nL := 11) (ret := some .long) (by decide) rfl (Nat.le_of_ble_eq_true rfl) ?_
  intro p e s m args below meth c ls C hl hM
  exact w_gainOf C fu x1 x2 x3 x4 x5 st hf hl hM

/-! layGains -/
def tb_layGains : List (Nat × Instr × Nat) := [(0, .iconst 0, 1), (1, .istore_n 3, 1), (2, .iload_n 3, 1), (3, .bipush 9, 2), (5, .if_icmp .ge 21, 3), (8, .aload_n 0, 1), (9, .getfield 90, 3), (12, .bipush 10, 2), (14, .iload_n 2, 1), (15, .imul, 1), (16, .iload_n 3, 1), (17, .iadd, 1), (18, .lconst 0, 1), (19, .lastore, 1), (20, .iinc 3 1, 3), (23, .goto (-21), 3), (26, .iload_n 2, 1), (27, .iconst 1, 1), (28, .isub, 1), (29, .istore_n 3, 1), (30, .iload_n 3, 1), (31, .ifCond .lt 76, 3), (34, .iconst 0, 1), (35, .istore 4, 2), (37, .iload 4, 2), (39, .bipush 9, 2), (41, .if_icmp .ge 60, 3), (44, .lconst 0, 1), (45, .lstore 5, 2), (47, .iconst 0, 1), (48, .istore 7, 2), (50, .iload 7, 2), (52, .aload_n 0, 1), (53, .getfield 7, 3), (56, .if_icmp .ge 25, 3), (59, .lload 5, 2), (61, .aload_n 0, 1), (62, .iload_n 1, 1), (63, .iload 7, 2), (65, .iload_n 3, 1), (66, .iload_n 2, 1), (67, .iload 4, 2), (69, .invokevirtual 307, 3), (72, .ladd, 1), (73, .lstore 5, 2), (75, .iinc 7 1, 3), (78, .goto (-28), 3), (81, .aload_n 0, 1), (82, .getfield 90, 3), (85, .bipush 10, 2), (87, .iload_n 3, 1), (88, .imul, 1), (89, .iload 4, 2), (91, .iadd, 1), (92, .lload 5, 2), (94, .lastore, 1), (95, .iinc 4 1, 3), (98, .goto (-61), 3), (101, .iinc 3 (-1), 3), (104, .goto (-74), 3), (107, .return_, 1)]
theorem td_layGains : tb_layGains.all (fun q => decide (decode cX12_layGains q.1 = .ok (q.2.1, q.2.2))) = true := by decide +kernel
theorem hd_layGains : yX12_layGains.cls = RX12 ∧ yX12_layGains.cls ≠ "java/lang/invoke/MethodHandle" ∧ yX12_layGains.cls ≠ "java/lang/invoke/VarHandle" ∧ (parseMethodDescriptor yX12_layGains.desc).map (fun d => d.parameters.length) = some 2 := by decide +kernel
theorem w_layGains_b50F {p : Program} {l : Launch} {e : Env} {s : State} {m : MethodId} {args : Array Value} {below : List Frame} {meth : Method} {c : Code} {D : va_G} {o : Nat} {ad : Nat → Nat} {cs : ClassId × ClassId × ClassId} {st' : mm_S} (C : mm_C p s m args meth c cX12_layGains 8 (none) D cs) (fu : Nat) (K30 : Int32 → Int32 → Int32 → mm_S → Option mm_S) (hK30 : ∀ (x1 : Int32) (x2 : Int32) (x3 : Int32) (st : mm_S) (H : Heap) (locs : List Loc) (ls : Array Slot), K30 x1 x2 x3 st = some st' → lv_has ls 8 [(0, .ref o), (1, .int x1), (2, .int x2), (3, .int x3)] → mm_H D o ad cs s.heap st H locs → W p l e (mm_R 6 158) s m args below meth c H locs 0 0 (MQ below (mm_Qv D o ad cs st') args s 0 0 (mm_A o ad)) (F0 m 30 ls [])) (K37 : Int32 → Int32 → Int32 → Int32 → mm_S → Option mm_S) (hK37 : ∀ (x1 : Int32) (x2 : Int32) (x3 : Int32) (x4 : Int32) (st : mm_S) (H : Heap) (locs : List Loc) (ls : Array Slot), K37 x1 x2 x3 x4 st = some st' → lv_has ls 8 [(0, .ref o), (1, .int x1), (2, .int x2), (3, .int x3), (4, .int x4)] → mm_H D o ad cs s.heap st H locs → W p l e (mm_R 6 158) s m args below meth c H locs 0 0 (MQ below (mm_Qv D o ad cs st') args s 0 0 (mm_A o ad)) (F0 m 37 ls [])) (K50 : Int32 → Int32 → Int32 → Int32 → Int64 → Int32 → mm_S → Option mm_S) (hK50 : ∀ (x1 : Int32) (x2 : Int32) (x3 : Int32) (x4 : Int32) (x5 : Int64) (x7 : Int32) (st : mm_S) (H : Heap) (locs : List Loc) (ls : Array Slot), K50 x1 x2 x3 x4 x5 x7 st = some st' → lv_has ls 8 [(0, .ref o), (1, .int x1), (2, .int x2), (3, .int x3), (4, .int x4), (5, .long x5), (7, .int x7)] → mm_H D o ad cs s.heap st H locs → W p l e (mm_R 6 158) s m args below meth c H locs 0 0 (MQ below (mm_Qv D o ad cs st') args s 0 0 (mm_A o ad)) (F0 m 50 ls [])) (x1 : Int32) (x2 : Int32) (x3 : Int32) (x4 : Int32) (x5 : Int64) (x7 : Int32) (st : mm_S) (hf : M_layGains_b50F fu K30 K37 K50 x1 x2 x3 x4 x5 x7 st = some st') {H : Heap} {locs : List Loc} {ls : Array Slot} (hl : lv_has ls 8 [(0, .ref o), (1, .int x1), (2, .int x2), (3, .int x3), (4, .int x4), (5, .long x5), (7, .int x7)]) (hM : mm_H D o ad cs s.heap st H locs) : W p l e (mm_R 6 158) s m args below meth c H locs 0 0 (MQ below (mm_Qv D o ad cs st') args s 0 0 (mm_A o ad)) (F0 m 50 ls []) := by
  unfold M_layGains_b50F at hf
  refine lv_iload C.1 C.2.1 (dd_at td_layGains 31 rfl) (lv_at hl 6 rfl) ?_
  refine lv_aload_n C.1 C.2.1 (dd_at td_layGains 32 rfl) rfl (lv_at hl 0 rfl) ?_
  refine mm_gI C hM 0 (dd_at td_layGains 33 rfl) (by decide) (by decide) (by decide) ?_
  refine lv_icmp_ge (tgt := 81) C.1 C.2.1 (dd_at td_layGains 34 rfl) (by decide) (fun c9 => ?_) (fun c9 => ?_)
  · replace hf := fc_of_t hf c9
    refine lv_aload_n C.1 C.2.1 (dd_at td_layGains 47 rfl) rfl (lv_at hl 0 rfl) ?_
    refine mm_gA C hM 26 (dd_at td_layGains 48 rfl) (by decide) (by decide) (by decide) ?_
    refine lv_bipush (v := (10 : Int32)) C.1 C.2.1 (dd_at td_layGains 49 rfl) (by decide) ?_
    refine lv_iload_n C.1 C.2.1 (dd_at td_layGains 50 rfl) rfl (lv_at hl 3 rfl) ?_
    refine lv_imul C.1 C.2.1 (dd_at td_layGains 51 rfl) ?_
    refine lv_iload C.1 C.2.1 (dd_at td_layGains 52 rfl) (lv_at hl 4 rfl) ?_
    refine lv_iadd C.1 C.2.1 (dd_at td_layGains 53 rfl) ?_
    refine lv_lload C.1 C.2.1 (dd_at td_layGains 54 rfl) (lv_at hl 5 rfl) ?_
    obtain ⟨g10, hf⟩ := fc_of_gd hf
    refine mm_last C hM 26 (dd_at td_layGains 55 rfl) (by decide) (by decide) (fc_of_ix g10) (fun st11 H locs est11 hM => ?_)
    replace hf := fc_of_nm hf st11 est11
    obtain ⟨v12, ev12⟩ : ∃ y : Int32, y = x4 + (1 : Int32) := ⟨_, rfl⟩
    replace hf := fc_of_nm hf v12 ev12
    refine lv_iinc (v := v12) (lv' := [(4, .int v12), (0, .ref o), (1, .int x1), (2, .int x2), (3, .int x3), (5, .long x5), (7, .int x7)]) C.1 C.2.1 (dd_at td_layGains 56 rfl) hl (k := 4) rfl (by rw [ev12]; rfl) (by decide) rfl (fun ls hl => ?_)
    refine lv_goto (tgt := 37) C.1 C.2.1 (dd_at td_layGains 57 rfl) (by decide) ?_
    exact hK37 x1 x2 x3 v12 st11 _ _ _ hf (lv_sub hl [1, 2, 3, 4, 0] rfl) hM
  · replace hf := fc_of_f hf c9
    refine lv_lload C.1 C.2.1 (dd_at td_layGains 35 rfl) (lv_at hl 5 rfl) ?_
    refine lv_aload_n C.1 C.2.1 (dd_at td_layGains 36 rfl) rfl (lv_at hl 0 rfl) ?_
    refine lv_iload_n C.1 C.2.1 (dd_at td_layGains 37 rfl) rfl (lv_at hl 1 rfl) ?_
    refine lv_iload C.1 C.2.1 (dd_at td_layGains 38 rfl) (lv_at hl 6 rfl) ?_
    refine lv_iload_n C.1 C.2.1 (dd_at td_layGains 39 rfl) rfl (lv_at hl 3 rfl) ?_
    refine lv_iload_n C.1 C.2.1 (dd_at td_layGains 40 rfl) rfl (lv_at hl 2 rfl) ?_
    refine lv_iload C.1 C.2.1 (dd_at td_layGains 41 rfl) (lv_at hl 4 rfl) ?_
    obtain ⟨r15, st13, hx14, hf⟩ := fc_of_bn hf
    refine mm_cl (As := [.int x1, .int x7, .int x3, .int x2, .int x4]) (rest := [.long x5]) (n := 5) C hM (c_gainOf l D o ad cs fu x1 x7 x3 x2 x4 st) (List.mem_of_getElem? (i := 11) rfl) (dd_at td_layGains 42 rfl) hx14 hl.1 hd_gainOf ⟨Nat.le_of_ble_eq_true rfl, Nat.le_of_ble_eq_true rfl⟩ rfl rfl (Nat.le_of_ble_eq_true rfl) ⟨Nat.le_refl 0, Nat.le_refl 0⟩ (fun H locs hM => ?_)
    refine lv_ladd C.1 C.2.1 (dd_at td_layGains 43 rfl) ?_
    refine lv_topl (fun v16 ev16 => ?_)
    replace hf := fc_of_nm hf v16 ev16
    refine lv_lstore (lv' := [(5, .long v16), (0, .ref o), (1, .int x1), (2, .int x2), (3, .int x3), (4, .int x4), (7, .int x7)]) C.1 C.2.1 (dd_at td_layGains 44 rfl) hl (by decide) rfl (fun ls hl => ?_)
    obtain ⟨v17, ev17⟩ : ∃ y : Int32, y = x7 + (1 : Int32) := ⟨_, rfl⟩
    replace hf := fc_of_nm hf v17 ev17
    refine lv_iinc (v := v17) (lv' := [(7, .int v17), (5, .long v16), (0, .ref o), (1, .int x1), (2, .int x2), (3, .int x3), (4, .int x4)]) C.1 C.2.1 (dd_at td_layGains 45 rfl) hl (k := 6) rfl (by rw [ev17]; rfl) (by decide) rfl (fun ls hl => ?_)
    refine lv_goto (tgt := 50) C.1 C.2.1 (dd_at td_layGains 46 rfl) (by decide) ?_
    exact hK50 x1 x2 x3 x4 v16 v17 st13 _ _ _ hf (lv_sub hl [2, 3, 4, 5, 6, 1, 0] rfl) hM
theorem w_layGains_b50 {p : Program} {l : Launch} {e : Env} {s : State} {m : MethodId} {args : Array Value} {below : List Frame} {meth : Method} {c : Code} {D : va_G} {o : Nat} {ad : Nat → Nat} {cs : ClassId × ClassId × ClassId} {st' : mm_S} (C : mm_C p s m args meth c cX12_layGains 8 (none) D cs) (fu : Nat) (K30 : Int32 → Int32 → Int32 → mm_S → Option mm_S) (hK30 : ∀ (x1 : Int32) (x2 : Int32) (x3 : Int32) (st : mm_S) (H : Heap) (locs : List Loc) (ls : Array Slot), K30 x1 x2 x3 st = some st' → lv_has ls 8 [(0, .ref o), (1, .int x1), (2, .int x2), (3, .int x3)] → mm_H D o ad cs s.heap st H locs → W p l e (mm_R 6 158) s m args below meth c H locs 0 0 (MQ below (mm_Qv D o ad cs st') args s 0 0 (mm_A o ad)) (F0 m 30 ls [])) (K37 : Int32 → Int32 → Int32 → Int32 → mm_S → Option mm_S) (hK37 : ∀ (x1 : Int32) (x2 : Int32) (x3 : Int32) (x4 : Int32) (st : mm_S) (H : Heap) (locs : List Loc) (ls : Array Slot), K37 x1 x2 x3 x4 st = some st' → lv_has ls 8 [(0, .ref o), (1, .int x1), (2, .int x2), (3, .int x3), (4, .int x4)] → mm_H D o ad cs s.heap st H locs → W p l e (mm_R 6 158) s m args below meth c H locs 0 0 (MQ below (mm_Qv D o ad cs st') args s 0 0 (mm_A o ad)) (F0 m 37 ls [])) (n : Nat) : ∀ (x1 : Int32) (x2 : Int32) (x3 : Int32) (x4 : Int32) (x5 : Int64) (x7 : Int32) (st : mm_S), M_layGains_b50 fu K30 K37 n x1 x2 x3 x4 x5 x7 st = some st' → ∀ (H : Heap) (locs : List Loc) (ls : Array Slot), lv_has ls 8 [(0, .ref o), (1, .int x1), (2, .int x2), (3, .int x3), (4, .int x4), (5, .long x5), (7, .int x7)] → mm_H D o ad cs s.heap st H locs → W p l e (mm_R 6 158) s m args below meth c H locs 0 0 (MQ below (mm_Qv D o ad cs st') args s 0 0 (mm_A o ad)) (F0 m 50 ls []) := by
  induction n with
  | zero => exact fun _ _ _ _ _ _ _ hf => fc_no hf
  | succ n ih =>
    intro x1 x2 x3 x4 x5 x7 st hf H locs ls hl hM
    exact w_layGains_b50F C fu K30 hK30 K37 hK37 (fun x1 x2 x3 x4 x5 x7 st => M_layGains_b50 fu K30 K37 n x1 x2 x3 x4 x5 x7 st) (fun x1 x2 x3 x4 x5 x7 st H locs ls hf hl hM => ih x1 x2 x3 x4 x5 x7 st hf H locs ls hl hM) x1 x2 x3 x4 x5 x7 st hf hl hM
theorem w_layGains_b37F {p : Program} {l : Launch} {e : Env} {s : State} {m : MethodId} {args : Array Value} {below : List Frame} {meth : Method} {c : Code} {D : va_G} {o : Nat} {ad : Nat → Nat} {cs : ClassId × ClassId × ClassId} {st' : mm_S} (C : mm_C p s m args meth c cX12_layGains 8 (none) D cs) (fu : Nat) (K30 : Int32 → Int32 → Int32 → mm_S → Option mm_S) (hK30 : ∀ (x1 : Int32) (x2 : Int32) (x3 : Int32) (st : mm_S) (H : Heap) (locs : List Loc) (ls : Array Slot), K30 x1 x2 x3 st = some st' → lv_has ls 8 [(0, .ref o), (1, .int x1), (2, .int x2), (3, .int x3)] → mm_H D o ad cs s.heap st H locs → W p l e (mm_R 6 158) s m args below meth c H locs 0 0 (MQ below (mm_Qv D o ad cs st') args s 0 0 (mm_A o ad)) (F0 m 30 ls [])) (K37 : Int32 → Int32 → Int32 → Int32 → mm_S → Option mm_S) (hK37 : ∀ (x1 : Int32) (x2 : Int32) (x3 : Int32) (x4 : Int32) (st : mm_S) (H : Heap) (locs : List Loc) (ls : Array Slot), K37 x1 x2 x3 x4 st = some st' → lv_has ls 8 [(0, .ref o), (1, .int x1), (2, .int x2), (3, .int x3), (4, .int x4)] → mm_H D o ad cs s.heap st H locs → W p l e (mm_R 6 158) s m args below meth c H locs 0 0 (MQ below (mm_Qv D o ad cs st') args s 0 0 (mm_A o ad)) (F0 m 37 ls [])) (x1 : Int32) (x2 : Int32) (x3 : Int32) (x4 : Int32) (st : mm_S) (hf : M_layGains_b37F fu K30 K37 x1 x2 x3 x4 st = some st') {H : Heap} {locs : List Loc} {ls : Array Slot} (hl : lv_has ls 8 [(0, .ref o), (1, .int x1), (2, .int x2), (3, .int x3), (4, .int x4)]) (hM : mm_H D o ad cs s.heap st H locs) : W p l e (mm_R 6 158) s m args below meth c H locs 0 0 (MQ below (mm_Qv D o ad cs st') args s 0 0 (mm_A o ad)) (F0 m 37 ls []) := by
  unfold M_layGains_b37F at hf
  refine lv_iload C.1 C.2.1 (dd_at td_layGains 24 rfl) (lv_at hl 4 rfl) ?_
  refine lv_bipush (v := (9 : Int32)) C.1 C.2.1 (dd_at td_layGains 25 rfl) (by decide) ?_
  refine lv_icmp_ge (tgt := 101) C.1 C.2.1 (dd_at td_layGains 26 rfl) (by decide) (fun c7 => ?_) (fun c7 => ?_)
  · replace hf := fc_of_t hf c7
    obtain ⟨v8, ev8⟩ : ∃ y : Int32, y = x3 + (-1 : Int32) := ⟨_, rfl⟩
    replace hf := fc_of_nm hf v8 ev8
    refine lv_iinc (v := v8) (lv' := [(3, .int v8), (0, .ref o), (1, .int x1), (2, .int x2), (4, .int x4)]) C.1 C.2.1 (dd_at td_layGains 58 rfl) hl (k := 3) rfl (by rw [ev8]; rfl) (by decide) rfl (fun ls hl => ?_)
    refine lv_goto (tgt := 30) C.1 C.2.1 (dd_at td_layGains 59 rfl) (by decide) ?_
    exact hK30 x1 x2 v8 st _ _ _ hf (lv_sub hl [1, 2, 3, 0] rfl) hM
  · replace hf := fc_of_f hf c7
    refine lv_lconst (v := (0 : Int64)) C.1 C.2.1 (dd_at td_layGains 27 rfl) (by decide) ?_
    refine lv_lstore (lv' := [(5, .long (0 : Int64)), (0, .ref o), (1, .int x1), (2, .int x2), (3, .int x3), (4, .int x4)]) C.1 C.2.1 (dd_at td_layGains 28 rfl) hl (by decide) rfl (fun ls hl => ?_)
    refine lv_iconst (v := (0 : Int32)) C.1 C.2.1 (dd_at td_layGains 29 rfl) (by decide) ?_
    refine lv_istore (lv' := [(7, .int (0 : Int32)), (5, .long (0 : Int64)), (0, .ref o), (1, .int x1), (2, .int x2), (3, .int x3), (4, .int x4)]) C.1 C.2.1 (dd_at td_layGains 30 rfl) hl (by decide) rfl (fun ls hl => ?_)
    exact w_layGains_b50 C fu K30 hK30 K37 hK37 fu x1 x2 x3 x4 (0 : Int64) (0 : Int32) st hf _ _ _ (lv_sub hl [2, 3, 4, 5, 6, 1, 0] rfl) hM
theorem w_layGains_b37 {p : Program} {l : Launch} {e : Env} {s : State} {m : MethodId} {args : Array Value} {below : List Frame} {meth : Method} {c : Code} {D : va_G} {o : Nat} {ad : Nat → Nat} {cs : ClassId × ClassId × ClassId} {st' : mm_S} (C : mm_C p s m args meth c cX12_layGains 8 (none) D cs) (fu : Nat) (K30 : Int32 → Int32 → Int32 → mm_S → Option mm_S) (hK30 : ∀ (x1 : Int32) (x2 : Int32) (x3 : Int32) (st : mm_S) (H : Heap) (locs : List Loc) (ls : Array Slot), K30 x1 x2 x3 st = some st' → lv_has ls 8 [(0, .ref o), (1, .int x1), (2, .int x2), (3, .int x3)] → mm_H D o ad cs s.heap st H locs → W p l e (mm_R 6 158) s m args below meth c H locs 0 0 (MQ below (mm_Qv D o ad cs st') args s 0 0 (mm_A o ad)) (F0 m 30 ls [])) (n : Nat) : ∀ (x1 : Int32) (x2 : Int32) (x3 : Int32) (x4 : Int32) (st : mm_S), M_layGains_b37 fu K30 n x1 x2 x3 x4 st = some st' → ∀ (H : Heap) (locs : List Loc) (ls : Array Slot), lv_has ls 8 [(0, .ref o), (1, .int x1), (2, .int x2), (3, .int x3), (4, .int x4)] → mm_H D o ad cs s.heap st H locs → W p l e (mm_R 6 158) s m args below meth c H locs 0 0 (MQ below (mm_Qv D o ad cs st') args s 0 0 (mm_A o ad)) (F0 m 37 ls []) := by
  induction n with
  | zero => exact fun _ _ _ _ _ hf => fc_no hf
  | succ n ih =>
    intro x1 x2 x3 x4 st hf H locs ls hl hM
    exact w_layGains_b37F C fu K30 hK30 (fun x1 x2 x3 x4 st => M_layGains_b37 fu K30 n x1 x2 x3 x4 st) (fun x1 x2 x3 x4 st H locs ls hf hl hM => ih x1 x2 x3 x4 st hf H locs ls hl hM) x1 x2 x3 x4 st hf hl hM
theorem w_layGains_b30F {p : Program} {l : Launch} {e : Env} {s : State} {m : MethodId} {args : Array Value} {below : List Frame} {meth : Method} {c : Code} {D : va_G} {o : Nat} {ad : Nat → Nat} {cs : ClassId × ClassId × ClassId} {st' : mm_S} (C : mm_C p s m args meth c cX12_layGains 8 (none) D cs) (fu : Nat) (K30 : Int32 → Int32 → Int32 → mm_S → Option mm_S) (hK30 : ∀ (x1 : Int32) (x2 : Int32) (x3 : Int32) (st : mm_S) (H : Heap) (locs : List Loc) (ls : Array Slot), K30 x1 x2 x3 st = some st' → lv_has ls 8 [(0, .ref o), (1, .int x1), (2, .int x2), (3, .int x3)] → mm_H D o ad cs s.heap st H locs → W p l e (mm_R 6 158) s m args below meth c H locs 0 0 (MQ below (mm_Qv D o ad cs st') args s 0 0 (mm_A o ad)) (F0 m 30 ls [])) (x1 : Int32) (x2 : Int32) (x3 : Int32) (st : mm_S) (hf : M_layGains_b30F fu K30 x1 x2 x3 st = some st') {H : Heap} {locs : List Loc} {ls : Array Slot} (hl : lv_has ls 8 [(0, .ref o), (1, .int x1), (2, .int x2), (3, .int x3)]) (hM : mm_H D o ad cs s.heap st H locs) : W p l e (mm_R 6 158) s m args below meth c H locs 0 0 (MQ below (mm_Qv D o ad cs st') args s 0 0 (mm_A o ad)) (F0 m 30 ls []) := by
  unfold M_layGains_b30F at hf
  refine lv_iload_n C.1 C.2.1 (dd_at td_layGains 20 rfl) rfl (lv_at hl 3 rfl) ?_
  refine lv_if_lt (tgt := 107) C.1 C.2.1 (dd_at td_layGains 21 rfl) (by decide) (fun c6 => ?_) (fun c6 => ?_)
  · replace hf := fc_of_t hf c6
    exact mm_rv C hM (dd_at td_layGains 60 rfl) hf
  · replace hf := fc_of_f hf c6
    refine lv_iconst (v := (0 : Int32)) C.1 C.2.1 (dd_at td_layGains 22 rfl) (by decide) ?_
    refine lv_istore (lv' := [(4, .int (0 : Int32)), (0, .ref o), (1, .int x1), (2, .int x2), (3, .int x3)]) C.1 C.2.1 (dd_at td_layGains 23 rfl) hl (by decide) rfl (fun ls hl => ?_)
    exact w_layGains_b37 C fu K30 hK30 fu x1 x2 x3 (0 : Int32) st hf _ _ _ (lv_sub hl [1, 2, 3, 4, 0] rfl) hM
theorem w_layGains_b30 {p : Program} {l : Launch} {e : Env} {s : State} {m : MethodId} {args : Array Value} {below : List Frame} {meth : Method} {c : Code} {D : va_G} {o : Nat} {ad : Nat → Nat} {cs : ClassId × ClassId × ClassId} {st' : mm_S} (C : mm_C p s m args meth c cX12_layGains 8 (none) D cs) (fu : Nat) (n : Nat) : ∀ (x1 : Int32) (x2 : Int32) (x3 : Int32) (st : mm_S), M_layGains_b30 fu n x1 x2 x3 st = some st' → ∀ (H : Heap) (locs : List Loc) (ls : Array Slot), lv_has ls 8 [(0, .ref o), (1, .int x1), (2, .int x2), (3, .int x3)] → mm_H D o ad cs s.heap st H locs → W p l e (mm_R 6 158) s m args below meth c H locs 0 0 (MQ below (mm_Qv D o ad cs st') args s 0 0 (mm_A o ad)) (F0 m 30 ls []) := by
  induction n with
  | zero => exact fun _ _ _ _ hf => fc_no hf
  | succ n ih =>
    intro x1 x2 x3 st hf H locs ls hl hM
    exact w_layGains_b30F C fu (fun x1 x2 x3 st => M_layGains_b30 fu n x1 x2 x3 st) (fun x1 x2 x3 st H locs ls hf hl hM => ih x1 x2 x3 st hf H locs ls hl hM) x1 x2 x3 st hf hl hM
theorem w_layGains_b2F {p : Program} {l : Launch} {e : Env} {s : State} {m : MethodId} {args : Array Value} {below : List Frame} {meth : Method} {c : Code} {D : va_G} {o : Nat} {ad : Nat → Nat} {cs : ClassId × ClassId × ClassId} {st' : mm_S} (C : mm_C p s m args meth c cX12_layGains 8 (none) D cs) (fu : Nat) (K2 : Int32 → Int32 → Int32 → mm_S → Option mm_S) (hK2 : ∀ (x1 : Int32) (x2 : Int32) (x3 : Int32) (st : mm_S) (H : Heap) (locs : List Loc) (ls : Array Slot), K2 x1 x2 x3 st = some st' → lv_has ls 8 [(0, .ref o), (1, .int x1), (2, .int x2), (3, .int x3)] → mm_H D o ad cs s.heap st H locs → W p l e (mm_R 6 158) s m args below meth c H locs 0 0 (MQ below (mm_Qv D o ad cs st') args s 0 0 (mm_A o ad)) (F0 m 2 ls [])) (x1 : Int32) (x2 : Int32) (x3 : Int32) (st : mm_S) (hf : M_layGains_b2F fu K2 x1 x2 x3 st = some st') {H : Heap} {locs : List Loc} {ls : Array Slot} (hl : lv_has ls 8 [(0, .ref o), (1, .int x1), (2, .int x2), (3, .int x3)]) (hM : mm_H D o ad cs s.heap st H locs) : W p l e (mm_R 6 158) s m args below meth c H locs 0 0 (MQ below (mm_Qv D o ad cs st') args s 0 0 (mm_A o ad)) (F0 m 2 ls []) := by
  unfold M_layGains_b2F at hf
  refine lv_iload_n C.1 C.2.1 (dd_at td_layGains 2 rfl) rfl (lv_at hl 3 rfl) ?_
  refine lv_bipush (v := (9 : Int32)) C.1 C.2.1 (dd_at td_layGains 3 rfl) (by decide) ?_
  refine lv_icmp_ge (tgt := 26) C.1 C.2.1 (dd_at td_layGains 4 rfl) (by decide) (fun c1 => ?_) (fun c1 => ?_)
  · replace hf := fc_of_t hf c1
    refine lv_iload_n C.1 C.2.1 (dd_at td_layGains 16 rfl) rfl (lv_at hl 2 rfl) ?_
    refine lv_iconst (v := (1 : Int32)) C.1 C.2.1 (dd_at td_layGains 17 rfl) (by decide) ?_
    refine lv_isub C.1 C.2.1 (dd_at td_layGains 18 rfl) ?_
    refine lv_topi (fun v2 ev2 => ?_)
    replace hf := fc_of_nm hf v2 ev2
    refine lv_istore_n (lv' := [(3, .int v2), (0, .ref o), (1, .int x1), (2, .int x2)]) C.1 C.2.1 (dd_at td_layGains 19 rfl) rfl hl (by decide) rfl (fun ls hl => ?_)
    exact w_layGains_b30 C fu fu x1 x2 v2 st hf _ _ _ (lv_sub hl [1, 2, 3, 0] rfl) hM
  · replace hf := fc_of_f hf c1
    refine lv_aload_n C.1 C.2.1 (dd_at td_layGains 5 rfl) rfl (lv_at hl 0 rfl) ?_
    refine mm_gA C hM 26 (dd_at td_layGains 6 rfl) (by decide) (by decide) (by decide) ?_
    refine lv_bipush (v := (10 : Int32)) C.1 C.2.1 (dd_at td_layGains 7 rfl) (by decide) ?_
    refine lv_iload_n C.1 C.2.1 (dd_at td_layGains 8 rfl) rfl (lv_at hl 2 rfl) ?_
    refine lv_imul C.1 C.2.1 (dd_at td_layGains 9 rfl) ?_
    refine lv_iload_n C.1 C.2.1 (dd_at td_layGains 10 rfl) rfl (lv_at hl 3 rfl) ?_
    refine lv_iadd C.1 C.2.1 (dd_at td_layGains 11 rfl) ?_
    refine lv_lconst (v := (0 : Int64)) C.1 C.2.1 (dd_at td_layGains 12 rfl) (by decide) ?_
    obtain ⟨g3, hf⟩ := fc_of_gd hf
    refine mm_last C hM 26 (dd_at td_layGains 13 rfl) (by decide) (by decide) (fc_of_ix g3) (fun st4 H locs est4 hM => ?_)
    replace hf := fc_of_nm hf st4 est4
    obtain ⟨v5, ev5⟩ : ∃ y : Int32, y = x3 + (1 : Int32) := ⟨_, rfl⟩
    replace hf := fc_of_nm hf v5 ev5
    refine lv_iinc (v := v5) (lv' := [(3, .int v5), (0, .ref o), (1, .int x1), (2, .int x2)]) C.1 C.2.1 (dd_at td_layGains 14 rfl) hl (k := 3) rfl (by rw [ev5]; rfl) (by decide) rfl (fun ls hl => ?_)
    refine lv_goto (tgt := 2) C.1 C.2.1 (dd_at td_layGains 15 rfl) (by decide) ?_
    exact hK2 x1 x2 v5 st4 _ _ _ hf (lv_sub hl [1, 2, 3, 0] rfl) hM
theorem w_layGains_b2 {p : Program} {l : Launch} {e : Env} {s : State} {m : MethodId} {args : Array Value} {below : List Frame} {meth : Method} {c : Code} {D : va_G} {o : Nat} {ad : Nat → Nat} {cs : ClassId × ClassId × ClassId} {st' : mm_S} (C : mm_C p s m args meth c cX12_layGains 8 (none) D cs) (fu : Nat) (n : Nat) : ∀ (x1 : Int32) (x2 : Int32) (x3 : Int32) (st : mm_S), M_layGains_b2 fu n x1 x2 x3 st = some st' → ∀ (H : Heap) (locs : List Loc) (ls : Array Slot), lv_has ls 8 [(0, .ref o), (1, .int x1), (2, .int x2), (3, .int x3)] → mm_H D o ad cs s.heap st H locs → W p l e (mm_R 6 158) s m args below meth c H locs 0 0 (MQ below (mm_Qv D o ad cs st') args s 0 0 (mm_A o ad)) (F0 m 2 ls []) := by
  induction n with
  | zero => exact fun _ _ _ _ hf => fc_no hf
  | succ n ih =>
    intro x1 x2 x3 st hf H locs ls hl hM
    exact w_layGains_b2F C fu (fun x1 x2 x3 st => M_layGains_b2 fu n x1 x2 x3 st) (fun x1 x2 x3 st H locs ls hf hl hM => ih x1 x2 x3 st hf H locs ls hl hM) x1 x2 x3 st hf hl hM
theorem w_layGains {p : Program} {l : Launch} {e : Env} {s : State} {m : MethodId} {args : Array Value} {below : List Frame} {meth : Method} {c : Code} {D : va_G} {o : Nat} {ad : Nat → Nat} {cs : ClassId × ClassId × ClassId} {st' : mm_S} (C : mm_C p s m args meth c cX12_layGains 8 (none) D cs) (fu : Nat) (x1 : Int32) (x2 : Int32) (st : mm_S) (hf : M_layGains fu x1 x2 st = some st') {H : Heap} {locs : List Loc} {ls : Array Slot} (hl : lv_has ls 8 [(0, .ref o), (1, .int x1), (2, .int x2)]) (hM : mm_H D o ad cs s.heap st H locs) : W p l e (mm_R 6 158) s m args below meth c H locs 0 0 (MQ below (mm_Qv D o ad cs st') args s 0 0 (mm_A o ad)) (F0 m 0 ls []) := by
  unfold M_layGains at hf
  refine lv_iconst (v := (0 : Int32)) C.1 C.2.1 (dd_at td_layGains 0 rfl) (by decide) ?_
  refine lv_istore_n (lv' := [(3, .int (0 : Int32)), (0, .ref o), (1, .int x1), (2, .int x2)]) C.1 C.2.1 (dd_at td_layGains 1 rfl) rfl hl (by decide) rfl (fun ls hl => ?_)
  exact w_layGains_b2 C fu fu x1 x2 (0 : Int32) st hf _ _ _ (lv_sub hl [1, 2, 3, 0] rfl) hM
theorem c_layGains (l : Launch) (D : va_G) (o : Nat) (ad : Nat → Nat) (cs : ClassId × ClassId × ClassId) (fu : Nat) (x1 : Int32) (x2 : Int32) (st : mm_S) : mm_Mv l D o ad cs yX12_layGains cX12_layGains 8 (none) 6 158 [.int x1, .int x2] st (M_layGains fu x1 x2 st) := by
  intro st' hf
  refine mm_enter (cc := cX12_layGains) (nL := 8) (ret := none) (by decide) rfl (Nat.le_of_ble_eq_true rfl) ?_
  intro p e s m args below meth c ls C hl hM
  exact w_layGains C fu x1 x2 st hf hl hM

/-! divisor -/
def tb_divisor : List (Nat × Instr × Nat) := [(0, .lload_n 1, 1), (1, .lconst 0, 1), (2, .lcmp, 1), (3, .ifCond .ge 8, 3), (6, .lload_n 1, 1), (7, .lneg, 1), (8, .goto 4, 3), (11, .lload_n 1, 1), (12, .lstore 5, 2), (14, .lload_n 3, 1), (15, .lstore 7, 2), (17, .lload 7, 2), (19, .lconst 0, 1), (20, .lcmp, 1), (21, .ifCond .eq 21, 3), (24, .lload 5, 2), (26, .lload 7, 2), (28, .lrem, 1), (29, .lstore 9, 2), (31, .lload 7, 2), (33, .lstore 5, 2), (35, .lload 9, 2), (37, .lstore 7, 2), (39, .goto (-22), 3), (42, .lload 5, 2), (44, .lreturn, 1)]
theorem td_divisor : tb_divisor.all (fun q => decide (decode cX12_divisor q.1 = .ok (q.2.1, q.2.2))) = true := by decide +kernel
theorem hd_divisor : yX12_divisor.cls = RX12 ∧ yX12_divisor.cls ≠ "java/lang/invoke/MethodHandle" ∧ yX12_divisor.cls ≠ "java/lang/invoke/VarHandle" ∧ (parseMethodDescriptor yX12_divisor.desc).map (fun d => d.parameters.length) = some 2 := by decide +kernel
theorem w_divisor_b17F {p : Program} {l : Launch} {e : Env} {s : State} {m : MethodId} {args : Array Value} {below : List Frame} {meth : Method} {c : Code} {D : va_G} {o : Nat} {ad : Nat → Nat} {cs : ClassId × ClassId × ClassId} {r : Int64} {st' : mm_S} (C : mm_C p s m args meth c cX12_divisor 11 (some .long) D cs) (fu : Nat) (K17 : Int64 → Int64 → mm_S → Option (Int64 × mm_S)) (hK17 : ∀ (x5 : Int64) (x7 : Int64) (st : mm_S) (H : Heap) (locs : List Loc) (ls : Array Slot), K17 x5 x7 st = some (r, st') → lv_has ls 11 [(0, .ref o), (5, .long x5), (7, .long x7)] → mm_H D o ad cs s.heap st H locs → W p l e (mm_R 0 0) s m args below meth c H locs 0 0 (MQ below (mm_Ql D o ad cs r st') args s 0 0 (mm_A o ad)) (F0 m 17 ls [])) (x5 : Int64) (x7 : Int64) (st : mm_S) (hf : M_divisor_b17F fu K17 x5 x7 st = some (r, st')) {H : Heap} {locs : List Loc} {ls : Array Slot} (hl : lv_has ls 11 [(0, .ref o), (5, .long x5), (7, .long x7)]) (hM : mm_H D o ad cs s.heap st H locs) : W p l e (mm_R 0 0) s m args below meth c H locs 0 0 (MQ below (mm_Ql D o ad cs r st') args s 0 0 (mm_A o ad)) (F0 m 17 ls []) := by
  unfold M_divisor_b17F at hf
  refine lv_lload C.1 C.2.1 (dd_at td_divisor 11 rfl) (lv_at hl 2 rfl) ?_
  refine lv_lconst (v := (0 : Int64)) C.1 C.2.1 (dd_at td_divisor 12 rfl) (by decide) ?_
  refine W.lcmp C.1 C.2.1 (dd_at td_divisor 13 rfl) ?_
  refine lv_if_eq (tgt := 42) C.1 C.2.1 (dd_at td_divisor 14 rfl) (by decide) (fun c2 => ?_) (fun c2 => ?_)
  · replace hf := fc_of_t hf c2
    refine lv_lload C.1 C.2.1 (dd_at td_divisor 24 rfl) (lv_at hl 1 rfl) ?_
    exact mm_rl C hM (dd_at td_divisor 25 rfl) hf
  · replace hf := fc_of_f hf c2
    refine lv_lload C.1 C.2.1 (dd_at td_divisor 15 rfl) (lv_at hl 1 rfl) ?_
    refine lv_lload C.1 C.2.1 (dd_at td_divisor 16 rfl) (lv_at hl 2 rfl) ?_
    obtain ⟨g3, hf⟩ := fc_of_gd hf
    refine lv_lrem C.1 C.2.1 (dd_at td_divisor 17 rfl) (fc_of_nzl g3) ?_
    refine lv_topl (fun v4 ev4 => ?_)
    replace hf := fc_of_nm hf v4 ev4
    refine lv_lstore (lv' := [(9, .long v4), (0, .ref o), (5, .long x5), (7, .long x7)]) C.1 C.2.1 (dd_at td_divisor 18 rfl) hl (by decide) rfl (fun ls hl => ?_)
    refine lv_lload C.1 C.2.1 (dd_at td_divisor 19 rfl) (lv_at hl 3 rfl) ?_
    refine lv_lstore (lv' := [(5, .long x7), (9, .long v4), (0, .ref o), (7, .long x7)]) C.1 C.2.1 (dd_at td_divisor 20 rfl) hl (by decide) rfl (fun ls hl => ?_)
    refine lv_lload C.1 C.2.1 (dd_at td_divisor 21 rfl) (lv_at hl 1 rfl) ?_
    refine lv_lstore (lv' := [(7, .long v4), (5, .long x7), (9, .long v4), (0, .ref o)]) C.1 C.2.1 (dd_at td_divisor 22 rfl) hl (by decide) rfl (fun ls hl => ?_)
    refine lv_goto (tgt := 17) C.1 C.2.1 (dd_at td_divisor 23 rfl) (by decide) ?_
    exact hK17 x7 v4 st _ _ _ hf (lv_sub hl [3, 1, 0] rfl) hM
theorem w_divisor_b17 {p : Program} {l : Launch} {e : Env} {s : State} {m : MethodId} {args : Array Value} {below : List Frame} {meth : Method} {c : Code} {D : va_G} {o : Nat} {ad : Nat → Nat} {cs : ClassId × ClassId × ClassId} {r : Int64} {st' : mm_S} (C : mm_C p s m args meth c cX12_divisor 11 (some .long) D cs) (fu : Nat) (n : Nat) : ∀ (x5 : Int64) (x7 : Int64) (st : mm_S), M_divisor_b17 fu n x5 x7 st = some (r, st') → ∀ (H : Heap) (locs : List Loc) (ls : Array Slot), lv_has ls 11 [(0, .ref o), (5, .long x5), (7, .long x7)] → mm_H D o ad cs s.heap st H locs → W p l e (mm_R 0 0) s m args below meth c H locs 0 0 (MQ below (mm_Ql D o ad cs r st') args s 0 0 (mm_A o ad)) (F0 m 17 ls []) := by
  induction n with
  | zero => exact fun _ _ _ hf => fc_no hf
  | succ n ih =>
    intro x5 x7 st hf H locs ls hl hM
    exact w_divisor_b17F C fu (fun x5 x7 st => M_divisor_b17 fu n x5 x7 st) (fun x5 x7 st H locs ls hf hl hM => ih x5 x7 st hf H locs ls hl hM) x5 x7 st hf hl hM
theorem w_divisor_b12 {p : Program} {l : Launch} {e : Env} {s : State} {m : MethodId} {args : Array Value} {below : List Frame} {meth : Method} {c : Code} {D : va_G} {o : Nat} {ad : Nat → Nat} {cs : ClassId × ClassId × ClassId} {r : Int64} {st' : mm_S} (C : mm_C p s m args meth c cX12_divisor 11 (some .long) D cs) (fu : Nat) (x3 : Int64) (s0 : Int64) (st : mm_S) (hf : M_divisor_b12 fu x3 s0 st = some (r, st')) {H : Heap} {locs : List Loc} {ls : Array Slot} (hl : lv_has ls 11 [(0, .ref o), (3, .long x3)]) (hM : mm_H D o ad cs s.heap st H locs) : W p l e (mm_R 0 0) s m args below meth c H locs 0 0 (MQ below (mm_Ql D o ad cs r st') args s 0 0 (mm_A o ad)) (F0 m 12 ls [.long s0]) := by
  unfold M_divisor_b12 at hf
  refine lv_lstore (lv' := [(5, .long s0), (0, .ref o), (3, .long x3)]) C.1 C.2.1 (dd_at td_divisor 8 rfl) hl (by decide) rfl (fun ls hl => ?_)
  refine lv_lload_n C.1 C.2.1 (dd_at td_divisor 9 rfl) rfl (lv_at hl 2 rfl) ?_
  refine lv_lstore (lv' := [(7, .long x3), (5, .long s0), (0, .ref o), (3, .long x3)]) C.1 C.2.1 (dd_at td_divisor 10 rfl) hl (by decide) rfl (fun ls hl => ?_)
  exact w_divisor_b17 C fu fu s0 x3 st hf _ _ _ (lv_sub hl [2, 1, 0] rfl) hM
theorem w_divisor {p : Program} {l : Launch} {e : Env} {s : State} {m : MethodId} {args : Array Value} {below : List Frame} {meth : Method} {c : Code} {D : va_G} {o : Nat} {ad : Nat → Nat} {cs : ClassId × ClassId × ClassId} {r : Int64} {st' : mm_S} (C : mm_C p s m args meth c cX12_divisor 11 (some .long) D cs) (fu : Nat) (x1 : Int64) (x3 : Int64) (st : mm_S) (hf : M_divisor fu x1 x3 st = some (r, st')) {H : Heap} {locs : List Loc} {ls : Array Slot} (hl : lv_has ls 11 [(0, .ref o), (1, .long x1), (3, .long x3)]) (hM : mm_H D o ad cs s.heap st H locs) : W p l e (mm_R 0 0) s m args below meth c H locs 0 0 (MQ below (mm_Ql D o ad cs r st') args s 0 0 (mm_A o ad)) (F0 m 0 ls []) := by
  unfold M_divisor at hf
  refine lv_lload_n C.1 C.2.1 (dd_at td_divisor 0 rfl) rfl (lv_at hl 1 rfl) ?_
  refine lv_lconst (v := (0 : Int64)) C.1 C.2.1 (dd_at td_divisor 1 rfl) (by decide) ?_
  refine W.lcmp C.1 C.2.1 (dd_at td_divisor 2 rfl) ?_
  refine lv_if_ge (tgt := 11) C.1 C.2.1 (dd_at td_divisor 3 rfl) (by decide) (fun c1 => ?_) (fun c1 => ?_)
  · replace hf := fc_of_t hf c1
    refine lv_lload_n C.1 C.2.1 (dd_at td_divisor 7 rfl) rfl (lv_at hl 1 rfl) ?_
    exact w_divisor_b12 C fu x3 x1 st hf (lv_sub hl [0, 2] rfl) hM
  · replace hf := fc_of_f hf c1
    refine lv_lload_n C.1 C.2.1 (dd_at td_divisor 4 rfl) rfl (lv_at hl 1 rfl) ?_
    refine lv_lneg C.1 C.2.1 (dd_at td_divisor 5 rfl) ?_
    refine lv_goto (tgt := 12) C.1 C.2.1 (dd_at td_divisor 6 rfl) (by decide) ?_
    exact w_divisor_b12 C fu x3 (-x1) st hf (lv_sub hl [0, 2] rfl) hM
theorem c_divisor (l : Launch) (D : va_G) (o : Nat) (ad : Nat → Nat) (cs : ClassId × ClassId × ClassId) (fu : Nat) (x1 : Int64) (x3 : Int64) (st : mm_S) : mm_Ml l D o ad cs yX12_divisor cX12_divisor 11 (some .long) 0 0 [.long x1, .long x3] st (M_divisor fu x1 x3 st) := by
  intro r st' hf
  refine mm_enter (cc := cX12_divisor) (nL := 11) (ret := some .long) (by decide) rfl (Nat.le_of_ble_eq_true rfl) ?_
  intro p e s m args below meth c ls C hl hM
  exact w_divisor C fu x1 x3 st hf hl hM

/-! lowest -/
def tb_lowest : List (Nat × Instr × Nat) := [(0, .aload_n 0, 1), (1, .lload_n 1, 1), (2, .lload_n 3, 1), (3, .invokevirtual 311, 3), (6, .lstore 6, 2), (8, .iload 5, 2), (10, .ifCond .ne 10, 3), (13, .lload_n 1, 1), (14, .lload 6, 2), (16, .ldiv, 1), (17, .goto 7, 3), (20, .lload_n 3, 1), (21, .lload 6, 2), (23, .ldiv, 1), (24, .lreturn, 1)]
theorem td_lowest : tb_lowest.all (fun q => decide (decode cX12_lowest q.1 = .ok (q.2.1, q.2.2))) = true := by decide +kernel
theorem hd_lowest : yX12_lowest.cls = RX12 ∧ yX12_lowest.cls ≠ "java/lang/invoke/MethodHandle" ∧ yX12_lowest.cls ≠ "java/lang/invoke/VarHandle" ∧ (parseMethodDescriptor yX12_lowest.desc).map (fun d => d.parameters.length) = some 3 := by decide +kernel
theorem w_lowest {p : Program} {l : Launch} {e : Env} {s : State} {m : MethodId} {args : Array Value} {below : List Frame} {meth : Method} {c : Code} {D : va_G} {o : Nat} {ad : Nat → Nat} {cs : ClassId × ClassId × ClassId} {r : Int64} {st' : mm_S} (C : mm_C p s m args meth c cX12_lowest 8 (some .long) D cs) (fu : Nat) (x1 : Int64) (x3 : Int64) (x5 : Int32) (st : mm_S) (hf : M_lowest fu x1 x3 x5 st = some (r, st')) {H : Heap} {locs : List Loc} {ls : Array Slot} (hl : lv_has ls 8 [(0, .ref o), (1, .long x1), (3, .long x3), (5, .int x5)]) (hM : mm_H D o ad cs s.heap st H locs) : W p l e (mm_R 1 30) s m args below meth c H locs 0 0 (MQ below (mm_Ql D o ad cs r st') args s 0 0 (mm_A o ad)) (F0 m 0 ls []) := by
  unfold M_lowest at hf
  refine lv_aload_n C.1 C.2.1 (dd_at td_lowest 0 rfl) rfl (lv_at hl 0 rfl) ?_
  refine lv_lload_n C.1 C.2.1 (dd_at td_lowest 1 rfl) rfl (lv_at hl 1 rfl) ?_
  refine lv_lload_n C.1 C.2.1 (dd_at td_lowest 2 rfl) rfl (lv_at hl 2 rfl) ?_
  obtain ⟨r3, st1, hx2, hf⟩ := fc_of_bn hf
  refine mm_cl (As := [.long x1, .long x3]) (rest := []) (n := 2) C hM (c_divisor l D o ad cs fu x1 x3 st) (List.mem_of_getElem? (i := 7) rfl) (dd_at td_lowest 3 rfl) hx2 hl.1 hd_divisor ⟨Nat.le_of_ble_eq_true rfl, Nat.le_of_ble_eq_true rfl⟩ rfl rfl (Nat.le_of_ble_eq_true rfl) ⟨Nat.le_refl 0, Nat.le_refl 0⟩ (fun H locs hM => ?_)
  refine lv_lstore (lv' := [(6, .long r3), (0, .ref o), (1, .long x1), (3, .long x3), (5, .int x5)]) C.1 C.2.1 (dd_at td_lowest 4 rfl) hl (by decide) rfl (fun ls hl => ?_)
  refine lv_iload C.1 C.2.1 (dd_at td_lowest 5 rfl) (lv_at hl 4 rfl) ?_
  refine lv_if_ne (tgt := 20) C.1 C.2.1 (dd_at td_lowest 6 rfl) (by decide) (fun c4 => ?_) (fun c4 => ?_)
  · replace hf := fc_of_f hf c4
    refine lv_lload_n C.1 C.2.1 (dd_at td_lowest 11 rfl) rfl (lv_at hl 3 rfl) ?_
    refine lv_lload C.1 C.2.1 (dd_at td_lowest 12 rfl) (lv_at hl 0 rfl) ?_
    obtain ⟨g5, hf⟩ := fc_of_gd hf
    refine lv_ldiv C.1 C.2.1 (dd_at td_lowest 13 rfl) (fc_of_nzl g5) ?_
    exact mm_rl C hM (dd_at td_lowest 14 rfl) hf
  · replace hf := fc_of_t hf c4
    refine lv_lload_n C.1 C.2.1 (dd_at td_lowest 7 rfl) rfl (lv_at hl 2 rfl) ?_
    refine lv_lload C.1 C.2.1 (dd_at td_lowest 8 rfl) (lv_at hl 0 rfl) ?_
    obtain ⟨g6, hf⟩ := fc_of_gd hf
    refine lv_ldiv C.1 C.2.1 (dd_at td_lowest 9 rfl) (fc_of_nzl g6) ?_
    refine lv_goto (tgt := 24) C.1 C.2.1 (dd_at td_lowest 10 rfl) (by decide) ?_
    exact mm_rl C hM (dd_at td_lowest 14 rfl) hf
theorem c_lowest (l : Launch) (D : va_G) (o : Nat) (ad : Nat → Nat) (cs : ClassId × ClassId × ClassId) (fu : Nat) (x1 : Int64) (x3 : Int64) (x5 : Int32) (st : mm_S) : mm_Ml l D o ad cs yX12_lowest cX12_lowest 8 (some .long) 1 30 [.long x1, .long x3, .int x5] st (M_lowest fu x1 x3 x5 st) := by
  intro r st' hf
  refine mm_enter (cc := cX12_lowest) (nL := 8) (ret := some .long) (by decide) rfl (Nat.le_of_ble_eq_true rfl) ?_
  intro p e s m args below meth c ls C hl hM
  exact w_lowest C fu x1 x3 x5 st hf hl hM

/-! isYears -/
def tb_isYears : List (Nat × Instr × Nat) := [(0, .aload_n 0, 1), (1, .iload_n 1, 1), (2, .iconst 0, 1), (3, .bipush 8, 2), (5, .invokevirtual 207, 3), (8, .ireturn, 1)]
theorem td_isYears : tb_isYears.all (fun q => decide (decode cX12_isYears q.1 = .ok (q.2.1, q.2.2))) = true := by decide +kernel
theorem hd_isYears : yX12_isYears.cls = RX12 ∧ yX12_isYears.cls ≠ "java/lang/invoke/MethodHandle" ∧ yX12_isYears.cls ≠ "java/lang/invoke/VarHandle" ∧ (parseMethodDescriptor yX12_isYears.desc).map (fun d => d.parameters.length) = some 1 := by decide +kernel
theorem w_isYears {p : Program} {l : Launch} {e : Env} {s : State} {m : MethodId} {args : Array Value} {below : List Frame} {meth : Method} {c : Code} {D : va_G} {o : Nat} {ad : Nat → Nat} {cs : ClassId × ClassId × ClassId} {r : Int32} {st' : mm_S} (C : mm_C p s m args meth c cX12_isYears 2 (some .boolean) D cs) (fu : Nat) (x1 : Int32) (st : mm_S) (hf : M_isYears fu x1 st = some (r, st')) {H : Heap} {locs : List Loc} {ls : Array Slot} (hl : lv_has ls 2 [(0, .ref o), (1, .int x1)]) (hM : mm_H D o ad cs s.heap st H locs) : W p l e (mm_R 1 23) s m args below meth c H locs 0 0 (MQ below (mm_Qi D o ad cs r st') args s 0 0 (mm_A o ad)) (F0 m 0 ls []) := by
  unfold M_isYears at hf
  refine lv_aload_n C.1 C.2.1 (dd_at td_isYears 0 rfl) rfl (lv_at hl 0 rfl) ?_
  refine lv_iload_n C.1 C.2.1 (dd_at td_isYears 1 rfl) rfl (lv_at hl 1 rfl) ?_
  refine lv_iconst (v := (0 : Int32)) C.1 C.2.1 (dd_at td_isYears 2 rfl) (by decide) ?_
  refine lv_bipush (v := (8 : Int32)) C.1 C.2.1 (dd_at td_isYears 3 rfl) (by decide) ?_
  obtain ⟨r3, st1, hx2, hf⟩ := fc_of_bn hf
  refine mm_ci (As := [.int x1, .int (0 : Int32), .int (8 : Int32)]) (rest := []) (n := 3) C hM (c_in l D o ad cs fu x1 (0 : Int32) (8 : Int32) st) (List.mem_of_getElem? (i := 18) rfl) (dd_at td_isYears 4 rfl) hx2 hl.1 hd_in ⟨Nat.le_of_ble_eq_true rfl, Nat.le_of_ble_eq_true rfl⟩ rfl rfl (Nat.le_of_ble_eq_true rfl) ⟨Nat.le_refl 0, Nat.le_refl 0⟩ (fun H locs hM => ?_)
  obtain ⟨g4, hf⟩ := fc_of_gd hf
  exact mm_rz C hM (dd_at td_isYears 5 rfl) (fc_of_zb g4) hf
theorem c_isYears (l : Launch) (D : va_G) (o : Nat) (ad : Nat → Nat) (cs : ClassId × ClassId × ClassId) (fu : Nat) (x1 : Int32) (st : mm_S) : mm_Mi l D o ad cs yX12_isYears cX12_isYears 2 (some .boolean) 1 23 [.int x1] st (M_isYears fu x1 st) := by
  intro r st' hf
  refine mm_enter (cc := cX12_isYears) (nL := 2) (ret := some .boolean) (by decide) rfl (Nat.le_of_ble_eq_true rfl) ?_
  intro p e s m args below meth c ls C hl hM
  exact w_isYears C fu x1 st hf hl hM

