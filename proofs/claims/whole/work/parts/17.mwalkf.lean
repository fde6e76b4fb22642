/-! undo -/
def tb_undo : List (Nat × Instr × Nat) := [(0, .aload_n 0, 1), (1, .getfield 127, 3), (4, .ifCond .ne 6, 3), (7, .bipush (-3), 2), (9, .ireturn, 1), (10, .aload_n 0, 1), (11, .aload_n 0, 1), (12, .getfield 131, 3), (15, .putfield 38, 3), (18, .aload_n 0, 1), (19, .aload_n 0, 1), (20, .getfield 134, 3), (23, .putfield 7, 3), (26, .aload_n 0, 1), (27, .aload_n 0, 1), (28, .getfield 137, 3), (31, .putfield 13, 3), (34, .aload_n 0, 1), (35, .aload_n 0, 1), (36, .getfield 140, 3), (39, .putfield 16, 3), (42, .aload_n 0, 1), (43, .aload_n 0, 1), (44, .getfield 143, 3), (47, .putfield 19, 3), (50, .aload_n 0, 1), (51, .aload_n 0, 1), (52, .getfield 146, 3), (55, .putfield 100, 3), (58, .aload_n 0, 1), (59, .aload_n 0, 1), (60, .getfield 149, 3), (63, .putfield 106, 3), (66, .aload_n 0, 1), (67, .aload_n 0, 1), (68, .getfield 152, 3), (71, .putfield 109, 3), (74, .iconst 0, 1), (75, .istore_n 1, 1), (76, .iload_n 1, 1), (77, .bipush 6, 2), (79, .if_icmp .ge 45, 3), (82, .aload_n 0, 1), (83, .getfield 22, 3), (86, .iload_n 1, 1), (87, .aload_n 0, 1), (88, .getfield 155, 3), (91, .iload_n 1, 1), (92, .iaload, 1), (93, .iastore, 1), (94, .aload_n 0, 1), (95, .getfield 26, 3), (98, .iload_n 1, 1), (99, .aload_n 0, 1), (100, .getfield 158, 3), (103, .iload_n 1, 1), (104, .iaload, 1), (105, .iastore, 1), (106, .aload_n 0, 1), (107, .getfield 29, 3), (110, .iload_n 1, 1), (111, .aload_n 0, 1), (112, .getfield 161, 3), (115, .iload_n 1, 1), (116, .iaload, 1), (117, .iastore, 1), (118, .iinc 1 1, 3), (121, .goto (-45), 3), (124, .iconst 0, 1), (125, .istore_n 1, 1), (126, .iload_n 1, 1), (127, .bipush 24, 2), (129, .if_icmp .ge 21, 3), (132, .aload_n 0, 1), (133, .getfield 32, 3), (136, .iload_n 1, 1), (137, .aload_n 0, 1), (138, .getfield 164, 3), (141, .iload_n 1, 1), (142, .iaload, 1), (143, .iastore, 1), (144, .iinc 1 1, 3), (147, .goto (-21), 3), (150, .iconst 0, 1), (151, .istore_n 1, 1), (152, .iload_n 1, 1), (153, .iconst 5, 1), (154, .if_icmp .ge 45, 3), (157, .aload_n 0, 1), (158, .getfield 112, 3), (161, .iload_n 1, 1), (162, .aload_n 0, 1), (163, .getfield 170, 3), (166, .iload_n 1, 1), (167, .iaload, 1), (168, .iastore, 1), (169, .aload_n 0, 1), (170, .getfield 115, 3), (173, .iload_n 1, 1), (174, .aload_n 0, 1), (175, .getfield 173, 3), (178, .iload_n 1, 1), (179, .iaload, 1), (180, .iastore, 1), (181, .aload_n 0, 1), (182, .getfield 118, 3), (185, .iload_n 1, 1), (186, .aload_n 0, 1), (187, .getfield 176, 3), (190, .iload_n 1, 1), (191, .iaload, 1), (192, .iastore, 1), (193, .iinc 1 1, 3), (196, .goto (-44), 3), (199, .iconst 0, 1), (200, .istore_n 1, 1), (201, .iload_n 1, 1), (202, .bipush 8, 2), (204, .if_icmp .ge 45, 3), (207, .aload_n 0, 1), (208, .getfield 103, 3), (211, .iload_n 1, 1), (212, .aload_n 0, 1), (213, .getfield 167, 3), (216, .iload_n 1, 1), (217, .iaload, 1), (218, .iastore, 1), (219, .aload_n 0, 1), (220, .getfield 121, 3), (223, .iload_n 1, 1), (224, .aload_n 0, 1), (225, .getfield 179, 3), (228, .iload_n 1, 1), (229, .iaload, 1), (230, .iastore, 1), (231, .aload_n 0, 1), (232, .getfield 124, 3), (235, .iload_n 1, 1), (236, .aload_n 0, 1), (237, .getfield 182, 3), (240, .iload_n 1, 1), (241, .iaload, 1), (242, .iastore, 1), (243, .iinc 1 1, 3), (246, .goto (-45), 3), (249, .aload_n 0, 1), (250, .getfield 7, 3), (253, .ireturn, 1)]
theorem td_undo : tb_undo.all (fun q => decide (decode cX12_undo q.1 = .ok (q.2.1, q.2.2))) = true := by decide +kernel
theorem w_undo_b201F {p : Program} {l : Launch} {e : Env} {s : State} {m : MethodId} {args : Array Value} {below : List Frame} {meth : Method} {c : Code} {D : va_G} {o : Nat} {ad : Nat → Nat} {cs : ClassId × ClassId × ClassId} {r : Int32} {st' : mm_S} (C : mm_C p s m args meth c cX12_undo 2 (some .int) D cs) (fu : Nat) (K201 : Int32 → mm_S → Option (Int32 × mm_S)) (hK201 : ∀ (x1 : Int32) (st : mm_S) (H : Heap) (locs : List Loc) (ls : Array Slot), K201 x1 st = some (r, st') → lv_has ls 2 [(0, .ref o), (1, .int x1)] → mm_H D o ad cs s.heap st H locs → W p l e (mm_R 0 0) s m args below meth c H locs 0 0 (MQ below (mm_Qi D o ad cs r st') args s 0 0 (mm_A o ad)) (F0 m 201 ls [])) (x1 : Int32) (st : mm_S) (hf : M_undo_b201F fu K201 x1 st = some (r, st')) {H : Heap} {locs : List Loc} {ls : Array Slot} (hl : lv_has ls 2 [(0, .ref o), (1, .int x1)]) (hM : mm_H D o ad cs s.heap st H locs) : W p l e (mm_R 0 0) s m args below meth c H locs 0 0 (MQ below (mm_Qi D o ad cs r st') args s 0 0 (mm_A o ad)) (F0 m 201 ls []) := by
  unfold M_undo_b201F at hf
  refine lv_iload_n C.1 C.2.1 (dd_at td_undo 116 rfl) rfl (lv_at hl 1 rfl) ?_
  refine lv_bipush (v := (8 : Int32)) C.1 C.2.1 (dd_at td_undo 117 rfl) (by decide) ?_
  refine lv_icmp_ge (tgt := 249) C.1 C.2.1 (dd_at td_undo 118 rfl) (by decide) (fun c37 => ?_) (fun c37 => ?_)
  · replace hf := fc_of_t hf c37
    refine lv_aload_n C.1 C.2.1 (dd_at td_undo 145 rfl) rfl (lv_at hl 0 rfl) ?_
    refine mm_gI C hM 0 (dd_at td_undo 146 rfl) (by decide) (by decide) (by decide) ?_
    exact mm_ri C hM (dd_at td_undo 147 rfl) hf
  · replace hf := fc_of_f hf c37
    refine lv_aload_n C.1 C.2.1 (dd_at td_undo 119 rfl) rfl (lv_at hl 0 rfl) ?_
    refine mm_gA C hM 30 (dd_at td_undo 120 rfl) (by decide) (by decide) (by decide) ?_
    refine lv_iload_n C.1 C.2.1 (dd_at td_undo 121 rfl) rfl (lv_at hl 1 rfl) ?_
    refine lv_aload_n C.1 C.2.1 (dd_at td_undo 122 rfl) rfl (lv_at hl 0 rfl) ?_
    refine mm_gA C hM 51 (dd_at td_undo 123 rfl) (by decide) (by decide) (by decide) ?_
    refine lv_iload_n C.1 C.2.1 (dd_at td_undo 124 rfl) rfl (lv_at hl 1 rfl) ?_
    obtain ⟨g38, hf⟩ := fc_of_gd hf
    refine mm_iald C hM 51 (dd_at td_undo 125 rfl) (by decide) (by decide) (fc_of_ix g38) ?_
    obtain ⟨g39, hf⟩ := fc_of_gd hf
    refine mm_iast C hM 30 (dd_at td_undo 126 rfl) (by decide) (by decide) (fc_of_ix g39) (fun st40 H locs est40 hM => ?_)
    replace hf := fc_of_nm hf st40 est40
    refine lv_aload_n C.1 C.2.1 (dd_at td_undo 127 rfl) rfl (lv_at hl 0 rfl) ?_
    refine mm_gA C hM 36 (dd_at td_undo 128 rfl) (by decide) (by decide) (by decide) ?_
    refine lv_iload_n C.1 C.2.1 (dd_at td_undo 129 rfl) rfl (lv_at hl 1 rfl) ?_
    refine lv_aload_n C.1 C.2.1 (dd_at td_undo 130 rfl) rfl (lv_at hl 0 rfl) ?_
    refine mm_gA C hM 55 (dd_at td_undo 131 rfl) (by decide) (by decide) (by decide) ?_
    refine lv_iload_n C.1 C.2.1 (dd_at td_undo 132 rfl) rfl (lv_at hl 1 rfl) ?_
    obtain ⟨g41, hf⟩ := fc_of_gd hf
    refine mm_iald C hM 55 (dd_at td_undo 133 rfl) (by decide) (by decide) (fc_of_ix g41) ?_
    obtain ⟨g42, hf⟩ := fc_of_gd hf
    refine mm_iast C hM 36 (dd_at td_undo 134 rfl) (by decide) (by decide) (fc_of_ix g42) (fun st43 H locs est43 hM => ?_)
    replace hf := fc_of_nm hf st43 est43
    refine lv_aload_n C.1 C.2.1 (dd_at td_undo 135 rfl) rfl (lv_at hl 0 rfl) ?_
    refine mm_gA C hM 37 (dd_at td_undo 136 rfl) (by decide) (by decide) (by decide) ?_
    refine lv_iload_n C.1 C.2.1 (dd_at td_undo 137 rfl) rfl (lv_at hl 1 rfl) ?_
    refine lv_aload_n C.1 C.2.1 (dd_at td_undo 138 rfl) rfl (lv_at hl 0 rfl) ?_
    refine mm_gA C hM 56 (dd_at td_undo 139 rfl) (by decide) (by decide) (by decide) ?_
    refine lv_iload_n C.1 C.2.1 (dd_at td_undo 140 rfl) rfl (lv_at hl 1 rfl) ?_
    obtain ⟨g44, hf⟩ := fc_of_gd hf
    refine mm_iald C hM 56 (dd_at td_undo 141 rfl) (by decide) (by decide) (fc_of_ix g44) ?_
    obtain ⟨g45, hf⟩ := fc_of_gd hf
    refine mm_iast C hM 37 (dd_at td_undo 142 rfl) (by decide) (by decide) (fc_of_ix g45) (fun st46 H locs est46 hM => ?_)
    replace hf := fc_of_nm hf st46 est46
    obtain ⟨v47, ev47⟩ : ∃ y : Int32, y = x1 + (1 : Int32) := ⟨_, rfl⟩
    replace hf := fc_of_nm hf v47 ev47
    refine lv_iinc (v := v47) (lv' := [(1, .int v47), (0, .ref o)]) C.1 C.2.1 (dd_at td_undo 143 rfl) hl (k := 1) rfl (by rw [ev47]; rfl) (by decide) rfl (fun ls hl => ?_)
    refine lv_goto (tgt := 201) C.1 C.2.1 (dd_at td_undo 144 rfl) (by decide) ?_
    exact hK201 v47 st46 _ _ _ hf (lv_sub hl [1, 0] rfl) hM
theorem w_undo_b201 {p : Program} {l : Launch} {e : Env} {s : State} {m : MethodId} {args : Array Value} {below : List Frame} {meth : Method} {c : Code} {D : va_G} {o : Nat} {ad : Nat → Nat} {cs : ClassId × ClassId × ClassId} {r : Int32} {st' : mm_S} (C : mm_C p s m args meth c cX12_undo 2 (some .int) D cs) (fu : Nat) (n : Nat) : ∀ (x1 : Int32) (st : mm_S), M_undo_b201 fu n x1 st = some (r, st') → ∀ (H : Heap) (locs : List Loc) (ls : Array Slot), lv_has ls 2 [(0, .ref o), (1, .int x1)] → mm_H D o ad cs s.heap st H locs → W p l e (mm_R 0 0) s m args below meth c H locs 0 0 (MQ below (mm_Qi D o ad cs r st') args s 0 0 (mm_A o ad)) (F0 m 201 ls []) := by
  induction n with
  | zero => exact fun _ _ hf => fc_no hf
  | succ n ih =>
    intro x1 st hf H locs ls hl hM
    exact w_undo_b201F C fu (fun x1 st => M_undo_b201 fu n x1 st) (fun x1 st H locs ls hf hl hM => ih x1 st hf H locs ls hl hM) x1 st hf hl hM
theorem w_undo_b152F {p : Program} {l : Launch} {e : Env} {s : State} {m : MethodId} {args : Array Value} {below : List Frame} {meth : Method} {c : Code} {D : va_G} {o : Nat} {ad : Nat → Nat} {cs : ClassId × ClassId × ClassId} {r : Int32} {st' : mm_S} (C : mm_C p s m args meth c cX12_undo 2 (some .int) D cs) (fu : Nat) (K152 : Int32 → mm_S → Option (Int32 × mm_S)) (hK152 : ∀ (x1 : Int32) (st : mm_S) (H : Heap) (locs : List Loc) (ls : Array Slot), K152 x1 st = some (r, st') → lv_has ls 2 [(0, .ref o), (1, .int x1)] → mm_H D o ad cs s.heap st H locs → W p l e (mm_R 0 0) s m args below meth c H locs 0 0 (MQ below (mm_Qi D o ad cs r st') args s 0 0 (mm_A o ad)) (F0 m 152 ls [])) (x1 : Int32) (st : mm_S) (hf : M_undo_b152F fu K152 x1 st = some (r, st')) {H : Heap} {locs : List Loc} {ls : Array Slot} (hl : lv_has ls 2 [(0, .ref o), (1, .int x1)]) (hM : mm_H D o ad cs s.heap st H locs) : W p l e (mm_R 0 0) s m args below meth c H locs 0 0 (MQ below (mm_Qi D o ad cs r st') args s 0 0 (mm_A o ad)) (F0 m 152 ls []) := by
  unfold M_undo_b152F at hf
  refine lv_iload_n C.1 C.2.1 (dd_at td_undo 85 rfl) rfl (lv_at hl 1 rfl) ?_
  refine lv_iconst (v := (5 : Int32)) C.1 C.2.1 (dd_at td_undo 86 rfl) (by decide) ?_
  refine lv_icmp_ge (tgt := 199) C.1 C.2.1 (dd_at td_undo 87 rfl) (by decide) (fun c26 => ?_) (fun c26 => ?_)
  · replace hf := fc_of_t hf c26
    refine lv_iconst (v := (0 : Int32)) C.1 C.2.1 (dd_at td_undo 114 rfl) (by decide) ?_
    refine lv_istore_n (lv' := [(1, .int (0 : Int32)), (0, .ref o)]) C.1 C.2.1 (dd_at td_undo 115 rfl) rfl hl (by decide) rfl (fun ls hl => ?_)
    exact w_undo_b201 C fu fu (0 : Int32) st hf _ _ _ (lv_sub hl [1, 0] rfl) hM
  · replace hf := fc_of_f hf c26
    refine lv_aload_n C.1 C.2.1 (dd_at td_undo 88 rfl) rfl (lv_at hl 0 rfl) ?_
    refine mm_gA C hM 33 (dd_at td_undo 89 rfl) (by decide) (by decide) (by decide) ?_
    refine lv_iload_n C.1 C.2.1 (dd_at td_undo 90 rfl) rfl (lv_at hl 1 rfl) ?_
    refine lv_aload_n C.1 C.2.1 (dd_at td_undo 91 rfl) rfl (lv_at hl 0 rfl) ?_
    refine mm_gA C hM 52 (dd_at td_undo 92 rfl) (by decide) (by decide) (by decide) ?_
    refine lv_iload_n C.1 C.2.1 (dd_at td_undo 93 rfl) rfl (lv_at hl 1 rfl) ?_
    obtain ⟨g27, hf⟩ := fc_of_gd hf
    refine mm_iald C hM 52 (dd_at td_undo 94 rfl) (by decide) (by decide) (fc_of_ix g27) ?_
    obtain ⟨g28, hf⟩ := fc_of_gd hf
    refine mm_iast C hM 33 (dd_at td_undo 95 rfl) (by decide) (by decide) (fc_of_ix g28) (fun st29 H locs est29 hM => ?_)
    replace hf := fc_of_nm hf st29 est29
    refine lv_aload_n C.1 C.2.1 (dd_at td_undo 96 rfl) rfl (lv_at hl 0 rfl) ?_
    refine mm_gA C hM 34 (dd_at td_undo 97 rfl) (by decide) (by decide) (by decide) ?_
    refine lv_iload_n C.1 C.2.1 (dd_at td_undo 98 rfl) rfl (lv_at hl 1 rfl) ?_
    refine lv_aload_n C.1 C.2.1 (dd_at td_undo 99 rfl) rfl (lv_at hl 0 rfl) ?_
    refine mm_gA C hM 53 (dd_at td_undo 100 rfl) (by decide) (by decide) (by decide) ?_
    refine lv_iload_n C.1 C.2.1 (dd_at td_undo 101 rfl) rfl (lv_at hl 1 rfl) ?_
    obtain ⟨g30, hf⟩ := fc_of_gd hf
    refine mm_iald C hM 53 (dd_at td_undo 102 rfl) (by decide) (by decide) (fc_of_ix g30) ?_
    obtain ⟨g31, hf⟩ := fc_of_gd hf
    refine mm_iast C hM 34 (dd_at td_undo 103 rfl) (by decide) (by decide) (fc_of_ix g31) (fun st32 H locs est32 hM => ?_)
    replace hf := fc_of_nm hf st32 est32
    refine lv_aload_n C.1 C.2.1 (dd_at td_undo 104 rfl) rfl (lv_at hl 0 rfl) ?_
    refine mm_gA C hM 35 (dd_at td_undo 105 rfl) (by decide) (by decide) (by decide) ?_
    refine lv_iload_n C.1 C.2.1 (dd_at td_undo 106 rfl) rfl (lv_at hl 1 rfl) ?_
    refine lv_aload_n C.1 C.2.1 (dd_at td_undo 107 rfl) rfl (lv_at hl 0 rfl) ?_
    refine mm_gA C hM 54 (dd_at td_undo 108 rfl) (by decide) (by decide) (by decide) ?_
    refine lv_iload_n C.1 C.2.1 (dd_at td_undo 109 rfl) rfl (lv_at hl 1 rfl) ?_
    obtain ⟨g33, hf⟩ := fc_of_gd hf
    refine mm_iald C hM 54 (dd_at td_undo 110 rfl) (by decide) (by decide) (fc_of_ix g33) ?_
    obtain ⟨g34, hf⟩ := fc_of_gd hf
    refine mm_iast C hM 35 (dd_at td_undo 111 rfl) (by decide) (by decide) (fc_of_ix g34) (fun st35 H locs est35 hM => ?_)
    replace hf := fc_of_nm hf st35 est35
    obtain ⟨v36, ev36⟩ : ∃ y : Int32, y = x1 + (1 : Int32) := ⟨_, rfl⟩
    replace hf := fc_of_nm hf v36 ev36
    refine lv_iinc (v := v36) (lv' := [(1, .int v36), (0, .ref o)]) C.1 C.2.1 (dd_at td_undo 112 rfl) hl (k := 1) rfl (by rw [ev36]; rfl) (by decide) rfl (fun ls hl => ?_)
    refine lv_goto (tgt := 152) C.1 C.2.1 (dd_at td_undo 113 rfl) (by decide) ?_
    exact hK152 v36 st35 _ _ _ hf (lv_sub hl [1, 0] rfl) hM
theorem w_undo_b152 {p : Program} {l : Launch} {e : Env} {s : State} {m : MethodId} {args : Array Value} {below : List Frame} {meth : Method} {c : Code} {D : va_G} {o : Nat} {ad : Nat → Nat} {cs : ClassId × ClassId × ClassId} {r : Int32} {st' : mm_S} (C : mm_C p s m args meth c cX12_undo 2 (some .int) D cs) (fu : Nat) (n : Nat) : ∀ (x1 : Int32) (st : mm_S), M_undo_b152 fu n x1 st = some (r, st') → ∀ (H : Heap) (locs : List Loc) (ls : Array Slot), lv_has ls 2 [(0, .ref o), (1, .int x1)] → mm_H D o ad cs s.heap st H locs → W p l e (mm_R 0 0) s m args below meth c H locs 0 0 (MQ below (mm_Qi D o ad cs r st') args s 0 0 (mm_A o ad)) (F0 m 152 ls []) := by
  induction n with
  | zero => exact fun _ _ hf => fc_no hf
  | succ n ih =>
    intro x1 st hf H locs ls hl hM
    exact w_undo_b152F C fu (fun x1 st => M_undo_b152 fu n x1 st) (fun x1 st H locs ls hf hl hM => ih x1 st hf H locs ls hl hM) x1 st hf hl hM
theorem w_undo_b126F {p : Program} {l : Launch} {e : Env} {s : State} {m : MethodId} {args : Array Value} {below : List Frame} {meth : Method} {c : Code} {D : va_G} {o : Nat} {ad : Nat → Nat} {cs : ClassId × ClassId × ClassId} {r : Int32} {st' : mm_S} (C : mm_C p s m args meth c cX12_undo 2 (some .int) D cs) (fu : Nat) (K126 : Int32 → mm_S → Option (Int32 × mm_S)) (hK126 : ∀ (x1 : Int32) (st : mm_S) (H : Heap) (locs : List Loc) (ls : Array Slot), K126 x1 st = some (r, st') → lv_has ls 2 [(0, .ref o), (1, .int x1)] → mm_H D o ad cs s.heap st H locs → W p l e (mm_R 0 0) s m args below meth c H locs 0 0 (MQ below (mm_Qi D o ad cs r st') args s 0 0 (mm_A o ad)) (F0 m 126 ls [])) (x1 : Int32) (st : mm_S) (hf : M_undo_b126F fu K126 x1 st = some (r, st')) {H : Heap} {locs : List Loc} {ls : Array Slot} (hl : lv_has ls 2 [(0, .ref o), (1, .int x1)]) (hM : mm_H D o ad cs s.heap st H locs) : W p l e (mm_R 0 0) s m args below meth c H locs 0 0 (MQ below (mm_Qi D o ad cs r st') args s 0 0 (mm_A o ad)) (F0 m 126 ls []) := by
  unfold M_undo_b126F at hf
  refine lv_iload_n C.1 C.2.1 (dd_at td_undo 70 rfl) rfl (lv_at hl 1 rfl) ?_
  refine lv_bipush (v := (24 : Int32)) C.1 C.2.1 (dd_at td_undo 71 rfl) (by decide) ?_
  refine lv_icmp_ge (tgt := 150) C.1 C.2.1 (dd_at td_undo 72 rfl) (by decide) (fun c21 => ?_) (fun c21 => ?_)
  · replace hf := fc_of_t hf c21
    refine lv_iconst (v := (0 : Int32)) C.1 C.2.1 (dd_at td_undo 83 rfl) (by decide) ?_
    refine lv_istore_n (lv' := [(1, .int (0 : Int32)), (0, .ref o)]) C.1 C.2.1 (dd_at td_undo 84 rfl) rfl hl (by decide) rfl (fun ls hl => ?_)
    exact w_undo_b152 C fu fu (0 : Int32) st hf _ _ _ (lv_sub hl [1, 0] rfl) hM
  · replace hf := fc_of_f hf c21
    refine lv_aload_n C.1 C.2.1 (dd_at td_undo 73 rfl) rfl (lv_at hl 0 rfl) ?_
    refine mm_gA C hM 7 (dd_at td_undo 74 rfl) (by decide) (by decide) (by decide) ?_
    refine lv_iload_n C.1 C.2.1 (dd_at td_undo 75 rfl) rfl (lv_at hl 1 rfl) ?_
    refine lv_aload_n C.1 C.2.1 (dd_at td_undo 76 rfl) rfl (lv_at hl 0 rfl) ?_
    refine mm_gA C hM 50 (dd_at td_undo 77 rfl) (by decide) (by decide) (by decide) ?_
    refine lv_iload_n C.1 C.2.1 (dd_at td_undo 78 rfl) rfl (lv_at hl 1 rfl) ?_
    obtain ⟨g22, hf⟩ := fc_of_gd hf
    refine mm_iald C hM 50 (dd_at td_undo 79 rfl) (by decide) (by decide) (fc_of_ix g22) ?_
    obtain ⟨g23, hf⟩ := fc_of_gd hf
    refine mm_iast C hM 7 (dd_at td_undo 80 rfl) (by decide) (by decide) (fc_of_ix g23) (fun st24 H locs est24 hM => ?_)
    replace hf := fc_of_nm hf st24 est24
    obtain ⟨v25, ev25⟩ : ∃ y : Int32, y = x1 + (1 : Int32) := ⟨_, rfl⟩
    replace hf := fc_of_nm hf v25 ev25
    refine lv_iinc (v := v25) (lv' := [(1, .int v25), (0, .ref o)]) C.1 C.2.1 (dd_at td_undo 81 rfl) hl (k := 1) rfl (by rw [ev25]; rfl) (by decide) rfl (fun ls hl => ?_)
    refine lv_goto (tgt := 126) C.1 C.2.1 (dd_at td_undo 82 rfl) (by decide) ?_
    exact hK126 v25 st24 _ _ _ hf (lv_sub hl [1, 0] rfl) hM
theorem w_undo_b126 {p : Program} {l : Launch} {e : Env} {s : State} {m : MethodId} {args : Array Value} {below : List Frame} {meth : Method} {c : Code} {D : va_G} {o : Nat} {ad : Nat → Nat} {cs : ClassId × ClassId × ClassId} {r : Int32} {st' : mm_S} (C : mm_C p s m args meth c cX12_undo 2 (some .int) D cs) (fu : Nat) (n : Nat) : ∀ (x1 : Int32) (st : mm_S), M_undo_b126 fu n x1 st = some (r, st') → ∀ (H : Heap) (locs : List Loc) (ls : Array Slot), lv_has ls 2 [(0, .ref o), (1, .int x1)] → mm_H D o ad cs s.heap st H locs → W p l e (mm_R 0 0) s m args below meth c H locs 0 0 (MQ below (mm_Qi D o ad cs r st') args s 0 0 (mm_A o ad)) (F0 m 126 ls []) := by
  induction n with
  | zero => exact fun _ _ hf => fc_no hf
  | succ n ih =>
    intro x1 st hf H locs ls hl hM
    exact w_undo_b126F C fu (fun x1 st => M_undo_b126 fu n x1 st) (fun x1 st H locs ls hf hl hM => ih x1 st hf H locs ls hl hM) x1 st hf hl hM
theorem w_undo_b76F {p : Program} {l : Launch} {e : Env} {s : State} {m : MethodId} {args : Array Value} {below : List Frame} {meth : Method} {c : Code} {D : va_G} {o : Nat} {ad : Nat → Nat} {cs : ClassId × ClassId × ClassId} {r : Int32} {st' : mm_S} (C : mm_C p s m args meth c cX12_undo 2 (some .int) D cs) (fu : Nat) (K76 : Int32 → mm_S → Option (Int32 × mm_S)) (hK76 : ∀ (x1 : Int32) (st : mm_S) (H : Heap) (locs : List Loc) (ls : Array Slot), K76 x1 st = some (r, st') → lv_has ls 2 [(0, .ref o), (1, .int x1)] → mm_H D o ad cs s.heap st H locs → W p l e (mm_R 0 0) s m args below meth c H locs 0 0 (MQ below (mm_Qi D o ad cs r st') args s 0 0 (mm_A o ad)) (F0 m 76 ls [])) (x1 : Int32) (st : mm_S) (hf : M_undo_b76F fu K76 x1 st = some (r, st')) {H : Heap} {locs : List Loc} {ls : Array Slot} (hl : lv_has ls 2 [(0, .ref o), (1, .int x1)]) (hM : mm_H D o ad cs s.heap st H locs) : W p l e (mm_R 0 0) s m args below meth c H locs 0 0 (MQ below (mm_Qi D o ad cs r st') args s 0 0 (mm_A o ad)) (F0 m 76 ls []) := by
  unfold M_undo_b76F at hf
  refine lv_iload_n C.1 C.2.1 (dd_at td_undo 39 rfl) rfl (lv_at hl 1 rfl) ?_
  refine lv_bipush (v := (6 : Int32)) C.1 C.2.1 (dd_at td_undo 40 rfl) (by decide) ?_
  refine lv_icmp_ge (tgt := 124) C.1 C.2.1 (dd_at td_undo 41 rfl) (by decide) (fun c10 => ?_) (fun c10 => ?_)
  · replace hf := fc_of_t hf c10
    refine lv_iconst (v := (0 : Int32)) C.1 C.2.1 (dd_at td_undo 68 rfl) (by decide) ?_
    refine lv_istore_n (lv' := [(1, .int (0 : Int32)), (0, .ref o)]) C.1 C.2.1 (dd_at td_undo 69 rfl) rfl hl (by decide) rfl (fun ls hl => ?_)
    exact w_undo_b126 C fu fu (0 : Int32) st hf _ _ _ (lv_sub hl [1, 0] rfl) hM
  · replace hf := fc_of_f hf c10
    refine lv_aload_n C.1 C.2.1 (dd_at td_undo 42 rfl) rfl (lv_at hl 0 rfl) ?_
    refine mm_gA C hM 4 (dd_at td_undo 43 rfl) (by decide) (by decide) (by decide) ?_
    refine lv_iload_n C.1 C.2.1 (dd_at td_undo 44 rfl) rfl (lv_at hl 1 rfl) ?_
    refine lv_aload_n C.1 C.2.1 (dd_at td_undo 45 rfl) rfl (lv_at hl 0 rfl) ?_
    refine mm_gA C hM 47 (dd_at td_undo 46 rfl) (by decide) (by decide) (by decide) ?_
    refine lv_iload_n C.1 C.2.1 (dd_at td_undo 47 rfl) rfl (lv_at hl 1 rfl) ?_
    obtain ⟨g11, hf⟩ := fc_of_gd hf
    refine mm_iald C hM 47 (dd_at td_undo 48 rfl) (by decide) (by decide) (fc_of_ix g11) ?_
    obtain ⟨g12, hf⟩ := fc_of_gd hf
    refine mm_iast C hM 4 (dd_at td_undo 49 rfl) (by decide) (by decide) (fc_of_ix g12) (fun st13 H locs est13 hM => ?_)
    replace hf := fc_of_nm hf st13 est13
    refine lv_aload_n C.1 C.2.1 (dd_at td_undo 50 rfl) rfl (lv_at hl 0 rfl) ?_
    refine mm_gA C hM 5 (dd_at td_undo 51 rfl) (by decide) (by decide) (by decide) ?_
    refine lv_iload_n C.1 C.2.1 (dd_at td_undo 52 rfl) rfl (lv_at hl 1 rfl) ?_
    refine lv_aload_n C.1 C.2.1 (dd_at td_undo 53 rfl) rfl (lv_at hl 0 rfl) ?_
    refine mm_gA C hM 48 (dd_at td_undo 54 rfl) (by decide) (by decide) (by decide) ?_
    refine lv_iload_n C.1 C.2.1 (dd_at td_undo 55 rfl) rfl (lv_at hl 1 rfl) ?_
    obtain ⟨g14, hf⟩ := fc_of_gd hf
    refine mm_iald C hM 48 (dd_at td_undo 56 rfl) (by decide) (by decide) (fc_of_ix g14) ?_
    obtain ⟨g15, hf⟩ := fc_of_gd hf
    refine mm_iast C hM 5 (dd_at td_undo 57 rfl) (by decide) (by decide) (fc_of_ix g15) (fun st16 H locs est16 hM => ?_)
    replace hf := fc_of_nm hf st16 est16
    refine lv_aload_n C.1 C.2.1 (dd_at td_undo 58 rfl) rfl (lv_at hl 0 rfl) ?_
    refine mm_gA C hM 6 (dd_at td_undo 59 rfl) (by decide) (by decide) (by decide) ?_
    refine lv_iload_n C.1 C.2.1 (dd_at td_undo 60 rfl) rfl (lv_at hl 1 rfl) ?_
    refine lv_aload_n C.1 C.2.1 (dd_at td_undo 61 rfl) rfl (lv_at hl 0 rfl) ?_
    refine mm_gA C hM 49 (dd_at td_undo 62 rfl) (by decide) (by decide) (by decide) ?_
    refine lv_iload_n C.1 C.2.1 (dd_at td_undo 63 rfl) rfl (lv_at hl 1 rfl) ?_
    obtain ⟨g17, hf⟩ := fc_of_gd hf
    refine mm_iald C hM 49 (dd_at td_undo 64 rfl) (by decide) (by decide) (fc_of_ix g17) ?_
    obtain ⟨g18, hf⟩ := fc_of_gd hf
    refine mm_iast C hM 6 (dd_at td_undo 65 rfl) (by decide) (by decide) (fc_of_ix g18) (fun st19 H locs est19 hM => ?_)
    replace hf := fc_of_nm hf st19 est19
    obtain ⟨v20, ev20⟩ : ∃ y : Int32, y = x1 + (1 : Int32) := ⟨_, rfl⟩
    replace hf := fc_of_nm hf v20 ev20
    refine lv_iinc (v := v20) (lv' := [(1, .int v20), (0, .ref o)]) C.1 C.2.1 (dd_at td_undo 66 rfl) hl (k := 1) rfl (by rw [ev20]; rfl) (by decide) rfl (fun ls hl => ?_)
    refine lv_goto (tgt := 76) C.1 C.2.1 (dd_at td_undo 67 rfl) (by decide) ?_
    exact hK76 v20 st19 _ _ _ hf (lv_sub hl [1, 0] rfl) hM
theorem w_undo_b76 {p : Program} {l : Launch} {e : Env} {s : State} {m : MethodId} {args : Array Value} {below : List Frame} {meth : Method} {c : Code} {D : va_G} {o : Nat} {ad : Nat → Nat} {cs : ClassId × ClassId × ClassId} {r : Int32} {st' : mm_S} (C : mm_C p s m args meth c cX12_undo 2 (some .int) D cs) (fu : Nat) (n : Nat) : ∀ (x1 : Int32) (st : mm_S), M_undo_b76 fu n x1 st = some (r, st') → ∀ (H : Heap) (locs : List Loc) (ls : Array Slot), lv_has ls 2 [(0, .ref o), (1, .int x1)] → mm_H D o ad cs s.heap st H locs → W p l e (mm_R 0 0) s m args below meth c H locs 0 0 (MQ below (mm_Qi D o ad cs r st') args s 0 0 (mm_A o ad)) (F0 m 76 ls []) := by
  induction n with
  | zero => exact fun _ _ hf => fc_no hf
  | succ n ih =>
    intro x1 st hf H locs ls hl hM
    exact w_undo_b76F C fu (fun x1 st => M_undo_b76 fu n x1 st) (fun x1 st H locs ls hf hl hM => ih x1 st hf H locs ls hl hM) x1 st hf hl hM
theorem w_undo {p : Program} {l : Launch} {e : Env} {s : State} {m : MethodId} {args : Array Value} {below : List Frame} {meth : Method} {c : Code} {D : va_G} {o : Nat} {ad : Nat → Nat} {cs : ClassId × ClassId × ClassId} {r : Int32} {st' : mm_S} (C : mm_C p s m args meth c cX12_undo 2 (some .int) D cs) (fu : Nat) (st : mm_S) (hf : M_undo fu st = some (r, st')) {H : Heap} {locs : List Loc} {ls : Array Slot} (hl : lv_has ls 2 [(0, .ref o)]) (hM : mm_H D o ad cs s.heap st H locs) : W p l e (mm_R 0 0) s m args below meth c H locs 0 0 (MQ below (mm_Qi D o ad cs r st') args s 0 0 (mm_A o ad)) (F0 m 0 ls []) := by
  unfold M_undo at hf
  refine lv_aload_n C.1 C.2.1 (dd_at td_undo 0 rfl) rfl (lv_at hl 0 rfl) ?_
  refine mm_gI C hM 38 (dd_at td_undo 1 rfl) (by decide) (by decide) (by decide) ?_
  refine lv_if_ne (tgt := 10) C.1 C.2.1 (dd_at td_undo 2 rfl) (by decide) (fun c1 => ?_) (fun c1 => ?_)
  · replace hf := fc_of_f hf c1
    refine lv_aload_n C.1 C.2.1 (dd_at td_undo 5 rfl) rfl (lv_at hl 0 rfl) ?_
    refine lv_aload_n C.1 C.2.1 (dd_at td_undo 6 rfl) rfl (lv_at hl 0 rfl) ?_
    refine mm_gI C hM 39 (dd_at td_undo 7 rfl) (by decide) (by decide) (by decide) ?_
    refine mm_pI C hM 9 (dd_at td_undo 8 rfl) (by decide) (by decide) (by decide) rfl rfl (fun st2 H locs est2 hM => ?_)
    replace hf := fc_of_nm hf st2 est2
    refine lv_aload_n C.1 C.2.1 (dd_at td_undo 9 rfl) rfl (lv_at hl 0 rfl) ?_
    refine lv_aload_n C.1 C.2.1 (dd_at td_undo 10 rfl) rfl (lv_at hl 0 rfl) ?_
    refine mm_gI C hM 40 (dd_at td_undo 11 rfl) (by decide) (by decide) (by decide) ?_
    refine mm_pI C hM 0 (dd_at td_undo 12 rfl) (by decide) (by decide) (by decide) rfl rfl (fun st3 H locs est3 hM => ?_)
    replace hf := fc_of_nm hf st3 est3
    refine lv_aload_n C.1 C.2.1 (dd_at td_undo 13 rfl) rfl (lv_at hl 0 rfl) ?_
    refine lv_aload_n C.1 C.2.1 (dd_at td_undo 14 rfl) rfl (lv_at hl 0 rfl) ?_
    refine mm_gI C hM 41 (dd_at td_undo 15 rfl) (by decide) (by decide) (by decide) ?_
    refine mm_pI C hM 1 (dd_at td_undo 16 rfl) (by decide) (by decide) (by decide) rfl rfl (fun st4 H locs est4 hM => ?_)
    replace hf := fc_of_nm hf st4 est4
    refine lv_aload_n C.1 C.2.1 (dd_at td_undo 17 rfl) rfl (lv_at hl 0 rfl) ?_
    refine lv_aload_n C.1 C.2.1 (dd_at td_undo 18 rfl) rfl (lv_at hl 0 rfl) ?_
    refine mm_gI C hM 42 (dd_at td_undo 19 rfl) (by decide) (by decide) (by decide) ?_
    refine mm_pI C hM 2 (dd_at td_undo 20 rfl) (by decide) (by decide) (by decide) rfl rfl (fun st5 H locs est5 hM => ?_)
    replace hf := fc_of_nm hf st5 est5
    refine lv_aload_n C.1 C.2.1 (dd_at td_undo 21 rfl) rfl (lv_at hl 0 rfl) ?_
    refine lv_aload_n C.1 C.2.1 (dd_at td_undo 22 rfl) rfl (lv_at hl 0 rfl) ?_
    refine mm_gI C hM 43 (dd_at td_undo 23 rfl) (by decide) (by decide) (by decide) ?_
    refine mm_pI C hM 3 (dd_at td_undo 24 rfl) (by decide) (by decide) (by decide) rfl rfl (fun st6 H locs est6 hM => ?_)
    replace hf := fc_of_nm hf st6 est6
    refine lv_aload_n C.1 C.2.1 (dd_at td_undo 25 rfl) rfl (lv_at hl 0 rfl) ?_
    refine lv_aload_n C.1 C.2.1 (dd_at td_undo 26 rfl) rfl (lv_at hl 0 rfl) ?_
    refine mm_gI C hM 44 (dd_at td_undo 27 rfl) (by decide) (by decide) (by decide) ?_
    refine mm_pI C hM 29 (dd_at td_undo 28 rfl) (by decide) (by decide) (by decide) rfl rfl (fun st7 H locs est7 hM => ?_)
    replace hf := fc_of_nm hf st7 est7
    refine lv_aload_n C.1 C.2.1 (dd_at td_undo 29 rfl) rfl (lv_at hl 0 rfl) ?_
    refine lv_aload_n C.1 C.2.1 (dd_at td_undo 30 rfl) rfl (lv_at hl 0 rfl) ?_
    refine mm_gI C hM 45 (dd_at td_undo 31 rfl) (by decide) (by decide) (by decide) ?_
    refine mm_pI C hM 31 (dd_at td_undo 32 rfl) (by decide) (by decide) (by decide) rfl rfl (fun st8 H locs est8 hM => ?_)
    replace hf := fc_of_nm hf st8 est8
    refine lv_aload_n C.1 C.2.1 (dd_at td_undo 33 rfl) rfl (lv_at hl 0 rfl) ?_
    refine lv_aload_n C.1 C.2.1 (dd_at td_undo 34 rfl) rfl (lv_at hl 0 rfl) ?_
    refine mm_gI C hM 46 (dd_at td_undo 35 rfl) (by decide) (by decide) (by decide) ?_
    refine mm_pI C hM 32 (dd_at td_undo 36 rfl) (by decide) (by decide) (by decide) rfl rfl (fun st9 H locs est9 hM => ?_)
    replace hf := fc_of_nm hf st9 est9
    refine lv_iconst (v := (0 : Int32)) C.1 C.2.1 (dd_at td_undo 37 rfl) (by decide) ?_
    refine lv_istore_n (lv' := [(1, .int (0 : Int32)), (0, .ref o)]) C.1 C.2.1 (dd_at td_undo 38 rfl) rfl hl (by decide) rfl (fun ls hl => ?_)
    exact w_undo_b76 C fu fu (0 : Int32) st9 hf _ _ _ (lv_sub hl [1, 0] rfl) hM
  · replace hf := fc_of_t hf c1
    refine lv_bipush (v := (-3 : Int32)) C.1 C.2.1 (dd_at td_undo 3 rfl) (by decide) ?_
    exact mm_ri C hM (dd_at td_undo 4 rfl) hf
theorem c_undo (l : Launch) (D : va_G) (o : Nat) (ad : Nat → Nat) (cs : ClassId × ClassId × ClassId) (fu : Nat) (st : mm_S) : mm_Mi l D o ad cs yX12_undo cX12_undo 2 (some .int) 0 0 [] st (M_undo fu st) := by
  intro r st' hf
  refine mm_enter (cc := cX12_undo) (nL := 2) (ret := some .int) (by decide) rfl (Nat.le_of_ble_eq_true rfl) ?_
  intro p e s m args below meth c ls C hl hM
  exact w_undo C fu st hf hl hM

/-! body -/
def tb_body : List (Nat × Instr × Nat) := [(0, .aload_n 0, 1), (1, .getfield 185, 3), (4, .bipush 20, 2), (6, .if_icmp .ge 13, 3), (9, .aload_n 0, 1), (10, .getfield 188, 3), (13, .aload_n 0, 1), (14, .getfield 185, 3), (17, .iload_n 1, 1), (18, .iastore, 1), (19, .aload_n 0, 1), (20, .dup, 1), (21, .getfield 185, 3), (24, .iconst 1, 1), (25, .iadd, 1), (26, .putfield 185, 3), (29, .return_, 1)]
theorem td_body : tb_body.all (fun q => decide (decode cX12_body q.1 = .ok (q.2.1, q.2.2))) = true := by decide +kernel
theorem hd_body : yX12_body.cls = RX12 ∧ yX12_body.cls ≠ "java/lang/invoke/MethodHandle" ∧ yX12_body.cls ≠ "java/lang/invoke/VarHandle" ∧ (parseMethodDescriptor yX12_body.desc).map (fun d => d.parameters.length) = some 1 := by decide +kernel
theorem w_body_b19 {p : Program} {l : Launch} {e : Env} {s : State} {m : MethodId} {args : Array Value} {below : List Frame} {meth : Method} {c : Code} {D : va_G} {o : Nat} {ad : Nat → Nat} {cs : ClassId × ClassId × ClassId} {st' : mm_S} (C : mm_C p s m args meth c cX12_body 2 (none) D cs) (fu : Nat) (st : mm_S) (hf : M_body_b19 fu st = some st') {H : Heap} {locs : List Loc} {ls : Array Slot} (hl : lv_has ls 2 [(0, .ref o)]) (hM : mm_H D o ad cs s.heap st H locs) : W p l e (mm_R 0 0) s m args below meth c H locs 0 0 (MQ below (mm_Qv D o ad cs st') args s 0 0 (mm_A o ad)) (F0 m 19 ls []) := by
  unfold M_body_b19 at hf
  refine lv_aload_n C.1 C.2.1 (dd_at td_body 10 rfl) rfl (lv_at hl 0 rfl) ?_
  refine lv_dup C.1 C.2.1 (dd_at td_body 11 rfl) rfl ?_
  refine mm_gI C hM 57 (dd_at td_body 12 rfl) (by decide) (by decide) (by decide) ?_
  refine lv_iconst (v := (1 : Int32)) C.1 C.2.1 (dd_at td_body 13 rfl) (by decide) ?_
  refine lv_iadd C.1 C.2.1 (dd_at td_body 14 rfl) ?_
  refine mm_pI C hM 57 (dd_at td_body 15 rfl) (by decide) (by decide) (by decide) rfl rfl (fun st4 H locs est4 hM => ?_)
  replace hf := fc_of_nm hf st4 est4
  exact mm_rv C hM (dd_at td_body 16 rfl) hf
theorem w_body {p : Program} {l : Launch} {e : Env} {s : State} {m : MethodId} {args : Array Value} {below : List Frame} {meth : Method} {c : Code} {D : va_G} {o : Nat} {ad : Nat → Nat} {cs : ClassId × ClassId × ClassId} {st' : mm_S} (C : mm_C p s m args meth c cX12_body 2 (none) D cs) (fu : Nat) (x1 : Int32) (st : mm_S) (hf : M_body fu x1 st = some st') {H : Heap} {locs : List Loc} {ls : Array Slot} (hl : lv_has ls 2 [(0, .ref o), (1, .int x1)]) (hM : mm_H D o ad cs s.heap st H locs) : W p l e (mm_R 0 0) s m args below meth c H locs 0 0 (MQ below (mm_Qv D o ad cs st') args s 0 0 (mm_A o ad)) (F0 m 0 ls []) := by
  unfold M_body at hf
  refine lv_aload_n C.1 C.2.1 (dd_at td_body 0 rfl) rfl (lv_at hl 0 rfl) ?_
  refine mm_gI C hM 57 (dd_at td_body 1 rfl) (by decide) (by decide) (by decide) ?_
  refine lv_bipush (v := (20 : Int32)) C.1 C.2.1 (dd_at td_body 2 rfl) (by decide) ?_
  refine lv_icmp_ge (tgt := 19) C.1 C.2.1 (dd_at td_body 3 rfl) (by decide) (fun c1 => ?_) (fun c1 => ?_)
  · replace hf := fc_of_t hf c1
    exact w_body_b19 C fu st hf (lv_sub hl [0] rfl) hM
  · replace hf := fc_of_f hf c1
    refine lv_aload_n C.1 C.2.1 (dd_at td_body 4 rfl) rfl (lv_at hl 0 rfl) ?_
    refine mm_gA C hM 58 (dd_at td_body 5 rfl) (by decide) (by decide) (by decide) ?_
    refine lv_aload_n C.1 C.2.1 (dd_at td_body 6 rfl) rfl (lv_at hl 0 rfl) ?_
    refine mm_gI C hM 57 (dd_at td_body 7 rfl) (by decide) (by decide) (by decide) ?_
    refine lv_iload_n C.1 C.2.1 (dd_at td_body 8 rfl) rfl (lv_at hl 1 rfl) ?_
    obtain ⟨g2, hf⟩ := fc_of_gd hf
    refine mm_iast C hM 58 (dd_at td_body 9 rfl) (by decide) (by decide) (fc_of_ix g2) (fun st3 H locs est3 hM => ?_)
    replace hf := fc_of_nm hf st3 est3
    exact w_body_b19 C fu st3 hf (lv_sub hl [0] rfl) hM
theorem c_body (l : Launch) (D : va_G) (o : Nat) (ad : Nat → Nat) (cs : ClassId × ClassId × ClassId) (fu : Nat) (x1 : Int32) (st : mm_S) : mm_Mv l D o ad cs yX12_body cX12_body 2 (none) 0 0 [.int x1] st (M_body fu x1 st) := by
  intro st' hf
  refine mm_enter (cc := cX12_body) (nL := 2) (ret := none) (by decide) rfl (Nat.le_of_ble_eq_true rfl) ?_
  intro p e s m args below meth c ls C hl hM
  exact w_body C fu x1 st hf hl hM

/-! needDarkens -/
def tb_needDarkens : List (Nat × Instr × Nat) := [(0, .aload_n 0, 1), (1, .bipush 10, 2), (3, .invokevirtual 346, 3), (6, .iload_n 2, 1), (7, .iload_n 1, 1), (8, .iadd, 1), (9, .ireturn, 1)]
theorem td_needDarkens : tb_needDarkens.all (fun q => decide (decode cX12_needDarkens q.1 = .ok (q.2.1, q.2.2))) = true := by decide +kernel
theorem hd_needDarkens : yX12_needDarkens.cls = RX12 ∧ yX12_needDarkens.cls ≠ "java/lang/invoke/MethodHandle" ∧ yX12_needDarkens.cls ≠ "java/lang/invoke/VarHandle" ∧ (parseMethodDescriptor yX12_needDarkens.desc).map (fun d => d.parameters.length) = some 2 := by decide +kernel
theorem w_needDarkens {p : Program} {l : Launch} {e : Env} {s : State} {m : MethodId} {args : Array Value} {below : List Frame} {meth : Method} {c : Code} {D : va_G} {o : Nat} {ad : Nat → Nat} {cs : ClassId × ClassId × ClassId} {r : Int32} {st' : mm_S} (C : mm_C p s m args meth c cX12_needDarkens 3 (some .int) D cs) (fu : Nat) (x1 : Int32) (x2 : Int32) (st : mm_S) (hf : M_needDarkens fu x1 x2 st = some (r, st')) {H : Heap} {locs : List Loc} {ls : Array Slot} (hl : lv_has ls 3 [(0, .ref o), (1, .int x1), (2, .int x2)]) (hM : mm_H D o ad cs s.heap st H locs) : W p l e (mm_R 1 21) s m args below meth c H locs 0 0 (MQ below (mm_Qi D o ad cs r st') args s 0 0 (mm_A o ad)) (F0 m 0 ls []) := by
  unfold M_needDarkens at hf
  refine lv_aload_n C.1 C.2.1 (dd_at td_needDarkens 0 rfl) rfl (lv_at hl 0 rfl) ?_
  refine lv_bipush (v := (10 : Int32)) C.1 C.2.1 (dd_at td_needDarkens 1 rfl) (by decide) ?_
  obtain ⟨st1, hx2, hf⟩ := fc_of_bv hf
  refine mm_cv (As := [.int (10 : Int32)]) (rest := []) (n := 1) C hM (c_body l D o ad cs fu (10 : Int32) st) (List.mem_of_getElem? (i := 5) rfl) (dd_at td_needDarkens 2 rfl) hx2 hl.1 hd_body ⟨Nat.le_of_ble_eq_true rfl, Nat.le_of_ble_eq_true rfl⟩ rfl rfl (Nat.le_of_ble_eq_true rfl) ⟨Nat.le_refl 0, Nat.le_refl 0⟩ (fun H locs hM => ?_)
  refine lv_iload_n C.1 C.2.1 (dd_at td_needDarkens 3 rfl) rfl (lv_at hl 2 rfl) ?_
  refine lv_iload_n C.1 C.2.1 (dd_at td_needDarkens 4 rfl) rfl (lv_at hl 1 rfl) ?_
  refine lv_iadd C.1 C.2.1 (dd_at td_needDarkens 5 rfl) ?_
  exact mm_ri C hM (dd_at td_needDarkens 6 rfl) hf
theorem c_needDarkens (l : Launch) (D : va_G) (o : Nat) (ad : Nat → Nat) (cs : ClassId × ClassId × ClassId) (fu : Nat) (x1 : Int32) (x2 : Int32) (st : mm_S) : mm_Mi l D o ad cs yX12_needDarkens cX12_needDarkens 3 (some .int) 1 21 [.int x1, .int x2] st (M_needDarkens fu x1 x2 st) := by
  intro r st' hf
  refine mm_enter (cc := cX12_needDarkens) (nL := 3) (ret := some .int) (by decide) rfl (Nat.le_of_ble_eq_true rfl) ?_
  intro p e s m args below meth c ls C hl hM
  exact w_needDarkens C fu x1 x2 st hf hl hM

/-! darkensAct -/
def tb_darkensAct : List (Nat × Instr × Nat) := [(0, .aload_n 0, 1), (1, .getfield 22, 3), (4, .iload_n 1, 1), (5, .iaload, 1), (6, .tableswitch 83 2 6 #[34, 83, 49, 34, 63], 34), (40, .aload_n 0, 1), (41, .bipush 30, 2), (43, .invokevirtual 346, 3), (46, .aload_n 0, 1), (47, .iload_n 1, 1), (48, .iload_n 2, 1), (49, .iconst 3, 1), (50, .imul, 1), (51, .invokevirtual 349, 3), (54, .ireturn, 1), (55, .aload_n 0, 1), (56, .bipush 50, 2), (58, .invokevirtual 346, 3), (61, .aload_n 0, 1), (62, .iload_n 1, 1), (63, .iload_n 2, 1), (64, .invokevirtual 349, 3), (67, .ineg, 1), (68, .ireturn, 1), (69, .aload_n 0, 1), (70, .bipush 71, 2), (72, .invokevirtual 346, 3), (75, .aload_n 0, 1), (76, .iload_n 1, 1), (77, .iload_n 2, 1), (78, .invokevirtual 349, 3), (81, .aload_n 0, 1), (82, .getfield 26, 3), (85, .iload_n 1, 1), (86, .iaload, 1), (87, .ixor, 1), (88, .ireturn, 1), (89, .aload_n 0, 1), (90, .iload_n 1, 1), (91, .iload_n 2, 1), (92, .invokevirtual 349, 3), (95, .ireturn, 1)]
theorem td_darkensAct : tb_darkensAct.all (fun q => decide (decode cX12_darkensAct q.1 = .ok (q.2.1, q.2.2))) = true := by decide +kernel
theorem hd_darkensAct : yX12_darkensAct.cls = RX12 ∧ yX12_darkensAct.cls ≠ "java/lang/invoke/MethodHandle" ∧ yX12_darkensAct.cls ≠ "java/lang/invoke/VarHandle" ∧ (parseMethodDescriptor yX12_darkensAct.desc).map (fun d => d.parameters.length) = some 2 := by decide +kernel
theorem w_darkensAct_b40 {p : Program} {l : Launch} {e : Env} {s : State} {m : MethodId} {args : Array Value} {below : List Frame} {meth : Method} {c : Code} {D : va_G} {o : Nat} {ad : Nat → Nat} {cs : ClassId × ClassId × ClassId} {r : Int32} {st' : mm_S} (C : mm_C p s m args meth c cX12_darkensAct 3 (some .int) D cs) (fu : Nat) (x1 : Int32) (x2 : Int32) (st : mm_S) (hf : M_darkensAct_b40 fu x1 x2 st = some (r, st')) {H : Heap} {locs : List Loc} {ls : Array Slot} (hl : lv_has ls 3 [(0, .ref o), (1, .int x1), (2, .int x2)]) (hM : mm_H D o ad cs s.heap st H locs) : W p l e (mm_R 2 43) s m args below meth c H locs 0 0 (MQ below (mm_Qi D o ad cs r st') args s 0 0 (mm_A o ad)) (F0 m 40 ls []) := by
  unfold M_darkensAct_b40 at hf
  refine lv_aload_n C.1 C.2.1 (dd_at td_darkensAct 5 rfl) rfl (lv_at hl 0 rfl) ?_
  refine lv_bipush (v := (30 : Int32)) C.1 C.2.1 (dd_at td_darkensAct 6 rfl) (by decide) ?_
  obtain ⟨st19, hx20, hf⟩ := fc_of_bv hf
  refine mm_cv (As := [.int (30 : Int32)]) (rest := []) (n := 1) C hM (c_body l D o ad cs fu (30 : Int32) st) (List.mem_of_getElem? (i := 5) rfl) (dd_at td_darkensAct 7 rfl) hx20 hl.1 hd_body ⟨Nat.le_of_ble_eq_true rfl, Nat.le_of_ble_eq_true rfl⟩ rfl rfl (Nat.le_of_ble_eq_true rfl) ⟨Nat.le_refl 0, Nat.le_refl 0⟩ (fun H locs hM => ?_)
  refine lv_aload_n C.1 C.2.1 (dd_at td_darkensAct 8 rfl) rfl (lv_at hl 0 rfl) ?_
  refine lv_iload_n C.1 C.2.1 (dd_at td_darkensAct 9 rfl) rfl (lv_at hl 1 rfl) ?_
  refine lv_iload_n C.1 C.2.1 (dd_at td_darkensAct 10 rfl) rfl (lv_at hl 2 rfl) ?_
  refine lv_iconst (v := (3 : Int32)) C.1 C.2.1 (dd_at td_darkensAct 11 rfl) (by decide) ?_
  refine lv_imul C.1 C.2.1 (dd_at td_darkensAct 12 rfl) ?_
  obtain ⟨r23, st21, hx22, hf⟩ := fc_of_bn hf
  refine mm_ci (As := [.int x1, .int (x2 * (3 : Int32))]) (rest := []) (n := 2) C hM (c_needDarkens l D o ad cs fu x1 (x2 * (3 : Int32)) st19) (List.mem_of_getElem? (i := 30) rfl) (dd_at td_darkensAct 13 rfl) hx22 hl.1 hd_needDarkens ⟨Nat.le_of_ble_eq_true rfl, Nat.le_of_ble_eq_true rfl⟩ rfl rfl (Nat.le_of_ble_eq_true rfl) ⟨Nat.le_refl 0, Nat.le_refl 0⟩ (fun H locs hM => ?_)
  exact mm_ri C hM (dd_at td_darkensAct 14 rfl) hf
theorem w_darkensAct_b89 {p : Program} {l : Launch} {e : Env} {s : State} {m : MethodId} {args : Array Value} {below : List Frame} {meth : Method} {c : Code} {D : va_G} {o : Nat} {ad : Nat → Nat} {cs : ClassId × ClassId × ClassId} {r : Int32} {st' : mm_S} (C : mm_C p s m args meth c cX12_darkensAct 3 (some .int) D cs) (fu : Nat) (x1 : Int32) (x2 : Int32) (st : mm_S) (hf : M_darkensAct_b89 fu x1 x2 st = some (r, st')) {H : Heap} {locs : List Loc} {ls : Array Slot} (hl : lv_has ls 3 [(0, .ref o), (1, .int x1), (2, .int x2)]) (hM : mm_H D o ad cs s.heap st H locs) : W p l e (mm_R 2 43) s m args below meth c H locs 0 0 (MQ below (mm_Qi D o ad cs r st') args s 0 0 (mm_A o ad)) (F0 m 89 ls []) := by
  unfold M_darkensAct_b89 at hf
  refine lv_aload_n C.1 C.2.1 (dd_at td_darkensAct 37 rfl) rfl (lv_at hl 0 rfl) ?_
  refine lv_iload_n C.1 C.2.1 (dd_at td_darkensAct 38 rfl) rfl (lv_at hl 1 rfl) ?_
  refine lv_iload_n C.1 C.2.1 (dd_at td_darkensAct 39 rfl) rfl (lv_at hl 2 rfl) ?_
  obtain ⟨r26, st24, hx25, hf⟩ := fc_of_bn hf
  refine mm_ci (As := [.int x1, .int x2]) (rest := []) (n := 2) C hM (c_needDarkens l D o ad cs fu x1 x2 st) (List.mem_of_getElem? (i := 30) rfl) (dd_at td_darkensAct 40 rfl) hx25 hl.1 hd_needDarkens ⟨Nat.le_of_ble_eq_true rfl, Nat.le_of_ble_eq_true rfl⟩ rfl rfl (Nat.le_of_ble_eq_true rfl) ⟨Nat.le_refl 0, Nat.le_refl 0⟩ (fun H locs hM => ?_)
  exact mm_ri C hM (dd_at td_darkensAct 41 rfl) hf
theorem w_darkensAct {p : Program} {l : Launch} {e : Env} {s : State} {m : MethodId} {args : Array Value} {below : List Frame} {meth : Method} {c : Code} {D : va_G} {o : Nat} {ad : Nat → Nat} {cs : ClassId × ClassId × ClassId} {r : Int32} {st' : mm_S} (C : mm_C p s m args meth c cX12_darkensAct 3 (some .int) D cs) (fu : Nat) (x1 : Int32) (x2 : Int32) (st : mm_S) (hf : M_darkensAct fu x1 x2 st = some (r, st')) {H : Heap} {locs : List Loc} {ls : Array Slot} (hl : lv_has ls 3 [(0, .ref o), (1, .int x1), (2, .int x2)]) (hM : mm_H D o ad cs s.heap st H locs) : W p l e (mm_R 2 43) s m args below meth c H locs 0 0 (MQ below (mm_Qi D o ad cs r st') args s 0 0 (mm_A o ad)) (F0 m 0 ls []) := by
  unfold M_darkensAct at hf
  refine lv_aload_n C.1 C.2.1 (dd_at td_darkensAct 0 rfl) rfl (lv_at hl 0 rfl) ?_
  refine mm_gA C hM 4 (dd_at td_darkensAct 1 rfl) (by decide) (by decide) (by decide) ?_
  refine lv_iload_n C.1 C.2.1 (dd_at td_darkensAct 2 rfl) rfl (lv_at hl 1 rfl) ?_
  obtain ⟨g1, hf⟩ := fc_of_gd hf
  refine mm_iald C hM 4 (dd_at td_darkensAct 3 rfl) (by decide) (by decide) (fc_of_ix g1) ?_
  refine lv_topi (fun v2 ev2 => ?_)
  replace hf := fc_of_nm hf v2 ev2
  by_cases c3 : v2 = (2 : Int32)
  · replace hf := fc_of_t hf c3
    refine lv_tableIn (off := 34) (tgt := 40) C.1 C.2.1 (dd_at td_darkensAct 4 rfl) (by rw [c3]; decide) (by rw [c3]; decide) (by rw [c3]; decide) (by decide) ?_
    exact w_darkensAct_b40 C fu x1 x2 st hf (lv_sub hl [0, 1, 2] rfl) hM
  · replace hf := fc_of_f hf c3
    by_cases c4 : v2 = (3 : Int32)
    · replace hf := fc_of_t hf c4
      refine lv_tableIn (off := 83) (tgt := 89) C.1 C.2.1 (dd_at td_darkensAct 4 rfl) (by rw [c4]; decide) (by rw [c4]; decide) (by rw [c4]; decide) (by decide) ?_
      exact w_darkensAct_b89 C fu x1 x2 st hf (lv_sub hl [0, 1, 2] rfl) hM
    · replace hf := fc_of_f hf c4
      by_cases c5 : v2 = (4 : Int32)
      · replace hf := fc_of_t hf c5
        refine lv_tableIn (off := 49) (tgt := 55) C.1 C.2.1 (dd_at td_darkensAct 4 rfl) (by rw [c5]; decide) (by rw [c5]; decide) (by rw [c5]; decide) (by decide) ?_
        refine lv_aload_n C.1 C.2.1 (dd_at td_darkensAct 15 rfl) rfl (lv_at hl 0 rfl) ?_
        refine lv_bipush (v := (50 : Int32)) C.1 C.2.1 (dd_at td_darkensAct 16 rfl) (by decide) ?_
        obtain ⟨st6, hx7, hf⟩ := fc_of_bv hf
        refine mm_cv (As := [.int (50 : Int32)]) (rest := []) (n := 1) C hM (c_body l D o ad cs fu (50 : Int32) st) (List.mem_of_getElem? (i := 5) rfl) (dd_at td_darkensAct 17 rfl) hx7 hl.1 hd_body ⟨Nat.le_of_ble_eq_true rfl, Nat.le_of_ble_eq_true rfl⟩ rfl rfl (Nat.le_of_ble_eq_true rfl) ⟨Nat.le_refl 0, Nat.le_refl 0⟩ (fun H locs hM => ?_)
        refine lv_aload_n C.1 C.2.1 (dd_at td_darkensAct 18 rfl) rfl (lv_at hl 0 rfl) ?_
        refine lv_iload_n C.1 C.2.1 (dd_at td_darkensAct 19 rfl) rfl (lv_at hl 1 rfl) ?_
        refine lv_iload_n C.1 C.2.1 (dd_at td_darkensAct 20 rfl) rfl (lv_at hl 2 rfl) ?_
        obtain ⟨r10, st8, hx9, hf⟩ := fc_of_bn hf
        refine mm_ci (As := [.int x1, .int x2]) (rest := []) (n := 2) C hM (c_needDarkens l D o ad cs fu x1 x2 st6) (List.mem_of_getElem? (i := 30) rfl) (dd_at td_darkensAct 21 rfl) hx9 hl.1 hd_needDarkens ⟨Nat.le_of_ble_eq_true rfl, Nat.le_of_ble_eq_true rfl⟩ rfl rfl (Nat.le_of_ble_eq_true rfl) ⟨Nat.le_refl 0, Nat.le_refl 0⟩ (fun H locs hM => ?_)
        refine lv_ineg C.1 C.2.1 (dd_at td_darkensAct 22 rfl) ?_
        exact mm_ri C hM (dd_at td_darkensAct 23 rfl) hf
      · replace hf := fc_of_f hf c5
        by_cases c11 : v2 = (5 : Int32)
        · replace hf := fc_of_t hf c11
          refine lv_tableIn (off := 34) (tgt := 40) C.1 C.2.1 (dd_at td_darkensAct 4 rfl) (by rw [c11]; decide) (by rw [c11]; decide) (by rw [c11]; decide) (by decide) ?_
          exact w_darkensAct_b40 C fu x1 x2 st hf (lv_sub hl [0, 1, 2] rfl) hM
        · replace hf := fc_of_f hf c11
          by_cases c12 : v2 = (6 : Int32)
          · replace hf := fc_of_t hf c12
            refine lv_tableIn (off := 63) (tgt := 69) C.1 C.2.1 (dd_at td_darkensAct 4 rfl) (by rw [c12]; decide) (by rw [c12]; decide) (by rw [c12]; decide) (by decide) ?_
            refine lv_aload_n C.1 C.2.1 (dd_at td_darkensAct 24 rfl) rfl (lv_at hl 0 rfl) ?_
            refine lv_bipush (v := (71 : Int32)) C.1 C.2.1 (dd_at td_darkensAct 25 rfl) (by decide) ?_
            obtain ⟨st13, hx14, hf⟩ := fc_of_bv hf
            refine mm_cv (As := [.int (71 : Int32)]) (rest := []) (n := 1) C hM (c_body l D o ad cs fu (71 : Int32) st) (List.mem_of_getElem? (i := 5) rfl) (dd_at td_darkensAct 26 rfl) hx14 hl.1 hd_body ⟨Nat.le_of_ble_eq_true rfl, Nat.le_of_ble_eq_true rfl⟩ rfl rfl (Nat.le_of_ble_eq_true rfl) ⟨Nat.le_refl 0, Nat.le_refl 0⟩ (fun H locs hM => ?_)
            refine lv_aload_n C.1 C.2.1 (dd_at td_darkensAct 27 rfl) rfl (lv_at hl 0 rfl) ?_
            refine lv_iload_n C.1 C.2.1 (dd_at td_darkensAct 28 rfl) rfl (lv_at hl 1 rfl) ?_
            refine lv_iload_n C.1 C.2.1 (dd_at td_darkensAct 29 rfl) rfl (lv_at hl 2 rfl) ?_
            obtain ⟨r17, st15, hx16, hf⟩ := fc_of_bn hf
            refine mm_ci (As := [.int x1, .int x2]) (rest := []) (n := 2) C hM (c_needDarkens l D o ad cs fu x1 x2 st13) (List.mem_of_getElem? (i := 30) rfl) (dd_at td_darkensAct 30 rfl) hx16 hl.1 hd_needDarkens ⟨Nat.le_of_ble_eq_true rfl, Nat.le_of_ble_eq_true rfl⟩ rfl rfl (Nat.le_of_ble_eq_true rfl) ⟨Nat.le_refl 0, Nat.le_refl 0⟩ (fun H locs hM => ?_)
            refine lv_aload_n C.1 C.2.1 (dd_at td_darkensAct 31 rfl) rfl (lv_at hl 0 rfl) ?_
            refine mm_gA C hM 5 (dd_at td_darkensAct 32 rfl) (by decide) (by decide) (by decide) ?_
            refine lv_iload_n C.1 C.2.1 (dd_at td_darkensAct 33 rfl) rfl (lv_at hl 1 rfl) ?_
            obtain ⟨g18, hf⟩ := fc_of_gd hf
            refine mm_iald C hM 5 (dd_at td_darkensAct 34 rfl) (by decide) (by decide) (fc_of_ix g18) ?_
            refine lv_ixor C.1 C.2.1 (dd_at td_darkensAct 35 rfl) ?_
            exact mm_ri C hM (dd_at td_darkensAct 36 rfl) hf
          · replace hf := fc_of_f hf c12
            refine lv_tableOut (tgt := 89) C.1 C.2.1 (dd_at td_darkensAct 4 rfl) (by have q0 := lv_neT c3 (a := 2) (by decide); have q1 := lv_neT c4 (a := 3) (by decide); have q2 := lv_neT c5 (a := 4) (by decide); have q3 := lv_neT c11 (a := 5) (by decide); have q4 := lv_neT c12 (a := 6) (by decide); omega) (by decide) ?_
            exact w_darkensAct_b89 C fu x1 x2 st hf (lv_sub hl [0, 1, 2] rfl) hM
theorem c_darkensAct (l : Launch) (D : va_G) (o : Nat) (ad : Nat → Nat) (cs : ClassId × ClassId × ClassId) (fu : Nat) (x1 : Int32) (x2 : Int32) (st : mm_S) : mm_Mi l D o ad cs yX12_darkensAct cX12_darkensAct 3 (some .int) 2 43 [.int x1, .int x2] st (M_darkensAct fu x1 x2 st) := by
  intro r st' hf
  refine mm_enter (cc := cX12_darkensAct) (nL := 3) (ret := some .int) (by decide) rfl (Nat.le_of_ble_eq_true rfl) ?_
  intro p e s m args below meth c ls C hl hM
  exact w_darkensAct C fu x1 x2 st hf hl hM

/-! needPleads -/
def tb_needPleads : List (Nat × Instr × Nat) := [(0, .aload_n 0, 1), (1, .bipush 11, 2), (3, .invokevirtual 346, 3), (6, .aload_n 0, 1), (7, .iload_n 1, 1), (8, .iload_n 2, 1), (9, .invokevirtual 353, 3), (12, .aload_n 0, 1), (13, .getfield 26, 3), (16, .iload_n 1, 1), (17, .iaload, 1), (18, .isub, 1), (19, .ireturn, 1)]
theorem td_needPleads : tb_needPleads.all (fun q => decide (decode cX12_needPleads q.1 = .ok (q.2.1, q.2.2))) = true := by decide +kernel
theorem hd_needPleads : yX12_needPleads.cls = RX12 ∧ yX12_needPleads.cls ≠ "java/lang/invoke/MethodHandle" ∧ yX12_needPleads.cls ≠ "java/lang/invoke/VarHandle" ∧ (parseMethodDescriptor yX12_needPleads.desc).map (fun d => d.parameters.length) = some 2 := by decide +kernel
theorem w_needPleads {p : Program} {l : Launch} {e : Env} {s : State} {m : MethodId} {args : Array Value} {below : List Frame} {meth : Method} {c : Code} {D : va_G} {o : Nat} {ad : Nat → Nat} {cs : ClassId × ClassId × ClassId} {r : Int32} {st' : mm_S} (C : mm_C p s m args meth c cX12_needPleads 3 (some .int) D cs) (fu : Nat) (x1 : Int32) (x2 : Int32) (st : mm_S) (hf : M_needPleads fu x1 x2 st = some (r, st')) {H : Heap} {locs : List Loc} {ls : Array Slot} (hl : lv_has ls 3 [(0, .ref o), (1, .int x1), (2, .int x2)]) (hM : mm_H D o ad cs s.heap st H locs) : W p l e (mm_R 3 65) s m args below meth c H locs 0 0 (MQ below (mm_Qi D o ad cs r st') args s 0 0 (mm_A o ad)) (F0 m 0 ls []) := by
  unfold M_needPleads at hf
  refine lv_aload_n C.1 C.2.1 (dd_at td_needPleads 0 rfl) rfl (lv_at hl 0 rfl) ?_
  refine lv_bipush (v := (11 : Int32)) C.1 C.2.1 (dd_at td_needPleads 1 rfl) (by decide) ?_
  obtain ⟨st1, hx2, hf⟩ := fc_of_bv hf
  refine mm_cv (As := [.int (11 : Int32)]) (rest := []) (n := 1) C hM (c_body l D o ad cs fu (11 : Int32) st) (List.mem_of_getElem? (i := 5) rfl) (dd_at td_needPleads 2 rfl) hx2 hl.1 hd_body ⟨Nat.le_of_ble_eq_true rfl, Nat.le_of_ble_eq_true rfl⟩ rfl rfl (Nat.le_of_ble_eq_true rfl) ⟨Nat.le_refl 0, Nat.le_refl 0⟩ (fun H locs hM => ?_)
  refine lv_aload_n C.1 C.2.1 (dd_at td_needPleads 3 rfl) rfl (lv_at hl 0 rfl) ?_
  refine lv_iload_n C.1 C.2.1 (dd_at td_needPleads 4 rfl) rfl (lv_at hl 1 rfl) ?_
  refine lv_iload_n C.1 C.2.1 (dd_at td_needPleads 5 rfl) rfl (lv_at hl 2 rfl) ?_
  obtain ⟨r5, st3, hx4, hf⟩ := fc_of_bn hf
  refine mm_ci (As := [.int x1, .int x2]) (rest := []) (n := 2) C hM (c_darkensAct l D o ad cs fu x1 x2 st1) (List.mem_of_getElem? (i := 6) rfl) (dd_at td_needPleads 6 rfl) hx4 hl.1 hd_darkensAct ⟨Nat.le_of_ble_eq_true rfl, Nat.le_of_ble_eq_true rfl⟩ rfl rfl (Nat.le_of_ble_eq_true rfl) ⟨Nat.le_refl 0, Nat.le_refl 0⟩ (fun H locs hM => ?_)
  refine lv_aload_n C.1 C.2.1 (dd_at td_needPleads 7 rfl) rfl (lv_at hl 0 rfl) ?_
  refine mm_gA C hM 5 (dd_at td_needPleads 8 rfl) (by decide) (by decide) (by decide) ?_
  refine lv_iload_n C.1 C.2.1 (dd_at td_needPleads 9 rfl) rfl (lv_at hl 1 rfl) ?_
  obtain ⟨g6, hf⟩ := fc_of_gd hf
  refine mm_iald C hM 5 (dd_at td_needPleads 10 rfl) (by decide) (by decide) (fc_of_ix g6) ?_
  refine lv_isub C.1 C.2.1 (dd_at td_needPleads 11 rfl) ?_
  exact mm_ri C hM (dd_at td_needPleads 12 rfl) hf
theorem c_needPleads (l : Launch) (D : va_G) (o : Nat) (ad : Nat → Nat) (cs : ClassId × ClassId × ClassId) (fu : Nat) (x1 : Int32) (x2 : Int32) (st : mm_S) : mm_Mi l D o ad cs yX12_needPleads cX12_needPleads 3 (some .int) 3 65 [.int x1, .int x2] st (M_needPleads fu x1 x2 st) := by
  intro r st' hf
  refine mm_enter (cc := cX12_needPleads) (nL := 3) (ret := some .int) (by decide) rfl (Nat.le_of_ble_eq_true rfl) ?_
  intro p e s m args below meth c ls C hl hM
  exact w_needPleads C fu x1 x2 st hf hl hM

/-! siegePleads -/
def tb_siegePleads : List (Nat × Instr × Nat) := [(0, .aload_n 0, 1), (1, .bipush 20, 2), (3, .invokevirtual 346, 3), (6, .aload_n 0, 1), (7, .iload_n 1, 1), (8, .iload_n 2, 1), (9, .invokevirtual 356, 3), (12, .bipush 6, 2), (14, .ixor, 1), (15, .ireturn, 1)]
theorem td_siegePleads : tb_siegePleads.all (fun q => decide (decode cX12_siegePleads q.1 = .ok (q.2.1, q.2.2))) = true := by decide +kernel
theorem hd_siegePleads : yX12_siegePleads.cls = RX12 ∧ yX12_siegePleads.cls ≠ "java/lang/invoke/MethodHandle" ∧ yX12_siegePleads.cls ≠ "java/lang/invoke/VarHandle" ∧ (parseMethodDescriptor yX12_siegePleads.desc).map (fun d => d.parameters.length) = some 2 := by decide +kernel
theorem w_siegePleads {p : Program} {l : Launch} {e : Env} {s : State} {m : MethodId} {args : Array Value} {below : List Frame} {meth : Method} {c : Code} {D : va_G} {o : Nat} {ad : Nat → Nat} {cs : ClassId × ClassId × ClassId} {r : Int32} {st' : mm_S} (C : mm_C p s m args meth c cX12_siegePleads 3 (some .int) D cs) (fu : Nat) (x1 : Int32) (x2 : Int32) (st : mm_S) (hf : M_siegePleads fu x1 x2 st = some (r, st')) {H : Heap} {locs : List Loc} {ls : Array Slot} (hl : lv_has ls 3 [(0, .ref o), (1, .int x1), (2, .int x2)]) (hM : mm_H D o ad cs s.heap st H locs) : W p l e (mm_R 4 87) s m args below meth c H locs 0 0 (MQ below (mm_Qi D o ad cs r st') args s 0 0 (mm_A o ad)) (F0 m 0 ls []) := by
  unfold M_siegePleads at hf
  refine lv_aload_n C.1 C.2.1 (dd_at td_siegePleads 0 rfl) rfl (lv_at hl 0 rfl) ?_
  refine lv_bipush (v := (20 : Int32)) C.1 C.2.1 (dd_at td_siegePleads 1 rfl) (by decide) ?_
  obtain ⟨st1, hx2, hf⟩ := fc_of_bv hf
  refine mm_cv (As := [.int (20 : Int32)]) (rest := []) (n := 1) C hM (c_body l D o ad cs fu (20 : Int32) st) (List.mem_of_getElem? (i := 5) rfl) (dd_at td_siegePleads 2 rfl) hx2 hl.1 hd_body ⟨Nat.le_of_ble_eq_true rfl, Nat.le_of_ble_eq_true rfl⟩ rfl rfl (Nat.le_of_ble_eq_true rfl) ⟨Nat.le_refl 0, Nat.le_refl 0⟩ (fun H locs hM => ?_)
  refine lv_aload_n C.1 C.2.1 (dd_at td_siegePleads 3 rfl) rfl (lv_at hl 0 rfl) ?_
  refine lv_iload_n C.1 C.2.1 (dd_at td_siegePleads 4 rfl) rfl (lv_at hl 1 rfl) ?_
  refine lv_iload_n C.1 C.2.1 (dd_at td_siegePleads 5 rfl) rfl (lv_at hl 2 rfl) ?_
  obtain ⟨r5, st3, hx4, hf⟩ := fc_of_bn hf
  refine mm_ci (As := [.int x1, .int x2]) (rest := []) (n := 2) C hM (c_needPleads l D o ad cs fu x1 x2 st1) (List.mem_of_getElem? (i := 31) rfl) (dd_at td_siegePleads 6 rfl) hx4 hl.1 hd_needPleads ⟨Nat.le_of_ble_eq_true rfl, Nat.le_of_ble_eq_true rfl⟩ rfl rfl (Nat.le_of_ble_eq_true rfl) ⟨Nat.le_refl 0, Nat.le_refl 0⟩ (fun H locs hM => ?_)
  refine lv_bipush (v := (6 : Int32)) C.1 C.2.1 (dd_at td_siegePleads 7 rfl) (by decide) ?_
  refine lv_ixor C.1 C.2.1 (dd_at td_siegePleads 8 rfl) ?_
  exact mm_ri C hM (dd_at td_siegePleads 9 rfl) hf
theorem c_siegePleads (l : Launch) (D : va_G) (o : Nat) (ad : Nat → Nat) (cs : ClassId × ClassId × ClassId) (fu : Nat) (x1 : Int32) (x2 : Int32) (st : mm_S) : mm_Mi l D o ad cs yX12_siegePleads cX12_siegePleads 3 (some .int) 4 87 [.int x1, .int x2] st (M_siegePleads fu x1 x2 st) := by
  intro r st' hf
  refine mm_enter (cc := cX12_siegePleads) (nL := 3) (ret := some .int) (by decide) rfl (Nat.le_of_ble_eq_true rfl) ?_
  intro p e s m args below meth c ls C hl hM
  exact w_siegePleads C fu x1 x2 st hf hl hM

/-! pleadsAct -/
def tb_pleadsAct : List (Nat × Instr × Nat) := [(0, .aload_n 0, 1), (1, .getfield 22, 3), (4, .iload_n 1, 1), (5, .iaload, 1), (6, .lookupswitch 78 #[(1, 34), (4, 41), (6, 56)], 34), (40, .aload_n 0, 1), (41, .iload_n 1, 1), (42, .iload_n 2, 1), (43, .invokevirtual 359, 3), (46, .ireturn, 1), (47, .aload_n 0, 1), (48, .bipush 51, 2), (50, .invokevirtual 346, 3), (53, .aload_n 0, 1), (54, .iload_n 1, 1), (55, .iload_n 2, 1), (56, .iconst 1, 1), (57, .iadd, 1), (58, .invokevirtual 359, 3), (61, .ireturn, 1), (62, .aload_n 0, 1), (63, .bipush 70, 2), (65, .invokevirtual 346, 3), (68, .aload_n 0, 1), (69, .iload_n 1, 1), (70, .iload_n 2, 1), (71, .invokevirtual 356, 3), (74, .istore_n 3, 1), (75, .iload_n 3, 1), (76, .aload_n 0, 1), (77, .iload_n 1, 1), (78, .iconst 2, 1), (79, .invokevirtual 349, 3), (82, .iadd, 1), (83, .ireturn, 1), (84, .aload_n 0, 1), (85, .iload_n 1, 1), (86, .iload_n 2, 1), (87, .invokevirtual 356, 3), (90, .ireturn, 1)]
theorem td_pleadsAct : tb_pleadsAct.all (fun q => decide (decode cX12_pleadsAct q.1 = .ok (q.2.1, q.2.2))) = true := by decide +kernel
theorem hd_pleadsAct : yX12_pleadsAct.cls = RX12 ∧ yX12_pleadsAct.cls ≠ "java/lang/invoke/MethodHandle" ∧ yX12_pleadsAct.cls ≠ "java/lang/invoke/VarHandle" ∧ (parseMethodDescriptor yX12_pleadsAct.desc).map (fun d => d.parameters.length) = some 2 := by decide +kernel
theorem w_pleadsAct {p : Program} {l : Launch} {e : Env} {s : State} {m : MethodId} {args : Array Value} {below : List Frame} {meth : Method} {c : Code} {D : va_G} {o : Nat} {ad : Nat → Nat} {cs : ClassId × ClassId × ClassId} {r : Int32} {st' : mm_S} (C : mm_C p s m args meth c cX12_pleadsAct 4 (some .int) D cs) (fu : Nat) (x1 : Int32) (x2 : Int32) (st : mm_S) (hf : M_pleadsAct fu x1 x2 st = some (r, st')) {H : Heap} {locs : List Loc} {ls : Array Slot} (hl : lv_has ls 4 [(0, .ref o), (1, .int x1), (2, .int x2)]) (hM : mm_H D o ad cs s.heap st H locs) : W p l e (mm_R 5 109) s m args below meth c H locs 0 0 (MQ below (mm_Qi D o ad cs r st') args s 0 0 (mm_A o ad)) (F0 m 0 ls []) := by
  unfold M_pleadsAct at hf
  refine lv_aload_n C.1 C.2.1 (dd_at td_pleadsAct 0 rfl) rfl (lv_at hl 0 rfl) ?_
  refine mm_gA C hM 4 (dd_at td_pleadsAct 1 rfl) (by decide) (by decide) (by decide) ?_
  refine lv_iload_n C.1 C.2.1 (dd_at td_pleadsAct 2 rfl) rfl (lv_at hl 1 rfl) ?_
  obtain ⟨g1, hf⟩ := fc_of_gd hf
  refine mm_iald C hM 4 (dd_at td_pleadsAct 3 rfl) (by decide) (by decide) (fc_of_ix g1) ?_
  refine lv_topi (fun v2 ev2 => ?_)
  replace hf := fc_of_nm hf v2 ev2
  by_cases c3 : v2 = (1 : Int32)
  · replace hf := fc_of_t hf c3
    refine lv_lookup (off := 34) (tgt := 40) C.1 C.2.1 (dd_at td_pleadsAct 4 rfl) (by decide) (by rw [c3]; decide) (by decide) ?_
    refine lv_aload_n C.1 C.2.1 (dd_at td_pleadsAct 5 rfl) rfl (lv_at hl 0 rfl) ?_
    refine lv_iload_n C.1 C.2.1 (dd_at td_pleadsAct 6 rfl) rfl (lv_at hl 1 rfl) ?_
    refine lv_iload_n C.1 C.2.1 (dd_at td_pleadsAct 7 rfl) rfl (lv_at hl 2 rfl) ?_
    obtain ⟨r6, st4, hx5, hf⟩ := fc_of_bn hf
    refine mm_ci (As := [.int x1, .int x2]) (rest := []) (n := 2) C hM (c_siegePleads l D o ad cs fu x1 x2 st) (List.mem_of_getElem? (i := 37) rfl) (dd_at td_pleadsAct 8 rfl) hx5 hl.1 hd_siegePleads ⟨Nat.le_of_ble_eq_true rfl, Nat.le_of_ble_eq_true rfl⟩ rfl rfl (Nat.le_of_ble_eq_true rfl) ⟨Nat.le_refl 0, Nat.le_refl 0⟩ (fun H locs hM => ?_)
    exact mm_ri C hM (dd_at td_pleadsAct 9 rfl) hf
  · replace hf := fc_of_f hf c3
    by_cases c7 : v2 = (4 : Int32)
    · replace hf := fc_of_t hf c7
      refine lv_lookup (off := 41) (tgt := 47) C.1 C.2.1 (dd_at td_pleadsAct 4 rfl) (by decide) (by rw [c7]; decide) (by decide) ?_
      refine lv_aload_n C.1 C.2.1 (dd_at td_pleadsAct 10 rfl) rfl (lv_at hl 0 rfl) ?_
      refine lv_bipush (v := (51 : Int32)) C.1 C.2.1 (dd_at td_pleadsAct 11 rfl) (by decide) ?_
      obtain ⟨st8, hx9, hf⟩ := fc_of_bv hf
      refine mm_cv (As := [.int (51 : Int32)]) (rest := []) (n := 1) C hM (c_body l D o ad cs fu (51 : Int32) st) (List.mem_of_getElem? (i := 5) rfl) (dd_at td_pleadsAct 12 rfl) hx9 hl.1 hd_body ⟨Nat.le_of_ble_eq_true rfl, Nat.le_of_ble_eq_true rfl⟩ rfl rfl (Nat.le_of_ble_eq_true rfl) ⟨Nat.le_refl 0, Nat.le_refl 0⟩ (fun H locs hM => ?_)
      refine lv_aload_n C.1 C.2.1 (dd_at td_pleadsAct 13 rfl) rfl (lv_at hl 0 rfl) ?_
      refine lv_iload_n C.1 C.2.1 (dd_at td_pleadsAct 14 rfl) rfl (lv_at hl 1 rfl) ?_
      refine lv_iload_n C.1 C.2.1 (dd_at td_pleadsAct 15 rfl) rfl (lv_at hl 2 rfl) ?_
      refine lv_iconst (v := (1 : Int32)) C.1 C.2.1 (dd_at td_pleadsAct 16 rfl) (by decide) ?_
      refine lv_iadd C.1 C.2.1 (dd_at td_pleadsAct 17 rfl) ?_
      obtain ⟨r12, st10, hx11, hf⟩ := fc_of_bn hf
      refine mm_ci (As := [.int x1, .int (x2 + (1 : Int32))]) (rest := []) (n := 2) C hM (c_siegePleads l D o ad cs fu x1 (x2 + (1 : Int32)) st8) (List.mem_of_getElem? (i := 37) rfl) (dd_at td_pleadsAct 18 rfl) hx11 hl.1 hd_siegePleads ⟨Nat.le_of_ble_eq_true rfl, Nat.le_of_ble_eq_true rfl⟩ rfl rfl (Nat.le_of_ble_eq_true rfl) ⟨Nat.le_refl 0, Nat.le_refl 0⟩ (fun H locs hM => ?_)
      exact mm_ri C hM (dd_at td_pleadsAct 19 rfl) hf
    · replace hf := fc_of_f hf c7
      by_cases c13 : v2 = (6 : Int32)
      · replace hf := fc_of_t hf c13
        refine lv_lookup (off := 56) (tgt := 62) C.1 C.2.1 (dd_at td_pleadsAct 4 rfl) (by decide) (by rw [c13]; decide) (by decide) ?_
        refine lv_aload_n C.1 C.2.1 (dd_at td_pleadsAct 20 rfl) rfl (lv_at hl 0 rfl) ?_
        refine lv_bipush (v := (70 : Int32)) C.1 C.2.1 (dd_at td_pleadsAct 21 rfl) (by decide) ?_
        obtain ⟨st14, hx15, hf⟩ := fc_of_bv hf
        refine mm_cv (As := [.int (70 : Int32)]) (rest := []) (n := 1) C hM (c_body l D o ad cs fu (70 : Int32) st) (List.mem_of_getElem? (i := 5) rfl) (dd_at td_pleadsAct 22 rfl) hx15 hl.1 hd_body ⟨Nat.le_of_ble_eq_true rfl, Nat.le_of_ble_eq_true rfl⟩ rfl rfl (Nat.le_of_ble_eq_true rfl) ⟨Nat.le_refl 0, Nat.le_refl 0⟩ (fun H locs hM => ?_)
        refine lv_aload_n C.1 C.2.1 (dd_at td_pleadsAct 23 rfl) rfl (lv_at hl 0 rfl) ?_
        refine lv_iload_n C.1 C.2.1 (dd_at td_pleadsAct 24 rfl) rfl (lv_at hl 1 rfl) ?_
        refine lv_iload_n C.1 C.2.1 (dd_at td_pleadsAct 25 rfl) rfl (lv_at hl 2 rfl) ?_
        obtain ⟨r18, st16, hx17, hf⟩ := fc_of_bn hf
        refine mm_ci (As := [.int x1, .int x2]) (rest := []) (n := 2) C hM (c_needPleads l D o ad cs fu x1 x2 st14) (List.mem_of_getElem? (i := 31) rfl) (dd_at td_pleadsAct 26 rfl) hx17 hl.1 hd_needPleads ⟨Nat.le_of_ble_eq_true rfl, Nat.le_of_ble_eq_true rfl⟩ rfl rfl (Nat.le_of_ble_eq_true rfl) ⟨Nat.le_refl 0, Nat.le_refl 0⟩ (fun H locs hM => ?_)
        refine lv_istore_n (lv' := [(3, .int r18), (0, .ref o), (1, .int x1), (2, .int x2)]) C.1 C.2.1 (dd_at td_pleadsAct 27 rfl) rfl hl (by decide) rfl (fun ls hl => ?_)
        refine lv_iload_n C.1 C.2.1 (dd_at td_pleadsAct 28 rfl) rfl (lv_at hl 0 rfl) ?_
        refine lv_aload_n C.1 C.2.1 (dd_at td_pleadsAct 29 rfl) rfl (lv_at hl 1 rfl) ?_
        refine lv_iload_n C.1 C.2.1 (dd_at td_pleadsAct 30 rfl) rfl (lv_at hl 2 rfl) ?_
        refine lv_iconst (v := (2 : Int32)) C.1 C.2.1 (dd_at td_pleadsAct 31 rfl) (by decide) ?_
        obtain ⟨r21, st19, hx20, hf⟩ := fc_of_bn hf
        refine mm_ci (As := [.int x1, .int (2 : Int32)]) (rest := [.int r18]) (n := 2) C hM (c_needDarkens l D o ad cs fu x1 (2 : Int32) st16) (List.mem_of_getElem? (i := 30) rfl) (dd_at td_pleadsAct 32 rfl) hx20 hl.1 hd_needDarkens ⟨Nat.le_of_ble_eq_true rfl, Nat.le_of_ble_eq_true rfl⟩ rfl rfl (Nat.le_of_ble_eq_true rfl) ⟨Nat.le_refl 0, Nat.le_refl 0⟩ (fun H locs hM => ?_)
        refine lv_iadd C.1 C.2.1 (dd_at td_pleadsAct 33 rfl) ?_
        exact mm_ri C hM (dd_at td_pleadsAct 34 rfl) hf
      · replace hf := fc_of_f hf c13
        refine lv_lookup (off := 78) (tgt := 84) C.1 C.2.1 (dd_at td_pleadsAct 4 rfl) (by decide) (by show Op.lookupswitch.offset [(1, 34), (4, 41), (6, 56)] 78 _ = _; rw [lv_osw c3 (by decide), lv_osw c7 (by decide), lv_osw c13 (by decide)]; rfl) (by decide) ?_
        refine lv_aload_n C.1 C.2.1 (dd_at td_pleadsAct 35 rfl) rfl (lv_at hl 0 rfl) ?_
        refine lv_iload_n C.1 C.2.1 (dd_at td_pleadsAct 36 rfl) rfl (lv_at hl 1 rfl) ?_
        refine lv_iload_n C.1 C.2.1 (dd_at td_pleadsAct 37 rfl) rfl (lv_at hl 2 rfl) ?_
        obtain ⟨r24, st22, hx23, hf⟩ := fc_of_bn hf
        refine mm_ci (As := [.int x1, .int x2]) (rest := []) (n := 2) C hM (c_needPleads l D o ad cs fu x1 x2 st) (List.mem_of_getElem? (i := 31) rfl) (dd_at td_pleadsAct 38 rfl) hx23 hl.1 hd_needPleads ⟨Nat.le_of_ble_eq_true rfl, Nat.le_of_ble_eq_true rfl⟩ rfl rfl (Nat.le_of_ble_eq_true rfl) ⟨Nat.le_refl 0, Nat.le_refl 0⟩ (fun H locs hM => ?_)
        exact mm_ri C hM (dd_at td_pleadsAct 39 rfl) hf
theorem c_pleadsAct (l : Launch) (D : va_G) (o : Nat) (ad : Nat → Nat) (cs : ClassId × ClassId × ClassId) (fu : Nat) (x1 : Int32) (x2 : Int32) (st : mm_S) : mm_Mi l D o ad cs yX12_pleadsAct cX12_pleadsAct 4 (some .int) 5 109 [.int x1, .int x2] st (M_pleadsAct fu x1 x2 st) := by
  intro r st' hf
  refine mm_enter (cc := cX12_pleadsAct) (nL := 4) (ret := some .int) (by decide) rfl (Nat.le_of_ble_eq_true rfl) ?_
  intro p e s m args below meth c ls C hl hM
  exact w_pleadsAct C fu x1 x2 st hf hl hM

/-! needTells -/
def tb_needTells : List (Nat × Instr × Nat) := [(0, .aload_n 0, 1), (1, .bipush 12, 2), (3, .invokevirtual 346, 3), (6, .aload_n 0, 1), (7, .iload_n 1, 1), (8, .iload_n 2, 1), (9, .invokevirtual 362, 3), (12, .iconst 2, 1), (13, .imul, 1), (14, .ireturn, 1)]
theorem td_needTells : tb_needTells.all (fun q => decide (decode cX12_needTells q.1 = .ok (q.2.1, q.2.2))) = true := by decide +kernel
theorem hd_needTells : yX12_needTells.cls = RX12 ∧ yX12_needTells.cls ≠ "java/lang/invoke/MethodHandle" ∧ yX12_needTells.cls ≠ "java/lang/invoke/VarHandle" ∧ (parseMethodDescriptor yX12_needTells.desc).map (fun d => d.parameters.length) = some 2 := by decide +kernel
theorem w_needTells {p : Program} {l : Launch} {e : Env} {s : State} {m : MethodId} {args : Array Value} {below : List Frame} {meth : Method} {c : Code} {D : va_G} {o : Nat} {ad : Nat → Nat} {cs : ClassId × ClassId × ClassId} {r : Int32} {st' : mm_S} (C : mm_C p s m args meth c cX12_needTells 3 (some .int) D cs) (fu : Nat) (x1 : Int32) (x2 : Int32) (st : mm_S) (hf : M_needTells fu x1 x2 st = some (r, st')) {H : Heap} {locs : List Loc} {ls : Array Slot} (hl : lv_has ls 3 [(0, .ref o), (1, .int x1), (2, .int x2)]) (hM : mm_H D o ad cs s.heap st H locs) : W p l e (mm_R 6 132) s m args below meth c H locs 0 0 (MQ below (mm_Qi D o ad cs r st') args s 0 0 (mm_A o ad)) (F0 m 0 ls []) := by
  unfold M_needTells at hf
  refine lv_aload_n C.1 C.2.1 (dd_at td_needTells 0 rfl) rfl (lv_at hl 0 rfl) ?_
  refine lv_bipush (v := (12 : Int32)) C.1 C.2.1 (dd_at td_needTells 1 rfl) (by decide) ?_
  obtain ⟨st1, hx2, hf⟩ := fc_of_bv hf
  refine mm_cv (As := [.int (12 : Int32)]) (rest := []) (n := 1) C hM (c_body l D o ad cs fu (12 : Int32) st) (List.mem_of_getElem? (i := 5) rfl) (dd_at td_needTells 2 rfl) hx2 hl.1 hd_body ⟨Nat.le_of_ble_eq_true rfl, Nat.le_of_ble_eq_true rfl⟩ rfl rfl (Nat.le_of_ble_eq_true rfl) ⟨Nat.le_refl 0, Nat.le_refl 0⟩ (fun H locs hM => ?_)
  refine lv_aload_n C.1 C.2.1 (dd_at td_needTells 3 rfl) rfl (lv_at hl 0 rfl) ?_
  refine lv_iload_n C.1 C.2.1 (dd_at td_needTells 4 rfl) rfl (lv_at hl 1 rfl) ?_
  refine lv_iload_n C.1 C.2.1 (dd_at td_needTells 5 rfl) rfl (lv_at hl 2 rfl) ?_
  obtain ⟨r5, st3, hx4, hf⟩ := fc_of_bn hf
  refine mm_ci (As := [.int x1, .int x2]) (rest := []) (n := 2) C hM (c_pleadsAct l D o ad cs fu x1 x2 st1) (List.mem_of_getElem? (i := 35) rfl) (dd_at td_needTells 6 rfl) hx4 hl.1 hd_pleadsAct ⟨Nat.le_of_ble_eq_true rfl, Nat.le_of_ble_eq_true rfl⟩ rfl rfl (Nat.le_of_ble_eq_true rfl) ⟨Nat.le_refl 0, Nat.le_refl 0⟩ (fun H locs hM => ?_)
  refine lv_iconst (v := (2 : Int32)) C.1 C.2.1 (dd_at td_needTells 7 rfl) (by decide) ?_
  refine lv_imul C.1 C.2.1 (dd_at td_needTells 8 rfl) ?_
  exact mm_ri C hM (dd_at td_needTells 9 rfl) hf
theorem c_needTells (l : Launch) (D : va_G) (o : Nat) (ad : Nat → Nat) (cs : ClassId × ClassId × ClassId) (fu : Nat) (x1 : Int32) (x2 : Int32) (st : mm_S) : mm_Mi l D o ad cs yX12_needTells cX12_needTells 3 (some .int) 6 132 [.int x1, .int x2] st (M_needTells fu x1 x2 st) := by
  intro r st' hf
  refine mm_enter (cc := cX12_needTells) (nL := 3) (ret := some .int) (by decide) rfl (Nat.le_of_ble_eq_true rfl) ?_
  intro p e s m args below meth c ls C hl hM
  exact w_needTells C fu x1 x2 st hf hl hM

/-! tellsAct -/
def tb_tellsAct : List (Nat × Instr × Nat) := [(0, .aload_n 0, 1), (1, .getfield 22, 3), (4, .iload_n 1, 1), (5, .iaload, 1), (6, .tableswitch 67 3 6 #[30, 67, 52, 30], 30), (36, .aload_n 0, 1), (37, .bipush 40, 2), (39, .invokevirtual 346, 3), (42, .aload_n 0, 1), (43, .iload_n 1, 1), (44, .iload_n 2, 1), (45, .invokevirtual 365, 3), (48, .istore_n 3, 1), (49, .iload_n 3, 1), (50, .aload_n 0, 1), (51, .iload_n 1, 1), (52, .iconst 1, 1), (53, .invokevirtual 362, 3), (56, .iadd, 1), (57, .ireturn, 1), (58, .aload_n 0, 1), (59, .bipush 60, 2), (61, .invokevirtual 346, 3), (64, .aload_n 0, 1), (65, .iload_n 1, 1), (66, .iload_n 2, 1), (67, .iload_n 1, 1), (68, .isub, 1), (69, .invokevirtual 365, 3), (72, .ireturn, 1), (73, .aload_n 0, 1), (74, .iload_n 1, 1), (75, .iload_n 2, 1), (76, .invokevirtual 365, 3), (79, .ireturn, 1)]
theorem td_tellsAct : tb_tellsAct.all (fun q => decide (decode cX12_tellsAct q.1 = .ok (q.2.1, q.2.2))) = true := by decide +kernel
theorem hd_tellsAct : yX12_tellsAct.cls = RX12 ∧ yX12_tellsAct.cls ≠ "java/lang/invoke/MethodHandle" ∧ yX12_tellsAct.cls ≠ "java/lang/invoke/VarHandle" ∧ (parseMethodDescriptor yX12_tellsAct.desc).map (fun d => d.parameters.length) = some 2 := by decide +kernel
theorem w_tellsAct_b36 {p : Program} {l : Launch} {e : Env} {s : State} {m : MethodId} {args : Array Value} {below : List Frame} {meth : Method} {c : Code} {D : va_G} {o : Nat} {ad : Nat → Nat} {cs : ClassId × ClassId × ClassId} {r : Int32} {st' : mm_S} (C : mm_C p s m args meth c cX12_tellsAct 4 (some .int) D cs) (fu : Nat) (x1 : Int32) (x2 : Int32) (st : mm_S) (hf : M_tellsAct_b36 fu x1 x2 st = some (r, st')) {H : Heap} {locs : List Loc} {ls : Array Slot} (hl : lv_has ls 4 [(0, .ref o), (1, .int x1), (2, .int x2)]) (hM : mm_H D o ad cs s.heap st H locs) : W p l e (mm_R 7 154) s m args below meth c H locs 0 0 (MQ below (mm_Qi D o ad cs r st') args s 0 0 (mm_A o ad)) (F0 m 36 ls []) := by
  unfold M_tellsAct_b36 at hf
  refine lv_aload_n C.1 C.2.1 (dd_at td_tellsAct 5 rfl) rfl (lv_at hl 0 rfl) ?_
  refine lv_bipush (v := (40 : Int32)) C.1 C.2.1 (dd_at td_tellsAct 6 rfl) (by decide) ?_
  obtain ⟨st12, hx13, hf⟩ := fc_of_bv hf
  refine mm_cv (As := [.int (40 : Int32)]) (rest := []) (n := 1) C hM (c_body l D o ad cs fu (40 : Int32) st) (List.mem_of_getElem? (i := 5) rfl) (dd_at td_tellsAct 7 rfl) hx13 hl.1 hd_body ⟨Nat.le_of_ble_eq_true rfl, Nat.le_of_ble_eq_true rfl⟩ rfl rfl (Nat.le_of_ble_eq_true rfl) ⟨Nat.le_refl 0, Nat.le_refl 0⟩ (fun H locs hM => ?_)
  refine lv_aload_n C.1 C.2.1 (dd_at td_tellsAct 8 rfl) rfl (lv_at hl 0 rfl) ?_
  refine lv_iload_n C.1 C.2.1 (dd_at td_tellsAct 9 rfl) rfl (lv_at hl 1 rfl) ?_
  refine lv_iload_n C.1 C.2.1 (dd_at td_tellsAct 10 rfl) rfl (lv_at hl 2 rfl) ?_
  obtain ⟨r16, st14, hx15, hf⟩ := fc_of_bn hf
  refine mm_ci (As := [.int x1, .int x2]) (rest := []) (n := 2) C hM (c_needTells l D o ad cs fu x1 x2 st12) (List.mem_of_getElem? (i := 32) rfl) (dd_at td_tellsAct 11 rfl) hx15 hl.1 hd_needTells ⟨Nat.le_of_ble_eq_true rfl, Nat.le_of_ble_eq_true rfl⟩ rfl rfl (Nat.le_of_ble_eq_true rfl) ⟨Nat.le_refl 0, Nat.le_refl 0⟩ (fun H locs hM => ?_)
  refine lv_istore_n (lv' := [(3, .int r16), (0, .ref o), (1, .int x1), (2, .int x2)]) C.1 C.2.1 (dd_at td_tellsAct 12 rfl) rfl hl (by decide) rfl (fun ls hl => ?_)
  refine lv_iload_n C.1 C.2.1 (dd_at td_tellsAct 13 rfl) rfl (lv_at hl 0 rfl) ?_
  refine lv_aload_n C.1 C.2.1 (dd_at td_tellsAct 14 rfl) rfl (lv_at hl 1 rfl) ?_
  refine lv_iload_n C.1 C.2.1 (dd_at td_tellsAct 15 rfl) rfl (lv_at hl 2 rfl) ?_
  refine lv_iconst (v := (1 : Int32)) C.1 C.2.1 (dd_at td_tellsAct 16 rfl) (by decide) ?_
  obtain ⟨r19, st17, hx18, hf⟩ := fc_of_bn hf
  refine mm_ci (As := [.int x1, .int (1 : Int32)]) (rest := [.int r16]) (n := 2) C hM (c_pleadsAct l D o ad cs fu x1 (1 : Int32) st14) (List.mem_of_getElem? (i := 35) rfl) (dd_at td_tellsAct 17 rfl) hx18 hl.1 hd_pleadsAct ⟨Nat.le_of_ble_eq_true rfl, Nat.le_of_ble_eq_true rfl⟩ rfl rfl (Nat.le_of_ble_eq_true rfl) ⟨Nat.le_refl 0, Nat.le_refl 0⟩ (fun H locs hM => ?_)
  refine lv_iadd C.1 C.2.1 (dd_at td_tellsAct 18 rfl) ?_
  exact mm_ri C hM (dd_at td_tellsAct 19 rfl) hf
theorem w_tellsAct_b73 {p : Program} {l : Launch} {e : Env} {s : State} {m : MethodId} {args : Array Value} {below : List Frame} {meth : Method} {c : Code} {D : va_G} {o : Nat} {ad : Nat → Nat} {cs : ClassId × ClassId × ClassId} {r : Int32} {st' : mm_S} (C : mm_C p s m args meth c cX12_tellsAct 4 (some .int) D cs) (fu : Nat) (x1 : Int32) (x2 : Int32) (st : mm_S) (hf : M_tellsAct_b73 fu x1 x2 st = some (r, st')) {H : Heap} {locs : List Loc} {ls : Array Slot} (hl : lv_has ls 4 [(0, .ref o), (1, .int x1), (2, .int x2)]) (hM : mm_H D o ad cs s.heap st H locs) : W p l e (mm_R 7 154) s m args below meth c H locs 0 0 (MQ below (mm_Qi D o ad cs r st') args s 0 0 (mm_A o ad)) (F0 m 73 ls []) := by
  unfold M_tellsAct_b73 at hf
  refine lv_aload_n C.1 C.2.1 (dd_at td_tellsAct 30 rfl) rfl (lv_at hl 0 rfl) ?_
  refine lv_iload_n C.1 C.2.1 (dd_at td_tellsAct 31 rfl) rfl (lv_at hl 1 rfl) ?_
  refine lv_iload_n C.1 C.2.1 (dd_at td_tellsAct 32 rfl) rfl (lv_at hl 2 rfl) ?_
  obtain ⟨r22, st20, hx21, hf⟩ := fc_of_bn hf
  refine mm_ci (As := [.int x1, .int x2]) (rest := []) (n := 2) C hM (c_needTells l D o ad cs fu x1 x2 st) (List.mem_of_getElem? (i := 32) rfl) (dd_at td_tellsAct 33 rfl) hx21 hl.1 hd_needTells ⟨Nat.le_of_ble_eq_true rfl, Nat.le_of_ble_eq_true rfl⟩ rfl rfl (Nat.le_of_ble_eq_true rfl) ⟨Nat.le_refl 0, Nat.le_refl 0⟩ (fun H locs hM => ?_)
  exact mm_ri C hM (dd_at td_tellsAct 34 rfl) hf
theorem w_tellsAct {p : Program} {l : Launch} {e : Env} {s : State} {m : MethodId} {args : Array Value} {below : List Frame} {meth : Method} {c : Code} {D : va_G} {o : Nat} {ad : Nat → Nat} {cs : ClassId × ClassId × ClassId} {r : Int32} {st' : mm_S} (C : mm_C p s m args meth c cX12_tellsAct 4 (some .int) D cs) (fu : Nat) (x1 : Int32) (x2 : Int32) (st : mm_S) (hf : M_tellsAct fu x1 x2 st = some (r, st')) {H : Heap} {locs : List Loc} {ls : Array Slot} (hl : lv_has ls 4 [(0, .ref o), (1, .int x1), (2, .int x2)]) (hM : mm_H D o ad cs s.heap st H locs) : W p l e (mm_R 7 154) s m args below meth c H locs 0 0 (MQ below (mm_Qi D o ad cs r st') args s 0 0 (mm_A o ad)) (F0 m 0 ls []) := by
  unfold M_tellsAct at hf
  refine lv_aload_n C.1 C.2.1 (dd_at td_tellsAct 0 rfl) rfl (lv_at hl 0 rfl) ?_
  refine mm_gA C hM 4 (dd_at td_tellsAct 1 rfl) (by decide) (by decide) (by decide) ?_
  refine lv_iload_n C.1 C.2.1 (dd_at td_tellsAct 2 rfl) rfl (lv_at hl 1 rfl) ?_
  obtain ⟨g1, hf⟩ := fc_of_gd hf
  refine mm_iald C hM 4 (dd_at td_tellsAct 3 rfl) (by decide) (by decide) (fc_of_ix g1) ?_
  refine lv_topi (fun v2 ev2 => ?_)
  replace hf := fc_of_nm hf v2 ev2
  by_cases c3 : v2 = (3 : Int32)
  · replace hf := fc_of_t hf c3
    refine lv_tableIn (off := 30) (tgt := 36) C.1 C.2.1 (dd_at td_tellsAct 4 rfl) (by rw [c3]; decide) (by rw [c3]; decide) (by rw [c3]; decide) (by decide) ?_
    exact w_tellsAct_b36 C fu x1 x2 st hf (lv_sub hl [0, 1, 2] rfl) hM
  · replace hf := fc_of_f hf c3
    by_cases c4 : v2 = (4 : Int32)
    · replace hf := fc_of_t hf c4
      refine lv_tableIn (off := 67) (tgt := 73) C.1 C.2.1 (dd_at td_tellsAct 4 rfl) (by rw [c4]; decide) (by rw [c4]; decide) (by rw [c4]; decide) (by decide) ?_
      exact w_tellsAct_b73 C fu x1 x2 st hf (lv_sub hl [0, 1, 2] rfl) hM
    · replace hf := fc_of_f hf c4
      by_cases c5 : v2 = (5 : Int32)
      · replace hf := fc_of_t hf c5
        refine lv_tableIn (off := 52) (tgt := 58) C.1 C.2.1 (dd_at td_tellsAct 4 rfl) (by rw [c5]; decide) (by rw [c5]; decide) (by rw [c5]; decide) (by decide) ?_
        refine lv_aload_n C.1 C.2.1 (dd_at td_tellsAct 20 rfl) rfl (lv_at hl 0 rfl) ?_
        refine lv_bipush (v := (60 : Int32)) C.1 C.2.1 (dd_at td_tellsAct 21 rfl) (by decide) ?_
        obtain ⟨st6, hx7, hf⟩ := fc_of_bv hf
        refine mm_cv (As := [.int (60 : Int32)]) (rest := []) (n := 1) C hM (c_body l D o ad cs fu (60 : Int32) st) (List.mem_of_getElem? (i := 5) rfl) (dd_at td_tellsAct 22 rfl) hx7 hl.1 hd_body ⟨Nat.le_of_ble_eq_true rfl, Nat.le_of_ble_eq_true rfl⟩ rfl rfl (Nat.le_of_ble_eq_true rfl) ⟨Nat.le_refl 0, Nat.le_refl 0⟩ (fun H locs hM => ?_)
        refine lv_aload_n C.1 C.2.1 (dd_at td_tellsAct 23 rfl) rfl (lv_at hl 0 rfl) ?_
        refine lv_iload_n C.1 C.2.1 (dd_at td_tellsAct 24 rfl) rfl (lv_at hl 1 rfl) ?_
        refine lv_iload_n C.1 C.2.1 (dd_at td_tellsAct 25 rfl) rfl (lv_at hl 2 rfl) ?_
        refine lv_iload_n C.1 C.2.1 (dd_at td_tellsAct 26 rfl) rfl (lv_at hl 1 rfl) ?_
        refine lv_isub C.1 C.2.1 (dd_at td_tellsAct 27 rfl) ?_
        obtain ⟨r10, st8, hx9, hf⟩ := fc_of_bn hf
        refine mm_ci (As := [.int x1, .int (x2 - x1)]) (rest := []) (n := 2) C hM (c_needTells l D o ad cs fu x1 (x2 - x1) st6) (List.mem_of_getElem? (i := 32) rfl) (dd_at td_tellsAct 28 rfl) hx9 hl.1 hd_needTells ⟨Nat.le_of_ble_eq_true rfl, Nat.le_of_ble_eq_true rfl⟩ rfl rfl (Nat.le_of_ble_eq_true rfl) ⟨Nat.le_refl 0, Nat.le_refl 0⟩ (fun H locs hM => ?_)
        exact mm_ri C hM (dd_at td_tellsAct 29 rfl) hf
      · replace hf := fc_of_f hf c5
        by_cases c11 : v2 = (6 : Int32)
        · replace hf := fc_of_t hf c11
          refine lv_tableIn (off := 30) (tgt := 36) C.1 C.2.1 (dd_at td_tellsAct 4 rfl) (by rw [c11]; decide) (by rw [c11]; decide) (by rw [c11]; decide) (by decide) ?_
          exact w_tellsAct_b36 C fu x1 x2 st hf (lv_sub hl [0, 1, 2] rfl) hM
        · replace hf := fc_of_f hf c11
          refine lv_tableOut (tgt := 73) C.1 C.2.1 (dd_at td_tellsAct 4 rfl) (by have q0 := lv_neT c3 (a := 3) (by decide); have q1 := lv_neT c4 (a := 4) (by decide); have q2 := lv_neT c5 (a := 5) (by decide); have q3 := lv_neT c11 (a := 6) (by decide); omega) (by decide) ?_
          exact w_tellsAct_b73 C fu x1 x2 st hf (lv_sub hl [0, 1, 2] rfl) hM
theorem c_tellsAct (l : Launch) (D : va_G) (o : Nat) (ad : Nat → Nat) (cs : ClassId × ClassId × ClassId) (fu : Nat) (x1 : Int32) (x2 : Int32) (st : mm_S) : mm_Mi l D o ad cs yX12_tellsAct cX12_tellsAct 4 (some .int) 7 154 [.int x1, .int x2] st (M_tellsAct fu x1 x2 st) := by
  intro r st' hf
  refine mm_enter (cc := cX12_tellsAct) (nL := 4) (ret := some .int) (by decide) rfl (Nat.le_of_ble_eq_true rfl) ?_
  intro p e s m args below meth c ls C hl hM
  exact w_tellsAct C fu x1 x2 st hf hl hM

/-! act -/
def tb_act : List (Nat × Instr × Nat) := [(0, .aload_n 0, 1), (1, .iconst 0, 1), (2, .putfield 185, 3), (5, .aload_n 0, 1), (6, .iload_n 1, 1), (7, .invokevirtual 215, 3), (10, .ifCond .eq 13, 3), (13, .aload_n 0, 1), (14, .iload_n 2, 1), (15, .iconst 0, 1), (16, .iconst 2, 1), (17, .invokevirtual 207, 3), (20, .ifCond .ne 5, 3), (23, .iconst 0, 1), (24, .ireturn, 1), (25, .iload_n 2, 1), (26, .ifCond .ne 12, 3), (29, .aload_n 0, 1), (30, .iload_n 1, 1), (31, .iload_n 3, 1), (32, .invokevirtual 353, 3), (35, .goto 23, 3), (38, .iload_n 2, 1), (39, .iconst 1, 1), (40, .if_icmp .ne 12, 3), (43, .aload_n 0, 1), (44, .iload_n 1, 1), (45, .iload_n 3, 1), (46, .invokevirtual 362, 3), (49, .goto 9, 3), (52, .aload_n 0, 1), (53, .iload_n 1, 1), (54, .iload_n 3, 1), (55, .invokevirtual 368, 3), (58, .ireturn, 1)]
theorem td_act : tb_act.all (fun q => decide (decode cX12_act q.1 = .ok (q.2.1, q.2.2))) = true := by decide +kernel
theorem w_act {p : Program} {l : Launch} {e : Env} {s : State} {m : MethodId} {args : Array Value} {below : List Frame} {meth : Method} {c : Code} {D : va_G} {o : Nat} {ad : Nat → Nat} {cs : ClassId × ClassId × ClassId} {r : Int32} {st' : mm_S} (C : mm_C p s m args meth c cX12_act 4 (some .int) D cs) (fu : Nat) (x1 : Int32) (x2 : Int32) (x3 : Int32) (st : mm_S) (hf : M_act fu x1 x2 x3 st = some (r, st')) {H : Heap} {locs : List Loc} {ls : Array Slot} (hl : lv_has ls 4 [(0, .ref o), (1, .int x1), (2, .int x2), (3, .int x3)]) (hM : mm_H D o ad cs s.heap st H locs) : W p l e (mm_R 8 177) s m args below meth c H locs 0 0 (MQ below (mm_Qi D o ad cs r st') args s 0 0 (mm_A o ad)) (F0 m 0 ls []) := by
  unfold M_act at hf
  refine lv_aload_n C.1 C.2.1 (dd_at td_act 0 rfl) rfl (lv_at hl 0 rfl) ?_
  refine lv_iconst (v := (0 : Int32)) C.1 C.2.1 (dd_at td_act 1 rfl) (by decide) ?_
  refine mm_pI C hM 57 (dd_at td_act 2 rfl) (by decide) (by decide) (by decide) rfl rfl (fun st1 H locs est1 hM => ?_)
  replace hf := fc_of_nm hf st1 est1
  refine lv_aload_n C.1 C.2.1 (dd_at td_act 3 rfl) rfl (lv_at hl 0 rfl) ?_
  refine lv_iload_n C.1 C.2.1 (dd_at td_act 4 rfl) rfl (lv_at hl 1 rfl) ?_
  obtain ⟨r4, st2, hx3, hf⟩ := fc_of_bn hf
  refine mm_ci (As := [.int x1]) (rest := []) (n := 1) C hM (c_isNeed l D o ad cs fu x1 st1) (List.mem_of_getElem? (i := 22) rfl) (dd_at td_act 5 rfl) hx3 hl.1 hd_isNeed ⟨Nat.le_of_ble_eq_true rfl, Nat.le_of_ble_eq_true rfl⟩ rfl rfl (Nat.le_of_ble_eq_true rfl) ⟨Nat.le_refl 0, Nat.le_refl 0⟩ (fun H locs hM => ?_)
  refine lv_if_eq (tgt := 23) C.1 C.2.1 (dd_at td_act 6 rfl) (by decide) (fun c5 => ?_) (fun c5 => ?_)
  · replace hf := fc_of_t hf c5
    refine lv_iconst (v := (0 : Int32)) C.1 C.2.1 (dd_at td_act 13 rfl) (by decide) ?_
    exact mm_ri C hM (dd_at td_act 14 rfl) hf
  · replace hf := fc_of_f hf c5
    refine lv_aload_n C.1 C.2.1 (dd_at td_act 7 rfl) rfl (lv_at hl 0 rfl) ?_
    refine lv_iload_n C.1 C.2.1 (dd_at td_act 8 rfl) rfl (lv_at hl 2 rfl) ?_
    refine lv_iconst (v := (0 : Int32)) C.1 C.2.1 (dd_at td_act 9 rfl) (by decide) ?_
    refine lv_iconst (v := (2 : Int32)) C.1 C.2.1 (dd_at td_act 10 rfl) (by decide) ?_
    obtain ⟨r8, st6, hx7, hf⟩ := fc_of_bn hf
    refine mm_ci (As := [.int x2, .int (0 : Int32), .int (2 : Int32)]) (rest := []) (n := 3) C hM (c_in l D o ad cs fu x2 (0 : Int32) (2 : Int32) st2) (List.mem_of_getElem? (i := 18) rfl) (dd_at td_act 11 rfl) hx7 hl.1 hd_in ⟨Nat.le_of_ble_eq_true rfl, Nat.le_of_ble_eq_true rfl⟩ rfl rfl (Nat.le_of_ble_eq_true rfl) ⟨Nat.le_refl 0, Nat.le_refl 0⟩ (fun H locs hM => ?_)
    refine lv_if_ne (tgt := 25) C.1 C.2.1 (dd_at td_act 12 rfl) (by decide) (fun c9 => ?_) (fun c9 => ?_)
    · replace hf := fc_of_f hf c9
      refine lv_iload_n C.1 C.2.1 (dd_at td_act 15 rfl) rfl (lv_at hl 2 rfl) ?_
      refine lv_if_ne (tgt := 38) C.1 C.2.1 (dd_at td_act 16 rfl) (by decide) (fun c10 => ?_) (fun c10 => ?_)
      · replace hf := fc_of_f hf c10
        refine lv_iload_n C.1 C.2.1 (dd_at td_act 22 rfl) rfl (lv_at hl 2 rfl) ?_
        refine lv_iconst (v := (1 : Int32)) C.1 C.2.1 (dd_at td_act 23 rfl) (by decide) ?_
        refine lv_icmp_ne (tgt := 52) C.1 C.2.1 (dd_at td_act 24 rfl) (by decide) (fun c11 => ?_) (fun c11 => ?_)
        · replace hf := fc_of_f hf c11
          refine lv_aload_n C.1 C.2.1 (dd_at td_act 30 rfl) rfl (lv_at hl 0 rfl) ?_
          refine lv_iload_n C.1 C.2.1 (dd_at td_act 31 rfl) rfl (lv_at hl 1 rfl) ?_
          refine lv_iload_n C.1 C.2.1 (dd_at td_act 32 rfl) rfl (lv_at hl 3 rfl) ?_
          obtain ⟨r14, st12, hx13, hf⟩ := fc_of_bn hf
          refine mm_ci (As := [.int x1, .int x3]) (rest := []) (n := 2) C hM (c_tellsAct l D o ad cs fu x1 x3 st6) (List.mem_of_getElem? (i := 45) rfl) (dd_at td_act 33 rfl) hx13 hl.1 hd_tellsAct ⟨Nat.le_of_ble_eq_true rfl, Nat.le_of_ble_eq_true rfl⟩ rfl rfl (Nat.le_of_ble_eq_true rfl) ⟨Nat.le_refl 0, Nat.le_refl 0⟩ (fun H locs hM => ?_)
          exact mm_ri C hM (dd_at td_act 34 rfl) hf
        · replace hf := fc_of_t hf c11
          refine lv_aload_n C.1 C.2.1 (dd_at td_act 25 rfl) rfl (lv_at hl 0 rfl) ?_
          refine lv_iload_n C.1 C.2.1 (dd_at td_act 26 rfl) rfl (lv_at hl 1 rfl) ?_
          refine lv_iload_n C.1 C.2.1 (dd_at td_act 27 rfl) rfl (lv_at hl 3 rfl) ?_
          obtain ⟨r17, st15, hx16, hf⟩ := fc_of_bn hf
          refine mm_ci (As := [.int x1, .int x3]) (rest := []) (n := 2) C hM (c_pleadsAct l D o ad cs fu x1 x3 st6) (List.mem_of_getElem? (i := 35) rfl) (dd_at td_act 28 rfl) hx16 hl.1 hd_pleadsAct ⟨Nat.le_of_ble_eq_true rfl, Nat.le_of_ble_eq_true rfl⟩ rfl rfl (Nat.le_of_ble_eq_true rfl) ⟨Nat.le_refl 0, Nat.le_refl 0⟩ (fun H locs hM => ?_)
          refine lv_goto (tgt := 58) C.1 C.2.1 (dd_at td_act 29 rfl) (by decide) ?_
          exact mm_ri C hM (dd_at td_act 34 rfl) hf
      · replace hf := fc_of_t hf c10
        refine lv_aload_n C.1 C.2.1 (dd_at td_act 17 rfl) rfl (lv_at hl 0 rfl) ?_
        refine lv_iload_n C.1 C.2.1 (dd_at td_act 18 rfl) rfl (lv_at hl 1 rfl) ?_
        refine lv_iload_n C.1 C.2.1 (dd_at td_act 19 rfl) rfl (lv_at hl 3 rfl) ?_
        obtain ⟨r20, st18, hx19, hf⟩ := fc_of_bn hf
        refine mm_ci (As := [.int x1, .int x3]) (rest := []) (n := 2) C hM (c_darkensAct l D o ad cs fu x1 x3 st6) (List.mem_of_getElem? (i := 6) rfl) (dd_at td_act 20 rfl) hx19 hl.1 hd_darkensAct ⟨Nat.le_of_ble_eq_true rfl, Nat.le_of_ble_eq_true rfl⟩ rfl rfl (Nat.le_of_ble_eq_true rfl) ⟨Nat.le_refl 0, Nat.le_refl 0⟩ (fun H locs hM => ?_)
        refine lv_goto (tgt := 58) C.1 C.2.1 (dd_at td_act 21 rfl) (by decide) ?_
        exact mm_ri C hM (dd_at td_act 34 rfl) hf
    · replace hf := fc_of_t hf c9
      refine lv_iconst (v := (0 : Int32)) C.1 C.2.1 (dd_at td_act 13 rfl) (by decide) ?_
      exact mm_ri C hM (dd_at td_act 14 rfl) hf
theorem c_act (l : Launch) (D : va_G) (o : Nat) (ad : Nat → Nat) (cs : ClassId × ClassId × ClassId) (fu : Nat) (x1 : Int32) (x2 : Int32) (x3 : Int32) (st : mm_S) : mm_Mi l D o ad cs yX12_act cX12_act 4 (some .int) 8 177 [.int x1, .int x2, .int x3] st (M_act fu x1 x2 x3 st) := by
  intro r st' hf
  refine mm_enter (cc := cX12_act) (nL := 4) (ret := some .int) (by decide) rfl (Nat.le_of_ble_eq_true rfl) ?_
  intro p e s m args below meth c ls C hl hM
  exact w_act C fu x1 x2 x3 st hf hl hM

/-! trace -/
def tb_trace : List (Nat × Instr × Nat) := [(0, .aload_n 0, 1), (1, .iload_n 1, 1), (2, .iconst 0, 1), (3, .bipush 19, 2), (5, .invokevirtual 207, 3), (8, .ifCond .eq 20, 3), (11, .iload_n 1, 1), (12, .aload_n 0, 1), (13, .getfield 185, 3), (16, .if_icmp .ge 12, 3), (19, .aload_n 0, 1), (20, .getfield 188, 3), (23, .iload_n 1, 1), (24, .iaload, 1), (25, .goto 4, 3), (28, .iconst (-1), 1), (29, .ireturn, 1)]
theorem td_trace : tb_trace.all (fun q => decide (decode cX12_trace q.1 = .ok (q.2.1, q.2.2))) = true := by decide +kernel
theorem w_trace {p : Program} {l : Launch} {e : Env} {s : State} {m : MethodId} {args : Array Value} {below : List Frame} {meth : Method} {c : Code} {D : va_G} {o : Nat} {ad : Nat → Nat} {cs : ClassId × ClassId × ClassId} {r : Int32} {st' : mm_S} (C : mm_C p s m args meth c cX12_trace 2 (some .int) D cs) (fu : Nat) (x1 : Int32) (st : mm_S) (hf : M_trace fu x1 st = some (r, st')) {H : Heap} {locs : List Loc} {ls : Array Slot} (hl : lv_has ls 2 [(0, .ref o), (1, .int x1)]) (hM : mm_H D o ad cs s.heap st H locs) : W p l e (mm_R 1 23) s m args below meth c H locs 0 0 (MQ below (mm_Qi D o ad cs r st') args s 0 0 (mm_A o ad)) (F0 m 0 ls []) := by
  unfold M_trace at hf
  refine lv_aload_n C.1 C.2.1 (dd_at td_trace 0 rfl) rfl (lv_at hl 0 rfl) ?_
  refine lv_iload_n C.1 C.2.1 (dd_at td_trace 1 rfl) rfl (lv_at hl 1 rfl) ?_
  refine lv_iconst (v := (0 : Int32)) C.1 C.2.1 (dd_at td_trace 2 rfl) (by decide) ?_
  refine lv_bipush (v := (19 : Int32)) C.1 C.2.1 (dd_at td_trace 3 rfl) (by decide) ?_
  obtain ⟨r3, st1, hx2, hf⟩ := fc_of_bn hf
  refine mm_ci (As := [.int x1, .int (0 : Int32), .int (19 : Int32)]) (rest := []) (n := 3) C hM (c_in l D o ad cs fu x1 (0 : Int32) (19 : Int32) st) (List.mem_of_getElem? (i := 18) rfl) (dd_at td_trace 4 rfl) hx2 hl.1 hd_in ⟨Nat.le_of_ble_eq_true rfl, Nat.le_of_ble_eq_true rfl⟩ rfl rfl (Nat.le_of_ble_eq_true rfl) ⟨Nat.le_refl 0, Nat.le_refl 0⟩ (fun H locs hM => ?_)
  refine lv_if_eq (tgt := 28) C.1 C.2.1 (dd_at td_trace 5 rfl) (by decide) (fun c4 => ?_) (fun c4 => ?_)
  · replace hf := fc_of_t hf c4
    refine lv_iconst (v := (-1 : Int32)) C.1 C.2.1 (dd_at td_trace 15 rfl) (by decide) ?_
    exact mm_ri C hM (dd_at td_trace 16 rfl) hf
  · replace hf := fc_of_f hf c4
    refine lv_iload_n C.1 C.2.1 (dd_at td_trace 6 rfl) rfl (lv_at hl 1 rfl) ?_
    refine lv_aload_n C.1 C.2.1 (dd_at td_trace 7 rfl) rfl (lv_at hl 0 rfl) ?_
    refine mm_gI C hM 57 (dd_at td_trace 8 rfl) (by decide) (by decide) (by decide) ?_
    refine lv_icmp_ge (tgt := 28) C.1 C.2.1 (dd_at td_trace 9 rfl) (by decide) (fun c5 => ?_) (fun c5 => ?_)
    · replace hf := fc_of_t hf c5
      refine lv_iconst (v := (-1 : Int32)) C.1 C.2.1 (dd_at td_trace 15 rfl) (by decide) ?_
      exact mm_ri C hM (dd_at td_trace 16 rfl) hf
    · replace hf := fc_of_f hf c5
      refine lv_aload_n C.1 C.2.1 (dd_at td_trace 10 rfl) rfl (lv_at hl 0 rfl) ?_
      refine mm_gA C hM 58 (dd_at td_trace 11 rfl) (by decide) (by decide) (by decide) ?_
      refine lv_iload_n C.1 C.2.1 (dd_at td_trace 12 rfl) rfl (lv_at hl 1 rfl) ?_
      obtain ⟨g6, hf⟩ := fc_of_gd hf
      refine mm_iald C hM 58 (dd_at td_trace 13 rfl) (by decide) (by decide) (fc_of_ix g6) ?_
      refine lv_goto (tgt := 29) C.1 C.2.1 (dd_at td_trace 14 rfl) (by decide) ?_
      exact mm_ri C hM (dd_at td_trace 16 rfl) hf
theorem c_trace (l : Launch) (D : va_G) (o : Nat) (ad : Nat → Nat) (cs : ClassId × ClassId × ClassId) (fu : Nat) (x1 : Int32) (st : mm_S) : mm_Mi l D o ad cs yX12_trace cX12_trace 2 (some .int) 1 23 [.int x1] st (M_trace fu x1 st) := by
  intro r st' hf
  refine mm_enter (cc := cX12_trace) (nL := 2) (ret := some .int) (by decide) rfl (Nat.le_of_ble_eq_true rfl) ?_
  intro p e s m args below meth c ls C hl hM
  exact w_trace C fu x1 st hf hl hM

/-! taken -/
def tb_taken : List (Nat × Instr × Nat) := [(0, .aload_n 0, 1), (1, .iload_n 2, 1), (2, .iconst 0, 1), (3, .bipush 6, 2), (5, .invokevirtual 207, 3), (8, .ifCond .ne 6, 3), (11, .bipush (-2), 2), (13, .ireturn, 1), (14, .aload_n 0, 1), (15, .iload_n 1, 1), (16, .invokevirtual 215, 3), (19, .ifCond .ne 6, 3), (22, .bipush (-11), 2), (24, .ireturn, 1), (25, .aload_n 0, 1), (26, .getfield 22, 3), (29, .iload_n 1, 1), (30, .iaload, 1), (31, .istore_n 3, 1), (32, .iload_n 2, 1), (33, .ifCond .eq 39, 3), (36, .iload_n 3, 1), (37, .iload_n 2, 1), (38, .if_icmp .eq 34, 3), (41, .iload_n 2, 1), (42, .iconst 1, 1), (43, .if_icmp .ne 8, 3), (46, .iload_n 3, 1), (47, .iconst 4, 1), (48, .if_icmp .eq 24, 3), (51, .iload_n 2, 1), (52, .iconst 2, 1), (53, .if_icmp .ne 8, 3), (56, .iload_n 3, 1), (57, .iconst 5, 1), (58, .if_icmp .eq 14, 3), (61, .iload_n 2, 1), (62, .iconst 3, 1), (63, .if_icmp .ne 13, 3), (66, .iload_n 3, 1), (67, .bipush 6, 2), (69, .if_icmp .ne 7, 3), (72, .iload_n 3, 1), (73, .goto 5, 3), (76, .bipush (-12), 2), (78, .ireturn, 1)]
theorem td_taken : tb_taken.all (fun q => decide (decode cX12_taken q.1 = .ok (q.2.1, q.2.2))) = true := by decide +kernel
theorem w_taken_b61 {p : Program} {l : Launch} {e : Env} {s : State} {m : MethodId} {args : Array Value} {below : List Frame} {meth : Method} {c : Code} {D : va_G} {o : Nat} {ad : Nat → Nat} {cs : ClassId × ClassId × ClassId} {r : Int32} {st' : mm_S} (C : mm_C p s m args meth c cX12_taken 4 (some .int) D cs) (fu : Nat) (x2 : Int32) (x3 : Int32) (st : mm_S) (hf : M_taken_b61 fu x2 x3 st = some (r, st')) {H : Heap} {locs : List Loc} {ls : Array Slot} (hl : lv_has ls 4 [(0, .ref o), (2, .int x2), (3, .int x3)]) (hM : mm_H D o ad cs s.heap st H locs) : W p l e (mm_R 2 44) s m args below meth c H locs 0 0 (MQ below (mm_Qi D o ad cs r st') args s 0 0 (mm_A o ad)) (F0 m 61 ls []) := by
  unfold M_taken_b61 at hf
  refine lv_iload_n C.1 C.2.1 (dd_at td_taken 36 rfl) rfl (lv_at hl 1 rfl) ?_
  refine lv_iconst (v := (3 : Int32)) C.1 C.2.1 (dd_at td_taken 37 rfl) (by decide) ?_
  refine lv_icmp_ne (tgt := 76) C.1 C.2.1 (dd_at td_taken 38 rfl) (by decide) (fun c17 => ?_) (fun c17 => ?_)
  · replace hf := fc_of_f hf c17
    refine lv_bipush (v := (-12 : Int32)) C.1 C.2.1 (dd_at td_taken 44 rfl) (by decide) ?_
    exact mm_ri C hM (dd_at td_taken 45 rfl) hf
  · replace hf := fc_of_t hf c17
    refine lv_iload_n C.1 C.2.1 (dd_at td_taken 39 rfl) rfl (lv_at hl 2 rfl) ?_
    refine lv_bipush (v := (6 : Int32)) C.1 C.2.1 (dd_at td_taken 40 rfl) (by decide) ?_
    refine lv_icmp_ne (tgt := 76) C.1 C.2.1 (dd_at td_taken 41 rfl) (by decide) (fun c18 => ?_) (fun c18 => ?_)
    · replace hf := fc_of_f hf c18
      refine lv_bipush (v := (-12 : Int32)) C.1 C.2.1 (dd_at td_taken 44 rfl) (by decide) ?_
      exact mm_ri C hM (dd_at td_taken 45 rfl) hf
    · replace hf := fc_of_t hf c18
      refine lv_iload_n C.1 C.2.1 (dd_at td_taken 42 rfl) rfl (lv_at hl 2 rfl) ?_
      refine lv_goto (tgt := 78) C.1 C.2.1 (dd_at td_taken 43 rfl) (by decide) ?_
      exact mm_ri C hM (dd_at td_taken 45 rfl) hf
theorem w_taken_b51 {p : Program} {l : Launch} {e : Env} {s : State} {m : MethodId} {args : Array Value} {below : List Frame} {meth : Method} {c : Code} {D : va_G} {o : Nat} {ad : Nat → Nat} {cs : ClassId × ClassId × ClassId} {r : Int32} {st' : mm_S} (C : mm_C p s m args meth c cX12_taken 4 (some .int) D cs) (fu : Nat) (x2 : Int32) (x3 : Int32) (st : mm_S) (hf : M_taken_b51 fu x2 x3 st = some (r, st')) {H : Heap} {locs : List Loc} {ls : Array Slot} (hl : lv_has ls 4 [(0, .ref o), (2, .int x2), (3, .int x3)]) (hM : mm_H D o ad cs s.heap st H locs) : W p l e (mm_R 2 44) s m args below meth c H locs 0 0 (MQ below (mm_Qi D o ad cs r st') args s 0 0 (mm_A o ad)) (F0 m 51 ls []) := by
  unfold M_taken_b51 at hf
  refine lv_iload_n C.1 C.2.1 (dd_at td_taken 30 rfl) rfl (lv_at hl 1 rfl) ?_
  refine lv_iconst (v := (2 : Int32)) C.1 C.2.1 (dd_at td_taken 31 rfl) (by decide) ?_
  refine lv_icmp_ne (tgt := 61) C.1 C.2.1 (dd_at td_taken 32 rfl) (by decide) (fun c15 => ?_) (fun c15 => ?_)
  · replace hf := fc_of_f hf c15
    exact w_taken_b61 C fu x2 x3 st hf (lv_sub hl [0, 1, 2] rfl) hM
  · replace hf := fc_of_t hf c15
    refine lv_iload_n C.1 C.2.1 (dd_at td_taken 33 rfl) rfl (lv_at hl 2 rfl) ?_
    refine lv_iconst (v := (5 : Int32)) C.1 C.2.1 (dd_at td_taken 34 rfl) (by decide) ?_
    refine lv_icmp_eq (tgt := 72) C.1 C.2.1 (dd_at td_taken 35 rfl) (by decide) (fun c16 => ?_) (fun c16 => ?_)
    · replace hf := fc_of_t hf c16
      refine lv_iload_n C.1 C.2.1 (dd_at td_taken 42 rfl) rfl (lv_at hl 2 rfl) ?_
      refine lv_goto (tgt := 78) C.1 C.2.1 (dd_at td_taken 43 rfl) (by decide) ?_
      exact mm_ri C hM (dd_at td_taken 45 rfl) hf
    · replace hf := fc_of_f hf c16
      exact w_taken_b61 C fu x2 x3 st hf (lv_sub hl [0, 1, 2] rfl) hM
theorem w_taken {p : Program} {l : Launch} {e : Env} {s : State} {m : MethodId} {args : Array Value} {below : List Frame} {meth : Method} {c : Code} {D : va_G} {o : Nat} {ad : Nat → Nat} {cs : ClassId × ClassId × ClassId} {r : Int32} {st' : mm_S} (C : mm_C p s m args meth c cX12_taken 4 (some .int) D cs) (fu : Nat) (x1 : Int32) (x2 : Int32) (st : mm_S) (hf : M_taken fu x1 x2 st = some (r, st')) {H : Heap} {locs : List Loc} {ls : Array Slot} (hl : lv_has ls 4 [(0, .ref o), (1, .int x1), (2, .int x2)]) (hM : mm_H D o ad cs s.heap st H locs) : W p l e (mm_R 2 44) s m args below meth c H locs 0 0 (MQ below (mm_Qi D o ad cs r st') args s 0 0 (mm_A o ad)) (F0 m 0 ls []) := by
  unfold M_taken at hf
  refine lv_aload_n C.1 C.2.1 (dd_at td_taken 0 rfl) rfl (lv_at hl 0 rfl) ?_
  refine lv_iload_n C.1 C.2.1 (dd_at td_taken 1 rfl) rfl (lv_at hl 2 rfl) ?_
  refine lv_iconst (v := (0 : Int32)) C.1 C.2.1 (dd_at td_taken 2 rfl) (by decide) ?_
  refine lv_bipush (v := (6 : Int32)) C.1 C.2.1 (dd_at td_taken 3 rfl) (by decide) ?_
  obtain ⟨r3, st1, hx2, hf⟩ := fc_of_bn hf
  refine mm_ci (As := [.int x2, .int (0 : Int32), .int (6 : Int32)]) (rest := []) (n := 3) C hM (c_in l D o ad cs fu x2 (0 : Int32) (6 : Int32) st) (List.mem_of_getElem? (i := 18) rfl) (dd_at td_taken 4 rfl) hx2 hl.1 hd_in ⟨Nat.le_of_ble_eq_true rfl, Nat.le_of_ble_eq_true rfl⟩ rfl rfl (Nat.le_of_ble_eq_true rfl) ⟨Nat.le_refl 0, Nat.le_refl 0⟩ (fun H locs hM => ?_)
  refine lv_if_ne (tgt := 14) C.1 C.2.1 (dd_at td_taken 5 rfl) (by decide) (fun c4 => ?_) (fun c4 => ?_)
  · replace hf := fc_of_f hf c4
    refine lv_aload_n C.1 C.2.1 (dd_at td_taken 8 rfl) rfl (lv_at hl 0 rfl) ?_
    refine lv_iload_n C.1 C.2.1 (dd_at td_taken 9 rfl) rfl (lv_at hl 1 rfl) ?_
    obtain ⟨r7, st5, hx6, hf⟩ := fc_of_bn hf
    refine mm_ci (As := [.int x1]) (rest := []) (n := 1) C hM (c_isNeed l D o ad cs fu x1 st1) (List.mem_of_getElem? (i := 22) rfl) (dd_at td_taken 10 rfl) hx6 hl.1 hd_isNeed ⟨Nat.le_of_ble_eq_true rfl, Nat.le_of_ble_eq_true rfl⟩ rfl rfl (Nat.le_of_ble_eq_true rfl) ⟨Nat.le_refl 0, Nat.le_refl 0⟩ (fun H locs hM => ?_)
    refine lv_if_ne (tgt := 25) C.1 C.2.1 (dd_at td_taken 11 rfl) (by decide) (fun c8 => ?_) (fun c8 => ?_)
    · replace hf := fc_of_f hf c8
      refine lv_aload_n C.1 C.2.1 (dd_at td_taken 14 rfl) rfl (lv_at hl 0 rfl) ?_
      refine mm_gA C hM 4 (dd_at td_taken 15 rfl) (by decide) (by decide) (by decide) ?_
      refine lv_iload_n C.1 C.2.1 (dd_at td_taken 16 rfl) rfl (lv_at hl 1 rfl) ?_
      obtain ⟨g9, hf⟩ := fc_of_gd hf
      refine mm_iald C hM 4 (dd_at td_taken 17 rfl) (by decide) (by decide) (fc_of_ix g9) ?_
      refine lv_topi (fun v10 ev10 => ?_)
      replace hf := fc_of_nm hf v10 ev10
      refine lv_istore_n (lv' := [(3, .int v10), (0, .ref o), (1, .int x1), (2, .int x2)]) C.1 C.2.1 (dd_at td_taken 18 rfl) rfl hl (by decide) rfl (fun ls hl => ?_)
      refine lv_iload_n C.1 C.2.1 (dd_at td_taken 19 rfl) rfl (lv_at hl 3 rfl) ?_
      refine lv_if_eq (tgt := 72) C.1 C.2.1 (dd_at td_taken 20 rfl) (by decide) (fun c11 => ?_) (fun c11 => ?_)
      · replace hf := fc_of_t hf c11
        refine lv_iload_n C.1 C.2.1 (dd_at td_taken 42 rfl) rfl (lv_at hl 0 rfl) ?_
        refine lv_goto (tgt := 78) C.1 C.2.1 (dd_at td_taken 43 rfl) (by decide) ?_
        exact mm_ri C hM (dd_at td_taken 45 rfl) hf
      · replace hf := fc_of_f hf c11
        refine lv_iload_n C.1 C.2.1 (dd_at td_taken 21 rfl) rfl (lv_at hl 0 rfl) ?_
        refine lv_iload_n C.1 C.2.1 (dd_at td_taken 22 rfl) rfl (lv_at hl 3 rfl) ?_
        refine lv_icmp_eq (tgt := 72) C.1 C.2.1 (dd_at td_taken 23 rfl) (by decide) (fun c12 => ?_) (fun c12 => ?_)
        · replace hf := fc_of_t hf c12
          refine lv_iload_n C.1 C.2.1 (dd_at td_taken 42 rfl) rfl (lv_at hl 0 rfl) ?_
          refine lv_goto (tgt := 78) C.1 C.2.1 (dd_at td_taken 43 rfl) (by decide) ?_
          exact mm_ri C hM (dd_at td_taken 45 rfl) hf
        · replace hf := fc_of_f hf c12
          refine lv_iload_n C.1 C.2.1 (dd_at td_taken 24 rfl) rfl (lv_at hl 3 rfl) ?_
          refine lv_iconst (v := (1 : Int32)) C.1 C.2.1 (dd_at td_taken 25 rfl) (by decide) ?_
          refine lv_icmp_ne (tgt := 51) C.1 C.2.1 (dd_at td_taken 26 rfl) (by decide) (fun c13 => ?_) (fun c13 => ?_)
          · replace hf := fc_of_f hf c13
            exact w_taken_b51 C fu x2 v10 st5 hf (lv_sub hl [1, 3, 0] rfl) hM
          · replace hf := fc_of_t hf c13
            refine lv_iload_n C.1 C.2.1 (dd_at td_taken 27 rfl) rfl (lv_at hl 0 rfl) ?_
            refine lv_iconst (v := (4 : Int32)) C.1 C.2.1 (dd_at td_taken 28 rfl) (by decide) ?_
            refine lv_icmp_eq (tgt := 72) C.1 C.2.1 (dd_at td_taken 29 rfl) (by decide) (fun c14 => ?_) (fun c14 => ?_)
            · replace hf := fc_of_t hf c14
              refine lv_iload_n C.1 C.2.1 (dd_at td_taken 42 rfl) rfl (lv_at hl 0 rfl) ?_
              refine lv_goto (tgt := 78) C.1 C.2.1 (dd_at td_taken 43 rfl) (by decide) ?_
              exact mm_ri C hM (dd_at td_taken 45 rfl) hf
            · replace hf := fc_of_f hf c14
              exact w_taken_b51 C fu x2 v10 st5 hf (lv_sub hl [1, 3, 0] rfl) hM
    · replace hf := fc_of_t hf c8
      refine lv_bipush (v := (-11 : Int32)) C.1 C.2.1 (dd_at td_taken 12 rfl) (by decide) ?_
      exact mm_ri C hM (dd_at td_taken 13 rfl) hf
  · replace hf := fc_of_t hf c4
    refine lv_bipush (v := (-2 : Int32)) C.1 C.2.1 (dd_at td_taken 6 rfl) (by decide) ?_
    exact mm_ri C hM (dd_at td_taken 7 rfl) hf
theorem c_taken (l : Launch) (D : va_G) (o : Nat) (ad : Nat → Nat) (cs : ClassId × ClassId × ClassId) (fu : Nat) (x1 : Int32) (x2 : Int32) (st : mm_S) : mm_Mi l D o ad cs yX12_taken cX12_taken 4 (some .int) 2 44 [.int x1, .int x2] st (M_taken fu x1 x2 st) := by
  intro r st' hf
  refine mm_enter (cc := cX12_taken) (nL := 4) (ret := some .int) (by decide) rfl (Nat.le_of_ble_eq_true rfl) ?_
  intro p e s m args below meth c ls C hl hM
  exact w_taken C fu x1 x2 st hf hl hM

/-! count -/
def tb_count : List (Nat × Instr × Nat) := [(0, .iload_n 1, 1), (1, .tableswitch 78 0 6 #[43, 48, 53, 58, 63, 68, 73], 43), (44, .aload_n 0, 1), (45, .getfield 7, 3), (48, .ireturn, 1), (49, .aload_n 0, 1), (50, .getfield 35, 3), (53, .ireturn, 1), (54, .aload_n 0, 1), (55, .getfield 100, 3), (58, .ireturn, 1), (59, .aload_n 0, 1), (60, .getfield 106, 3), (63, .ireturn, 1), (64, .aload_n 0, 1), (65, .getfield 109, 3), (68, .ireturn, 1), (69, .aload_n 0, 1), (70, .getfield 41, 3), (73, .ireturn, 1), (74, .aload_n 0, 1), (75, .getfield 185, 3), (78, .ireturn, 1), (79, .bipush (-2), 2), (81, .ireturn, 1)]
theorem td_count : tb_count.all (fun q => decide (decode cX12_count q.1 = .ok (q.2.1, q.2.2))) = true := by decide +kernel
theorem w_count {p : Program} {l : Launch} {e : Env} {s : State} {m : MethodId} {args : Array Value} {below : List Frame} {meth : Method} {c : Code} {D : va_G} {o : Nat} {ad : Nat → Nat} {cs : ClassId × ClassId × ClassId} {r : Int32} {st' : mm_S} (C : mm_C p s m args meth c cX12_count 2 (some .int) D cs) (fu : Nat) (x1 : Int32) (st : mm_S) (hf : M_count fu x1 st = some (r, st')) {H : Heap} {locs : List Loc} {ls : Array Slot} (hl : lv_has ls 2 [(0, .ref o), (1, .int x1)]) (hM : mm_H D o ad cs s.heap st H locs) : W p l e (mm_R 0 0) s m args below meth c H locs 0 0 (MQ below (mm_Qi D o ad cs r st') args s 0 0 (mm_A o ad)) (F0 m 0 ls []) := by
  unfold M_count at hf
  refine lv_iload_n C.1 C.2.1 (dd_at td_count 0 rfl) rfl (lv_at hl 1 rfl) ?_
  by_cases c1 : x1 = (0 : Int32)
  · replace hf := fc_of_t hf c1
    refine lv_tableIn (off := 43) (tgt := 44) C.1 C.2.1 (dd_at td_count 1 rfl) (by rw [c1]; decide) (by rw [c1]; decide) (by rw [c1]; decide) (by decide) ?_
    refine lv_aload_n C.1 C.2.1 (dd_at td_count 2 rfl) rfl (lv_at hl 0 rfl) ?_
    refine mm_gI C hM 0 (dd_at td_count 3 rfl) (by decide) (by decide) (by decide) ?_
    exact mm_ri C hM (dd_at td_count 4 rfl) hf
  · replace hf := fc_of_f hf c1
    by_cases c2 : x1 = (1 : Int32)
    · replace hf := fc_of_t hf c2
      refine lv_tableIn (off := 48) (tgt := 49) C.1 C.2.1 (dd_at td_count 1 rfl) (by rw [c2]; decide) (by rw [c2]; decide) (by rw [c2]; decide) (by decide) ?_
      refine lv_aload_n C.1 C.2.1 (dd_at td_count 5 rfl) rfl (lv_at hl 0 rfl) ?_
      refine mm_gI C hM 8 (dd_at td_count 6 rfl) (by decide) (by decide) (by decide) ?_
      exact mm_ri C hM (dd_at td_count 7 rfl) hf
    · replace hf := fc_of_f hf c2
      by_cases c3 : x1 = (2 : Int32)
      · replace hf := fc_of_t hf c3
        refine lv_tableIn (off := 53) (tgt := 54) C.1 C.2.1 (dd_at td_count 1 rfl) (by rw [c3]; decide) (by rw [c3]; decide) (by rw [c3]; decide) (by decide) ?_
        refine lv_aload_n C.1 C.2.1 (dd_at td_count 8 rfl) rfl (lv_at hl 0 rfl) ?_
        refine mm_gI C hM 29 (dd_at td_count 9 rfl) (by decide) (by decide) (by decide) ?_
        exact mm_ri C hM (dd_at td_count 10 rfl) hf
      · replace hf := fc_of_f hf c3
        by_cases c4 : x1 = (3 : Int32)
        · replace hf := fc_of_t hf c4
          refine lv_tableIn (off := 58) (tgt := 59) C.1 C.2.1 (dd_at td_count 1 rfl) (by rw [c4]; decide) (by rw [c4]; decide) (by rw [c4]; decide) (by decide) ?_
          refine lv_aload_n C.1 C.2.1 (dd_at td_count 11 rfl) rfl (lv_at hl 0 rfl) ?_
          refine mm_gI C hM 31 (dd_at td_count 12 rfl) (by decide) (by decide) (by decide) ?_
          exact mm_ri C hM (dd_at td_count 13 rfl) hf
        · replace hf := fc_of_f hf c4
          by_cases c5 : x1 = (4 : Int32)
          · replace hf := fc_of_t hf c5
            refine lv_tableIn (off := 63) (tgt := 64) C.1 C.2.1 (dd_at td_count 1 rfl) (by rw [c5]; decide) (by rw [c5]; decide) (by rw [c5]; decide) (by decide) ?_
            refine lv_aload_n C.1 C.2.1 (dd_at td_count 14 rfl) rfl (lv_at hl 0 rfl) ?_
            refine mm_gI C hM 32 (dd_at td_count 15 rfl) (by decide) (by decide) (by decide) ?_
            exact mm_ri C hM (dd_at td_count 16 rfl) hf
          · replace hf := fc_of_f hf c5
            by_cases c6 : x1 = (5 : Int32)
            · replace hf := fc_of_t hf c6
              refine lv_tableIn (off := 68) (tgt := 69) C.1 C.2.1 (dd_at td_count 1 rfl) (by rw [c6]; decide) (by rw [c6]; decide) (by rw [c6]; decide) (by decide) ?_
              refine lv_aload_n C.1 C.2.1 (dd_at td_count 17 rfl) rfl (lv_at hl 0 rfl) ?_
              refine mm_gI C hM 10 (dd_at td_count 18 rfl) (by decide) (by decide) (by decide) ?_
              exact mm_ri C hM (dd_at td_count 19 rfl) hf
            · replace hf := fc_of_f hf c6
              by_cases c7 : x1 = (6 : Int32)
              · replace hf := fc_of_t hf c7
                refine lv_tableIn (off := 73) (tgt := 74) C.1 C.2.1 (dd_at td_count 1 rfl) (by rw [c7]; decide) (by rw [c7]; decide) (by rw [c7]; decide) (by decide) ?_
                refine lv_aload_n C.1 C.2.1 (dd_at td_count 20 rfl) rfl (lv_at hl 0 rfl) ?_
                refine mm_gI C hM 57 (dd_at td_count 21 rfl) (by decide) (by decide) (by decide) ?_
                exact mm_ri C hM (dd_at td_count 22 rfl) hf
              · replace hf := fc_of_f hf c7
                refine lv_tableOut (tgt := 79) C.1 C.2.1 (dd_at td_count 1 rfl) (by have q0 := lv_neT c1 (a := 0) (by decide); have q1 := lv_neT c2 (a := 1) (by decide); have q2 := lv_neT c3 (a := 2) (by decide); have q3 := lv_neT c4 (a := 3) (by decide); have q4 := lv_neT c5 (a := 4) (by decide); have q5 := lv_neT c6 (a := 5) (by decide); have q6 := lv_neT c7 (a := 6) (by decide); omega) (by decide) ?_
                refine lv_bipush (v := (-2 : Int32)) C.1 C.2.1 (dd_at td_count 23 rfl) (by decide) ?_
                exact mm_ri C hM (dd_at td_count 24 rfl) hf
theorem c_count (l : Launch) (D : va_G) (o : Nat) (ad : Nat → Nat) (cs : ClassId × ClassId × ClassId) (fu : Nat) (x1 : Int32) (st : mm_S) : mm_Mi l D o ad cs yX12_count cX12_count 2 (some .int) 0 0 [.int x1] st (M_count fu x1 st) := by
  intro r st' hf
  refine mm_enter (cc := cX12_count) (nL := 2) (ret := some .int) (by decide) rfl (Nat.le_of_ble_eq_true rfl) ?_
  intro p e s m args below meth c ls C hl hM
  exact w_count C fu x1 st hf hl hM

