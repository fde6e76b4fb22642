/-! constructors -/
def nn_ts (ct : Nat → ClassId) : List (ClassId × FieldType) := [(ct 0, .int), (ct 1, .long), (ct 2, .object "EclipsesKept$Need"), (ct 3, .object "EclipsesKept$Tape"), (ct 4, .array .long), (ct 5, .byte)]
theorem nn_ccg {y : MethodName} {b : ByteArray} {n : Nat} (h : Cond.code y b n none ∈ cc_W) : GoodIn cc_W (Cond.code y b n none :: cc_W) := by
  intro w hw
  rcases List.mem_cons.mp hw with e | e
  · rw [e]
    exact ⟨h, good_of_word (cc_Wgood _ h)⟩
  · exact ⟨e, good_of_word (cc_Wgood w e)⟩
section NW
variable {p : Program} {l : Launch} {e : Env} {R : Room} {s : State} {m : MethodId} {args : Array Value} {below : List Frame} {meth : Method} {c : Code} {H : Heap} {locs : List Loc} {cells slots : Nat} {Q : State → Prop}
variable {cc : ByteArray} {nL : Nat} {ret : Option FieldType} {own nm : String} {Wd : List Cond} {pc : Nat} {ls : Array Slot} {rest : List Value} {D : va_G} {tys : List (ClassId × FieldType)} {B : Nat} {z : pp_Z} {A : Nat → Prop} {ar : va_W} {o ci N : Nat} {F : Nat → Value}
theorem nn_arrW (C : nn_C p s m args meth c cc nL ret own nm Wd D tys B z A) (hM : nn_H D A s.heap (nn_W o ci N F ar) H locs) {atype : ArrayType} {ty : FieldType} {t0 N' : Nat} {c0 : ClassId} {n : Int32} (a0 : vp_A) (harr : Cond.arrayClass (newarray.typeOf atype) ∈ Wd) (hty : newarray.typeOf atype = ty) (ht : tys[t0]? = some (c0, ty)) (hu : ∀ {U : State} {a b : ClassId}, va_RA U a ty → va_RA U b ty → a = b) (ha : ∀ cA : ClassId, vp_cell cA a0 = arrV cA N' (fun _ => defaultValue ty)) (hn : ¬ n < 0) (hN : n.toNatClampNeg = N') (hbytes : N' * componentBytes ty ≤ 536870912) (hcells : cells + 1 ≤ R.cells) (hslots : slots + N' ≤ R.slots) (hdg : decode cc pc = .ok (.newarray atype, 2))
    (kk : ∀ (q : Nat) (H : Heap), nn_H D A s.heap (nn_W o ci N F (ar ++ [(q, .inl (c0, a0))])) H locs → W p l e R s m args below meth c H locs (cells + 1) (slots + N') Q (F0 m (pc + 2) ls (.ref q :: rest))) : W p l e R s m args below meth c H locs cells slots Q (F0 m pc ls (.int n :: rest)) :=
  nn_arr C hM a0 harr hty ht hu ha hn hN hbytes hcells hslots hdg (fun q H hM => kk q H hM)
theorem nn_anewW (C : nn_C p s m args meth c cc nL ret own nm Wd D tys B z A) (hM : nn_H D A s.heap (nn_W o ci N F ar) H locs) {t0 N' index : Nat} {K : String} {c0 : ClassId} {n : Int32} (hcl : Cond.classLink own index K ∈ Wd) (hover : va_AO K s) (ht : tys[t0]? = some (c0, .object K)) (hn : ¬ n < 0) (hN : n.toNatClampNeg = N') (hbytes : N' * 4 ≤ 536870912) (hcells : cells + 1 ≤ R.cells) (hslots : slots + N' ≤ R.slots) (hdg : decode cc pc = .ok (.anewarray index, 3))
    (kk : ∀ (q : Nat) (H : Heap), nn_H D A s.heap (nn_W o ci N F (ar ++ [(q, .inl (c0, N', .inr (.inr (.inr (.inr (fun _ => none))))))])) H locs → W p l e R s m args below meth c H locs (cells + 1) (slots + N') Q (F0 m (pc + 3) ls (.ref q :: rest))) : W p l e R s m args below meth c H locs cells slots Q (F0 m pc ls (.int n :: rest)) :=
  nn_anew C hM hcl hover ht hn hN hbytes hcells hslots hdg (fun q H hM => kk q H hM)
theorem nn_astW (C : nn_C p s m args meth c cc nL ret own nm Wd D tys B z A) {q t0 n : Nat} {c0 : ClassId} {f : Nat → Int32} {i x : Int32} (hM : nn_H D A s.heap (nn_W o ci N F (ar ++ [(q, .inl (c0, n, .inl f))])) H locs) (ht : tys[t0]? = some (c0, .int)) (hin : vp_in i n) (hdg : decode cc pc = .ok (.iastore, 1))
    (kk : ∀ (H : Heap) (locs : List Loc), nn_H D A s.heap (nn_W o ci N F (ar ++ [(q, .inl (c0, n, .inl (upd f i.toNatClampNeg x)))])) H locs → W p l e R s m args below meth c H locs cells slots Q (F0 m (pc + 1) ls rest)) : W p l e R s m args below meth c H locs cells slots Q (F0 m pc ls (.int x :: .int i :: .ref q :: rest)) := by
  refine nn_ias (c0 := c0) (f := f) (n := n) C hM (ar.length + 1) ?_ ?_ ht hin hdg kk
  · unfold nn_W
    rw [List.getElem?_cons_succ, List.getElem?_append_right (Nat.le_refl _), Nat.sub_self]
    rfl
  · unfold nn_W
    rw [List.set_cons_succ, List.set_append_right _ _ (Nat.le_refl _), Nat.sub_self]
    rfl
end NW
def tb_X8_init : List (Nat × Instr × Nat) := [(0, .aload_n 0, 1), (1, .invokespecial 3, 3), (4, .aload_n 0, 1), (5, .bipush 60, 2), (7, .newarray .long, 2), (9, .putfield 9, 3), (12, .aload_n 0, 1), (13, .iconst (-1), 1), (14, .putfield 15, 3), (17, .aload_n 0, 1), (18, .iconst 0, 1), (19, .putfield 19, 3), (22, .return_, 1)]
theorem td_X8_init : tb_X8_init.all (fun q => decide (decode cX8_init q.1 = .ok (q.2.1, q.2.2))) = true := by decide +kernel
def nn_lX8 (ct : Nat → ClassId) (x0 q0 : Nat) : va_W := [(x0, .inr (10, [.ref q0, .int (-1), .int 0])), (q0, .inl ((ct 1), 60, .inr (.inl (fun _ => 0))))]
set_option maxHeartbeats 8000000 in
set_option maxRecDepth 100000 in
theorem c_X8_init (l : Launch) (D : va_G) (B : Nat) (z : pp_Z) (ct : Nat → ClassId) (x0 : Nat) : nn_M l D cc_W (nn_ts ct) B z yX8_init cX8_init 1 none 1 12 1 60 [.ref x0] (nn_W x0 10 3 (fun j => defaultValue (tyX8 j)) []) (fun r u => r = none ∧ ∃ q0 : Nat, u = nn_lX8 ct x0 q0) := by
  refine nn_enter (own := RX8) (by decide) rfl (Nat.le_of_ble_eq_true rfl) ?_
  intro p e s m args below meth c ls A C hl hM
  have hl : lv_has ls 1 [(0, .ref x0)] := hl
  refine lv_aload_n C.1 C.2.1 (dd_at td_X8_init 0 rfl) rfl (lv_at hl 0 rfl) ?_
  refine nn_obj C hl.1 cw401 cw167 cw168 (dd_at td_X8_init 1 rfl) (Nat.le_of_ble_eq_true rfl) (Nat.le_of_ble_eq_true rfl) ?_
  refine lv_aload_n C.1 C.2.1 (dd_at td_X8_init 2 rfl) rfl (lv_at hl 0 rfl) ?_
  refine lv_bipush (v := (60 : Int32)) C.1 C.2.1 (dd_at td_X8_init 3 rfl) (by decide) ?_
  refine nn_arrW (ty := .long) C hM (atype := .long) (t0 := 1) (c0 := (ct 1)) (N' := 60) (60, .inr (.inl (fun _ => 0))) cw402 rfl rfl nn_uJ (fun _ => rfl) (by decide) rfl (Nat.le_of_ble_eq_true rfl) (Nat.le_of_ble_eq_true rfl) (Nat.le_of_ble_eq_true rfl) (dd_at td_X8_init 4 rfl) (fun q0 H hM => ?_)
  refine nn_putF C hM (K := RX8) (T := TX8) (k := 0) (ty0 := tyX8) rfl cc_inX8 tyX8_ok nmX8 (Nat.le_of_ble_eq_true rfl) cw403 rfl rfl rfl rfl rfl (dd_at td_X8_init 5 rfl) (fun H locs hM => ?_)
  refine lv_aload_n C.1 C.2.1 (dd_at td_X8_init 6 rfl) rfl (lv_at hl 0 rfl) ?_
  refine lv_iconst (v := (-1 : Int32)) C.1 C.2.1 (dd_at td_X8_init 7 rfl) (by decide) ?_
  refine nn_put C hM (ref := RX8) (K := RX8) (T := TX8) (k := 1) (ty0 := tyX8) rfl cc_inX8 tyX8_ok nmX8 (Nat.le_of_ble_eq_true rfl) cw404 rfl rfl rfl rfl (dd_at td_X8_init 8 rfl) (fun H locs hM => ?_)
  refine lv_aload_n C.1 C.2.1 (dd_at td_X8_init 9 rfl) rfl (lv_at hl 0 rfl) ?_
  refine lv_iconst (v := (0 : Int32)) C.1 C.2.1 (dd_at td_X8_init 10 rfl) (by decide) ?_
  refine nn_put C hM (ref := RX8) (K := RX8) (T := TX8) (k := 2) (ty0 := tyX8) rfl cc_inX8 tyX8_ok nmX8 (Nat.le_of_ble_eq_true rfl) cw405 rfl rfl rfl rfl (dd_at td_X8_init 11 rfl) (fun H locs hM => ?_)
  refine W.widen (k := 1) (n := 60) (Nat.le_of_ble_eq_true rfl) (Nat.le_of_ble_eq_true rfl) ?_
  exact nn_vr C hM ⟨rfl, q0, rfl⟩ (dd_at td_X8_init 12 rfl)
def tb_X7_init : List (Nat × Instr × Nat) := [(0, .aload_n 0, 1), (1, .invokespecial 3, 3), (4, .aload_n 0, 1), (5, .bipush 6, 2), (7, .anewarray 9, 3), (10, .putfield 11, 3), (13, .aload_n 0, 1), (14, .bipush 6, 2), (16, .newarray .int, 2), (18, .putfield 17, 3), (21, .aload_n 0, 1), (22, .bipush 24, 2), (24, .newarray .int, 2), (26, .putfield 21, 3), (29, .aload_n 0, 1), (30, .bipush 8, 2), (32, .newarray .int, 2), (34, .putfield 24, 3), (37, .aload_n 0, 1), (38, .iconst 5, 1), (39, .newarray .int, 2), (41, .putfield 27, 3), (44, .aload_n 0, 1), (45, .iconst 5, 1), (46, .newarray .int, 2), (48, .putfield 30, 3), (51, .aload_n 0, 1), (52, .iconst 5, 1), (53, .newarray .int, 2), (55, .putfield 33, 3), (58, .aload_n 0, 1), (59, .bipush 8, 2), (61, .newarray .int, 2), (63, .putfield 36, 3), (66, .aload_n 0, 1), (67, .bipush 8, 2), (69, .newarray .int, 2), (71, .putfield 39, 3), (74, .aload_n 0, 1), (75, .iconst 0, 1), (76, .putfield 42, 3), (79, .aload_n 0, 1), (80, .iconst 0, 1), (81, .putfield 46, 3), (84, .aload_n 0, 1), (85, .iconst 0, 1), (86, .putfield 49, 3), (89, .aload_n 0, 1), (90, .iconst 0, 1), (91, .putfield 52, 3), (94, .aload_n 0, 1), (95, .iconst 3, 1), (96, .putfield 55, 3), (99, .aload_n 0, 1), (100, .iconst 0, 1), (101, .putfield 58, 3), (104, .aload_n 0, 1), (105, .iconst 0, 1), (106, .putfield 61, 3), (109, .aload_n 0, 1), (110, .aconst_null, 1), (111, .putfield 64, 3), (114, .return_, 1)]
theorem td_X7_init : tb_X7_init.all (fun q => decide (decode cX7_init q.1 = .ok (q.2.1, q.2.2))) = true := by decide +kernel
def nn_lX7 (ct : Nat → ClassId) (x0 q0 q1 q2 q3 q4 q5 q6 q7 q8 : Nat) : va_W := [(x0, .inr (9, [.ref q0, .ref q1, .ref q2, .ref q3, .ref q4, .ref q5, .ref q6, .ref q7, .ref q8, .int 0, .int 0, .int 0, .int 0, .int 3, .int 0, .int 0, .null])), (q0, .inl ((ct 2), 6, .inr (.inr (.inr (.inr (fun _ => none)))))), (q1, .inl ((ct 0), 6, .inl (fun _ => 0))), (q2, .inl ((ct 0), 24, .inl (fun _ => 0))), (q3, .inl ((ct 0), 8, .inl (fun _ => 0))), (q4, .inl ((ct 0), 5, .inl (fun _ => 0))), (q5, .inl ((ct 0), 5, .inl (fun _ => 0))), (q6, .inl ((ct 0), 5, .inl (fun _ => 0))), (q7, .inl ((ct 0), 8, .inl (fun _ => 0))), (q8, .inl ((ct 0), 8, .inl (fun _ => 0)))]
set_option maxHeartbeats 8000000 in
set_option maxRecDepth 100000 in
theorem c_X7_init (l : Launch) (D : va_G) (B : Nat) (z : pp_Z) (ct : Nat → ClassId) (x0 : Nat) : nn_M l D cc_W (nn_ts ct) B z yX7_init cX7_init 1 none 1 12 9 75 [.ref x0] (nn_W x0 9 17 (fun j => defaultValue (tyX7 j)) []) (fun r u => r = none ∧ ∃ q0 q1 q2 q3 q4 q5 q6 q7 q8 : Nat, u = nn_lX7 ct x0 q0 q1 q2 q3 q4 q5 q6 q7 q8) := by
  refine nn_enter (own := RX7) (by decide) rfl (Nat.le_of_ble_eq_true rfl) ?_
  intro p e s m args below meth c ls A C hl hM
  have hl : lv_has ls 1 [(0, .ref x0)] := hl
  refine lv_aload_n C.1 C.2.1 (dd_at td_X7_init 0 rfl) rfl (lv_at hl 0 rfl) ?_
  refine nn_obj C hl.1 cw316 cw167 cw168 (dd_at td_X7_init 1 rfl) (Nat.le_of_ble_eq_true rfl) (Nat.le_of_ble_eq_true rfl) ?_
  refine lv_aload_n C.1 C.2.1 (dd_at td_X7_init 2 rfl) rfl (lv_at hl 0 rfl) ?_
  refine lv_bipush (v := (6 : Int32)) C.1 C.2.1 (dd_at td_X7_init 3 rfl) (by decide) ?_
  refine nn_anewW C hM (t0 := 2) (c0 := (ct 2)) (N' := 6) cw317 (nn_e C).1.1 rfl (by decide) rfl (Nat.le_of_ble_eq_true rfl) (Nat.le_of_ble_eq_true rfl) (Nat.le_of_ble_eq_true rfl) (dd_at td_X7_init 4 rfl) (fun q0 H hM => ?_)
  refine nn_putF C hM (K := RX7) (T := TX7) (k := 0) (ty0 := tyX7) rfl cc_inX7 tyX7_ok nmX7 (Nat.le_of_ble_eq_true rfl) cw318 rfl rfl rfl rfl rfl (dd_at td_X7_init 5 rfl) (fun H locs hM => ?_)
  refine lv_aload_n C.1 C.2.1 (dd_at td_X7_init 6 rfl) rfl (lv_at hl 0 rfl) ?_
  refine lv_bipush (v := (6 : Int32)) C.1 C.2.1 (dd_at td_X7_init 7 rfl) (by decide) ?_
  refine nn_arrW (ty := .int) C hM (atype := .int) (t0 := 0) (c0 := (ct 0)) (N' := 6) (6, .inl (fun _ => 0)) cw169 rfl rfl nn_uI (fun _ => rfl) (by decide) rfl (Nat.le_of_ble_eq_true rfl) (Nat.le_of_ble_eq_true rfl) (Nat.le_of_ble_eq_true rfl) (dd_at td_X7_init 8 rfl) (fun q1 H hM => ?_)
  refine nn_putF C hM (K := RX7) (T := TX7) (k := 1) (ty0 := tyX7) rfl cc_inX7 tyX7_ok nmX7 (Nat.le_of_ble_eq_true rfl) cw319 rfl rfl rfl rfl rfl (dd_at td_X7_init 9 rfl) (fun H locs hM => ?_)
  refine lv_aload_n C.1 C.2.1 (dd_at td_X7_init 10 rfl) rfl (lv_at hl 0 rfl) ?_
  refine lv_bipush (v := (24 : Int32)) C.1 C.2.1 (dd_at td_X7_init 11 rfl) (by decide) ?_
  refine nn_arrW (ty := .int) C hM (atype := .int) (t0 := 0) (c0 := (ct 0)) (N' := 24) (24, .inl (fun _ => 0)) cw169 rfl rfl nn_uI (fun _ => rfl) (by decide) rfl (Nat.le_of_ble_eq_true rfl) (Nat.le_of_ble_eq_true rfl) (Nat.le_of_ble_eq_true rfl) (dd_at td_X7_init 12 rfl) (fun q2 H hM => ?_)
  refine nn_putF C hM (K := RX7) (T := TX7) (k := 2) (ty0 := tyX7) rfl cc_inX7 tyX7_ok nmX7 (Nat.le_of_ble_eq_true rfl) cw320 rfl rfl rfl rfl rfl (dd_at td_X7_init 13 rfl) (fun H locs hM => ?_)
  refine lv_aload_n C.1 C.2.1 (dd_at td_X7_init 14 rfl) rfl (lv_at hl 0 rfl) ?_
  refine lv_bipush (v := (8 : Int32)) C.1 C.2.1 (dd_at td_X7_init 15 rfl) (by decide) ?_
  refine nn_arrW (ty := .int) C hM (atype := .int) (t0 := 0) (c0 := (ct 0)) (N' := 8) (8, .inl (fun _ => 0)) cw169 rfl rfl nn_uI (fun _ => rfl) (by decide) rfl (Nat.le_of_ble_eq_true rfl) (Nat.le_of_ble_eq_true rfl) (Nat.le_of_ble_eq_true rfl) (dd_at td_X7_init 16 rfl) (fun q3 H hM => ?_)
  refine nn_putF C hM (K := RX7) (T := TX7) (k := 3) (ty0 := tyX7) rfl cc_inX7 tyX7_ok nmX7 (Nat.le_of_ble_eq_true rfl) cw321 rfl rfl rfl rfl rfl (dd_at td_X7_init 17 rfl) (fun H locs hM => ?_)
  refine lv_aload_n C.1 C.2.1 (dd_at td_X7_init 18 rfl) rfl (lv_at hl 0 rfl) ?_
  refine lv_iconst (v := (5 : Int32)) C.1 C.2.1 (dd_at td_X7_init 19 rfl) (by decide) ?_
  refine nn_arrW (ty := .int) C hM (atype := .int) (t0 := 0) (c0 := (ct 0)) (N' := 5) (5, .inl (fun _ => 0)) cw169 rfl rfl nn_uI (fun _ => rfl) (by decide) rfl (Nat.le_of_ble_eq_true rfl) (Nat.le_of_ble_eq_true rfl) (Nat.le_of_ble_eq_true rfl) (dd_at td_X7_init 20 rfl) (fun q4 H hM => ?_)
  refine nn_putF C hM (K := RX7) (T := TX7) (k := 4) (ty0 := tyX7) rfl cc_inX7 tyX7_ok nmX7 (Nat.le_of_ble_eq_true rfl) cw322 rfl rfl rfl rfl rfl (dd_at td_X7_init 21 rfl) (fun H locs hM => ?_)
  refine lv_aload_n C.1 C.2.1 (dd_at td_X7_init 22 rfl) rfl (lv_at hl 0 rfl) ?_
  refine lv_iconst (v := (5 : Int32)) C.1 C.2.1 (dd_at td_X7_init 23 rfl) (by decide) ?_
  refine nn_arrW (ty := .int) C hM (atype := .int) (t0 := 0) (c0 := (ct 0)) (N' := 5) (5, .inl (fun _ => 0)) cw169 rfl rfl nn_uI (fun _ => rfl) (by decide) rfl (Nat.le_of_ble_eq_true rfl) (Nat.le_of_ble_eq_true rfl) (Nat.le_of_ble_eq_true rfl) (dd_at td_X7_init 24 rfl) (fun q5 H hM => ?_)
  refine nn_putF C hM (K := RX7) (T := TX7) (k := 5) (ty0 := tyX7) rfl cc_inX7 tyX7_ok nmX7 (Nat.le_of_ble_eq_true rfl) cw323 rfl rfl rfl rfl rfl (dd_at td_X7_init 25 rfl) (fun H locs hM => ?_)
  refine lv_aload_n C.1 C.2.1 (dd_at td_X7_init 26 rfl) rfl (lv_at hl 0 rfl) ?_
  refine lv_iconst (v := (5 : Int32)) C.1 C.2.1 (dd_at td_X7_init 27 rfl) (by decide) ?_
  refine nn_arrW (ty := .int) C hM (atype := .int) (t0 := 0) (c0 := (ct 0)) (N' := 5) (5, .inl (fun _ => 0)) cw169 rfl rfl nn_uI (fun _ => rfl) (by decide) rfl (Nat.le_of_ble_eq_true rfl) (Nat.le_of_ble_eq_true rfl) (Nat.le_of_ble_eq_true rfl) (dd_at td_X7_init 28 rfl) (fun q6 H hM => ?_)
  refine nn_putF C hM (K := RX7) (T := TX7) (k := 6) (ty0 := tyX7) rfl cc_inX7 tyX7_ok nmX7 (Nat.le_of_ble_eq_true rfl) cw324 rfl rfl rfl rfl rfl (dd_at td_X7_init 29 rfl) (fun H locs hM => ?_)
  refine lv_aload_n C.1 C.2.1 (dd_at td_X7_init 30 rfl) rfl (lv_at hl 0 rfl) ?_
  refine lv_bipush (v := (8 : Int32)) C.1 C.2.1 (dd_at td_X7_init 31 rfl) (by decide) ?_
  refine nn_arrW (ty := .int) C hM (atype := .int) (t0 := 0) (c0 := (ct 0)) (N' := 8) (8, .inl (fun _ => 0)) cw169 rfl rfl nn_uI (fun _ => rfl) (by decide) rfl (Nat.le_of_ble_eq_true rfl) (Nat.le_of_ble_eq_true rfl) (Nat.le_of_ble_eq_true rfl) (dd_at td_X7_init 32 rfl) (fun q7 H hM => ?_)
  refine nn_putF C hM (K := RX7) (T := TX7) (k := 7) (ty0 := tyX7) rfl cc_inX7 tyX7_ok nmX7 (Nat.le_of_ble_eq_true rfl) cw325 rfl rfl rfl rfl rfl (dd_at td_X7_init 33 rfl) (fun H locs hM => ?_)
  refine lv_aload_n C.1 C.2.1 (dd_at td_X7_init 34 rfl) rfl (lv_at hl 0 rfl) ?_
  refine lv_bipush (v := (8 : Int32)) C.1 C.2.1 (dd_at td_X7_init 35 rfl) (by decide) ?_
  refine nn_arrW (ty := .int) C hM (atype := .int) (t0 := 0) (c0 := (ct 0)) (N' := 8) (8, .inl (fun _ => 0)) cw169 rfl rfl nn_uI (fun _ => rfl) (by decide) rfl (Nat.le_of_ble_eq_true rfl) (Nat.le_of_ble_eq_true rfl) (Nat.le_of_ble_eq_true rfl) (dd_at td_X7_init 36 rfl) (fun q8 H hM => ?_)
  refine nn_putF C hM (K := RX7) (T := TX7) (k := 8) (ty0 := tyX7) rfl cc_inX7 tyX7_ok nmX7 (Nat.le_of_ble_eq_true rfl) cw326 rfl rfl rfl rfl rfl (dd_at td_X7_init 37 rfl) (fun H locs hM => ?_)
  refine lv_aload_n C.1 C.2.1 (dd_at td_X7_init 38 rfl) rfl (lv_at hl 0 rfl) ?_
  refine lv_iconst (v := (0 : Int32)) C.1 C.2.1 (dd_at td_X7_init 39 rfl) (by decide) ?_
  refine nn_put C hM (ref := RX7) (K := RX7) (T := TX7) (k := 9) (ty0 := tyX7) rfl cc_inX7 tyX7_ok nmX7 (Nat.le_of_ble_eq_true rfl) cw327 rfl rfl rfl rfl (dd_at td_X7_init 40 rfl) (fun H locs hM => ?_)
  refine lv_aload_n C.1 C.2.1 (dd_at td_X7_init 41 rfl) rfl (lv_at hl 0 rfl) ?_
  refine lv_iconst (v := (0 : Int32)) C.1 C.2.1 (dd_at td_X7_init 42 rfl) (by decide) ?_
  refine nn_put C hM (ref := RX7) (K := RX7) (T := TX7) (k := 10) (ty0 := tyX7) rfl cc_inX7 tyX7_ok nmX7 (Nat.le_of_ble_eq_true rfl) cw328 rfl rfl rfl rfl (dd_at td_X7_init 43 rfl) (fun H locs hM => ?_)
  refine lv_aload_n C.1 C.2.1 (dd_at td_X7_init 44 rfl) rfl (lv_at hl 0 rfl) ?_
  refine lv_iconst (v := (0 : Int32)) C.1 C.2.1 (dd_at td_X7_init 45 rfl) (by decide) ?_
  refine nn_put C hM (ref := RX7) (K := RX7) (T := TX7) (k := 11) (ty0 := tyX7) rfl cc_inX7 tyX7_ok nmX7 (Nat.le_of_ble_eq_true rfl) cw329 rfl rfl rfl rfl (dd_at td_X7_init 46 rfl) (fun H locs hM => ?_)
  refine lv_aload_n C.1 C.2.1 (dd_at td_X7_init 47 rfl) rfl (lv_at hl 0 rfl) ?_
  refine lv_iconst (v := (0 : Int32)) C.1 C.2.1 (dd_at td_X7_init 48 rfl) (by decide) ?_
  refine nn_put C hM (ref := RX7) (K := RX7) (T := TX7) (k := 12) (ty0 := tyX7) rfl cc_inX7 tyX7_ok nmX7 (Nat.le_of_ble_eq_true rfl) cw330 rfl rfl rfl rfl (dd_at td_X7_init 49 rfl) (fun H locs hM => ?_)
  refine lv_aload_n C.1 C.2.1 (dd_at td_X7_init 50 rfl) rfl (lv_at hl 0 rfl) ?_
  refine lv_iconst (v := (3 : Int32)) C.1 C.2.1 (dd_at td_X7_init 51 rfl) (by decide) ?_
  refine nn_put C hM (ref := RX7) (K := RX7) (T := TX7) (k := 13) (ty0 := tyX7) rfl cc_inX7 tyX7_ok nmX7 (Nat.le_of_ble_eq_true rfl) cw331 rfl rfl rfl rfl (dd_at td_X7_init 52 rfl) (fun H locs hM => ?_)
  refine lv_aload_n C.1 C.2.1 (dd_at td_X7_init 53 rfl) rfl (lv_at hl 0 rfl) ?_
  refine lv_iconst (v := (0 : Int32)) C.1 C.2.1 (dd_at td_X7_init 54 rfl) (by decide) ?_
  refine nn_put C hM (ref := RX7) (K := RX7) (T := TX7) (k := 14) (ty0 := tyX7) rfl cc_inX7 tyX7_ok nmX7 (Nat.le_of_ble_eq_true rfl) cw332 rfl rfl rfl rfl (dd_at td_X7_init 55 rfl) (fun H locs hM => ?_)
  refine lv_aload_n C.1 C.2.1 (dd_at td_X7_init 56 rfl) rfl (lv_at hl 0 rfl) ?_
  refine lv_iconst (v := (0 : Int32)) C.1 C.2.1 (dd_at td_X7_init 57 rfl) (by decide) ?_
  refine nn_put C hM (ref := RX7) (K := RX7) (T := TX7) (k := 15) (ty0 := tyX7) rfl cc_inX7 tyX7_ok nmX7 (Nat.le_of_ble_eq_true rfl) cw333 rfl rfl rfl rfl (dd_at td_X7_init 58 rfl) (fun H locs hM => ?_)
  refine lv_aload_n C.1 C.2.1 (dd_at td_X7_init 59 rfl) rfl (lv_at hl 0 rfl) ?_
  refine lv_null C.1 C.2.1 (dd_at td_X7_init 60 rfl) ?_
  refine nn_put C hM (ref := RX7) (K := RX7) (T := TX7) (k := 16) (ty0 := tyX7) rfl cc_inX7 tyX7_ok nmX7 (Nat.le_of_ble_eq_true rfl) cw334 rfl rfl rfl rfl (dd_at td_X7_init 61 rfl) (fun H locs hM => ?_)
  refine W.widen (k := 9) (n := 75) (Nat.le_of_ble_eq_true rfl) (Nat.le_of_ble_eq_true rfl) ?_
  exact nn_vr C hM ⟨rfl, q0, q1, q2, q3, q4, q5, q6, q7, q8, rfl⟩ (dd_at td_X7_init 62 rfl)
def tb_X10_init : List (Nat × Instr × Nat) := [(0, .aload_n 0, 1), (1, .invokespecial 3, 3), (4, .aload_n 0, 1), (5, .sipush 432, 3), (8, .newarray .int, 2), (10, .putfield 9, 3), (13, .aload_n 0, 1), (14, .bipush 9, 2), (16, .newarray .long, 2), (18, .putfield 15, 3), (21, .aload_n 0, 1), (22, .bipush 9, 2), (24, .bipush 9, 2), (26, .multianewarray 19 2, 4), (30, .putfield 21, 3), (33, .aload_n 0, 1), (34, .bipush 9, 2), (36, .bipush 9, 2), (38, .multianewarray 19 2, 4), (42, .putfield 24, 3), (45, .aload_n 0, 1), (46, .iconst 0, 1), (47, .putfield 27, 3), (50, .aload_n 0, 1), (51, .iconst 0, 1), (52, .putfield 31, 3), (55, .aload_n 0, 1), (56, .iconst 0, 1), (57, .putfield 34, 3), (60, .aload_n 0, 1), (61, .iconst 0, 1), (62, .putfield 37, 3), (65, .return_, 1)]
theorem td_X10_init : tb_X10_init.all (fun q => decide (decode cX10_init q.1 = .ok (q.2.1, q.2.2))) = true := by decide +kernel
def nn_lX10 (ct : Nat → ClassId) (x0 q0 q1 q2 q3 : Nat) : va_W := [(x0, .inr (12, [.ref q0, .ref q1, .ref q2, .ref q3, .int 0, .int 0, .int 0, .int 0])), (q0, .inl ((ct 0), 432, .inl (fun _ => 0))), (q1, .inl ((ct 1), 9, .inr (.inl (fun _ => 0)))), (q2, .inl ((ct 4), 9, .inr (.inr (.inr (.inr (fun j => some (q2 + 1 + j))))))), (q2 + 1 + 0, .inl ((ct 1), 9, .inr (.inl (fun _ => 0)))), (q2 + 1 + 1, .inl ((ct 1), 9, .inr (.inl (fun _ => 0)))), (q2 + 1 + 2, .inl ((ct 1), 9, .inr (.inl (fun _ => 0)))), (q2 + 1 + 3, .inl ((ct 1), 9, .inr (.inl (fun _ => 0)))), (q2 + 1 + 4, .inl ((ct 1), 9, .inr (.inl (fun _ => 0)))), (q2 + 1 + 5, .inl ((ct 1), 9, .inr (.inl (fun _ => 0)))), (q2 + 1 + 6, .inl ((ct 1), 9, .inr (.inl (fun _ => 0)))), (q2 + 1 + 7, .inl ((ct 1), 9, .inr (.inl (fun _ => 0)))), (q2 + 1 + 8, .inl ((ct 1), 9, .inr (.inl (fun _ => 0)))), (q3, .inl ((ct 4), 9, .inr (.inr (.inr (.inr (fun j => some (q3 + 1 + j))))))), (q3 + 1 + 0, .inl ((ct 1), 9, .inr (.inl (fun _ => 0)))), (q3 + 1 + 1, .inl ((ct 1), 9, .inr (.inl (fun _ => 0)))), (q3 + 1 + 2, .inl ((ct 1), 9, .inr (.inl (fun _ => 0)))), (q3 + 1 + 3, .inl ((ct 1), 9, .inr (.inl (fun _ => 0)))), (q3 + 1 + 4, .inl ((ct 1), 9, .inr (.inl (fun _ => 0)))), (q3 + 1 + 5, .inl ((ct 1), 9, .inr (.inl (fun _ => 0)))), (q3 + 1 + 6, .inl ((ct 1), 9, .inr (.inl (fun _ => 0)))), (q3 + 1 + 7, .inl ((ct 1), 9, .inr (.inl (fun _ => 0)))), (q3 + 1 + 8, .inl ((ct 1), 9, .inr (.inl (fun _ => 0))))]
set_option maxHeartbeats 8000000 in
set_option maxRecDepth 100000 in
theorem c_X10_init (l : Launch) (D : va_G) (B : Nat) (z : pp_Z) (ct : Nat → ClassId) (x0 : Nat) : nn_M l D cc_W (nn_ts ct) B z yX10_init cX10_init 1 none 1 12 22 621 [.ref x0] (nn_W x0 12 8 (fun j => defaultValue (tyX10 j)) []) (fun r u => r = none ∧ ∃ q0 q1 q2 q3 : Nat, u = nn_lX10 ct x0 q0 q1 q2 q3) := by
  refine nn_enter (own := RX10) (by decide) rfl (Nat.le_of_ble_eq_true rfl) ?_
  intro p e s m args below meth c ls A C hl hM
  have hl : lv_has ls 1 [(0, .ref x0)] := hl
  refine lv_aload_n C.1 C.2.1 (dd_at td_X10_init 0 rfl) rfl (lv_at hl 0 rfl) ?_
  refine nn_obj C hl.1 cw415 cw167 cw168 (dd_at td_X10_init 1 rfl) (Nat.le_of_ble_eq_true rfl) (Nat.le_of_ble_eq_true rfl) ?_
  refine lv_aload_n C.1 C.2.1 (dd_at td_X10_init 2 rfl) rfl (lv_at hl 0 rfl) ?_
  refine lv_sipush (v := (432 : Int32)) C.1 C.2.1 (dd_at td_X10_init 3 rfl) (by decide) ?_
  refine nn_arrW (ty := .int) C hM (atype := .int) (t0 := 0) (c0 := (ct 0)) (N' := 432) (432, .inl (fun _ => 0)) cw169 rfl rfl nn_uI (fun _ => rfl) (by decide) rfl (Nat.le_of_ble_eq_true rfl) (Nat.le_of_ble_eq_true rfl) (Nat.le_of_ble_eq_true rfl) (dd_at td_X10_init 4 rfl) (fun q0 H hM => ?_)
  refine nn_putF C hM (K := RX10) (T := TX10) (k := 0) (ty0 := tyX10) rfl cc_inX10 tyX10_ok nmX10 (Nat.le_of_ble_eq_true rfl) cw416 rfl rfl rfl rfl rfl (dd_at td_X10_init 5 rfl) (fun H locs hM => ?_)
  refine lv_aload_n C.1 C.2.1 (dd_at td_X10_init 6 rfl) rfl (lv_at hl 0 rfl) ?_
  refine lv_bipush (v := (9 : Int32)) C.1 C.2.1 (dd_at td_X10_init 7 rfl) (by decide) ?_
  refine nn_arrW (ty := .long) C hM (atype := .long) (t0 := 1) (c0 := (ct 1)) (N' := 9) (9, .inr (.inl (fun _ => 0))) cw402 rfl rfl nn_uJ (fun _ => rfl) (by decide) rfl (Nat.le_of_ble_eq_true rfl) (Nat.le_of_ble_eq_true rfl) (Nat.le_of_ble_eq_true rfl) (dd_at td_X10_init 8 rfl) (fun q1 H hM => ?_)
  refine nn_putF C hM (K := RX10) (T := TX10) (k := 1) (ty0 := tyX10) rfl cc_inX10 tyX10_ok nmX10 (Nat.le_of_ble_eq_true rfl) cw417 rfl rfl rfl rfl rfl (dd_at td_X10_init 9 rfl) (fun H locs hM => ?_)
  refine lv_aload_n C.1 C.2.1 (dd_at td_X10_init 10 rfl) rfl (lv_at hl 0 rfl) ?_
  refine lv_bipush (v := (9 : Int32)) C.1 C.2.1 (dd_at td_X10_init 11 rfl) (by decide) ?_
  refine lv_bipush (v := (9 : Int32)) C.1 C.2.1 (dd_at td_X10_init 12 rfl) (by decide) ?_
  refine nn_multi C hM (t1 := 4) (t0 := 1) (c1 := (ct 4)) (c0 := (ct 1)) (N' := 9) (K' := 9) (cw418) cw402 rfl rfl (by decide) (by decide) rfl rfl (Nat.le_of_ble_eq_true rfl) (Nat.le_of_ble_eq_true rfl) (Nat.le_of_ble_eq_true rfl) (Nat.le_of_ble_eq_true rfl) (Nat.le_of_ble_eq_true rfl) (dd_at td_X10_init 13 rfl) (fun q2 H hM => ?_)
  refine nn_putF C hM (K := RX10) (T := TX10) (k := 2) (ty0 := tyX10) rfl cc_inX10 tyX10_ok nmX10 (Nat.le_of_ble_eq_true rfl) cw419 rfl rfl rfl rfl rfl (dd_at td_X10_init 14 rfl) (fun H locs hM => ?_)
  refine lv_aload_n C.1 C.2.1 (dd_at td_X10_init 15 rfl) rfl (lv_at hl 0 rfl) ?_
  refine lv_bipush (v := (9 : Int32)) C.1 C.2.1 (dd_at td_X10_init 16 rfl) (by decide) ?_
  refine lv_bipush (v := (9 : Int32)) C.1 C.2.1 (dd_at td_X10_init 17 rfl) (by decide) ?_
  refine nn_multi C hM (t1 := 4) (t0 := 1) (c1 := (ct 4)) (c0 := (ct 1)) (N' := 9) (K' := 9) (cw418) cw402 rfl rfl (by decide) (by decide) rfl rfl (Nat.le_of_ble_eq_true rfl) (Nat.le_of_ble_eq_true rfl) (Nat.le_of_ble_eq_true rfl) (Nat.le_of_ble_eq_true rfl) (Nat.le_of_ble_eq_true rfl) (dd_at td_X10_init 18 rfl) (fun q3 H hM => ?_)
  refine nn_putF C hM (K := RX10) (T := TX10) (k := 3) (ty0 := tyX10) rfl cc_inX10 tyX10_ok nmX10 (Nat.le_of_ble_eq_true rfl) cw420 rfl rfl rfl rfl rfl (dd_at td_X10_init 19 rfl) (fun H locs hM => ?_)
  refine lv_aload_n C.1 C.2.1 (dd_at td_X10_init 20 rfl) rfl (lv_at hl 0 rfl) ?_
  refine lv_iconst (v := (0 : Int32)) C.1 C.2.1 (dd_at td_X10_init 21 rfl) (by decide) ?_
  refine nn_put C hM (ref := RX10) (K := RX10) (T := TX10) (k := 4) (ty0 := tyX10) rfl cc_inX10 tyX10_ok nmX10 (Nat.le_of_ble_eq_true rfl) cw421 rfl rfl rfl rfl (dd_at td_X10_init 22 rfl) (fun H locs hM => ?_)
  refine lv_aload_n C.1 C.2.1 (dd_at td_X10_init 23 rfl) rfl (lv_at hl 0 rfl) ?_
  refine lv_iconst (v := (0 : Int32)) C.1 C.2.1 (dd_at td_X10_init 24 rfl) (by decide) ?_
  refine nn_put C hM (ref := RX10) (K := RX10) (T := TX10) (k := 5) (ty0 := tyX10) rfl cc_inX10 tyX10_ok nmX10 (Nat.le_of_ble_eq_true rfl) cw422 rfl rfl rfl rfl (dd_at td_X10_init 25 rfl) (fun H locs hM => ?_)
  refine lv_aload_n C.1 C.2.1 (dd_at td_X10_init 26 rfl) rfl (lv_at hl 0 rfl) ?_
  refine lv_iconst (v := (0 : Int32)) C.1 C.2.1 (dd_at td_X10_init 27 rfl) (by decide) ?_
  refine nn_put C hM (ref := RX10) (K := RX10) (T := TX10) (k := 6) (ty0 := tyX10) rfl cc_inX10 tyX10_ok nmX10 (Nat.le_of_ble_eq_true rfl) cw423 rfl rfl rfl rfl (dd_at td_X10_init 28 rfl) (fun H locs hM => ?_)
  refine lv_aload_n C.1 C.2.1 (dd_at td_X10_init 29 rfl) rfl (lv_at hl 0 rfl) ?_
  refine lv_iconst (v := (0 : Int32)) C.1 C.2.1 (dd_at td_X10_init 30 rfl) (by decide) ?_
  refine nn_put C hM (ref := RX10) (K := RX10) (T := TX10) (k := 7) (ty0 := tyX10) rfl cc_inX10 tyX10_ok nmX10 (Nat.le_of_ble_eq_true rfl) cw424 rfl rfl rfl rfl (dd_at td_X10_init 31 rfl) (fun H locs hM => ?_)
  refine W.widen (k := 22) (n := 621) (Nat.le_of_ble_eq_true rfl) (Nat.le_of_ble_eq_true rfl) ?_
  exact nn_vr C hM ⟨rfl, q0, q1, q2, q3, rfl⟩ (dd_at td_X10_init 32 rfl)
def tb_X4_init : List (Nat × Instr × Nat) := [(0, .aload_n 0, 1), (1, .invokespecial 1, 3), (4, .aload_n 0, 1), (5, .iload_n 1, 1), (6, .putfield 7, 3), (9, .aload_n 0, 1), (10, .iload_n 2, 1), (11, .putfield 13, 3), (14, .aload_n 0, 1), (15, .iload_n 3, 1), (16, .putfield 16, 3), (19, .aload_n 0, 1), (20, .aload 4, 2), (22, .putfield 19, 3), (25, .return_, 1)]
theorem td_X4_init : tb_X4_init.all (fun q => decide (decode cX4_init q.1 = .ok (q.2.1, q.2.2))) = true := by decide +kernel
def tb_X6_init : List (Nat × Instr × Nat) := [(0, .aload_n 0, 1), (1, .iload_n 1, 1), (2, .iload_n 2, 1), (3, .iload_n 3, 1), (4, .aload 4, 2), (6, .invokespecial 1, 3), (9, .return_, 1)]
theorem td_X6_init : tb_X6_init.all (fun q => decide (decode cX6_init q.1 = .ok (q.2.1, q.2.2))) = true := by decide +kernel
def tb_X3_init : List (Nat × Instr × Nat) := [(0, .aload_n 0, 1), (1, .iload_n 1, 1), (2, .iload_n 2, 1), (3, .iload_n 3, 1), (4, .aload 4, 2), (6, .invokespecial 1, 3), (9, .return_, 1)]
theorem td_X3_init : tb_X3_init.all (fun q => decide (decode cX3_init q.1 = .ok (q.2.1, q.2.2))) = true := by decide +kernel
def tb_X5_init : List (Nat × Instr × Nat) := [(0, .aload_n 0, 1), (1, .iload_n 1, 1), (2, .iload_n 2, 1), (3, .iload_n 3, 1), (4, .aload 4, 2), (6, .invokespecial 1, 3), (9, .return_, 1)]
theorem td_X5_init : tb_X5_init.all (fun q => decide (decode cX5_init q.1 = .ok (q.2.1, q.2.2))) = true := by decide +kernel
def tb_X2_init : List (Nat × Instr × Nat) := [(0, .aload_n 0, 1), (1, .iload_n 1, 1), (2, .iload_n 2, 1), (3, .iload_n 3, 1), (4, .aload 4, 2), (6, .invokespecial 1, 3), (9, .return_, 1)]
theorem td_X2_init : tb_X2_init.all (fun q => decide (decode cX2_init q.1 = .ok (q.2.1, q.2.2))) = true := by decide +kernel
def tb_X1_init : List (Nat × Instr × Nat) := [(0, .aload_n 0, 1), (1, .iload_n 1, 1), (2, .iload_n 2, 1), (3, .iload_n 3, 1), (4, .aload 4, 2), (6, .invokespecial 1, 3), (9, .return_, 1)]
theorem td_X1_init : tb_X1_init.all (fun q => decide (decode cX1_init q.1 = .ok (q.2.1, q.2.2))) = true := by decide +kernel
def tb_X9_init : List (Nat × Instr × Nat) := [(0, .aload_n 0, 1), (1, .iload_n 1, 1), (2, .iload_n 2, 1), (3, .iload_n 3, 1), (4, .aload 4, 2), (6, .invokespecial 1, 3), (9, .return_, 1)]
theorem td_X9_init : tb_X9_init.all (fun q => decide (decode cX9_init q.1 = .ok (q.2.1, q.2.2))) = true := by decide +kernel
theorem hn_X4 : yX4_init.cls ≠ "java/lang/invoke/MethodHandle" ∧ yX4_init.cls ≠ "java/lang/invoke/VarHandle" ∧ (parseMethodDescriptor yX4_init.desc).map (fun d => d.parameters.length) = some 4 := by decide +kernel
theorem hn_X6 : yX6_init.cls ≠ "java/lang/invoke/MethodHandle" ∧ yX6_init.cls ≠ "java/lang/invoke/VarHandle" ∧ (parseMethodDescriptor yX6_init.desc).map (fun d => d.parameters.length) = some 4 := by decide +kernel
theorem hn_X3 : yX3_init.cls ≠ "java/lang/invoke/MethodHandle" ∧ yX3_init.cls ≠ "java/lang/invoke/VarHandle" ∧ (parseMethodDescriptor yX3_init.desc).map (fun d => d.parameters.length) = some 4 := by decide +kernel
theorem hn_X5 : yX5_init.cls ≠ "java/lang/invoke/MethodHandle" ∧ yX5_init.cls ≠ "java/lang/invoke/VarHandle" ∧ (parseMethodDescriptor yX5_init.desc).map (fun d => d.parameters.length) = some 4 := by decide +kernel
theorem hn_X2 : yX2_init.cls ≠ "java/lang/invoke/MethodHandle" ∧ yX2_init.cls ≠ "java/lang/invoke/VarHandle" ∧ (parseMethodDescriptor yX2_init.desc).map (fun d => d.parameters.length) = some 4 := by decide +kernel
theorem hn_X1 : yX1_init.cls ≠ "java/lang/invoke/MethodHandle" ∧ yX1_init.cls ≠ "java/lang/invoke/VarHandle" ∧ (parseMethodDescriptor yX1_init.desc).map (fun d => d.parameters.length) = some 4 := by decide +kernel
theorem hn_X9 : yX9_init.cls ≠ "java/lang/invoke/MethodHandle" ∧ yX9_init.cls ≠ "java/lang/invoke/VarHandle" ∧ (parseMethodDescriptor yX9_init.desc).map (fun d => d.parameters.length) = some 4 := by decide +kernel
set_option maxHeartbeats 8000000 in
set_option maxRecDepth 100000 in
theorem c_X4_init_X4 (l : Launch) (D : va_G) (B : Nat) (z : pp_Z) (ct : Nat → ClassId) (x0 : Nat) (x1 x2 x3 : Int32) (b : Nat) : nn_M l D cc_W (nn_ts ct) B z yX4_init cX4_init 5 none 1 12 0 0 [.ref x0, .int x1, .int x2, .int x3, .ref b] (nn_W x0 6 4 (fun j => defaultValue (tyX4 j)) []) (fun r u => r = none ∧ u = [(x0, .inr (6, [.int x1, .int x2, .int x3, .ref b]))]) := by
  refine nn_enter (own := RX4) (by decide) rfl (Nat.le_of_ble_eq_true rfl) ?_
  intro p e s m args below meth c ls A C hl hM
  have hl : lv_has ls 5 [(0, .ref x0), (1, .int x1), (2, .int x2), (3, .int x3), (4, .ref b)] := hl
  refine lv_aload_n C.1 C.2.1 (dd_at td_X4_init 0 rfl) rfl (lv_at hl 0 rfl) ?_
  refine nn_obj C hl.1 cw186 cw167 cw168 (dd_at td_X4_init 1 rfl) (Nat.le_of_ble_eq_true rfl) (Nat.le_of_ble_eq_true rfl) ?_
  refine lv_aload_n C.1 C.2.1 (dd_at td_X4_init 2 rfl) rfl (lv_at hl 0 rfl) ?_
  refine lv_iload_n C.1 C.2.1 (dd_at td_X4_init 3 rfl) rfl (lv_at hl 1 rfl) ?_
  refine nn_putF C hM (K := RX4) (T := TX4) (k := 0) (ty0 := tyX4) rfl cc_inX4 tyX4_ok nmX4 (Nat.le_of_ble_eq_true rfl) cw187 rfl rfl rfl rfl rfl (dd_at td_X4_init 4 rfl) (fun H locs hM => ?_)
  refine lv_aload_n C.1 C.2.1 (dd_at td_X4_init 5 rfl) rfl (lv_at hl 0 rfl) ?_
  refine lv_iload_n C.1 C.2.1 (dd_at td_X4_init 6 rfl) rfl (lv_at hl 2 rfl) ?_
  refine nn_putF C hM (K := RX4) (T := TX4) (k := 1) (ty0 := tyX4) rfl cc_inX4 tyX4_ok nmX4 (Nat.le_of_ble_eq_true rfl) cw188 rfl rfl rfl rfl rfl (dd_at td_X4_init 7 rfl) (fun H locs hM => ?_)
  refine lv_aload_n C.1 C.2.1 (dd_at td_X4_init 8 rfl) rfl (lv_at hl 0 rfl) ?_
  refine lv_iload_n C.1 C.2.1 (dd_at td_X4_init 9 rfl) rfl (lv_at hl 3 rfl) ?_
  refine nn_putF C hM (K := RX4) (T := TX4) (k := 2) (ty0 := tyX4) rfl cc_inX4 tyX4_ok nmX4 (Nat.le_of_ble_eq_true rfl) cw189 rfl rfl rfl rfl rfl (dd_at td_X4_init 10 rfl) (fun H locs hM => ?_)
  refine lv_aload_n C.1 C.2.1 (dd_at td_X4_init 11 rfl) rfl (lv_at hl 0 rfl) ?_
  refine lv_aload C.1 C.2.1 (dd_at td_X4_init 12 rfl) (lv_at hl 4 rfl) ?_
  refine nn_putF C hM (K := RX4) (T := TX4) (k := 3) (ty0 := tyX4) rfl cc_inX4 tyX4_ok nmX4 (Nat.le_of_ble_eq_true rfl) cw190 rfl rfl rfl rfl rfl (dd_at td_X4_init 13 rfl) (fun H locs hM => ?_)
  refine W.widen (k := 0) (n := 0) (Nat.le_of_ble_eq_true rfl) (Nat.le_of_ble_eq_true rfl) ?_
  exact nn_vr C hM ⟨rfl, rfl⟩ (dd_at td_X4_init 14 rfl)
set_option maxHeartbeats 8000000 in
set_option maxRecDepth 100000 in
theorem c_X4_init_X6 (l : Launch) (D : va_G) (B : Nat) (z : pp_Z) (ct : Nat → ClassId) (x0 : Nat) (x1 x2 x3 : Int32) (b : Nat) : nn_M l D cc_W (nn_ts ct) B z yX4_init cX4_init 5 none 1 12 0 0 [.ref x0, .int x1, .int x2, .int x3, .ref b] (nn_W x0 8 4 (fun j => defaultValue (tyX6 j)) []) (fun r u => r = none ∧ u = [(x0, .inr (8, [.int x1, .int x2, .int x3, .ref b]))]) := by
  refine nn_enter (own := RX4) (by decide) rfl (Nat.le_of_ble_eq_true rfl) ?_
  intro p e s m args below meth c ls A C hl hM
  have hl : lv_has ls 5 [(0, .ref x0), (1, .int x1), (2, .int x2), (3, .int x3), (4, .ref b)] := hl
  refine lv_aload_n C.1 C.2.1 (dd_at td_X4_init 0 rfl) rfl (lv_at hl 0 rfl) ?_
  refine nn_obj C hl.1 cw186 cw167 cw168 (dd_at td_X4_init 1 rfl) (Nat.le_of_ble_eq_true rfl) (Nat.le_of_ble_eq_true rfl) ?_
  refine lv_aload_n C.1 C.2.1 (dd_at td_X4_init 2 rfl) rfl (lv_at hl 0 rfl) ?_
  refine lv_iload_n C.1 C.2.1 (dd_at td_X4_init 3 rfl) rfl (lv_at hl 1 rfl) ?_
  refine nn_putF C hM (K := RX6) (T := TX6) (k := 0) (ty0 := tyX6) rfl cc_inX6 tyX6_ok nmX6 (Nat.le_of_ble_eq_true rfl) cw187 rfl rfl rfl rfl rfl (dd_at td_X4_init 4 rfl) (fun H locs hM => ?_)
  refine lv_aload_n C.1 C.2.1 (dd_at td_X4_init 5 rfl) rfl (lv_at hl 0 rfl) ?_
  refine lv_iload_n C.1 C.2.1 (dd_at td_X4_init 6 rfl) rfl (lv_at hl 2 rfl) ?_
  refine nn_putF C hM (K := RX6) (T := TX6) (k := 1) (ty0 := tyX6) rfl cc_inX6 tyX6_ok nmX6 (Nat.le_of_ble_eq_true rfl) cw188 rfl rfl rfl rfl rfl (dd_at td_X4_init 7 rfl) (fun H locs hM => ?_)
  refine lv_aload_n C.1 C.2.1 (dd_at td_X4_init 8 rfl) rfl (lv_at hl 0 rfl) ?_
  refine lv_iload_n C.1 C.2.1 (dd_at td_X4_init 9 rfl) rfl (lv_at hl 3 rfl) ?_
  refine nn_putF C hM (K := RX6) (T := TX6) (k := 2) (ty0 := tyX6) rfl cc_inX6 tyX6_ok nmX6 (Nat.le_of_ble_eq_true rfl) cw189 rfl rfl rfl rfl rfl (dd_at td_X4_init 10 rfl) (fun H locs hM => ?_)
  refine lv_aload_n C.1 C.2.1 (dd_at td_X4_init 11 rfl) rfl (lv_at hl 0 rfl) ?_
  refine lv_aload C.1 C.2.1 (dd_at td_X4_init 12 rfl) (lv_at hl 4 rfl) ?_
  refine nn_putF C hM (K := RX6) (T := TX6) (k := 3) (ty0 := tyX6) rfl cc_inX6 tyX6_ok nmX6 (Nat.le_of_ble_eq_true rfl) cw190 rfl rfl rfl rfl rfl (dd_at td_X4_init 13 rfl) (fun H locs hM => ?_)
  refine W.widen (k := 0) (n := 0) (Nat.le_of_ble_eq_true rfl) (Nat.le_of_ble_eq_true rfl) ?_
  exact nn_vr C hM ⟨rfl, rfl⟩ (dd_at td_X4_init 14 rfl)
set_option maxHeartbeats 8000000 in
set_option maxRecDepth 100000 in
theorem c_X4_init_X3 (l : Launch) (D : va_G) (B : Nat) (z : pp_Z) (ct : Nat → ClassId) (x0 : Nat) (x1 x2 x3 : Int32) (b : Nat) : nn_M l D cc_W (nn_ts ct) B z yX4_init cX4_init 5 none 1 12 0 0 [.ref x0, .int x1, .int x2, .int x3, .ref b] (nn_W x0 5 4 (fun j => defaultValue (tyX3 j)) []) (fun r u => r = none ∧ u = [(x0, .inr (5, [.int x1, .int x2, .int x3, .ref b]))]) := by
  refine nn_enter (own := RX4) (by decide) rfl (Nat.le_of_ble_eq_true rfl) ?_
  intro p e s m args below meth c ls A C hl hM
  have hl : lv_has ls 5 [(0, .ref x0), (1, .int x1), (2, .int x2), (3, .int x3), (4, .ref b)] := hl
  refine lv_aload_n C.1 C.2.1 (dd_at td_X4_init 0 rfl) rfl (lv_at hl 0 rfl) ?_
  refine nn_obj C hl.1 cw186 cw167 cw168 (dd_at td_X4_init 1 rfl) (Nat.le_of_ble_eq_true rfl) (Nat.le_of_ble_eq_true rfl) ?_
  refine lv_aload_n C.1 C.2.1 (dd_at td_X4_init 2 rfl) rfl (lv_at hl 0 rfl) ?_
  refine lv_iload_n C.1 C.2.1 (dd_at td_X4_init 3 rfl) rfl (lv_at hl 1 rfl) ?_
  refine nn_putF C hM (K := RX3) (T := TX3) (k := 0) (ty0 := tyX3) rfl cc_inX3 tyX3_ok nmX3 (Nat.le_of_ble_eq_true rfl) cw187 rfl rfl rfl rfl rfl (dd_at td_X4_init 4 rfl) (fun H locs hM => ?_)
  refine lv_aload_n C.1 C.2.1 (dd_at td_X4_init 5 rfl) rfl (lv_at hl 0 rfl) ?_
  refine lv_iload_n C.1 C.2.1 (dd_at td_X4_init 6 rfl) rfl (lv_at hl 2 rfl) ?_
  refine nn_putF C hM (K := RX3) (T := TX3) (k := 1) (ty0 := tyX3) rfl cc_inX3 tyX3_ok nmX3 (Nat.le_of_ble_eq_true rfl) cw188 rfl rfl rfl rfl rfl (dd_at td_X4_init 7 rfl) (fun H locs hM => ?_)
  refine lv_aload_n C.1 C.2.1 (dd_at td_X4_init 8 rfl) rfl (lv_at hl 0 rfl) ?_
  refine lv_iload_n C.1 C.2.1 (dd_at td_X4_init 9 rfl) rfl (lv_at hl 3 rfl) ?_
  refine nn_putF C hM (K := RX3) (T := TX3) (k := 2) (ty0 := tyX3) rfl cc_inX3 tyX3_ok nmX3 (Nat.le_of_ble_eq_true rfl) cw189 rfl rfl rfl rfl rfl (dd_at td_X4_init 10 rfl) (fun H locs hM => ?_)
  refine lv_aload_n C.1 C.2.1 (dd_at td_X4_init 11 rfl) rfl (lv_at hl 0 rfl) ?_
  refine lv_aload C.1 C.2.1 (dd_at td_X4_init 12 rfl) (lv_at hl 4 rfl) ?_
  refine nn_putF C hM (K := RX3) (T := TX3) (k := 3) (ty0 := tyX3) rfl cc_inX3 tyX3_ok nmX3 (Nat.le_of_ble_eq_true rfl) cw190 rfl rfl rfl rfl rfl (dd_at td_X4_init 13 rfl) (fun H locs hM => ?_)
  refine W.widen (k := 0) (n := 0) (Nat.le_of_ble_eq_true rfl) (Nat.le_of_ble_eq_true rfl) ?_
  exact nn_vr C hM ⟨rfl, rfl⟩ (dd_at td_X4_init 14 rfl)
set_option maxHeartbeats 8000000 in
set_option maxRecDepth 100000 in
theorem c_X4_init_X5 (l : Launch) (D : va_G) (B : Nat) (z : pp_Z) (ct : Nat → ClassId) (x0 : Nat) (x1 x2 x3 : Int32) (b : Nat) : nn_M l D cc_W (nn_ts ct) B z yX4_init cX4_init 5 none 1 12 0 0 [.ref x0, .int x1, .int x2, .int x3, .ref b] (nn_W x0 7 4 (fun j => defaultValue (tyX5 j)) []) (fun r u => r = none ∧ u = [(x0, .inr (7, [.int x1, .int x2, .int x3, .ref b]))]) := by
  refine nn_enter (own := RX4) (by decide) rfl (Nat.le_of_ble_eq_true rfl) ?_
  intro p e s m args below meth c ls A C hl hM
  have hl : lv_has ls 5 [(0, .ref x0), (1, .int x1), (2, .int x2), (3, .int x3), (4, .ref b)] := hl
  refine lv_aload_n C.1 C.2.1 (dd_at td_X4_init 0 rfl) rfl (lv_at hl 0 rfl) ?_
  refine nn_obj C hl.1 cw186 cw167 cw168 (dd_at td_X4_init 1 rfl) (Nat.le_of_ble_eq_true rfl) (Nat.le_of_ble_eq_true rfl) ?_
  refine lv_aload_n C.1 C.2.1 (dd_at td_X4_init 2 rfl) rfl (lv_at hl 0 rfl) ?_
  refine lv_iload_n C.1 C.2.1 (dd_at td_X4_init 3 rfl) rfl (lv_at hl 1 rfl) ?_
  refine nn_putF C hM (K := RX5) (T := TX5) (k := 0) (ty0 := tyX5) rfl cc_inX5 tyX5_ok nmX5 (Nat.le_of_ble_eq_true rfl) cw187 rfl rfl rfl rfl rfl (dd_at td_X4_init 4 rfl) (fun H locs hM => ?_)
  refine lv_aload_n C.1 C.2.1 (dd_at td_X4_init 5 rfl) rfl (lv_at hl 0 rfl) ?_
  refine lv_iload_n C.1 C.2.1 (dd_at td_X4_init 6 rfl) rfl (lv_at hl 2 rfl) ?_
  refine nn_putF C hM (K := RX5) (T := TX5) (k := 1) (ty0 := tyX5) rfl cc_inX5 tyX5_ok nmX5 (Nat.le_of_ble_eq_true rfl) cw188 rfl rfl rfl rfl rfl (dd_at td_X4_init 7 rfl) (fun H locs hM => ?_)
  refine lv_aload_n C.1 C.2.1 (dd_at td_X4_init 8 rfl) rfl (lv_at hl 0 rfl) ?_
  refine lv_iload_n C.1 C.2.1 (dd_at td_X4_init 9 rfl) rfl (lv_at hl 3 rfl) ?_
  refine nn_putF C hM (K := RX5) (T := TX5) (k := 2) (ty0 := tyX5) rfl cc_inX5 tyX5_ok nmX5 (Nat.le_of_ble_eq_true rfl) cw189 rfl rfl rfl rfl rfl (dd_at td_X4_init 10 rfl) (fun H locs hM => ?_)
  refine lv_aload_n C.1 C.2.1 (dd_at td_X4_init 11 rfl) rfl (lv_at hl 0 rfl) ?_
  refine lv_aload C.1 C.2.1 (dd_at td_X4_init 12 rfl) (lv_at hl 4 rfl) ?_
  refine nn_putF C hM (K := RX5) (T := TX5) (k := 3) (ty0 := tyX5) rfl cc_inX5 tyX5_ok nmX5 (Nat.le_of_ble_eq_true rfl) cw190 rfl rfl rfl rfl rfl (dd_at td_X4_init 13 rfl) (fun H locs hM => ?_)
  refine W.widen (k := 0) (n := 0) (Nat.le_of_ble_eq_true rfl) (Nat.le_of_ble_eq_true rfl) ?_
  exact nn_vr C hM ⟨rfl, rfl⟩ (dd_at td_X4_init 14 rfl)
set_option maxHeartbeats 8000000 in
set_option maxRecDepth 100000 in
theorem c_X4_init_X2 (l : Launch) (D : va_G) (B : Nat) (z : pp_Z) (ct : Nat → ClassId) (x0 : Nat) (x1 x2 x3 : Int32) (b : Nat) : nn_M l D cc_W (nn_ts ct) B z yX4_init cX4_init 5 none 1 12 0 0 [.ref x0, .int x1, .int x2, .int x3, .ref b] (nn_W x0 4 4 (fun j => defaultValue (tyX2 j)) []) (fun r u => r = none ∧ u = [(x0, .inr (4, [.int x1, .int x2, .int x3, .ref b]))]) := by
  refine nn_enter (own := RX4) (by decide) rfl (Nat.le_of_ble_eq_true rfl) ?_
  intro p e s m args below meth c ls A C hl hM
  have hl : lv_has ls 5 [(0, .ref x0), (1, .int x1), (2, .int x2), (3, .int x3), (4, .ref b)] := hl
  refine lv_aload_n C.1 C.2.1 (dd_at td_X4_init 0 rfl) rfl (lv_at hl 0 rfl) ?_
  refine nn_obj C hl.1 cw186 cw167 cw168 (dd_at td_X4_init 1 rfl) (Nat.le_of_ble_eq_true rfl) (Nat.le_of_ble_eq_true rfl) ?_
  refine lv_aload_n C.1 C.2.1 (dd_at td_X4_init 2 rfl) rfl (lv_at hl 0 rfl) ?_
  refine lv_iload_n C.1 C.2.1 (dd_at td_X4_init 3 rfl) rfl (lv_at hl 1 rfl) ?_
  refine nn_putF C hM (K := RX2) (T := TX2) (k := 0) (ty0 := tyX2) rfl cc_inX2 tyX2_ok nmX2 (Nat.le_of_ble_eq_true rfl) cw187 rfl rfl rfl rfl rfl (dd_at td_X4_init 4 rfl) (fun H locs hM => ?_)
  refine lv_aload_n C.1 C.2.1 (dd_at td_X4_init 5 rfl) rfl (lv_at hl 0 rfl) ?_
  refine lv_iload_n C.1 C.2.1 (dd_at td_X4_init 6 rfl) rfl (lv_at hl 2 rfl) ?_
  refine nn_putF C hM (K := RX2) (T := TX2) (k := 1) (ty0 := tyX2) rfl cc_inX2 tyX2_ok nmX2 (Nat.le_of_ble_eq_true rfl) cw188 rfl rfl rfl rfl rfl (dd_at td_X4_init 7 rfl) (fun H locs hM => ?_)
  refine lv_aload_n C.1 C.2.1 (dd_at td_X4_init 8 rfl) rfl (lv_at hl 0 rfl) ?_
  refine lv_iload_n C.1 C.2.1 (dd_at td_X4_init 9 rfl) rfl (lv_at hl 3 rfl) ?_
  refine nn_putF C hM (K := RX2) (T := TX2) (k := 2) (ty0 := tyX2) rfl cc_inX2 tyX2_ok nmX2 (Nat.le_of_ble_eq_true rfl) cw189 rfl rfl rfl rfl rfl (dd_at td_X4_init 10 rfl) (fun H locs hM => ?_)
  refine lv_aload_n C.1 C.2.1 (dd_at td_X4_init 11 rfl) rfl (lv_at hl 0 rfl) ?_
  refine lv_aload C.1 C.2.1 (dd_at td_X4_init 12 rfl) (lv_at hl 4 rfl) ?_
  refine nn_putF C hM (K := RX2) (T := TX2) (k := 3) (ty0 := tyX2) rfl cc_inX2 tyX2_ok nmX2 (Nat.le_of_ble_eq_true rfl) cw190 rfl rfl rfl rfl rfl (dd_at td_X4_init 13 rfl) (fun H locs hM => ?_)
  refine W.widen (k := 0) (n := 0) (Nat.le_of_ble_eq_true rfl) (Nat.le_of_ble_eq_true rfl) ?_
  exact nn_vr C hM ⟨rfl, rfl⟩ (dd_at td_X4_init 14 rfl)
set_option maxHeartbeats 8000000 in
set_option maxRecDepth 100000 in
theorem c_X4_init_X1 (l : Launch) (D : va_G) (B : Nat) (z : pp_Z) (ct : Nat → ClassId) (x0 : Nat) (x1 x2 x3 : Int32) (b : Nat) : nn_M l D cc_W (nn_ts ct) B z yX4_init cX4_init 5 none 1 12 0 0 [.ref x0, .int x1, .int x2, .int x3, .ref b] (nn_W x0 3 4 (fun j => defaultValue (tyX1 j)) []) (fun r u => r = none ∧ u = [(x0, .inr (3, [.int x1, .int x2, .int x3, .ref b]))]) := by
  refine nn_enter (own := RX4) (by decide) rfl (Nat.le_of_ble_eq_true rfl) ?_
  intro p e s m args below meth c ls A C hl hM
  have hl : lv_has ls 5 [(0, .ref x0), (1, .int x1), (2, .int x2), (3, .int x3), (4, .ref b)] := hl
  refine lv_aload_n C.1 C.2.1 (dd_at td_X4_init 0 rfl) rfl (lv_at hl 0 rfl) ?_
  refine nn_obj C hl.1 cw186 cw167 cw168 (dd_at td_X4_init 1 rfl) (Nat.le_of_ble_eq_true rfl) (Nat.le_of_ble_eq_true rfl) ?_
  refine lv_aload_n C.1 C.2.1 (dd_at td_X4_init 2 rfl) rfl (lv_at hl 0 rfl) ?_
  refine lv_iload_n C.1 C.2.1 (dd_at td_X4_init 3 rfl) rfl (lv_at hl 1 rfl) ?_
  refine nn_putF C hM (K := RX1) (T := TX1) (k := 0) (ty0 := tyX1) rfl cc_inX1 tyX1_ok nmX1 (Nat.le_of_ble_eq_true rfl) cw187 rfl rfl rfl rfl rfl (dd_at td_X4_init 4 rfl) (fun H locs hM => ?_)
  refine lv_aload_n C.1 C.2.1 (dd_at td_X4_init 5 rfl) rfl (lv_at hl 0 rfl) ?_
  refine lv_iload_n C.1 C.2.1 (dd_at td_X4_init 6 rfl) rfl (lv_at hl 2 rfl) ?_
  refine nn_putF C hM (K := RX1) (T := TX1) (k := 1) (ty0 := tyX1) rfl cc_inX1 tyX1_ok nmX1 (Nat.le_of_ble_eq_true rfl) cw188 rfl rfl rfl rfl rfl (dd_at td_X4_init 7 rfl) (fun H locs hM => ?_)
  refine lv_aload_n C.1 C.2.1 (dd_at td_X4_init 8 rfl) rfl (lv_at hl 0 rfl) ?_
  refine lv_iload_n C.1 C.2.1 (dd_at td_X4_init 9 rfl) rfl (lv_at hl 3 rfl) ?_
  refine nn_putF C hM (K := RX1) (T := TX1) (k := 2) (ty0 := tyX1) rfl cc_inX1 tyX1_ok nmX1 (Nat.le_of_ble_eq_true rfl) cw189 rfl rfl rfl rfl rfl (dd_at td_X4_init 10 rfl) (fun H locs hM => ?_)
  refine lv_aload_n C.1 C.2.1 (dd_at td_X4_init 11 rfl) rfl (lv_at hl 0 rfl) ?_
  refine lv_aload C.1 C.2.1 (dd_at td_X4_init 12 rfl) (lv_at hl 4 rfl) ?_
  refine nn_putF C hM (K := RX1) (T := TX1) (k := 3) (ty0 := tyX1) rfl cc_inX1 tyX1_ok nmX1 (Nat.le_of_ble_eq_true rfl) cw190 rfl rfl rfl rfl rfl (dd_at td_X4_init 13 rfl) (fun H locs hM => ?_)
  refine W.widen (k := 0) (n := 0) (Nat.le_of_ble_eq_true rfl) (Nat.le_of_ble_eq_true rfl) ?_
  exact nn_vr C hM ⟨rfl, rfl⟩ (dd_at td_X4_init 14 rfl)
set_option maxHeartbeats 8000000 in
set_option maxRecDepth 100000 in
theorem c_X4_init_X9 (l : Launch) (D : va_G) (B : Nat) (z : pp_Z) (ct : Nat → ClassId) (x0 : Nat) (x1 x2 x3 : Int32) (b : Nat) : nn_M l D cc_W (nn_ts ct) B z yX4_init cX4_init 5 none 1 12 0 0 [.ref x0, .int x1, .int x2, .int x3, .ref b] (nn_W x0 11 4 (fun j => defaultValue (tyX9 j)) []) (fun r u => r = none ∧ u = [(x0, .inr (11, [.int x1, .int x2, .int x3, .ref b]))]) := by
  refine nn_enter (own := RX4) (by decide) rfl (Nat.le_of_ble_eq_true rfl) ?_
  intro p e s m args below meth c ls A C hl hM
  have hl : lv_has ls 5 [(0, .ref x0), (1, .int x1), (2, .int x2), (3, .int x3), (4, .ref b)] := hl
  refine lv_aload_n C.1 C.2.1 (dd_at td_X4_init 0 rfl) rfl (lv_at hl 0 rfl) ?_
  refine nn_obj C hl.1 cw186 cw167 cw168 (dd_at td_X4_init 1 rfl) (Nat.le_of_ble_eq_true rfl) (Nat.le_of_ble_eq_true rfl) ?_
  refine lv_aload_n C.1 C.2.1 (dd_at td_X4_init 2 rfl) rfl (lv_at hl 0 rfl) ?_
  refine lv_iload_n C.1 C.2.1 (dd_at td_X4_init 3 rfl) rfl (lv_at hl 1 rfl) ?_
  refine nn_putF C hM (K := RX9) (T := TX9) (k := 0) (ty0 := tyX9) rfl cc_inX9 tyX9_ok nmX9 (Nat.le_of_ble_eq_true rfl) cw187 rfl rfl rfl rfl rfl (dd_at td_X4_init 4 rfl) (fun H locs hM => ?_)
  refine lv_aload_n C.1 C.2.1 (dd_at td_X4_init 5 rfl) rfl (lv_at hl 0 rfl) ?_
  refine lv_iload_n C.1 C.2.1 (dd_at td_X4_init 6 rfl) rfl (lv_at hl 2 rfl) ?_
  refine nn_putF C hM (K := RX9) (T := TX9) (k := 1) (ty0 := tyX9) rfl cc_inX9 tyX9_ok nmX9 (Nat.le_of_ble_eq_true rfl) cw188 rfl rfl rfl rfl rfl (dd_at td_X4_init 7 rfl) (fun H locs hM => ?_)
  refine lv_aload_n C.1 C.2.1 (dd_at td_X4_init 8 rfl) rfl (lv_at hl 0 rfl) ?_
  refine lv_iload_n C.1 C.2.1 (dd_at td_X4_init 9 rfl) rfl (lv_at hl 3 rfl) ?_
  refine nn_putF C hM (K := RX9) (T := TX9) (k := 2) (ty0 := tyX9) rfl cc_inX9 tyX9_ok nmX9 (Nat.le_of_ble_eq_true rfl) cw189 rfl rfl rfl rfl rfl (dd_at td_X4_init 10 rfl) (fun H locs hM => ?_)
  refine lv_aload_n C.1 C.2.1 (dd_at td_X4_init 11 rfl) rfl (lv_at hl 0 rfl) ?_
  refine lv_aload C.1 C.2.1 (dd_at td_X4_init 12 rfl) (lv_at hl 4 rfl) ?_
  refine nn_putF C hM (K := RX9) (T := TX9) (k := 3) (ty0 := tyX9) rfl cc_inX9 tyX9_ok nmX9 (Nat.le_of_ble_eq_true rfl) cw190 rfl rfl rfl rfl rfl (dd_at td_X4_init 13 rfl) (fun H locs hM => ?_)
  refine W.widen (k := 0) (n := 0) (Nat.le_of_ble_eq_true rfl) (Nat.le_of_ble_eq_true rfl) ?_
  exact nn_vr C hM ⟨rfl, rfl⟩ (dd_at td_X4_init 14 rfl)
set_option maxHeartbeats 8000000 in
set_option maxRecDepth 100000 in
theorem c_X6_init_X6 (l : Launch) (D : va_G) (B : Nat) (z : pp_Z) (ct : Nat → ClassId) (x0 : Nat) (x1 x2 x3 : Int32) (b : Nat) : nn_M l D cc_W (nn_ts ct) B z yX6_init cX6_init 5 none 2 36 0 0 [.ref x0, .int x1, .int x2, .int x3, .ref b] (nn_W x0 8 4 (fun j => defaultValue (tyX6 j)) []) (fun r u => r = none ∧ u = [(x0, .inr (8, [.int x1, .int x2, .int x3, .ref b]))]) := by
  refine nn_enter (own := RX6) (by decide) rfl (Nat.le_of_ble_eq_true rfl) ?_
  intro p e s m args below meth c ls A C hl hM
  have hl : lv_has ls 5 [(0, .ref x0), (1, .int x1), (2, .int x2), (3, .int x3), (4, .ref b)] := hl
  refine lv_aload_n C.1 C.2.1 (dd_at td_X6_init 0 rfl) rfl (lv_at hl 0 rfl) ?_
  refine lv_iload_n C.1 C.2.1 (dd_at td_X6_init 1 rfl) rfl (lv_at hl 1 rfl) ?_
  refine lv_iload_n C.1 C.2.1 (dd_at td_X6_init 2 rfl) rfl (lv_at hl 2 rfl) ?_
  refine lv_iload_n C.1 C.2.1 (dd_at td_X6_init 3 rfl) rfl (lv_at hl 3 rfl) ?_
  refine lv_aload C.1 C.2.1 (dd_at td_X6_init 4 rfl) (lv_at hl 4 rfl) ?_
  refine nn_cI (ws := []) (q := x0) (n := 4) (As := [.int x1, .int x2, .int x3, .ref b]) C hM (c_X4_init_X6 l D B z ct x0 x1 x2 x3 b) (nn_ccg cw185) cw194 cw214 cw193 rfl hn_X4 ⟨(Nat.le_of_ble_eq_true rfl), (Nat.le_of_ble_eq_true rfl)⟩ rfl hl.1 rfl (Nat.le_of_ble_eq_true rfl) (dd_at td_X6_init 5 rfl) ⟨(Nat.le_of_ble_eq_true rfl), (Nat.le_of_ble_eq_true rfl)⟩ (fun r u H locs hu hM => ?_)
  obtain ⟨rfl, rfl⟩ := hu
  refine W.widen (k := 0) (n := 0) (Nat.le_of_ble_eq_true rfl) (Nat.le_of_ble_eq_true rfl) ?_
  exact nn_vr C hM ⟨rfl, rfl⟩ (dd_at td_X6_init 6 rfl)
set_option maxHeartbeats 8000000 in
set_option maxRecDepth 100000 in
theorem c_X6_init_X2 (l : Launch) (D : va_G) (B : Nat) (z : pp_Z) (ct : Nat → ClassId) (x0 : Nat) (x1 x2 x3 : Int32) (b : Nat) : nn_M l D cc_W (nn_ts ct) B z yX6_init cX6_init 5 none 2 36 0 0 [.ref x0, .int x1, .int x2, .int x3, .ref b] (nn_W x0 4 4 (fun j => defaultValue (tyX2 j)) []) (fun r u => r = none ∧ u = [(x0, .inr (4, [.int x1, .int x2, .int x3, .ref b]))]) := by
  refine nn_enter (own := RX6) (by decide) rfl (Nat.le_of_ble_eq_true rfl) ?_
  intro p e s m args below meth c ls A C hl hM
  have hl : lv_has ls 5 [(0, .ref x0), (1, .int x1), (2, .int x2), (3, .int x3), (4, .ref b)] := hl
  refine lv_aload_n C.1 C.2.1 (dd_at td_X6_init 0 rfl) rfl (lv_at hl 0 rfl) ?_
  refine lv_iload_n C.1 C.2.1 (dd_at td_X6_init 1 rfl) rfl (lv_at hl 1 rfl) ?_
  refine lv_iload_n C.1 C.2.1 (dd_at td_X6_init 2 rfl) rfl (lv_at hl 2 rfl) ?_
  refine lv_iload_n C.1 C.2.1 (dd_at td_X6_init 3 rfl) rfl (lv_at hl 3 rfl) ?_
  refine lv_aload C.1 C.2.1 (dd_at td_X6_init 4 rfl) (lv_at hl 4 rfl) ?_
  refine nn_cI (ws := []) (q := x0) (n := 4) (As := [.int x1, .int x2, .int x3, .ref b]) C hM (c_X4_init_X2 l D B z ct x0 x1 x2 x3 b) (nn_ccg cw185) cw194 cw214 cw193 rfl hn_X4 ⟨(Nat.le_of_ble_eq_true rfl), (Nat.le_of_ble_eq_true rfl)⟩ rfl hl.1 rfl (Nat.le_of_ble_eq_true rfl) (dd_at td_X6_init 5 rfl) ⟨(Nat.le_of_ble_eq_true rfl), (Nat.le_of_ble_eq_true rfl)⟩ (fun r u H locs hu hM => ?_)
  obtain ⟨rfl, rfl⟩ := hu
  refine W.widen (k := 0) (n := 0) (Nat.le_of_ble_eq_true rfl) (Nat.le_of_ble_eq_true rfl) ?_
  exact nn_vr C hM ⟨rfl, rfl⟩ (dd_at td_X6_init 6 rfl)
set_option maxHeartbeats 8000000 in
set_option maxRecDepth 100000 in
theorem c_X3_init_X3 (l : Launch) (D : va_G) (B : Nat) (z : pp_Z) (ct : Nat → ClassId) (x0 : Nat) (x1 x2 x3 : Int32) (b : Nat) : nn_M l D cc_W (nn_ts ct) B z yX3_init cX3_init 5 none 2 36 0 0 [.ref x0, .int x1, .int x2, .int x3, .ref b] (nn_W x0 5 4 (fun j => defaultValue (tyX3 j)) []) (fun r u => r = none ∧ u = [(x0, .inr (5, [.int x1, .int x2, .int x3, .ref b]))]) := by
  refine nn_enter (own := RX3) (by decide) rfl (Nat.le_of_ble_eq_true rfl) ?_
  intro p e s m args below meth c ls A C hl hM
  have hl : lv_has ls 5 [(0, .ref x0), (1, .int x1), (2, .int x2), (3, .int x3), (4, .ref b)] := hl
  refine lv_aload_n C.1 C.2.1 (dd_at td_X3_init 0 rfl) rfl (lv_at hl 0 rfl) ?_
  refine lv_iload_n C.1 C.2.1 (dd_at td_X3_init 1 rfl) rfl (lv_at hl 1 rfl) ?_
  refine lv_iload_n C.1 C.2.1 (dd_at td_X3_init 2 rfl) rfl (lv_at hl 2 rfl) ?_
  refine lv_iload_n C.1 C.2.1 (dd_at td_X3_init 3 rfl) rfl (lv_at hl 3 rfl) ?_
  refine lv_aload C.1 C.2.1 (dd_at td_X3_init 4 rfl) (lv_at hl 4 rfl) ?_
  refine nn_cI (ws := []) (q := x0) (n := 4) (As := [.int x1, .int x2, .int x3, .ref b]) C hM (c_X4_init_X3 l D B z ct x0 x1 x2 x3 b) (nn_ccg cw185) cw194 cw192 cw193 rfl hn_X4 ⟨(Nat.le_of_ble_eq_true rfl), (Nat.le_of_ble_eq_true rfl)⟩ rfl hl.1 rfl (Nat.le_of_ble_eq_true rfl) (dd_at td_X3_init 5 rfl) ⟨(Nat.le_of_ble_eq_true rfl), (Nat.le_of_ble_eq_true rfl)⟩ (fun r u H locs hu hM => ?_)
  obtain ⟨rfl, rfl⟩ := hu
  refine W.widen (k := 0) (n := 0) (Nat.le_of_ble_eq_true rfl) (Nat.le_of_ble_eq_true rfl) ?_
  exact nn_vr C hM ⟨rfl, rfl⟩ (dd_at td_X3_init 6 rfl)
set_option maxHeartbeats 8000000 in
set_option maxRecDepth 100000 in
theorem c_X3_init_X1 (l : Launch) (D : va_G) (B : Nat) (z : pp_Z) (ct : Nat → ClassId) (x0 : Nat) (x1 x2 x3 : Int32) (b : Nat) : nn_M l D cc_W (nn_ts ct) B z yX3_init cX3_init 5 none 2 36 0 0 [.ref x0, .int x1, .int x2, .int x3, .ref b] (nn_W x0 3 4 (fun j => defaultValue (tyX1 j)) []) (fun r u => r = none ∧ u = [(x0, .inr (3, [.int x1, .int x2, .int x3, .ref b]))]) := by
  refine nn_enter (own := RX3) (by decide) rfl (Nat.le_of_ble_eq_true rfl) ?_
  intro p e s m args below meth c ls A C hl hM
  have hl : lv_has ls 5 [(0, .ref x0), (1, .int x1), (2, .int x2), (3, .int x3), (4, .ref b)] := hl
  refine lv_aload_n C.1 C.2.1 (dd_at td_X3_init 0 rfl) rfl (lv_at hl 0 rfl) ?_
  refine lv_iload_n C.1 C.2.1 (dd_at td_X3_init 1 rfl) rfl (lv_at hl 1 rfl) ?_
  refine lv_iload_n C.1 C.2.1 (dd_at td_X3_init 2 rfl) rfl (lv_at hl 2 rfl) ?_
  refine lv_iload_n C.1 C.2.1 (dd_at td_X3_init 3 rfl) rfl (lv_at hl 3 rfl) ?_
  refine lv_aload C.1 C.2.1 (dd_at td_X3_init 4 rfl) (lv_at hl 4 rfl) ?_
  refine nn_cI (ws := []) (q := x0) (n := 4) (As := [.int x1, .int x2, .int x3, .ref b]) C hM (c_X4_init_X1 l D B z ct x0 x1 x2 x3 b) (nn_ccg cw185) cw194 cw192 cw193 rfl hn_X4 ⟨(Nat.le_of_ble_eq_true rfl), (Nat.le_of_ble_eq_true rfl)⟩ rfl hl.1 rfl (Nat.le_of_ble_eq_true rfl) (dd_at td_X3_init 5 rfl) ⟨(Nat.le_of_ble_eq_true rfl), (Nat.le_of_ble_eq_true rfl)⟩ (fun r u H locs hu hM => ?_)
  obtain ⟨rfl, rfl⟩ := hu
  refine W.widen (k := 0) (n := 0) (Nat.le_of_ble_eq_true rfl) (Nat.le_of_ble_eq_true rfl) ?_
  exact nn_vr C hM ⟨rfl, rfl⟩ (dd_at td_X3_init 6 rfl)
set_option maxHeartbeats 8000000 in
set_option maxRecDepth 100000 in
theorem c_X5_init_X5 (l : Launch) (D : va_G) (B : Nat) (z : pp_Z) (ct : Nat → ClassId) (x0 : Nat) (x1 x2 x3 : Int32) (b : Nat) : nn_M l D cc_W (nn_ts ct) B z yX5_init cX5_init 5 none 2 36 0 0 [.ref x0, .int x1, .int x2, .int x3, .ref b] (nn_W x0 7 4 (fun j => defaultValue (tyX5 j)) []) (fun r u => r = none ∧ u = [(x0, .inr (7, [.int x1, .int x2, .int x3, .ref b]))]) := by
  refine nn_enter (own := RX5) (by decide) rfl (Nat.le_of_ble_eq_true rfl) ?_
  intro p e s m args below meth c ls A C hl hM
  have hl : lv_has ls 5 [(0, .ref x0), (1, .int x1), (2, .int x2), (3, .int x3), (4, .ref b)] := hl
  refine lv_aload_n C.1 C.2.1 (dd_at td_X5_init 0 rfl) rfl (lv_at hl 0 rfl) ?_
  refine lv_iload_n C.1 C.2.1 (dd_at td_X5_init 1 rfl) rfl (lv_at hl 1 rfl) ?_
  refine lv_iload_n C.1 C.2.1 (dd_at td_X5_init 2 rfl) rfl (lv_at hl 2 rfl) ?_
  refine lv_iload_n C.1 C.2.1 (dd_at td_X5_init 3 rfl) rfl (lv_at hl 3 rfl) ?_
  refine lv_aload C.1 C.2.1 (dd_at td_X5_init 4 rfl) (lv_at hl 4 rfl) ?_
  refine nn_cI (ws := []) (q := x0) (n := 4) (As := [.int x1, .int x2, .int x3, .ref b]) C hM (c_X4_init_X5 l D B z ct x0 x1 x2 x3 b) (nn_ccg cw185) cw194 cw300 cw193 rfl hn_X4 ⟨(Nat.le_of_ble_eq_true rfl), (Nat.le_of_ble_eq_true rfl)⟩ rfl hl.1 rfl (Nat.le_of_ble_eq_true rfl) (dd_at td_X5_init 5 rfl) ⟨(Nat.le_of_ble_eq_true rfl), (Nat.le_of_ble_eq_true rfl)⟩ (fun r u H locs hu hM => ?_)
  obtain ⟨rfl, rfl⟩ := hu
  refine W.widen (k := 0) (n := 0) (Nat.le_of_ble_eq_true rfl) (Nat.le_of_ble_eq_true rfl) ?_
  exact nn_vr C hM ⟨rfl, rfl⟩ (dd_at td_X5_init 6 rfl)
set_option maxHeartbeats 8000000 in
set_option maxRecDepth 100000 in
theorem c_X5_init_X9 (l : Launch) (D : va_G) (B : Nat) (z : pp_Z) (ct : Nat → ClassId) (x0 : Nat) (x1 x2 x3 : Int32) (b : Nat) : nn_M l D cc_W (nn_ts ct) B z yX5_init cX5_init 5 none 2 36 0 0 [.ref x0, .int x1, .int x2, .int x3, .ref b] (nn_W x0 11 4 (fun j => defaultValue (tyX9 j)) []) (fun r u => r = none ∧ u = [(x0, .inr (11, [.int x1, .int x2, .int x3, .ref b]))]) := by
  refine nn_enter (own := RX5) (by decide) rfl (Nat.le_of_ble_eq_true rfl) ?_
  intro p e s m args below meth c ls A C hl hM
  have hl : lv_has ls 5 [(0, .ref x0), (1, .int x1), (2, .int x2), (3, .int x3), (4, .ref b)] := hl
  refine lv_aload_n C.1 C.2.1 (dd_at td_X5_init 0 rfl) rfl (lv_at hl 0 rfl) ?_
  refine lv_iload_n C.1 C.2.1 (dd_at td_X5_init 1 rfl) rfl (lv_at hl 1 rfl) ?_
  refine lv_iload_n C.1 C.2.1 (dd_at td_X5_init 2 rfl) rfl (lv_at hl 2 rfl) ?_
  refine lv_iload_n C.1 C.2.1 (dd_at td_X5_init 3 rfl) rfl (lv_at hl 3 rfl) ?_
  refine lv_aload C.1 C.2.1 (dd_at td_X5_init 4 rfl) (lv_at hl 4 rfl) ?_
  refine nn_cI (ws := []) (q := x0) (n := 4) (As := [.int x1, .int x2, .int x3, .ref b]) C hM (c_X4_init_X9 l D B z ct x0 x1 x2 x3 b) (nn_ccg cw185) cw194 cw300 cw193 rfl hn_X4 ⟨(Nat.le_of_ble_eq_true rfl), (Nat.le_of_ble_eq_true rfl)⟩ rfl hl.1 rfl (Nat.le_of_ble_eq_true rfl) (dd_at td_X5_init 5 rfl) ⟨(Nat.le_of_ble_eq_true rfl), (Nat.le_of_ble_eq_true rfl)⟩ (fun r u H locs hu hM => ?_)
  obtain ⟨rfl, rfl⟩ := hu
  refine W.widen (k := 0) (n := 0) (Nat.le_of_ble_eq_true rfl) (Nat.le_of_ble_eq_true rfl) ?_
  exact nn_vr C hM ⟨rfl, rfl⟩ (dd_at td_X5_init 6 rfl)
set_option maxHeartbeats 8000000 in
set_option maxRecDepth 100000 in
theorem c_X2_init_X2 (l : Launch) (D : va_G) (B : Nat) (z : pp_Z) (ct : Nat → ClassId) (x0 : Nat) (x1 x2 x3 : Int32) (b : Nat) : nn_M l D cc_W (nn_ts ct) B z yX2_init cX2_init 5 none 3 60 0 0 [.ref x0, .int x1, .int x2, .int x3, .ref b] (nn_W x0 4 4 (fun j => defaultValue (tyX2 j)) []) (fun r u => r = none ∧ u = [(x0, .inr (4, [.int x1, .int x2, .int x3, .ref b]))]) := by
  refine nn_enter (own := RX2) (by decide) rfl (Nat.le_of_ble_eq_true rfl) ?_
  intro p e s m args below meth c ls A C hl hM
  have hl : lv_has ls 5 [(0, .ref x0), (1, .int x1), (2, .int x2), (3, .int x3), (4, .ref b)] := hl
  refine lv_aload_n C.1 C.2.1 (dd_at td_X2_init 0 rfl) rfl (lv_at hl 0 rfl) ?_
  refine lv_iload_n C.1 C.2.1 (dd_at td_X2_init 1 rfl) rfl (lv_at hl 1 rfl) ?_
  refine lv_iload_n C.1 C.2.1 (dd_at td_X2_init 2 rfl) rfl (lv_at hl 2 rfl) ?_
  refine lv_iload_n C.1 C.2.1 (dd_at td_X2_init 3 rfl) rfl (lv_at hl 3 rfl) ?_
  refine lv_aload C.1 C.2.1 (dd_at td_X2_init 4 rfl) (lv_at hl 4 rfl) ?_
  refine nn_cI (ws := []) (q := x0) (n := 4) (As := [.int x1, .int x2, .int x3, .ref b]) C hM (c_X6_init_X2 l D B z ct x0 x1 x2 x3 b) (nn_ccg cw213) cw218 cw216 cw217 rfl hn_X6 ⟨(Nat.le_of_ble_eq_true rfl), (Nat.le_of_ble_eq_true rfl)⟩ rfl hl.1 rfl (Nat.le_of_ble_eq_true rfl) (dd_at td_X2_init 5 rfl) ⟨(Nat.le_of_ble_eq_true rfl), (Nat.le_of_ble_eq_true rfl)⟩ (fun r u H locs hu hM => ?_)
  obtain ⟨rfl, rfl⟩ := hu
  refine W.widen (k := 0) (n := 0) (Nat.le_of_ble_eq_true rfl) (Nat.le_of_ble_eq_true rfl) ?_
  exact nn_vr C hM ⟨rfl, rfl⟩ (dd_at td_X2_init 6 rfl)
set_option maxHeartbeats 8000000 in
set_option maxRecDepth 100000 in
theorem c_X1_init_X1 (l : Launch) (D : va_G) (B : Nat) (z : pp_Z) (ct : Nat → ClassId) (x0 : Nat) (x1 x2 x3 : Int32) (b : Nat) : nn_M l D cc_W (nn_ts ct) B z yX1_init cX1_init 5 none 3 60 0 0 [.ref x0, .int x1, .int x2, .int x3, .ref b] (nn_W x0 3 4 (fun j => defaultValue (tyX1 j)) []) (fun r u => r = none ∧ u = [(x0, .inr (3, [.int x1, .int x2, .int x3, .ref b]))]) := by
  refine nn_enter (own := RX1) (by decide) rfl (Nat.le_of_ble_eq_true rfl) ?_
  intro p e s m args below meth c ls A C hl hM
  have hl : lv_has ls 5 [(0, .ref x0), (1, .int x1), (2, .int x2), (3, .int x3), (4, .ref b)] := hl
  refine lv_aload_n C.1 C.2.1 (dd_at td_X1_init 0 rfl) rfl (lv_at hl 0 rfl) ?_
  refine lv_iload_n C.1 C.2.1 (dd_at td_X1_init 1 rfl) rfl (lv_at hl 1 rfl) ?_
  refine lv_iload_n C.1 C.2.1 (dd_at td_X1_init 2 rfl) rfl (lv_at hl 2 rfl) ?_
  refine lv_iload_n C.1 C.2.1 (dd_at td_X1_init 3 rfl) rfl (lv_at hl 3 rfl) ?_
  refine lv_aload C.1 C.2.1 (dd_at td_X1_init 4 rfl) (lv_at hl 4 rfl) ?_
  refine nn_cI (ws := []) (q := x0) (n := 4) (As := [.int x1, .int x2, .int x3, .ref b]) C hM (c_X3_init_X1 l D B z ct x0 x1 x2 x3 b) (nn_ccg cw191) cw198 cw196 cw197 rfl hn_X3 ⟨(Nat.le_of_ble_eq_true rfl), (Nat.le_of_ble_eq_true rfl)⟩ rfl hl.1 rfl (Nat.le_of_ble_eq_true rfl) (dd_at td_X1_init 5 rfl) ⟨(Nat.le_of_ble_eq_true rfl), (Nat.le_of_ble_eq_true rfl)⟩ (fun r u H locs hu hM => ?_)
  obtain ⟨rfl, rfl⟩ := hu
  refine W.widen (k := 0) (n := 0) (Nat.le_of_ble_eq_true rfl) (Nat.le_of_ble_eq_true rfl) ?_
  exact nn_vr C hM ⟨rfl, rfl⟩ (dd_at td_X1_init 6 rfl)
set_option maxHeartbeats 8000000 in
set_option maxRecDepth 100000 in
theorem c_X9_init_X9 (l : Launch) (D : va_G) (B : Nat) (z : pp_Z) (ct : Nat → ClassId) (x0 : Nat) (x1 x2 x3 : Int32) (b : Nat) : nn_M l D cc_W (nn_ts ct) B z yX9_init cX9_init 5 none 3 60 0 0 [.ref x0, .int x1, .int x2, .int x3, .ref b] (nn_W x0 11 4 (fun j => defaultValue (tyX9 j)) []) (fun r u => r = none ∧ u = [(x0, .inr (11, [.int x1, .int x2, .int x3, .ref b]))]) := by
  refine nn_enter (own := RX9) (by decide) rfl (Nat.le_of_ble_eq_true rfl) ?_
  intro p e s m args below meth c ls A C hl hM
  have hl : lv_has ls 5 [(0, .ref x0), (1, .int x1), (2, .int x2), (3, .int x3), (4, .ref b)] := hl
  refine lv_aload_n C.1 C.2.1 (dd_at td_X9_init 0 rfl) rfl (lv_at hl 0 rfl) ?_
  refine lv_iload_n C.1 C.2.1 (dd_at td_X9_init 1 rfl) rfl (lv_at hl 1 rfl) ?_
  refine lv_iload_n C.1 C.2.1 (dd_at td_X9_init 2 rfl) rfl (lv_at hl 2 rfl) ?_
  refine lv_iload_n C.1 C.2.1 (dd_at td_X9_init 3 rfl) rfl (lv_at hl 3 rfl) ?_
  refine lv_aload C.1 C.2.1 (dd_at td_X9_init 4 rfl) (lv_at hl 4 rfl) ?_
  refine nn_cI (ws := []) (q := x0) (n := 4) (As := [.int x1, .int x2, .int x3, .ref b]) C hM (c_X5_init_X9 l D B z ct x0 x1 x2 x3 b) (nn_ccg cw299) cw363 cw412 cw413 rfl hn_X5 ⟨(Nat.le_of_ble_eq_true rfl), (Nat.le_of_ble_eq_true rfl)⟩ rfl hl.1 rfl (Nat.le_of_ble_eq_true rfl) (dd_at td_X9_init 5 rfl) ⟨(Nat.le_of_ble_eq_true rfl), (Nat.le_of_ble_eq_true rfl)⟩ (fun r u H locs hu hM => ?_)
  obtain ⟨rfl, rfl⟩ := hu
  refine W.widen (k := 0) (n := 0) (Nat.le_of_ble_eq_true rfl) (Nat.le_of_ble_eq_true rfl) ?_
  exact nn_vr C hM ⟨rfl, rfl⟩ (dd_at td_X9_init 6 rfl)
