/-! J0_coder_7d493 -/
def tb_J0_coder_7d493 : List (Nat × Instr × Nat) := [(0, .getstatic 38, 3), (3, .ifCond .eq 10, 3), (6, .aload_n 0, 1), (7, .getfield 15, 3), (10, .goto 4, 3), (13, .iconst 1, 1), (14, .ireturn, 1)]
theorem td_J0_coder_7d493 : tb_J0_coder_7d493.all (fun q => decide (decode cJ0_coder_7d493 q.1 = .ok (q.2.1, q.2.2))) = true := by decide +kernel
theorem hd_J0_coder_7d493 : yJ0_coder_7d493.cls = "java/lang/String" ∧ yJ0_coder_7d493.cls ≠ "java/lang/invoke/MethodHandle" ∧ yJ0_coder_7d493.cls ≠ "java/lang/invoke/VarHandle" ∧ (parseMethodDescriptor yJ0_coder_7d493.desc).map (fun d => d.parameters.length) = some 0 := by decide +kernel
def J_J0_coder_7d493 (n : Nat) (t : Nat → Nat) (fu : Nat) : Option Int32 :=
  if (1 : Int32) = 0 then (
  some (1 : Int32))
  else (
  some (0 : Int32))
theorem w_J0_coder_7d493 {p : Program} {l : Launch} {e : Env} {s : State} {m : MethodId} {args : Array Value} {below : List Frame} {meth : Method} {c : Code} {a b n : Nat} {t : Nat → Nat} {r : Int32} (Cx : jj_C p s m args meth c cJ0_coder_7d493 1 (some .byte) RJ0 a b n t) (fu : Nat) (hf : J_J0_coder_7d493 n t fu = some r) {ls : Array Slot} (hl : lv_has ls 1 [(0, .ref a)]) : W p l e (mm_R 0 0) s m args below meth c s.heap [] 0 0 (MQ below (jj_Qi r) args s 0 0 jj_N) (F0 m 0 ls []) := by
  unfold J_J0_coder_7d493 at hf
  refine jj_gs Cx cw1 (dd_at td_J0_coder_7d493 0 rfl) ?_
  refine lv_if_eq (tgt := 13) Cx.1 Cx.2.1 (dd_at td_J0_coder_7d493 1 rfl) (by decide) (fun c1 => ?_) (fun c1 => ?_)
  · replace hf := fc_of_t hf c1
    refine lv_iconst (v := (1 : Int32)) Cx.1 Cx.2.1 (dd_at td_J0_coder_7d493 5 rfl) (by decide) ?_
    exact jj_rz Cx (dd_at td_J0_coder_7d493 6 rfl) rfl hf
  · replace hf := fc_of_f hf c1
    refine lv_aload_n Cx.1 Cx.2.1 (dd_at td_J0_coder_7d493 2 rfl) rfl (lv_at hl 0 rfl) ?_
    refine jj_gc Cx cw2 (dd_at td_J0_coder_7d493 3 rfl) ?_
    refine lv_goto (tgt := 14) Cx.1 Cx.2.1 (dd_at td_J0_coder_7d493 4 rfl) (by decide) ?_
    exact jj_rz Cx (dd_at td_J0_coder_7d493 6 rfl) rfl hf
theorem c_J0_coder_7d493 (l : Launch) (a b n : Nat) (t : Nat → Nat) (fu : Nat) : jj_Mi l a b n t yJ0_coder_7d493 cJ0_coder_7d493 1 (some .byte) 0 0 [.ref a] (J_J0_coder_7d493 n t fu) := by
  intro r hf
  refine jj_enter (cc := cJ0_coder_7d493) (nL := 1) (ret := some .byte) (by decide +kernel) rfl (Nat.le_of_ble_eq_true rfl) ?_
  intro p e s m args below meth c ls Cx hl
  exact w_J0_coder_7d493 Cx fu hf hl

/-! J0_isLatin1_aae02 -/
def tb_J0_isLatin1_aae02 : List (Nat × Instr × Nat) := [(0, .getstatic 38, 3), (3, .ifCond .eq 14, 3), (6, .aload_n 0, 1), (7, .getfield 15, 3), (10, .ifCond .ne 7, 3), (13, .iconst 1, 1), (14, .goto 4, 3), (17, .iconst 0, 1), (18, .ireturn, 1)]
theorem td_J0_isLatin1_aae02 : tb_J0_isLatin1_aae02.all (fun q => decide (decode cJ0_isLatin1_aae02 q.1 = .ok (q.2.1, q.2.2))) = true := by decide +kernel
theorem hd_J0_isLatin1_aae02 : yJ0_isLatin1_aae02.cls = "java/lang/String" ∧ yJ0_isLatin1_aae02.cls ≠ "java/lang/invoke/MethodHandle" ∧ yJ0_isLatin1_aae02.cls ≠ "java/lang/invoke/VarHandle" ∧ (parseMethodDescriptor yJ0_isLatin1_aae02.desc).map (fun d => d.parameters.length) = some 0 := by decide +kernel
def J_J0_isLatin1_aae02 (n : Nat) (t : Nat → Nat) (fu : Nat) : Option Int32 :=
  if (1 : Int32) = 0 then (
  some (0 : Int32))
  else (
  if (0 : Int32) = 0 then (
  some (1 : Int32))
  else (
  some (0 : Int32)))
theorem w_J0_isLatin1_aae02 {p : Program} {l : Launch} {e : Env} {s : State} {m : MethodId} {args : Array Value} {below : List Frame} {meth : Method} {c : Code} {a b n : Nat} {t : Nat → Nat} {r : Int32} (Cx : jj_C p s m args meth c cJ0_isLatin1_aae02 1 (some .boolean) RJ0 a b n t) (fu : Nat) (hf : J_J0_isLatin1_aae02 n t fu = some r) {ls : Array Slot} (hl : lv_has ls 1 [(0, .ref a)]) : W p l e (mm_R 0 0) s m args below meth c s.heap [] 0 0 (MQ below (jj_Qi r) args s 0 0 jj_N) (F0 m 0 ls []) := by
  unfold J_J0_isLatin1_aae02 at hf
  refine jj_gs Cx cw1 (dd_at td_J0_isLatin1_aae02 0 rfl) ?_
  refine lv_if_eq (tgt := 17) Cx.1 Cx.2.1 (dd_at td_J0_isLatin1_aae02 1 rfl) (by decide) (fun c1 => ?_) (fun c1 => ?_)
  · replace hf := fc_of_t hf c1
    refine lv_iconst (v := (0 : Int32)) Cx.1 Cx.2.1 (dd_at td_J0_isLatin1_aae02 7 rfl) (by decide) ?_
    exact jj_rz Cx (dd_at td_J0_isLatin1_aae02 8 rfl) rfl hf
  · replace hf := fc_of_f hf c1
    refine lv_aload_n Cx.1 Cx.2.1 (dd_at td_J0_isLatin1_aae02 2 rfl) rfl (lv_at hl 0 rfl) ?_
    refine jj_gc Cx cw2 (dd_at td_J0_isLatin1_aae02 3 rfl) ?_
    refine lv_if_ne (tgt := 17) Cx.1 Cx.2.1 (dd_at td_J0_isLatin1_aae02 4 rfl) (by decide) (fun c2 => ?_) (fun c2 => ?_)
    · replace hf := fc_of_f hf c2
      refine lv_iconst (v := (0 : Int32)) Cx.1 Cx.2.1 (dd_at td_J0_isLatin1_aae02 7 rfl) (by decide) ?_
      exact jj_rz Cx (dd_at td_J0_isLatin1_aae02 8 rfl) rfl hf
    · replace hf := fc_of_t hf c2
      refine lv_iconst (v := (1 : Int32)) Cx.1 Cx.2.1 (dd_at td_J0_isLatin1_aae02 5 rfl) (by decide) ?_
      refine lv_goto (tgt := 18) Cx.1 Cx.2.1 (dd_at td_J0_isLatin1_aae02 6 rfl) (by decide) ?_
      exact jj_rz Cx (dd_at td_J0_isLatin1_aae02 8 rfl) rfl hf
theorem c_J0_isLatin1_aae02 (l : Launch) (a b n : Nat) (t : Nat → Nat) (fu : Nat) : jj_Mi l a b n t yJ0_isLatin1_aae02 cJ0_isLatin1_aae02 1 (some .boolean) 0 0 [.ref a] (J_J0_isLatin1_aae02 n t fu) := by
  intro r hf
  refine jj_enter (cc := cJ0_isLatin1_aae02) (nL := 1) (ret := some .boolean) (by decide +kernel) rfl (Nat.le_of_ble_eq_true rfl) ?_
  intro p e s m args below meth c ls Cx hl
  exact w_J0_isLatin1_aae02 Cx fu hf hl

/-! J0_length_8abf5 -/
def tb_J0_length_8abf5 : List (Nat × Instr × Nat) := [(0, .aload_n 0, 1), (1, .getfield 9, 3), (4, .arraylength, 1), (5, .aload_n 0, 1), (6, .invokevirtual 335, 3), (9, .ishr, 1), (10, .ireturn, 1)]
theorem td_J0_length_8abf5 : tb_J0_length_8abf5.all (fun q => decide (decode cJ0_length_8abf5 q.1 = .ok (q.2.1, q.2.2))) = true := by decide +kernel
theorem hd_J0_length_8abf5 : yJ0_length_8abf5.cls = "java/lang/String" ∧ yJ0_length_8abf5.cls ≠ "java/lang/invoke/MethodHandle" ∧ yJ0_length_8abf5.cls ≠ "java/lang/invoke/VarHandle" ∧ (parseMethodDescriptor yJ0_length_8abf5.desc).map (fun d => d.parameters.length) = some 0 := by decide +kernel
def J_J0_length_8abf5 (n : Nat) (t : Nat → Nat) (fu : Nat) : Option Int32 :=
  fc_bv (J_J0_coder_7d493 n t fu) fun r1 =>
  some ((nI n) >>> (r1 &&& 31))
theorem w_J0_length_8abf5 {p : Program} {l : Launch} {e : Env} {s : State} {m : MethodId} {args : Array Value} {below : List Frame} {meth : Method} {c : Code} {a b n : Nat} {t : Nat → Nat} {r : Int32} (Cx : jj_C p s m args meth c cJ0_length_8abf5 1 (some .int) RJ0 a b n t) (fu : Nat) (hf : J_J0_length_8abf5 n t fu = some r) {ls : Array Slot} (hl : lv_has ls 1 [(0, .ref a)]) : W p l e (mm_R 1 20) s m args below meth c s.heap [] 0 0 (MQ below (jj_Qi r) args s 0 0 jj_N) (F0 m 0 ls []) := by
  unfold J_J0_length_8abf5 at hf
  refine lv_aload_n Cx.1 Cx.2.1 (dd_at td_J0_length_8abf5 0 rfl) rfl (lv_at hl 0 rfl) ?_
  refine jj_gv Cx cw4 (dd_at td_J0_length_8abf5 1 rfl) ?_
  refine jj_ln Cx (dd_at td_J0_length_8abf5 2 rfl) ?_
  refine lv_aload_n Cx.1 Cx.2.1 (dd_at td_J0_length_8abf5 3 rfl) rfl (lv_at hl 0 rfl) ?_
  obtain ⟨r1, hx2, hf⟩ := fc_of_bv hf
  refine jj_ai (jj_rV (As := []) (rest := [.int (nI n)]) (k := 0) Cx (c_J0_coder_7d493 l a b n t fu r1 hx2) (cc_gdV cw5 cw6 cw7 cw8 cw0) hd_J0_coder_7d493 ⟨Nat.le_of_ble_eq_true rfl, Nat.le_of_ble_eq_true rfl⟩ rfl hl.1 rfl (Nat.le_of_ble_eq_true rfl) (dd_at td_J0_length_8abf5 4 rfl) ⟨Nat.le_refl 0, Nat.le_refl 0⟩) ?_
  refine lv_ishr Cx.1 Cx.2.1 (dd_at td_J0_length_8abf5 5 rfl) ?_
  exact jj_rz Cx (dd_at td_J0_length_8abf5 6 rfl) rfl hf
theorem c_J0_length_8abf5 (l : Launch) (a b n : Nat) (t : Nat → Nat) (fu : Nat) : jj_Mi l a b n t yJ0_length_8abf5 cJ0_length_8abf5 1 (some .int) 1 20 [.ref a] (J_J0_length_8abf5 n t fu) := by
  intro r hf
  refine jj_enter (cc := cJ0_length_8abf5) (nL := 1) (ret := some .int) (by decide +kernel) rfl (Nat.le_of_ble_eq_true rfl) ?_
  intro p e s m args below meth c ls Cx hl
  exact w_J0_length_8abf5 Cx fu hf hl

/-! J3_checkIndex_8e157 -/
def tb_J3_checkIndex_8e157 : List (Nat × Instr × Nat) := [(0, .iload_n 0, 1), (1, .ifCond .lt 8, 3), (4, .iload_n 0, 1), (5, .iload_n 1, 1), (6, .if_icmp .lt 10, 3), (9, .aload_n 2, 1), (10, .iload_n 0, 1), (11, .iload_n 1, 1), (12, .invokestatic 95, 3), (15, .athrow, 1), (16, .iload_n 0, 1), (17, .ireturn, 1)]
theorem td_J3_checkIndex_8e157 : tb_J3_checkIndex_8e157.all (fun q => decide (decode cJ3_checkIndex_8e157 q.1 = .ok (q.2.1, q.2.2))) = true := by decide +kernel
theorem hd_J3_checkIndex_8e157 : yJ3_checkIndex_8e157.cls ≠ "java/lang/invoke/MethodHandle" ∧ yJ3_checkIndex_8e157.cls ≠ "java/lang/invoke/VarHandle" ∧ (parseMethodDescriptor yJ3_checkIndex_8e157.desc).map (fun d => d.parameters.length) = some 3 := by decide +kernel
def J_J3_checkIndex_8e157 (n : Nat) (t : Nat → Nat) (fu : Nat) (x0 : Int32) (x1 : Int32) : Option Int32 :=
  if x0 < 0 then (
  none)
  else (
  if x0 < x1 then (
  some x0)
  else (
  none))
theorem w_J3_checkIndex_8e157 {p : Program} {l : Launch} {e : Env} {s : State} {m : MethodId} {args : Array Value} {below : List Frame} {meth : Method} {c : Code} {a b n : Nat} {t : Nat → Nat} {r : Int32} (Cx : jj_C p s m args meth c cJ3_checkIndex_8e157 3 (some .int) RJ3 a b n t) (fu : Nat) (x0 : Int32) (x1 : Int32) (q2 : Option Nat) (hf : J_J3_checkIndex_8e157 n t fu x0 x1 = some r) {ls : Array Slot} (hl : lv_has ls 3 [(0, .int x0), (1, .int x1), (2, va_rf q2)]) : W p l e (mm_R 0 0) s m args below meth c s.heap [] 0 0 (MQ below (jj_Qi r) args s 0 0 jj_N) (F0 m 0 ls []) := by
  unfold J_J3_checkIndex_8e157 at hf
  refine lv_iload_n Cx.1 Cx.2.1 (dd_at td_J3_checkIndex_8e157 0 rfl) rfl (lv_at hl 0 rfl) ?_
  refine lv_if_lt (tgt := 9) Cx.1 Cx.2.1 (dd_at td_J3_checkIndex_8e157 1 rfl) (by decide) (fun c1 => ?_) (fun c1 => ?_)
  · replace hf := fc_of_t hf c1
    exact fc_no hf
  · replace hf := fc_of_f hf c1
    refine lv_iload_n Cx.1 Cx.2.1 (dd_at td_J3_checkIndex_8e157 2 rfl) rfl (lv_at hl 0 rfl) ?_
    refine lv_iload_n Cx.1 Cx.2.1 (dd_at td_J3_checkIndex_8e157 3 rfl) rfl (lv_at hl 1 rfl) ?_
    refine lv_icmp_lt (tgt := 16) Cx.1 Cx.2.1 (dd_at td_J3_checkIndex_8e157 4 rfl) (by decide) (fun c2 => ?_) (fun c2 => ?_)
    · replace hf := fc_of_t hf c2
      refine lv_iload_n Cx.1 Cx.2.1 (dd_at td_J3_checkIndex_8e157 10 rfl) rfl (lv_at hl 0 rfl) ?_
      exact jj_rz Cx (dd_at td_J3_checkIndex_8e157 11 rfl) rfl hf
    · replace hf := fc_of_f hf c2
      exact fc_no hf
theorem c_J3_checkIndex_8e157 (l : Launch) (a b n : Nat) (t : Nat → Nat) (fu : Nat) (x0 : Int32) (x1 : Int32) (q2 : Option Nat) : jj_Mi l a b n t yJ3_checkIndex_8e157 cJ3_checkIndex_8e157 3 (some .int) 0 0 [.int x0, .int x1, va_rf q2] (J_J3_checkIndex_8e157 n t fu x0 x1) := by
  intro r hf
  refine jj_enter (cc := cJ3_checkIndex_8e157) (nL := 3) (ret := some .int) (by decide +kernel) rfl (by cases q2 <;> exact Nat.le_of_ble_eq_true rfl) ?_
  intro p e s m args below meth c ls Cx hl
  exact w_J3_checkIndex_8e157 Cx fu x0 x1 q2 hf hl

/-! J0_checkIndex_df160 -/
def tb_J0_checkIndex_df160 : List (Nat × Instr × Nat) := [(0, .iload_n 0, 1), (1, .iload_n 1, 1), (2, .getstatic 1053, 3), (5, .invokestatic 1059, 3), (8, .pop, 1), (9, .return_, 1)]
theorem td_J0_checkIndex_df160 : tb_J0_checkIndex_df160.all (fun q => decide (decode cJ0_checkIndex_df160 q.1 = .ok (q.2.1, q.2.2))) = true := by decide +kernel
theorem hd_J0_checkIndex_df160 : yJ0_checkIndex_df160.cls ≠ "java/lang/invoke/MethodHandle" ∧ yJ0_checkIndex_df160.cls ≠ "java/lang/invoke/VarHandle" ∧ (parseMethodDescriptor yJ0_checkIndex_df160.desc).map (fun d => d.parameters.length) = some 2 := by decide +kernel
def J_J0_checkIndex_df160 (n : Nat) (t : Nat → Nat) (fu : Nat) (x0 : Int32) (x1 : Int32) : Option Unit :=
  fc_bv (J_J3_checkIndex_8e157 n t fu x0 x1) fun r2 =>
  some ()
theorem w_J0_checkIndex_df160 {p : Program} {l : Launch} {e : Env} {s : State} {m : MethodId} {args : Array Value} {below : List Frame} {meth : Method} {c : Code} {a b n : Nat} {t : Nat → Nat} {r : Unit} (Cx : jj_C p s m args meth c cJ0_checkIndex_df160 2 (none) RJ0 a b n t) (fu : Nat) (x0 : Int32) (x1 : Int32) (hf : J_J0_checkIndex_df160 n t fu x0 x1 = some r) {ls : Array Slot} (hl : lv_has ls 2 [(0, .int x0), (1, .int x1)]) : W p l e (mm_R 1 22) s m args below meth c s.heap [] 0 0 (MQ below (jj_Qv r) args s 0 0 jj_N) (F0 m 0 ls []) := by
  unfold J_J0_checkIndex_df160 at hf
  refine lv_iload_n Cx.1 Cx.2.1 (dd_at td_J0_checkIndex_df160 0 rfl) rfl (lv_at hl 0 rfl) ?_
  refine lv_iload_n Cx.1 Cx.2.1 (dd_at td_J0_checkIndex_df160 1 rfl) rfl (lv_at hl 1 rfl) ?_
  refine jj_gq Cx cw12 (dd_at td_J0_checkIndex_df160 2 rfl) (fun q1 => ?_)
  obtain ⟨r2, hx3, hf⟩ := fc_of_bv hf
  refine jj_ai (jj_rS (As := [.int x0, .int x1, va_rf q1]) (rest := []) (k := 3) Cx (c_J3_checkIndex_8e157 l a b n t fu x0 x1 q1 r2 hx3) (cc_gdS cw13 cw14 cw15 cw10) hd_J3_checkIndex_8e157 ⟨Nat.le_of_ble_eq_true rfl, Nat.le_of_ble_eq_true rfl⟩ rfl hl.1 rfl (Nat.le_of_ble_eq_true rfl) (dd_at td_J0_checkIndex_df160 3 rfl) ⟨Nat.le_refl 0, Nat.le_refl 0⟩) ?_
  refine lv_pop Cx.1 Cx.2.1 (dd_at td_J0_checkIndex_df160 4 rfl) rfl ?_
  exact jj_rv Cx (dd_at td_J0_checkIndex_df160 5 rfl)
theorem c_J0_checkIndex_df160 (l : Launch) (a b n : Nat) (t : Nat → Nat) (fu : Nat) (x0 : Int32) (x1 : Int32) : jj_Mv l a b n t yJ0_checkIndex_df160 cJ0_checkIndex_df160 2 (none) 1 22 [.int x0, .int x1] (J_J0_checkIndex_df160 n t fu x0 x1) := by
  intro r hf
  refine jj_enter (cc := cJ0_checkIndex_df160) (nL := 2) (ret := none) (by decide +kernel) rfl (Nat.le_of_ble_eq_true rfl) ?_
  intro p e s m args below meth c ls Cx hl
  exact w_J0_checkIndex_df160 Cx fu x0 x1 hf hl

/-! J1_charAt_3b067 -/
def tb_J1_charAt_3b067 : List (Nat × Instr × Nat) := [(0, .iload_n 1, 1), (1, .aload_n 0, 1), (2, .arraylength, 1), (3, .invokestatic 9, 3), (6, .aload_n 0, 1), (7, .iload_n 1, 1), (8, .baload, 1), (9, .sipush 255, 3), (12, .iand, 1), (13, .i2c, 1), (14, .ireturn, 1)]
theorem td_J1_charAt_3b067 : tb_J1_charAt_3b067.all (fun q => decide (decode cJ1_charAt_3b067 q.1 = .ok (q.2.1, q.2.2))) = true := by decide +kernel
theorem hd_J1_charAt_3b067 : yJ1_charAt_3b067.cls ≠ "java/lang/invoke/MethodHandle" ∧ yJ1_charAt_3b067.cls ≠ "java/lang/invoke/VarHandle" ∧ (parseMethodDescriptor yJ1_charAt_3b067.desc).map (fun d => d.parameters.length) = some 2 := by decide +kernel
def J_J1_charAt_3b067 (n : Nat) (t : Nat → Nat) (fu : Nat) (x1 : Int32) : Option Int32 :=
  fc_bv (J_J0_checkIndex_df160 n t fu x1 (nI n)) fun r1 =>
  fc_gd (fc_ix x1 n) <|
  some (((((sb_b (t x1.toNatClampNeg)) &&& (255 : Int32))).toUInt32 % 65536).toInt32)
theorem w_J1_charAt_3b067 {p : Program} {l : Launch} {e : Env} {s : State} {m : MethodId} {args : Array Value} {below : List Frame} {meth : Method} {c : Code} {a b n : Nat} {t : Nat → Nat} {r : Int32} (Cx : jj_C p s m args meth c cJ1_charAt_3b067 2 (some .char) RJ1 a b n t) (fu : Nat) (x1 : Int32) (hf : J_J1_charAt_3b067 n t fu x1 = some r) {ls : Array Slot} (hl : lv_has ls 2 [(0, .ref b), (1, .int x1)]) : W p l e (mm_R 2 43) s m args below meth c s.heap [] 0 0 (MQ below (jj_Qi r) args s 0 0 jj_N) (F0 m 0 ls []) := by
  unfold J_J1_charAt_3b067 at hf
  refine lv_iload_n Cx.1 Cx.2.1 (dd_at td_J1_charAt_3b067 0 rfl) rfl (lv_at hl 1 rfl) ?_
  refine lv_aload_n Cx.1 Cx.2.1 (dd_at td_J1_charAt_3b067 1 rfl) rfl (lv_at hl 0 rfl) ?_
  refine jj_ln Cx (dd_at td_J1_charAt_3b067 2 rfl) ?_
  obtain ⟨r1, hx2, hf⟩ := fc_of_bv hf
  refine jj_av (jj_rS (As := [.int x1, .int (nI n)]) (rest := []) (k := 2) Cx (c_J0_checkIndex_df160 l a b n t fu x1 (nI n) r1 hx2) (cc_gdS cw17 cw18 cw8 cw11) hd_J0_checkIndex_df160 ⟨Nat.le_of_ble_eq_true rfl, Nat.le_of_ble_eq_true rfl⟩ rfl hl.1 rfl (Nat.le_of_ble_eq_true rfl) (dd_at td_J1_charAt_3b067 3 rfl) ⟨Nat.le_refl 0, Nat.le_refl 0⟩) ?_
  refine lv_aload_n Cx.1 Cx.2.1 (dd_at td_J1_charAt_3b067 4 rfl) rfl (lv_at hl 0 rfl) ?_
  refine lv_iload_n Cx.1 Cx.2.1 (dd_at td_J1_charAt_3b067 5 rfl) rfl (lv_at hl 1 rfl) ?_
  obtain ⟨g3, hf⟩ := fc_of_gd hf
  refine jj_bl Cx (fc_of_ix g3) (dd_at td_J1_charAt_3b067 6 rfl) ?_
  refine lv_sipush (v := (255 : Int32)) Cx.1 Cx.2.1 (dd_at td_J1_charAt_3b067 7 rfl) (by decide) ?_
  refine lv_iand Cx.1 Cx.2.1 (dd_at td_J1_charAt_3b067 8 rfl) ?_
  refine lv_i2c Cx.1 Cx.2.1 (dd_at td_J1_charAt_3b067 9 rfl) rfl ?_
  exact jj_rz Cx (dd_at td_J1_charAt_3b067 10 rfl) (pk_nc _) hf
theorem c_J1_charAt_3b067 (l : Launch) (a b n : Nat) (t : Nat → Nat) (fu : Nat) (x1 : Int32) : jj_Mi l a b n t yJ1_charAt_3b067 cJ1_charAt_3b067 2 (some .char) 2 43 [.ref b, .int x1] (J_J1_charAt_3b067 n t fu x1) := by
  intro r hf
  refine jj_enter (cc := cJ1_charAt_3b067) (nL := 2) (ret := some .char) (by decide +kernel) rfl (Nat.le_of_ble_eq_true rfl) ?_
  intro p e s m args below meth c ls Cx hl
  exact w_J1_charAt_3b067 Cx fu x1 hf hl

/-! J0_charAt_5068e -/
def tb_J0_charAt_5068e : List (Nat × Instr × Nat) := [(0, .aload_n 0, 1), (1, .invokevirtual 492, 3), (4, .ifCond .eq 12, 3), (7, .aload_n 0, 1), (8, .getfield 9, 3), (11, .iload_n 1, 1), (12, .invokestatic 495, 3), (15, .ireturn, 1), (16, .aload_n 0, 1), (17, .getfield 9, 3), (20, .iload_n 1, 1), (21, .invokestatic 498, 3), (24, .ireturn, 1)]
theorem td_J0_charAt_5068e : tb_J0_charAt_5068e.all (fun q => decide (decode cJ0_charAt_5068e q.1 = .ok (q.2.1, q.2.2))) = true := by decide +kernel
theorem hd_J0_charAt_5068e : yJ0_charAt_5068e.cls = "java/lang/String" ∧ yJ0_charAt_5068e.cls ≠ "java/lang/invoke/MethodHandle" ∧ yJ0_charAt_5068e.cls ≠ "java/lang/invoke/VarHandle" ∧ (parseMethodDescriptor yJ0_charAt_5068e.desc).map (fun d => d.parameters.length) = some 1 := by decide +kernel
def J_J0_charAt_5068e (n : Nat) (t : Nat → Nat) (fu : Nat) (x1 : Int32) : Option Int32 :=
  fc_bv (J_J0_isLatin1_aae02 n t fu) fun r1 =>
  if r1 = 0 then (
  none)
  else (
  fc_bv (J_J1_charAt_3b067 n t fu x1) fun r4 =>
  fc_gd (decide (narrow .char (.int r4) = .int r4)) <|
  some r4)
theorem w_J0_charAt_5068e {p : Program} {l : Launch} {e : Env} {s : State} {m : MethodId} {args : Array Value} {below : List Frame} {meth : Method} {c : Code} {a b n : Nat} {t : Nat → Nat} {r : Int32} (Cx : jj_C p s m args meth c cJ0_charAt_5068e 2 (some .char) RJ0 a b n t) (fu : Nat) (x1 : Int32) (hf : J_J0_charAt_5068e n t fu x1 = some r) {ls : Array Slot} (hl : lv_has ls 2 [(0, .ref a), (1, .int x1)]) : W p l e (mm_R 3 64) s m args below meth c s.heap [] 0 0 (MQ below (jj_Qi r) args s 0 0 jj_N) (F0 m 0 ls []) := by
  unfold J_J0_charAt_5068e at hf
  refine lv_aload_n Cx.1 Cx.2.1 (dd_at td_J0_charAt_5068e 0 rfl) rfl (lv_at hl 0 rfl) ?_
  obtain ⟨r1, hx2, hf⟩ := fc_of_bv hf
  refine jj_ai (jj_rV (As := []) (rest := []) (k := 0) Cx (c_J0_isLatin1_aae02 l a b n t fu r1 hx2) (cc_gdV cw34 cw35 cw36 cw8 cw9) hd_J0_isLatin1_aae02 ⟨Nat.le_of_ble_eq_true rfl, Nat.le_of_ble_eq_true rfl⟩ rfl hl.1 rfl (Nat.le_of_ble_eq_true rfl) (dd_at td_J0_charAt_5068e 1 rfl) ⟨Nat.le_refl 0, Nat.le_refl 0⟩) ?_
  refine lv_if_eq (tgt := 16) Cx.1 Cx.2.1 (dd_at td_J0_charAt_5068e 2 rfl) (by decide) (fun c3 => ?_) (fun c3 => ?_)
  · replace hf := fc_of_t hf c3
    refine lv_aload_n Cx.1 Cx.2.1 (dd_at td_J0_charAt_5068e 8 rfl) rfl (lv_at hl 0 rfl) ?_
    refine jj_gv Cx cw4 (dd_at td_J0_charAt_5068e 9 rfl) ?_
    refine lv_iload_n Cx.1 Cx.2.1 (dd_at td_J0_charAt_5068e 10 rfl) rfl (lv_at hl 1 rfl) ?_
    exact fc_no hf
  · replace hf := fc_of_f hf c3
    refine lv_aload_n Cx.1 Cx.2.1 (dd_at td_J0_charAt_5068e 3 rfl) rfl (lv_at hl 0 rfl) ?_
    refine jj_gv Cx cw4 (dd_at td_J0_charAt_5068e 4 rfl) ?_
    refine lv_iload_n Cx.1 Cx.2.1 (dd_at td_J0_charAt_5068e 5 rfl) rfl (lv_at hl 1 rfl) ?_
    obtain ⟨r4, hx5, hf⟩ := fc_of_bv hf
    refine jj_ai (jj_rS (As := [.ref b, .int x1]) (rest := []) (k := 2) Cx (c_J1_charAt_3b067 l a b n t fu x1 r4 hx5) (cc_gdS cw37 cw38 cw39 cw16) hd_J1_charAt_3b067 ⟨Nat.le_of_ble_eq_true rfl, Nat.le_of_ble_eq_true rfl⟩ rfl hl.1 rfl (Nat.le_of_ble_eq_true rfl) (dd_at td_J0_charAt_5068e 6 rfl) ⟨Nat.le_refl 0, Nat.le_refl 0⟩) ?_
    obtain ⟨g6, hf⟩ := fc_of_gd hf
    exact jj_rz Cx (dd_at td_J0_charAt_5068e 7 rfl) (of_decide_eq_true g6) hf
theorem c_J0_charAt_5068e (l : Launch) (a b n : Nat) (t : Nat → Nat) (fu : Nat) (x1 : Int32) : jj_Mi l a b n t yJ0_charAt_5068e cJ0_charAt_5068e 2 (some .char) 3 64 [.ref a, .int x1] (J_J0_charAt_5068e n t fu x1) := by
  intro r hf
  refine jj_enter (cc := cJ0_charAt_5068e) (nL := 2) (ret := some .char) (by decide +kernel) rfl (Nat.le_of_ble_eq_true rfl) ?_
  intro p e s m args below meth c ls Cx hl
  exact w_J0_charAt_5068e Cx fu x1 hf hl

/-! J1_canEncode_9a6ad -/
def tb_J1_canEncode_9a6ad : List (Nat × Instr × Nat) := [(0, .iload_n 0, 1), (1, .ifCond .lt 14, 3), (4, .iload_n 0, 1), (5, .sipush 255, 3), (8, .if_icmp .gt 7, 3), (11, .iconst 1, 1), (12, .goto 4, 3), (15, .iconst 0, 1), (16, .ireturn, 1)]
theorem td_J1_canEncode_9a6ad : tb_J1_canEncode_9a6ad.all (fun q => decide (decode cJ1_canEncode_9a6ad q.1 = .ok (q.2.1, q.2.2))) = true := by decide +kernel
theorem hd_J1_canEncode_9a6ad : yJ1_canEncode_9a6ad.cls ≠ "java/lang/invoke/MethodHandle" ∧ yJ1_canEncode_9a6ad.cls ≠ "java/lang/invoke/VarHandle" ∧ (parseMethodDescriptor yJ1_canEncode_9a6ad.desc).map (fun d => d.parameters.length) = some 1 := by decide +kernel
def J_J1_canEncode_9a6ad (n : Nat) (t : Nat → Nat) (fu : Nat) (x0 : Int32) : Option Int32 :=
  if x0 < 0 then (
  some (0 : Int32))
  else (
  if (255 : Int32) < x0 then (
  some (0 : Int32))
  else (
  some (1 : Int32)))
theorem w_J1_canEncode_9a6ad {p : Program} {l : Launch} {e : Env} {s : State} {m : MethodId} {args : Array Value} {below : List Frame} {meth : Method} {c : Code} {a b n : Nat} {t : Nat → Nat} {r : Int32} (Cx : jj_C p s m args meth c cJ1_canEncode_9a6ad 1 (some .boolean) RJ1 a b n t) (fu : Nat) (x0 : Int32) (hf : J_J1_canEncode_9a6ad n t fu x0 = some r) {ls : Array Slot} (hl : lv_has ls 1 [(0, .int x0)]) : W p l e (mm_R 0 0) s m args below meth c s.heap [] 0 0 (MQ below (jj_Qi r) args s 0 0 jj_N) (F0 m 0 ls []) := by
  unfold J_J1_canEncode_9a6ad at hf
  refine lv_iload_n Cx.1 Cx.2.1 (dd_at td_J1_canEncode_9a6ad 0 rfl) rfl (lv_at hl 0 rfl) ?_
  refine lv_if_lt (tgt := 15) Cx.1 Cx.2.1 (dd_at td_J1_canEncode_9a6ad 1 rfl) (by decide) (fun c1 => ?_) (fun c1 => ?_)
  · replace hf := fc_of_t hf c1
    refine lv_iconst (v := (0 : Int32)) Cx.1 Cx.2.1 (dd_at td_J1_canEncode_9a6ad 7 rfl) (by decide) ?_
    exact jj_rz Cx (dd_at td_J1_canEncode_9a6ad 8 rfl) rfl hf
  · replace hf := fc_of_f hf c1
    refine lv_iload_n Cx.1 Cx.2.1 (dd_at td_J1_canEncode_9a6ad 2 rfl) rfl (lv_at hl 0 rfl) ?_
    refine lv_sipush (v := (255 : Int32)) Cx.1 Cx.2.1 (dd_at td_J1_canEncode_9a6ad 3 rfl) (by decide) ?_
    refine lv_icmp_gt (tgt := 15) Cx.1 Cx.2.1 (dd_at td_J1_canEncode_9a6ad 4 rfl) (by decide) (fun c2 => ?_) (fun c2 => ?_)
    · replace hf := fc_of_t hf c2
      refine lv_iconst (v := (0 : Int32)) Cx.1 Cx.2.1 (dd_at td_J1_canEncode_9a6ad 7 rfl) (by decide) ?_
      exact jj_rz Cx (dd_at td_J1_canEncode_9a6ad 8 rfl) rfl hf
    · replace hf := fc_of_f hf c2
      refine lv_iconst (v := (1 : Int32)) Cx.1 Cx.2.1 (dd_at td_J1_canEncode_9a6ad 5 rfl) (by decide) ?_
      refine lv_goto (tgt := 16) Cx.1 Cx.2.1 (dd_at td_J1_canEncode_9a6ad 6 rfl) (by decide) ?_
      exact jj_rz Cx (dd_at td_J1_canEncode_9a6ad 8 rfl) rfl hf
theorem c_J1_canEncode_9a6ad (l : Launch) (a b n : Nat) (t : Nat → Nat) (fu : Nat) (x0 : Int32) : jj_Mi l a b n t yJ1_canEncode_9a6ad cJ1_canEncode_9a6ad 1 (some .boolean) 0 0 [.int x0] (J_J1_canEncode_9a6ad n t fu x0) := by
  intro r hf
  refine jj_enter (cc := cJ1_canEncode_9a6ad) (nL := 1) (ret := some .boolean) (by decide +kernel) rfl (Nat.le_of_ble_eq_true rfl) ?_
  intro p e s m args below meth c ls Cx hl
  exact w_J1_canEncode_9a6ad Cx fu x0 hf hl

/-! J1_indexOfChar_4cfef -/
def tb_J1_indexOfChar_4cfef : List (Nat × Instr × Nat) := [(0, .iload_n 1, 1), (1, .i2b, 1), (2, .istore 4, 2), (4, .iload_n 2, 1), (5, .istore 5, 2), (7, .iload 5, 2), (9, .iload_n 3, 1), (10, .if_icmp .ge 21, 3), (13, .aload_n 0, 1), (14, .iload 5, 2), (16, .baload, 1), (17, .iload 4, 2), (19, .if_icmp .ne 6, 3), (22, .iload 5, 2), (24, .ireturn, 1), (25, .iinc 5 1, 3), (28, .goto (-21), 3), (31, .iconst (-1), 1), (32, .ireturn, 1)]
theorem td_J1_indexOfChar_4cfef : tb_J1_indexOfChar_4cfef.all (fun q => decide (decode cJ1_indexOfChar_4cfef q.1 = .ok (q.2.1, q.2.2))) = true := by decide +kernel
theorem hd_J1_indexOfChar_4cfef : yJ1_indexOfChar_4cfef.cls ≠ "java/lang/invoke/MethodHandle" ∧ yJ1_indexOfChar_4cfef.cls ≠ "java/lang/invoke/VarHandle" ∧ (parseMethodDescriptor yJ1_indexOfChar_4cfef.desc).map (fun d => d.parameters.length) = some 4 := by decide +kernel
def J_J1_indexOfChar_4cfef_b7F (n : Nat) (t : Nat → Nat) (fu : Nat) (K : Int32 → Int32 → Int32 → Option Int32) (x3 : Int32) (x4 : Int32) (x5 : Int32) : Option Int32 :=
  if x3 ≤ x5 then (
  some (-1 : Int32))
  else (
  fc_gd (fc_ix x5 n) <|
  if (sb_b (t x5.toNatClampNeg)) = x4 then (
  some x5)
  else (
  fc_nm (x5 + (1 : Int32)) fun v5 =>
  K x3 x4 v5))
def J_J1_indexOfChar_4cfef_b7 (n : Nat) (t : Nat → Nat) (fu k : Nat) (x3 : Int32) (x4 : Int32) (x5 : Int32) : Option Int32 :=
  fc_lp (fun (K : Int32 × Int32 × Int32 → Option Int32) q => J_J1_indexOfChar_4cfef_b7F n t fu (fun x3 x4 x5 => K (x3, x4, x5)) q.1 q.2.1 q.2.2) k (x3, x4, x5)
theorem w_J1_indexOfChar_4cfef_b7F {p : Program} {l : Launch} {e : Env} {s : State} {m : MethodId} {args : Array Value} {below : List Frame} {meth : Method} {c : Code} {a b n : Nat} {t : Nat → Nat} {r : Int32} (Cx : jj_C p s m args meth c cJ1_indexOfChar_4cfef 6 (some .int) RJ1 a b n t) (fu : Nat) (K : Int32 → Int32 → Int32 → Option Int32) (hK : ∀ (x3 : Int32) (x4 : Int32) (x5 : Int32) (ls : Array Slot), K x3 x4 x5 = some r → lv_has ls 6 [(0, .ref b), (3, .int x3), (4, .int x4), (5, .int x5)] → W p l e (mm_R 0 0) s m args below meth c s.heap [] 0 0 (MQ below (jj_Qi r) args s 0 0 jj_N) (F0 m 7 ls [])) (x3 : Int32) (x4 : Int32) (x5 : Int32) (hf : J_J1_indexOfChar_4cfef_b7F n t fu K x3 x4 x5 = some r) {ls : Array Slot} (hl : lv_has ls 6 [(0, .ref b), (3, .int x3), (4, .int x4), (5, .int x5)]) : W p l e (mm_R 0 0) s m args below meth c s.heap [] 0 0 (MQ below (jj_Qi r) args s 0 0 jj_N) (F0 m 7 ls []) := by
  unfold J_J1_indexOfChar_4cfef_b7F at hf
  refine lv_iload Cx.1 Cx.2.1 (dd_at td_J1_indexOfChar_4cfef 5 rfl) (lv_at hl 3 rfl) ?_
  refine lv_iload_n Cx.1 Cx.2.1 (dd_at td_J1_indexOfChar_4cfef 6 rfl) rfl (lv_at hl 1 rfl) ?_
  refine lv_icmp_ge (tgt := 31) Cx.1 Cx.2.1 (dd_at td_J1_indexOfChar_4cfef 7 rfl) (by decide) (fun c2 => ?_) (fun c2 => ?_)
  · replace hf := fc_of_t hf c2
    refine lv_iconst (v := (-1 : Int32)) Cx.1 Cx.2.1 (dd_at td_J1_indexOfChar_4cfef 17 rfl) (by decide) ?_
    exact jj_rz Cx (dd_at td_J1_indexOfChar_4cfef 18 rfl) rfl hf
  · replace hf := fc_of_f hf c2
    refine lv_aload_n Cx.1 Cx.2.1 (dd_at td_J1_indexOfChar_4cfef 8 rfl) rfl (lv_at hl 0 rfl) ?_
    refine lv_iload Cx.1 Cx.2.1 (dd_at td_J1_indexOfChar_4cfef 9 rfl) (lv_at hl 3 rfl) ?_
    obtain ⟨g3, hf⟩ := fc_of_gd hf
    refine jj_bl Cx (fc_of_ix g3) (dd_at td_J1_indexOfChar_4cfef 10 rfl) ?_
    refine lv_iload Cx.1 Cx.2.1 (dd_at td_J1_indexOfChar_4cfef 11 rfl) (lv_at hl 2 rfl) ?_
    refine lv_icmp_ne (tgt := 25) Cx.1 Cx.2.1 (dd_at td_J1_indexOfChar_4cfef 12 rfl) (by decide) (fun c4 => ?_) (fun c4 => ?_)
    · replace hf := fc_of_f hf c4
      obtain ⟨v5, ev5⟩ : ∃ y : Int32, y = x5 + (1 : Int32) := ⟨_, rfl⟩
      replace hf := fc_of_nm hf v5 ev5
      refine lv_iinc (v := v5) (lv' := [(5, .int v5), (0, .ref b), (3, .int x3), (4, .int x4)]) Cx.1 Cx.2.1 (dd_at td_J1_indexOfChar_4cfef 15 rfl) hl (k := 3) rfl (by rw [ev5]; rfl) (by decide) rfl (fun ls hl => ?_)
      refine lv_goto (tgt := 7) Cx.1 Cx.2.1 (dd_at td_J1_indexOfChar_4cfef 16 rfl) (by decide) ?_
      exact hK x3 x4 v5 _ hf (lv_sub hl [1, 2, 3, 0] rfl)
    · replace hf := fc_of_t hf c4
      refine lv_iload Cx.1 Cx.2.1 (dd_at td_J1_indexOfChar_4cfef 13 rfl) (lv_at hl 3 rfl) ?_
      exact jj_rz Cx (dd_at td_J1_indexOfChar_4cfef 14 rfl) rfl hf
theorem w_J1_indexOfChar_4cfef_b7 {p : Program} {l : Launch} {e : Env} {s : State} {m : MethodId} {args : Array Value} {below : List Frame} {meth : Method} {c : Code} {a b n : Nat} {t : Nat → Nat} {r : Int32} (Cx : jj_C p s m args meth c cJ1_indexOfChar_4cfef 6 (some .int) RJ1 a b n t) (fu k : Nat) : ∀ (x3 : Int32) (x4 : Int32) (x5 : Int32), J_J1_indexOfChar_4cfef_b7 n t fu k x3 x4 x5 = some r → ∀ (ls : Array Slot), lv_has ls 6 [(0, .ref b), (3, .int x3), (4, .int x4), (5, .int x5)] → W p l e (mm_R 0 0) s m args below meth c s.heap [] 0 0 (MQ below (jj_Qi r) args s 0 0 jj_N) (F0 m 7 ls []) := by
  induction k with
  | zero => exact fun _ _ _ hf => fc_no hf
  | succ k ih =>
    intro x3 x4 x5 hf ls hl
    exact w_J1_indexOfChar_4cfef_b7F Cx fu (fun x3 x4 x5 => J_J1_indexOfChar_4cfef_b7 n t fu k x3 x4 x5) (fun x3 x4 x5 ls hf hl => ih x3 x4 x5 hf ls hl) x3 x4 x5 hf hl
def J_J1_indexOfChar_4cfef (n : Nat) (t : Nat → Nat) (fu : Nat) (x1 : Int32) (x2 : Int32) (x3 : Int32) : Option Int32 :=
  fc_nm ((x1).toInt8.toInt32) fun v1 =>
  J_J1_indexOfChar_4cfef_b7 n t fu fu x3 v1 x2
theorem w_J1_indexOfChar_4cfef {p : Program} {l : Launch} {e : Env} {s : State} {m : MethodId} {args : Array Value} {below : List Frame} {meth : Method} {c : Code} {a b n : Nat} {t : Nat → Nat} {r : Int32} (Cx : jj_C p s m args meth c cJ1_indexOfChar_4cfef 6 (some .int) RJ1 a b n t) (fu : Nat) (x1 : Int32) (x2 : Int32) (x3 : Int32) (hf : J_J1_indexOfChar_4cfef n t fu x1 x2 x3 = some r) {ls : Array Slot} (hl : lv_has ls 6 [(0, .ref b), (1, .int x1), (2, .int x2), (3, .int x3)]) : W p l e (mm_R 0 0) s m args below meth c s.heap [] 0 0 (MQ below (jj_Qi r) args s 0 0 jj_N) (F0 m 0 ls []) := by
  unfold J_J1_indexOfChar_4cfef at hf
  refine lv_iload_n Cx.1 Cx.2.1 (dd_at td_J1_indexOfChar_4cfef 0 rfl) rfl (lv_at hl 1 rfl) ?_
  refine lv_i2b Cx.1 Cx.2.1 (dd_at td_J1_indexOfChar_4cfef 1 rfl) rfl ?_
  refine lv_topi (fun v1 ev1 => ?_)
  replace hf := fc_of_nm hf v1 ev1
  refine lv_istore (lv' := [(4, .int v1), (0, .ref b), (1, .int x1), (2, .int x2), (3, .int x3)]) Cx.1 Cx.2.1 (dd_at td_J1_indexOfChar_4cfef 2 rfl) hl (by decide) rfl (fun ls hl => ?_)
  refine lv_iload_n Cx.1 Cx.2.1 (dd_at td_J1_indexOfChar_4cfef 3 rfl) rfl (lv_at hl 3 rfl) ?_
  refine lv_istore (lv' := [(5, .int x2), (4, .int v1), (0, .ref b), (1, .int x1), (2, .int x2), (3, .int x3)]) Cx.1 Cx.2.1 (dd_at td_J1_indexOfChar_4cfef 4 rfl) hl (by decide) rfl (fun ls hl => ?_)
  exact w_J1_indexOfChar_4cfef_b7 Cx fu fu x3 v1 x2 hf _ (lv_sub hl [2, 5, 1, 0] rfl)
theorem c_J1_indexOfChar_4cfef (l : Launch) (a b n : Nat) (t : Nat → Nat) (fu : Nat) (x1 : Int32) (x2 : Int32) (x3 : Int32) : jj_Mi l a b n t yJ1_indexOfChar_4cfef cJ1_indexOfChar_4cfef 6 (some .int) 0 0 [.ref b, .int x1, .int x2, .int x3] (J_J1_indexOfChar_4cfef n t fu x1 x2 x3) := by
  intro r hf
  refine jj_enter (cc := cJ1_indexOfChar_4cfef) (nL := 6) (ret := some .int) (by decide +kernel) rfl (Nat.le_of_ble_eq_true rfl) ?_
  intro p e s m args below meth c ls Cx hl
  exact w_J1_indexOfChar_4cfef Cx fu x1 x2 x3 hf hl

/-! J1_indexOf_4cfef -/
def tb_J1_indexOf_4cfef : List (Nat × Instr × Nat) := [(0, .iload_n 1, 1), (1, .invokestatic 88, 3), (4, .ifCond .ne 5, 3), (7, .iconst (-1), 1), (8, .ireturn, 1), (9, .iload_n 2, 1), (10, .iconst 0, 1), (11, .invokestatic 92, 3), (14, .istore_n 2, 1), (15, .iload_n 3, 1), (16, .aload_n 0, 1), (17, .arraylength, 1), (18, .invokestatic 38, 3), (21, .istore_n 3, 1), (22, .iload_n 2, 1), (23, .iload_n 3, 1), (24, .if_icmp .lt 5, 3), (27, .iconst (-1), 1), (28, .ireturn, 1), (29, .aload_n 0, 1), (30, .iload_n 1, 1), (31, .iload_n 2, 1), (32, .iload_n 3, 1), (33, .invokestatic 95, 3), (36, .ireturn, 1)]
theorem td_J1_indexOf_4cfef : tb_J1_indexOf_4cfef.all (fun q => decide (decode cJ1_indexOf_4cfef q.1 = .ok (q.2.1, q.2.2))) = true := by decide +kernel
theorem hd_J1_indexOf_4cfef : yJ1_indexOf_4cfef.cls ≠ "java/lang/invoke/MethodHandle" ∧ yJ1_indexOf_4cfef.cls ≠ "java/lang/invoke/VarHandle" ∧ (parseMethodDescriptor yJ1_indexOf_4cfef.desc).map (fun d => d.parameters.length) = some 4 := by decide +kernel
def J_J1_indexOf_4cfef (n : Nat) (t : Nat → Nat) (fu : Nat) (x1 : Int32) (x2 : Int32) (x3 : Int32) : Option Int32 :=
  fc_bv (J_J1_canEncode_9a6ad n t fu x1) fun r1 =>
  if r1 = 0 then (
  some (-1 : Int32))
  else (
  fc_nm (if x2 < (0 : Int32) then (0 : Int32) else x2) fun v4 =>
  fc_nm (if (nI n) < x3 then (nI n) else x3) fun v5 =>
  if v4 < v5 then (
  fc_bv (J_J1_indexOfChar_4cfef n t fu x1 v4 v5) fun r7 =>
  some r7)
  else (
  some (-1 : Int32)))
theorem w_J1_indexOf_4cfef {p : Program} {l : Launch} {e : Env} {s : State} {m : MethodId} {args : Array Value} {below : List Frame} {meth : Method} {c : Code} {a b n : Nat} {t : Nat → Nat} {r : Int32} (Cx : jj_C p s m args meth c cJ1_indexOf_4cfef 4 (some .int) RJ1 a b n t) (fu : Nat) (x1 : Int32) (x2 : Int32) (x3 : Int32) (hf : J_J1_indexOf_4cfef n t fu x1 x2 x3 = some r) {ls : Array Slot} (hl : lv_has ls 4 [(0, .ref b), (1, .int x1), (2, .int x2), (3, .int x3)]) : W p l e (mm_R 1 40) s m args below meth c s.heap [] 0 0 (MQ below (jj_Qi r) args s 0 0 jj_N) (F0 m 0 ls []) := by
  unfold J_J1_indexOf_4cfef at hf
  refine lv_iload_n Cx.1 Cx.2.1 (dd_at td_J1_indexOf_4cfef 0 rfl) rfl (lv_at hl 1 rfl) ?_
  obtain ⟨r1, hx2, hf⟩ := fc_of_bv hf
  refine jj_ai (jj_rS (As := [.int x1]) (rest := []) (k := 1) Cx (c_J1_canEncode_9a6ad l a b n t fu x1 r1 hx2) (cc_gdS cw76 cw77 cw39 cw69) hd_J1_canEncode_9a6ad ⟨Nat.le_of_ble_eq_true rfl, Nat.le_of_ble_eq_true rfl⟩ rfl hl.1 rfl (Nat.le_of_ble_eq_true rfl) (dd_at td_J1_indexOf_4cfef 1 rfl) ⟨Nat.le_refl 0, Nat.le_refl 0⟩) ?_
  refine lv_if_ne (tgt := 9) Cx.1 Cx.2.1 (dd_at td_J1_indexOf_4cfef 2 rfl) (by decide) (fun c3 => ?_) (fun c3 => ?_)
  · replace hf := fc_of_f hf c3
    refine lv_iload_n Cx.1 Cx.2.1 (dd_at td_J1_indexOf_4cfef 5 rfl) rfl (lv_at hl 2 rfl) ?_
    refine lv_iconst (v := (0 : Int32)) Cx.1 Cx.2.1 (dd_at td_J1_indexOf_4cfef 6 rfl) (by decide) ?_
    refine va_mmax Cx.1 Cx.2.1 (Cx.2.2.2.1.trans hl.1.symm) Cx.2.2.2.2.1 (Cx.2.2.2.2.2.1 _ cw72) (Cx.2.2.2.2.2.1 _ cw62) (Cx.2.2.2.2.2.1 _ cw373) (Cx.2.2.2.2.2.1 _ cw64) (Nat.le_of_ble_eq_true rfl) (Nat.le_of_ble_eq_true rfl) (Nat.le_refl 0) (Nat.le_refl 0) (dd_at td_J1_indexOf_4cfef 7 rfl) ?_
    refine lv_topi (fun v4 ev4 => ?_)
    replace hf := fc_of_nm hf v4 ev4
    refine lv_istore_n (lv' := [(2, .int v4), (0, .ref b), (1, .int x1), (3, .int x3)]) Cx.1 Cx.2.1 (dd_at td_J1_indexOf_4cfef 8 rfl) rfl hl (by decide) rfl (fun ls hl => ?_)
    refine lv_iload_n Cx.1 Cx.2.1 (dd_at td_J1_indexOf_4cfef 9 rfl) rfl (lv_at hl 3 rfl) ?_
    refine lv_aload_n Cx.1 Cx.2.1 (dd_at td_J1_indexOf_4cfef 10 rfl) rfl (lv_at hl 1 rfl) ?_
    refine jj_ln Cx (dd_at td_J1_indexOf_4cfef 11 rfl) ?_
    refine va_mmin Cx.1 Cx.2.1 (Cx.2.2.2.1.trans hl.1.symm) Cx.2.2.2.2.1 (Cx.2.2.2.2.2.1 _ cw73) (Cx.2.2.2.2.2.1 _ cw74) (Cx.2.2.2.2.2.1 _ cw373) (Cx.2.2.2.2.2.1 _ cw75) (Nat.le_of_ble_eq_true rfl) (Nat.le_of_ble_eq_true rfl) (Nat.le_refl 0) (Nat.le_refl 0) (dd_at td_J1_indexOf_4cfef 12 rfl) ?_
    refine lv_topi (fun v5 ev5 => ?_)
    replace hf := fc_of_nm hf v5 ev5
    refine lv_istore_n (lv' := [(3, .int v5), (2, .int v4), (0, .ref b), (1, .int x1)]) Cx.1 Cx.2.1 (dd_at td_J1_indexOf_4cfef 13 rfl) rfl hl (by decide) rfl (fun ls hl => ?_)
    refine lv_iload_n Cx.1 Cx.2.1 (dd_at td_J1_indexOf_4cfef 14 rfl) rfl (lv_at hl 1 rfl) ?_
    refine lv_iload_n Cx.1 Cx.2.1 (dd_at td_J1_indexOf_4cfef 15 rfl) rfl (lv_at hl 0 rfl) ?_
    refine lv_icmp_lt (tgt := 29) Cx.1 Cx.2.1 (dd_at td_J1_indexOf_4cfef 16 rfl) (by decide) (fun c6 => ?_) (fun c6 => ?_)
    · replace hf := fc_of_t hf c6
      refine lv_aload_n Cx.1 Cx.2.1 (dd_at td_J1_indexOf_4cfef 19 rfl) rfl (lv_at hl 2 rfl) ?_
      refine lv_iload_n Cx.1 Cx.2.1 (dd_at td_J1_indexOf_4cfef 20 rfl) rfl (lv_at hl 3 rfl) ?_
      refine lv_iload_n Cx.1 Cx.2.1 (dd_at td_J1_indexOf_4cfef 21 rfl) rfl (lv_at hl 1 rfl) ?_
      refine lv_iload_n Cx.1 Cx.2.1 (dd_at td_J1_indexOf_4cfef 22 rfl) rfl (lv_at hl 0 rfl) ?_
      obtain ⟨r7, hx8, hf⟩ := fc_of_bv hf
      refine jj_ai (jj_rS (As := [.ref b, .int x1, .int v4, .int v5]) (rest := []) (k := 4) Cx (c_J1_indexOfChar_4cfef l a b n t fu x1 v4 v5 r7 hx8) (cc_gdS cw78 cw79 cw39 cw70) hd_J1_indexOfChar_4cfef ⟨Nat.le_of_ble_eq_true rfl, Nat.le_of_ble_eq_true rfl⟩ rfl hl.1 rfl (Nat.le_of_ble_eq_true rfl) (dd_at td_J1_indexOf_4cfef 23 rfl) ⟨Nat.le_refl 0, Nat.le_refl 0⟩) ?_
      exact jj_rz Cx (dd_at td_J1_indexOf_4cfef 24 rfl) rfl hf
    · replace hf := fc_of_f hf c6
      refine lv_iconst (v := (-1 : Int32)) Cx.1 Cx.2.1 (dd_at td_J1_indexOf_4cfef 17 rfl) (by decide) ?_
      exact jj_rz Cx (dd_at td_J1_indexOf_4cfef 18 rfl) rfl hf
  · replace hf := fc_of_t hf c3
    refine lv_iconst (v := (-1 : Int32)) Cx.1 Cx.2.1 (dd_at td_J1_indexOf_4cfef 3 rfl) (by decide) ?_
    exact jj_rz Cx (dd_at td_J1_indexOf_4cfef 4 rfl) rfl hf
theorem c_J1_indexOf_4cfef (l : Launch) (a b n : Nat) (t : Nat → Nat) (fu : Nat) (x1 : Int32) (x2 : Int32) (x3 : Int32) : jj_Mi l a b n t yJ1_indexOf_4cfef cJ1_indexOf_4cfef 4 (some .int) 1 40 [.ref b, .int x1, .int x2, .int x3] (J_J1_indexOf_4cfef n t fu x1 x2 x3) := by
  intro r hf
  refine jj_enter (cc := cJ1_indexOf_4cfef) (nL := 4) (ret := some .int) (by decide +kernel) rfl (Nat.le_of_ble_eq_true rfl) ?_
  intro p e s m args below meth c ls Cx hl
  exact w_J1_indexOf_4cfef Cx fu x1 x2 x3 hf hl

/-! J0_indexOf_7cf53 -/
def tb_J0_indexOf_7cf53 : List (Nat × Instr × Nat) := [(0, .aload_n 0, 1), (1, .invokevirtual 492, 3), (4, .ifCond .eq 19, 3), (7, .aload_n 0, 1), (8, .getfield 9, 3), (11, .iload_n 1, 1), (12, .iload_n 2, 1), (13, .aload_n 0, 1), (14, .invokevirtual 505, 3), (17, .invokestatic 637, 3), (20, .goto 16, 3), (23, .aload_n 0, 1), (24, .getfield 9, 3), (27, .iload_n 1, 1), (28, .iload_n 2, 1), (29, .aload_n 0, 1), (30, .invokevirtual 505, 3), (33, .invokestatic 640, 3), (36, .ireturn, 1)]
theorem td_J0_indexOf_7cf53 : tb_J0_indexOf_7cf53.all (fun q => decide (decode cJ0_indexOf_7cf53 q.1 = .ok (q.2.1, q.2.2))) = true := by decide +kernel
theorem hd_J0_indexOf_7cf53 : yJ0_indexOf_7cf53.cls = "java/lang/String" ∧ yJ0_indexOf_7cf53.cls ≠ "java/lang/invoke/MethodHandle" ∧ yJ0_indexOf_7cf53.cls ≠ "java/lang/invoke/VarHandle" ∧ (parseMethodDescriptor yJ0_indexOf_7cf53.desc).map (fun d => d.parameters.length) = some 2 := by decide +kernel
def J_J0_indexOf_7cf53 (n : Nat) (t : Nat → Nat) (fu : Nat) (x1 : Int32) (x2 : Int32) : Option Int32 :=
  fc_bv (J_J0_isLatin1_aae02 n t fu) fun r1 =>
  if r1 = 0 then (
  fc_bv (J_J0_length_8abf5 n t fu) fun r4 =>
  none)
  else (
  fc_bv (J_J0_length_8abf5 n t fu) fun r6 =>
  fc_bv (J_J1_indexOf_4cfef n t fu x1 x2 r6) fun r8 =>
  some r8)
theorem w_J0_indexOf_7cf53 {p : Program} {l : Launch} {e : Env} {s : State} {m : MethodId} {args : Array Value} {below : List Frame} {meth : Method} {c : Code} {a b n : Nat} {t : Nat → Nat} {r : Int32} (Cx : jj_C p s m args meth c cJ0_indexOf_7cf53 3 (some .int) RJ0 a b n t) (fu : Nat) (x1 : Int32) (x2 : Int32) (hf : J_J0_indexOf_7cf53 n t fu x1 x2 = some r) {ls : Array Slot} (hl : lv_has ls 3 [(0, .ref a), (1, .int x1), (2, .int x2)]) : W p l e (mm_R 2 63) s m args below meth c s.heap [] 0 0 (MQ below (jj_Qi r) args s 0 0 jj_N) (F0 m 0 ls []) := by
  unfold J_J0_indexOf_7cf53 at hf
  refine lv_aload_n Cx.1 Cx.2.1 (dd_at td_J0_indexOf_7cf53 0 rfl) rfl (lv_at hl 0 rfl) ?_
  obtain ⟨r1, hx2, hf⟩ := fc_of_bv hf
  refine jj_ai (jj_rV (As := []) (rest := []) (k := 0) Cx (c_J0_isLatin1_aae02 l a b n t fu r1 hx2) (cc_gdV cw34 cw35 cw36 cw8 cw9) hd_J0_isLatin1_aae02 ⟨Nat.le_of_ble_eq_true rfl, Nat.le_of_ble_eq_true rfl⟩ rfl hl.1 rfl (Nat.le_of_ble_eq_true rfl) (dd_at td_J0_indexOf_7cf53 1 rfl) ⟨Nat.le_refl 0, Nat.le_refl 0⟩) ?_
  refine lv_if_eq (tgt := 23) Cx.1 Cx.2.1 (dd_at td_J0_indexOf_7cf53 2 rfl) (by decide) (fun c3 => ?_) (fun c3 => ?_)
  · replace hf := fc_of_t hf c3
    refine lv_aload_n Cx.1 Cx.2.1 (dd_at td_J0_indexOf_7cf53 11 rfl) rfl (lv_at hl 0 rfl) ?_
    refine jj_gv Cx cw4 (dd_at td_J0_indexOf_7cf53 12 rfl) ?_
    refine lv_iload_n Cx.1 Cx.2.1 (dd_at td_J0_indexOf_7cf53 13 rfl) rfl (lv_at hl 1 rfl) ?_
    refine lv_iload_n Cx.1 Cx.2.1 (dd_at td_J0_indexOf_7cf53 14 rfl) rfl (lv_at hl 2 rfl) ?_
    refine lv_aload_n Cx.1 Cx.2.1 (dd_at td_J0_indexOf_7cf53 15 rfl) rfl (lv_at hl 0 rfl) ?_
    obtain ⟨r4, hx5, hf⟩ := fc_of_bv hf
    refine jj_ai (jj_rV (As := []) (rest := [.int x2, .int x1, .ref b]) (k := 0) Cx (c_J0_length_8abf5 l a b n t fu r4 hx5) (cc_gdV cw114 cw46 cw47 cw8 cw3) hd_J0_length_8abf5 ⟨Nat.le_of_ble_eq_true rfl, Nat.le_of_ble_eq_true rfl⟩ rfl hl.1 rfl (Nat.le_of_ble_eq_true rfl) (dd_at td_J0_indexOf_7cf53 16 rfl) ⟨Nat.le_refl 0, Nat.le_refl 0⟩) ?_
    exact fc_no hf
  · replace hf := fc_of_f hf c3
    refine lv_aload_n Cx.1 Cx.2.1 (dd_at td_J0_indexOf_7cf53 3 rfl) rfl (lv_at hl 0 rfl) ?_
    refine jj_gv Cx cw4 (dd_at td_J0_indexOf_7cf53 4 rfl) ?_
    refine lv_iload_n Cx.1 Cx.2.1 (dd_at td_J0_indexOf_7cf53 5 rfl) rfl (lv_at hl 1 rfl) ?_
    refine lv_iload_n Cx.1 Cx.2.1 (dd_at td_J0_indexOf_7cf53 6 rfl) rfl (lv_at hl 2 rfl) ?_
    refine lv_aload_n Cx.1 Cx.2.1 (dd_at td_J0_indexOf_7cf53 7 rfl) rfl (lv_at hl 0 rfl) ?_
    obtain ⟨r6, hx7, hf⟩ := fc_of_bv hf
    refine jj_ai (jj_rV (As := []) (rest := [.int x2, .int x1, .ref b]) (k := 0) Cx (c_J0_length_8abf5 l a b n t fu r6 hx7) (cc_gdV cw114 cw46 cw47 cw8 cw3) hd_J0_length_8abf5 ⟨Nat.le_of_ble_eq_true rfl, Nat.le_of_ble_eq_true rfl⟩ rfl hl.1 rfl (Nat.le_of_ble_eq_true rfl) (dd_at td_J0_indexOf_7cf53 8 rfl) ⟨Nat.le_refl 0, Nat.le_refl 0⟩) ?_
    obtain ⟨r8, hx9, hf⟩ := fc_of_bv hf
    refine jj_ai (jj_rS (As := [.ref b, .int x1, .int x2, .int r6]) (rest := []) (k := 4) Cx (c_J1_indexOf_4cfef l a b n t fu x1 x2 r6 r8 hx9) (cc_gdS cw115 cw116 cw39 cw71) hd_J1_indexOf_4cfef ⟨Nat.le_of_ble_eq_true rfl, Nat.le_of_ble_eq_true rfl⟩ rfl hl.1 rfl (Nat.le_of_ble_eq_true rfl) (dd_at td_J0_indexOf_7cf53 9 rfl) ⟨Nat.le_refl 0, Nat.le_refl 0⟩) ?_
    refine lv_goto (tgt := 36) Cx.1 Cx.2.1 (dd_at td_J0_indexOf_7cf53 10 rfl) (by decide) ?_
    exact jj_rz Cx (dd_at td_J0_indexOf_7cf53 18 rfl) rfl hf
theorem c_J0_indexOf_7cf53 (l : Launch) (a b n : Nat) (t : Nat → Nat) (fu : Nat) (x1 : Int32) (x2 : Int32) : jj_Mi l a b n t yJ0_indexOf_7cf53 cJ0_indexOf_7cf53 3 (some .int) 2 63 [.ref a, .int x1, .int x2] (J_J0_indexOf_7cf53 n t fu x1 x2) := by
  intro r hf
  refine jj_enter (cc := cJ0_indexOf_7cf53) (nL := 3) (ret := some .int) (by decide +kernel) rfl (Nat.le_of_ble_eq_true rfl) ?_
  intro p e s m args below meth c ls Cx hl
  exact w_J0_indexOf_7cf53 Cx fu x1 x2 hf hl

/-! J0_indexOf_0f7a4 -/
def tb_J0_indexOf_0f7a4 : List (Nat × Instr × Nat) := [(0, .aload_n 0, 1), (1, .iload_n 1, 1), (2, .iconst 0, 1), (3, .invokevirtual 633, 3), (6, .ireturn, 1)]
theorem td_J0_indexOf_0f7a4 : tb_J0_indexOf_0f7a4.all (fun q => decide (decode cJ0_indexOf_0f7a4 q.1 = .ok (q.2.1, q.2.2))) = true := by decide +kernel
theorem hd_J0_indexOf_0f7a4 : yJ0_indexOf_0f7a4.cls = "java/lang/String" ∧ yJ0_indexOf_0f7a4.cls ≠ "java/lang/invoke/MethodHandle" ∧ yJ0_indexOf_0f7a4.cls ≠ "java/lang/invoke/VarHandle" ∧ (parseMethodDescriptor yJ0_indexOf_0f7a4.desc).map (fun d => d.parameters.length) = some 1 := by decide +kernel
def J_J0_indexOf_0f7a4 (n : Nat) (t : Nat → Nat) (fu : Nat) (x1 : Int32) : Option Int32 :=
  fc_bv (J_J0_indexOf_7cf53 n t fu x1 (0 : Int32)) fun r1 =>
  some r1
theorem w_J0_indexOf_0f7a4 {p : Program} {l : Launch} {e : Env} {s : State} {m : MethodId} {args : Array Value} {below : List Frame} {meth : Method} {c : Code} {a b n : Nat} {t : Nat → Nat} {r : Int32} (Cx : jj_C p s m args meth c cJ0_indexOf_0f7a4 2 (some .int) RJ0 a b n t) (fu : Nat) (x1 : Int32) (hf : J_J0_indexOf_0f7a4 n t fu x1 = some r) {ls : Array Slot} (hl : lv_has ls 2 [(0, .ref a), (1, .int x1)]) : W p l e (mm_R 3 85) s m args below meth c s.heap [] 0 0 (MQ below (jj_Qi r) args s 0 0 jj_N) (F0 m 0 ls []) := by
  unfold J_J0_indexOf_0f7a4 at hf
  refine lv_aload_n Cx.1 Cx.2.1 (dd_at td_J0_indexOf_0f7a4 0 rfl) rfl (lv_at hl 0 rfl) ?_
  refine lv_iload_n Cx.1 Cx.2.1 (dd_at td_J0_indexOf_0f7a4 1 rfl) rfl (lv_at hl 1 rfl) ?_
  refine lv_iconst (v := (0 : Int32)) Cx.1 Cx.2.1 (dd_at td_J0_indexOf_0f7a4 2 rfl) (by decide) ?_
  obtain ⟨r1, hx2, hf⟩ := fc_of_bv hf
  refine jj_ai (jj_rV (As := [.int x1, .int (0 : Int32)]) (rest := []) (k := 2) Cx (c_J0_indexOf_7cf53 l a b n t fu x1 (0 : Int32) r1 hx2) (cc_gdV cw120 cw121 cw122 cw8 cw119) hd_J0_indexOf_7cf53 ⟨Nat.le_of_ble_eq_true rfl, Nat.le_of_ble_eq_true rfl⟩ rfl hl.1 rfl (Nat.le_of_ble_eq_true rfl) (dd_at td_J0_indexOf_0f7a4 3 rfl) ⟨Nat.le_refl 0, Nat.le_refl 0⟩) ?_
  exact jj_rz Cx (dd_at td_J0_indexOf_0f7a4 4 rfl) rfl hf
theorem c_J0_indexOf_0f7a4 (l : Launch) (a b n : Nat) (t : Nat → Nat) (fu : Nat) (x1 : Int32) : jj_Mi l a b n t yJ0_indexOf_0f7a4 cJ0_indexOf_0f7a4 2 (some .int) 3 85 [.ref a, .int x1] (J_J0_indexOf_0f7a4 n t fu x1) := by
  intro r hf
  refine jj_enter (cc := cJ0_indexOf_0f7a4) (nL := 2) (ret := some .int) (by decide +kernel) rfl (Nat.le_of_ble_eq_true rfl) ?_
  intro p e s m args below meth c ls Cx hl
  exact w_J0_indexOf_0f7a4 Cx fu x1 hf hl
