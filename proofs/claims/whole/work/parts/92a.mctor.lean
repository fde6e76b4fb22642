/-! the reference made: the walk -/
set_option maxHeartbeats 8000000 in
set_option maxRecDepth 100000 in
theorem c_X12_init (l : Launch) (D : va_G) (B : Nat) (z : pp_Z) (cs : ClassId × ClassId × ClassId) (x0 : Nat) : nn_M l D nn_mW (mm_tys cs) B z yX12_init cX12_init 1 none 1 12 37 1954 [.ref x0] (nn_W x0 14 63 (fun j => defaultValue (tyX12 j)) []) (fun r u => r = none ∧ ∃ ad : Nat → Nat, u = mm_w x0 ad cs mm_st0) := by
  refine nn_enter (own := RX12) (by decide) rfl (Nat.le_of_ble_eq_true rfl) ?_
  intro p e s m args below meth c ls A C hl hM
  have hl : lv_has ls 1 [(0, .ref x0)] := hl
  refine lv_aload_n C.1 C.2.1 (dd_at td_X12_init 0 rfl) rfl (lv_at hl 0 rfl) ?_
  refine nn_obj C hl.1 nw0 nw1 nw2 (dd_at td_X12_init 1 rfl) (Nat.le_of_ble_eq_true rfl) (Nat.le_of_ble_eq_true rfl) ?_
  refine lv_aload_n C.1 C.2.1 (dd_at td_X12_init 2 rfl) rfl (lv_at hl 0 rfl) ?_
  refine lv_iconst (v := (0 : Int32)) C.1 C.2.1 (dd_at td_X12_init 3 rfl) (by decide) ?_
  refine nn_put C hM (ref := RX12) (K := RX12) (T := TX12) (k := 0) (ty0 := tyX12) rfl nn_Win tyX12_ok nmX12 (Nat.le_of_ble_eq_true rfl) nw3 rfl rfl rfl rfl (dd_at td_X12_init 4 rfl) (fun H locs hM => ?_)
  refine lv_aload_n C.1 C.2.1 (dd_at td_X12_init 5 rfl) rfl (lv_at hl 0 rfl) ?_
  refine lv_iconst (v := (3 : Int32)) C.1 C.2.1 (dd_at td_X12_init 6 rfl) (by decide) ?_
  refine nn_put C hM (ref := RX12) (K := RX12) (T := TX12) (k := 1) (ty0 := tyX12) rfl nn_Win tyX12_ok nmX12 (Nat.le_of_ble_eq_true rfl) nw4 rfl rfl rfl rfl (dd_at td_X12_init 7 rfl) (fun H locs hM => ?_)
  refine lv_aload_n C.1 C.2.1 (dd_at td_X12_init 8 rfl) rfl (lv_at hl 0 rfl) ?_
  refine lv_iconst (v := (0 : Int32)) C.1 C.2.1 (dd_at td_X12_init 9 rfl) (by decide) ?_
  refine nn_put C hM (ref := RX12) (K := RX12) (T := TX12) (k := 2) (ty0 := tyX12) rfl nn_Win tyX12_ok nmX12 (Nat.le_of_ble_eq_true rfl) nw5 rfl rfl rfl rfl (dd_at td_X12_init 10 rfl) (fun H locs hM => ?_)
  refine lv_aload_n C.1 C.2.1 (dd_at td_X12_init 11 rfl) rfl (lv_at hl 0 rfl) ?_
  refine lv_iconst (v := (0 : Int32)) C.1 C.2.1 (dd_at td_X12_init 12 rfl) (by decide) ?_
  refine nn_put C hM (ref := RX12) (K := RX12) (T := TX12) (k := 3) (ty0 := tyX12) rfl nn_Win tyX12_ok nmX12 (Nat.le_of_ble_eq_true rfl) nw6 rfl rfl rfl rfl (dd_at td_X12_init 13 rfl) (fun H locs hM => ?_)
  refine lv_aload_n C.1 C.2.1 (dd_at td_X12_init 14 rfl) rfl (lv_at hl 0 rfl) ?_
  refine lv_bipush (v := (6 : Int32)) C.1 C.2.1 (dd_at td_X12_init 15 rfl) (by decide) ?_
  refine nn_arrW (ty := .int) C hM (atype := .int) (t0 := 0) (c0 := (cs.1)) (N' := 6) (6, .inl (fun _ => 0)) nw7 rfl rfl nn_uI (fun _ => rfl) (by decide) rfl (Nat.le_of_ble_eq_true rfl) (Nat.le_of_ble_eq_true rfl) (Nat.le_of_ble_eq_true rfl) (dd_at td_X12_init 16 rfl) (fun q0 H hM => ?_)
  refine nn_putF C hM (K := RX12) (T := TX12) (k := 4) (ty0 := tyX12) rfl nn_Win tyX12_ok nmX12 (Nat.le_of_ble_eq_true rfl) nw8 rfl rfl rfl rfl rfl (dd_at td_X12_init 17 rfl) (fun H locs hM => ?_)
  refine lv_aload_n C.1 C.2.1 (dd_at td_X12_init 18 rfl) rfl (lv_at hl 0 rfl) ?_
  refine lv_bipush (v := (6 : Int32)) C.1 C.2.1 (dd_at td_X12_init 19 rfl) (by decide) ?_
  refine nn_arrW (ty := .int) C hM (atype := .int) (t0 := 0) (c0 := (cs.1)) (N' := 6) (6, .inl (fun _ => 0)) nw7 rfl rfl nn_uI (fun _ => rfl) (by decide) rfl (Nat.le_of_ble_eq_true rfl) (Nat.le_of_ble_eq_true rfl) (Nat.le_of_ble_eq_true rfl) (dd_at td_X12_init 20 rfl) (fun q1 H hM => ?_)
  refine nn_putF C hM (K := RX12) (T := TX12) (k := 5) (ty0 := tyX12) rfl nn_Win tyX12_ok nmX12 (Nat.le_of_ble_eq_true rfl) nw9 rfl rfl rfl rfl rfl (dd_at td_X12_init 21 rfl) (fun H locs hM => ?_)
  refine lv_aload_n C.1 C.2.1 (dd_at td_X12_init 22 rfl) rfl (lv_at hl 0 rfl) ?_
  refine lv_bipush (v := (6 : Int32)) C.1 C.2.1 (dd_at td_X12_init 23 rfl) (by decide) ?_
  refine nn_arrW (ty := .int) C hM (atype := .int) (t0 := 0) (c0 := (cs.1)) (N' := 6) (6, .inl (fun _ => 0)) nw7 rfl rfl nn_uI (fun _ => rfl) (by decide) rfl (Nat.le_of_ble_eq_true rfl) (Nat.le_of_ble_eq_true rfl) (Nat.le_of_ble_eq_true rfl) (dd_at td_X12_init 24 rfl) (fun q2 H hM => ?_)
  refine nn_putF C hM (K := RX12) (T := TX12) (k := 6) (ty0 := tyX12) rfl nn_Win tyX12_ok nmX12 (Nat.le_of_ble_eq_true rfl) nw10 rfl rfl rfl rfl rfl (dd_at td_X12_init 25 rfl) (fun H locs hM => ?_)
  refine lv_aload_n C.1 C.2.1 (dd_at td_X12_init 26 rfl) rfl (lv_at hl 0 rfl) ?_
  refine lv_bipush (v := (24 : Int32)) C.1 C.2.1 (dd_at td_X12_init 27 rfl) (by decide) ?_
  refine nn_arrW (ty := .int) C hM (atype := .int) (t0 := 0) (c0 := (cs.1)) (N' := 24) (24, .inl (fun _ => 0)) nw7 rfl rfl nn_uI (fun _ => rfl) (by decide) rfl (Nat.le_of_ble_eq_true rfl) (Nat.le_of_ble_eq_true rfl) (Nat.le_of_ble_eq_true rfl) (dd_at td_X12_init 28 rfl) (fun q3 H hM => ?_)
  refine nn_putF C hM (K := RX12) (T := TX12) (k := 7) (ty0 := tyX12) rfl nn_Win tyX12_ok nmX12 (Nat.le_of_ble_eq_true rfl) nw11 rfl rfl rfl rfl rfl (dd_at td_X12_init 29 rfl) (fun H locs hM => ?_)
  refine lv_aload_n C.1 C.2.1 (dd_at td_X12_init 30 rfl) rfl (lv_at hl 0 rfl) ?_
  refine lv_iconst (v := (0 : Int32)) C.1 C.2.1 (dd_at td_X12_init 31 rfl) (by decide) ?_
  refine nn_put C hM (ref := RX12) (K := RX12) (T := TX12) (k := 8) (ty0 := tyX12) rfl nn_Win tyX12_ok nmX12 (Nat.le_of_ble_eq_true rfl) nw12 rfl rfl rfl rfl (dd_at td_X12_init 32 rfl) (fun H locs hM => ?_)
  refine lv_aload_n C.1 C.2.1 (dd_at td_X12_init 33 rfl) rfl (lv_at hl 0 rfl) ?_
  refine lv_iconst (v := (-1 : Int32)) C.1 C.2.1 (dd_at td_X12_init 34 rfl) (by decide) ?_
  refine nn_put C hM (ref := RX12) (K := RX12) (T := TX12) (k := 9) (ty0 := tyX12) rfl nn_Win tyX12_ok nmX12 (Nat.le_of_ble_eq_true rfl) nw13 rfl rfl rfl rfl (dd_at td_X12_init 35 rfl) (fun H locs hM => ?_)
  refine lv_aload_n C.1 C.2.1 (dd_at td_X12_init 36 rfl) rfl (lv_at hl 0 rfl) ?_
  refine lv_iconst (v := (0 : Int32)) C.1 C.2.1 (dd_at td_X12_init 37 rfl) (by decide) ?_
  refine nn_put C hM (ref := RX12) (K := RX12) (T := TX12) (k := 10) (ty0 := tyX12) rfl nn_Win tyX12_ok nmX12 (Nat.le_of_ble_eq_true rfl) nw14 rfl rfl rfl rfl (dd_at td_X12_init 38 rfl) (fun H locs hM => ?_)
  refine lv_aload_n C.1 C.2.1 (dd_at td_X12_init 39 rfl) rfl (lv_at hl 0 rfl) ?_
  refine lv_iconst (v := (0 : Int32)) C.1 C.2.1 (dd_at td_X12_init 40 rfl) (by decide) ?_
  refine nn_put C hM (ref := RX12) (K := RX12) (T := TX12) (k := 11) (ty0 := tyX12) rfl nn_Win tyX12_ok nmX12 (Nat.le_of_ble_eq_true rfl) nw15 rfl rfl rfl rfl (dd_at td_X12_init 41 rfl) (fun H locs hM => ?_)
  refine lv_aload_n C.1 C.2.1 (dd_at td_X12_init 42 rfl) rfl (lv_at hl 0 rfl) ?_
  refine lv_iconst (v := (0 : Int32)) C.1 C.2.1 (dd_at td_X12_init 43 rfl) (by decide) ?_
  refine nn_put C hM (ref := RX12) (K := RX12) (T := TX12) (k := 12) (ty0 := tyX12) rfl nn_Win tyX12_ok nmX12 (Nat.le_of_ble_eq_true rfl) nw16 rfl rfl rfl rfl (dd_at td_X12_init 44 rfl) (fun H locs hM => ?_)
  refine lv_aload_n C.1 C.2.1 (dd_at td_X12_init 45 rfl) rfl (lv_at hl 0 rfl) ?_
  refine lv_bipush (v := (100 : Int32)) C.1 C.2.1 (dd_at td_X12_init 46 rfl) (by decide) ?_
  refine nn_arrW (ty := .int) C hM (atype := .int) (t0 := 0) (c0 := (cs.1)) (N' := 100) (100, .inl (fun _ => 0)) nw7 rfl rfl nn_uI (fun _ => rfl) (by decide) rfl (Nat.le_of_ble_eq_true rfl) (Nat.le_of_ble_eq_true rfl) (Nat.le_of_ble_eq_true rfl) (dd_at td_X12_init 47 rfl) (fun q4 H hM => ?_)
  refine nn_putF C hM (K := RX12) (T := TX12) (k := 13) (ty0 := tyX12) rfl nn_Win tyX12_ok nmX12 (Nat.le_of_ble_eq_true rfl) nw17 rfl rfl rfl rfl rfl (dd_at td_X12_init 48 rfl) (fun H locs hM => ?_)
  refine lv_aload_n C.1 C.2.1 (dd_at td_X12_init 49 rfl) rfl (lv_at hl 0 rfl) ?_
  refine lv_bipush (v := (6 : Int32)) C.1 C.2.1 (dd_at td_X12_init 50 rfl) (by decide) ?_
  refine nn_arrW (ty := .int) C hM (atype := .int) (t0 := 0) (c0 := (cs.1)) (N' := 6) (6, .inl (fun _ => 0)) nw7 rfl rfl nn_uI (fun _ => rfl) (by decide) rfl (Nat.le_of_ble_eq_true rfl) (Nat.le_of_ble_eq_true rfl) (Nat.le_of_ble_eq_true rfl) (dd_at td_X12_init 51 rfl) (fun q5 H hM => ?_)
  refine nn_putF C hM (K := RX12) (T := TX12) (k := 14) (ty0 := tyX12) rfl nn_Win tyX12_ok nmX12 (Nat.le_of_ble_eq_true rfl) nw18 rfl rfl rfl rfl rfl (dd_at td_X12_init 52 rfl) (fun H locs hM => ?_)
  refine lv_aload_n C.1 C.2.1 (dd_at td_X12_init 53 rfl) rfl (lv_at hl 0 rfl) ?_
  refine lv_bipush (v := (60 : Int32)) C.1 C.2.1 (dd_at td_X12_init 54 rfl) (by decide) ?_
  refine nn_arrW (ty := .int) C hM (atype := .int) (t0 := 0) (c0 := (cs.1)) (N' := 60) (60, .inl (fun _ => 0)) nw7 rfl rfl nn_uI (fun _ => rfl) (by decide) rfl (Nat.le_of_ble_eq_true rfl) (Nat.le_of_ble_eq_true rfl) (Nat.le_of_ble_eq_true rfl) (dd_at td_X12_init 55 rfl) (fun q6 H hM => ?_)
  refine nn_putF C hM (K := RX12) (T := TX12) (k := 15) (ty0 := tyX12) rfl nn_Win tyX12_ok nmX12 (Nat.le_of_ble_eq_true rfl) nw19 rfl rfl rfl rfl rfl (dd_at td_X12_init 56 rfl) (fun H locs hM => ?_)
  refine lv_aload_n C.1 C.2.1 (dd_at td_X12_init 57 rfl) rfl (lv_at hl 0 rfl) ?_
  refine lv_bipush (v := (60 : Int32)) C.1 C.2.1 (dd_at td_X12_init 58 rfl) (by decide) ?_
  refine nn_arrW (ty := .int) C hM (atype := .int) (t0 := 0) (c0 := (cs.1)) (N' := 60) (60, .inl (fun _ => 0)) nw7 rfl rfl nn_uI (fun _ => rfl) (by decide) rfl (Nat.le_of_ble_eq_true rfl) (Nat.le_of_ble_eq_true rfl) (Nat.le_of_ble_eq_true rfl) (dd_at td_X12_init 59 rfl) (fun q7 H hM => ?_)
  refine nn_putF C hM (K := RX12) (T := TX12) (k := 16) (ty0 := tyX12) rfl nn_Win tyX12_ok nmX12 (Nat.le_of_ble_eq_true rfl) nw20 rfl rfl rfl rfl rfl (dd_at td_X12_init 60 rfl) (fun H locs hM => ?_)
  refine lv_aload_n C.1 C.2.1 (dd_at td_X12_init 61 rfl) rfl (lv_at hl 0 rfl) ?_
  refine lv_bipush (v := (60 : Int32)) C.1 C.2.1 (dd_at td_X12_init 62 rfl) (by decide) ?_
  refine nn_arrW (ty := .int) C hM (atype := .int) (t0 := 0) (c0 := (cs.1)) (N' := 60) (60, .inl (fun _ => 0)) nw7 rfl rfl nn_uI (fun _ => rfl) (by decide) rfl (Nat.le_of_ble_eq_true rfl) (Nat.le_of_ble_eq_true rfl) (Nat.le_of_ble_eq_true rfl) (dd_at td_X12_init 63 rfl) (fun q8 H hM => ?_)
  refine nn_putF C hM (K := RX12) (T := TX12) (k := 17) (ty0 := tyX12) rfl nn_Win tyX12_ok nmX12 (Nat.le_of_ble_eq_true rfl) nw21 rfl rfl rfl rfl rfl (dd_at td_X12_init 64 rfl) (fun H locs hM => ?_)
  refine lv_aload_n C.1 C.2.1 (dd_at td_X12_init 65 rfl) rfl (lv_at hl 0 rfl) ?_
  refine lv_bipush (v := (60 : Int32)) C.1 C.2.1 (dd_at td_X12_init 66 rfl) (by decide) ?_
  refine nn_arrW (ty := .int) C hM (atype := .int) (t0 := 0) (c0 := (cs.1)) (N' := 60) (60, .inl (fun _ => 0)) nw7 rfl rfl nn_uI (fun _ => rfl) (by decide) rfl (Nat.le_of_ble_eq_true rfl) (Nat.le_of_ble_eq_true rfl) (Nat.le_of_ble_eq_true rfl) (dd_at td_X12_init 67 rfl) (fun q9 H hM => ?_)
  refine nn_putF C hM (K := RX12) (T := TX12) (k := 18) (ty0 := tyX12) rfl nn_Win tyX12_ok nmX12 (Nat.le_of_ble_eq_true rfl) nw22 rfl rfl rfl rfl rfl (dd_at td_X12_init 68 rfl) (fun H locs hM => ?_)
  refine lv_aload_n C.1 C.2.1 (dd_at td_X12_init 69 rfl) rfl (lv_at hl 0 rfl) ?_
  refine lv_sipush (v := (600 : Int32)) C.1 C.2.1 (dd_at td_X12_init 70 rfl) (by decide) ?_
  refine nn_arrW (ty := .int) C hM (atype := .int) (t0 := 0) (c0 := (cs.1)) (N' := 600) (600, .inl (fun _ => 0)) nw7 rfl rfl nn_uI (fun _ => rfl) (by decide) rfl (Nat.le_of_ble_eq_true rfl) (Nat.le_of_ble_eq_true rfl) (Nat.le_of_ble_eq_true rfl) (dd_at td_X12_init 71 rfl) (fun q10 H hM => ?_)
  refine nn_putF C hM (K := RX12) (T := TX12) (k := 19) (ty0 := tyX12) rfl nn_Win tyX12_ok nmX12 (Nat.le_of_ble_eq_true rfl) nw23 rfl rfl rfl rfl rfl (dd_at td_X12_init 72 rfl) (fun H locs hM => ?_)
  refine lv_aload_n C.1 C.2.1 (dd_at td_X12_init 73 rfl) rfl (lv_at hl 0 rfl) ?_
  refine lv_bipush (v := (101 : Int32)) C.1 C.2.1 (dd_at td_X12_init 74 rfl) (by decide) ?_
  refine nn_arrW (ty := .int) C hM (atype := .int) (t0 := 0) (c0 := (cs.1)) (N' := 101) (101, .inl (fun _ => 0)) nw7 rfl rfl nn_uI (fun _ => rfl) (by decide) rfl (Nat.le_of_ble_eq_true rfl) (Nat.le_of_ble_eq_true rfl) (Nat.le_of_ble_eq_true rfl) (dd_at td_X12_init 75 rfl) (fun q11 H hM => ?_)
  refine nn_putF C hM (K := RX12) (T := TX12) (k := 20) (ty0 := tyX12) rfl nn_Win tyX12_ok nmX12 (Nat.le_of_ble_eq_true rfl) nw24 rfl rfl rfl rfl rfl (dd_at td_X12_init 76 rfl) (fun H locs hM => ?_)
  refine lv_aload_n C.1 C.2.1 (dd_at td_X12_init 77 rfl) rfl (lv_at hl 0 rfl) ?_
  refine lv_iconst (v := (0 : Int32)) C.1 C.2.1 (dd_at td_X12_init 78 rfl) (by decide) ?_
  refine nn_put C hM (ref := RX12) (K := RX12) (T := TX12) (k := 21) (ty0 := tyX12) rfl nn_Win tyX12_ok nmX12 (Nat.le_of_ble_eq_true rfl) nw25 rfl rfl rfl rfl (dd_at td_X12_init 79 rfl) (fun H locs hM => ?_)
  refine lv_aload_n C.1 C.2.1 (dd_at td_X12_init 80 rfl) rfl (lv_at hl 0 rfl) ?_
  refine lv_iconst (v := (0 : Int32)) C.1 C.2.1 (dd_at td_X12_init 81 rfl) (by decide) ?_
  refine nn_put C hM (ref := RX12) (K := RX12) (T := TX12) (k := 22) (ty0 := tyX12) rfl nn_Win tyX12_ok nmX12 (Nat.le_of_ble_eq_true rfl) nw26 rfl rfl rfl rfl (dd_at td_X12_init 82 rfl) (fun H locs hM => ?_)
  refine lv_aload_n C.1 C.2.1 (dd_at td_X12_init 83 rfl) rfl (lv_at hl 0 rfl) ?_
  refine lv_iconst (v := (0 : Int32)) C.1 C.2.1 (dd_at td_X12_init 84 rfl) (by decide) ?_
  refine nn_put C hM (ref := RX12) (K := RX12) (T := TX12) (k := 23) (ty0 := tyX12) rfl nn_Win tyX12_ok nmX12 (Nat.le_of_ble_eq_true rfl) nw27 rfl rfl rfl rfl (dd_at td_X12_init 85 rfl) (fun H locs hM => ?_)
  refine lv_aload_n C.1 C.2.1 (dd_at td_X12_init 86 rfl) rfl (lv_at hl 0 rfl) ?_
  refine lv_bipush (v := (13 : Int32)) C.1 C.2.1 (dd_at td_X12_init 87 rfl) (by decide) ?_
  refine nn_arrW (ty := .int) C hM (atype := .int) (t0 := 0) (c0 := (cs.1)) (N' := 13) (13, .inl (fun _ => 0)) nw7 rfl rfl nn_uI (fun _ => rfl) (by decide) rfl (Nat.le_of_ble_eq_true rfl) (Nat.le_of_ble_eq_true rfl) (Nat.le_of_ble_eq_true rfl) (dd_at td_X12_init 88 rfl) (fun q12 H hM => ?_)
  refine lv_dup C.1 C.2.1 (dd_at td_X12_init 89 rfl) rfl ?_
  refine lv_iconst (v := (0 : Int32)) C.1 C.2.1 (dd_at td_X12_init 90 rfl) (by decide) ?_
  refine lv_bipush (v := (102 : Int32)) C.1 C.2.1 (dd_at td_X12_init 91 rfl) (by decide) ?_
  refine nn_astW C hM (t0 := 0) rfl (by unfold vp_in; decide) (dd_at td_X12_init 92 rfl) (fun H locs hM => ?_)
  refine lv_dup C.1 C.2.1 (dd_at td_X12_init 93 rfl) rfl ?_
  refine lv_iconst (v := (1 : Int32)) C.1 C.2.1 (dd_at td_X12_init 94 rfl) (by decide) ?_
  refine lv_bipush (v := (97 : Int32)) C.1 C.2.1 (dd_at td_X12_init 95 rfl) (by decide) ?_
  refine nn_astW C hM (t0 := 0) rfl (by unfold vp_in; decide) (dd_at td_X12_init 96 rfl) (fun H locs hM => ?_)
  refine lv_dup C.1 C.2.1 (dd_at td_X12_init 97 rfl) rfl ?_
  refine lv_iconst (v := (2 : Int32)) C.1 C.2.1 (dd_at td_X12_init 98 rfl) (by decide) ?_
  refine lv_bipush (v := (109 : Int32)) C.1 C.2.1 (dd_at td_X12_init 99 rfl) (by decide) ?_
  refine nn_astW C hM (t0 := 0) rfl (by unfold vp_in; decide) (dd_at td_X12_init 100 rfl) (fun H locs hM => ?_)
  refine lv_dup C.1 C.2.1 (dd_at td_X12_init 101 rfl) rfl ?_
  refine lv_iconst (v := (3 : Int32)) C.1 C.2.1 (dd_at td_X12_init 102 rfl) (by decide) ?_
  refine lv_bipush (v := (101 : Int32)) C.1 C.2.1 (dd_at td_X12_init 103 rfl) (by decide) ?_
  refine nn_astW C hM (t0 := 0) rfl (by unfold vp_in; decide) (dd_at td_X12_init 104 rfl) (fun H locs hM => ?_)
  refine lv_dup C.1 C.2.1 (dd_at td_X12_init 105 rfl) rfl ?_
  refine lv_iconst (v := (4 : Int32)) C.1 C.2.1 (dd_at td_X12_init 106 rfl) (by decide) ?_
  refine lv_bipush (v := (115 : Int32)) C.1 C.2.1 (dd_at td_X12_init 107 rfl) (by decide) ?_
  refine nn_astW C hM (t0 := 0) rfl (by unfold vp_in; decide) (dd_at td_X12_init 108 rfl) (fun H locs hM => ?_)
  refine lv_dup C.1 C.2.1 (dd_at td_X12_init 109 rfl) rfl ?_
  refine lv_iconst (v := (5 : Int32)) C.1 C.2.1 (dd_at td_X12_init 110 rfl) (by decide) ?_
  refine lv_bipush (v := (104 : Int32)) C.1 C.2.1 (dd_at td_X12_init 111 rfl) (by decide) ?_
  refine nn_astW C hM (t0 := 0) rfl (by unfold vp_in; decide) (dd_at td_X12_init 112 rfl) (fun H locs hM => ?_)
  refine lv_dup C.1 C.2.1 (dd_at td_X12_init 113 rfl) rfl ?_
  refine lv_bipush (v := (6 : Int32)) C.1 C.2.1 (dd_at td_X12_init 114 rfl) (by decide) ?_
  refine lv_bipush (v := (97 : Int32)) C.1 C.2.1 (dd_at td_X12_init 115 rfl) (by decide) ?_
  refine nn_astW C hM (t0 := 0) rfl (by unfold vp_in; decide) (dd_at td_X12_init 116 rfl) (fun H locs hM => ?_)
  refine lv_dup C.1 C.2.1 (dd_at td_X12_init 117 rfl) rfl ?_
  refine lv_bipush (v := (7 : Int32)) C.1 C.2.1 (dd_at td_X12_init 118 rfl) (by decide) ?_
  refine lv_bipush (v := (109 : Int32)) C.1 C.2.1 (dd_at td_X12_init 119 rfl) (by decide) ?_
  refine nn_astW C hM (t0 := 0) rfl (by unfold vp_in; decide) (dd_at td_X12_init 120 rfl) (fun H locs hM => ?_)
  refine lv_dup C.1 C.2.1 (dd_at td_X12_init 121 rfl) rfl ?_
  refine lv_bipush (v := (8 : Int32)) C.1 C.2.1 (dd_at td_X12_init 122 rfl) (by decide) ?_
  refine lv_bipush (v := (101 : Int32)) C.1 C.2.1 (dd_at td_X12_init 123 rfl) (by decide) ?_
  refine nn_astW C hM (t0 := 0) rfl (by unfold vp_in; decide) (dd_at td_X12_init 124 rfl) (fun H locs hM => ?_)
  refine lv_dup C.1 C.2.1 (dd_at td_X12_init 125 rfl) rfl ?_
  refine lv_bipush (v := (9 : Int32)) C.1 C.2.1 (dd_at td_X12_init 126 rfl) (by decide) ?_
  refine lv_bipush (v := (107 : Int32)) C.1 C.2.1 (dd_at td_X12_init 127 rfl) (by decide) ?_
  refine nn_astW C hM (t0 := 0) rfl (by unfold vp_in; decide) (dd_at td_X12_init 128 rfl) (fun H locs hM => ?_)
  refine lv_dup C.1 C.2.1 (dd_at td_X12_init 129 rfl) rfl ?_
  refine lv_bipush (v := (10 : Int32)) C.1 C.2.1 (dd_at td_X12_init 130 rfl) (by decide) ?_
  refine lv_bipush (v := (101 : Int32)) C.1 C.2.1 (dd_at td_X12_init 131 rfl) (by decide) ?_
  refine nn_astW C hM (t0 := 0) rfl (by unfold vp_in; decide) (dd_at td_X12_init 132 rfl) (fun H locs hM => ?_)
  refine lv_dup C.1 C.2.1 (dd_at td_X12_init 133 rfl) rfl ?_
  refine lv_bipush (v := (11 : Int32)) C.1 C.2.1 (dd_at td_X12_init 134 rfl) (by decide) ?_
  refine lv_bipush (v := (101 : Int32)) C.1 C.2.1 (dd_at td_X12_init 135 rfl) (by decide) ?_
  refine nn_astW C hM (t0 := 0) rfl (by unfold vp_in; decide) (dd_at td_X12_init 136 rfl) (fun H locs hM => ?_)
  refine lv_dup C.1 C.2.1 (dd_at td_X12_init 137 rfl) rfl ?_
  refine lv_bipush (v := (12 : Int32)) C.1 C.2.1 (dd_at td_X12_init 138 rfl) (by decide) ?_
  refine lv_bipush (v := (112 : Int32)) C.1 C.2.1 (dd_at td_X12_init 139 rfl) (by decide) ?_
  refine nn_astW C hM (t0 := 0) rfl (by unfold vp_in; decide) (dd_at td_X12_init 140 rfl) (fun H locs hM => ?_)
  refine nn_putF C hM (K := RX12) (T := TX12) (k := 24) (ty0 := tyX12) rfl nn_Win tyX12_ok nmX12 (Nat.le_of_ble_eq_true rfl) nw28 rfl rfl rfl rfl rfl (dd_at td_X12_init 141 rfl) (fun H locs hM => ?_)
  refine lv_aload_n C.1 C.2.1 (dd_at td_X12_init 142 rfl) rfl (lv_at hl 0 rfl) ?_
  refine lv_bipush (v := (100 : Int32)) C.1 C.2.1 (dd_at td_X12_init 143 rfl) (by decide) ?_
  refine nn_arrW (ty := .boolean) C hM (atype := .boolean) (t0 := 1) (c0 := (cs.2.1)) (N' := 100) (100, .inl (fun _ => 0)) nw29 rfl rfl nn_uZ (fun _ => rfl) (by decide) rfl (Nat.le_of_ble_eq_true rfl) (Nat.le_of_ble_eq_true rfl) (Nat.le_of_ble_eq_true rfl) (dd_at td_X12_init 144 rfl) (fun q13 H hM => ?_)
  refine nn_putF C hM (K := RX12) (T := TX12) (k := 25) (ty0 := tyX12) rfl nn_Win tyX12_ok nmX12 (Nat.le_of_ble_eq_true rfl) nw30 rfl rfl rfl rfl rfl (dd_at td_X12_init 145 rfl) (fun H locs hM => ?_)
  refine lv_aload_n C.1 C.2.1 (dd_at td_X12_init 146 rfl) rfl (lv_at hl 0 rfl) ?_
  refine lv_bipush (v := (90 : Int32)) C.1 C.2.1 (dd_at td_X12_init 147 rfl) (by decide) ?_
  refine nn_arrW (ty := .long) C hM (atype := .long) (t0 := 2) (c0 := (cs.2.2)) (N' := 90) (90, .inr (.inl (fun _ => 0))) nw31 rfl rfl nn_uJ (fun _ => rfl) (by decide) rfl (Nat.le_of_ble_eq_true rfl) (Nat.le_of_ble_eq_true rfl) (Nat.le_of_ble_eq_true rfl) (dd_at td_X12_init 148 rfl) (fun q14 H hM => ?_)
  refine nn_putF C hM (K := RX12) (T := TX12) (k := 26) (ty0 := tyX12) rfl nn_Win tyX12_ok nmX12 (Nat.le_of_ble_eq_true rfl) nw32 rfl rfl rfl rfl rfl (dd_at td_X12_init 149 rfl) (fun H locs hM => ?_)
  refine lv_aload_n C.1 C.2.1 (dd_at td_X12_init 150 rfl) rfl (lv_at hl 0 rfl) ?_
  refine lv_iconst (v := (0 : Int32)) C.1 C.2.1 (dd_at td_X12_init 151 rfl) (by decide) ?_
  refine nn_put C hM (ref := RX12) (K := RX12) (T := TX12) (k := 27) (ty0 := tyX12) rfl nn_Win tyX12_ok nmX12 (Nat.le_of_ble_eq_true rfl) nw33 rfl rfl rfl rfl (dd_at td_X12_init 152 rfl) (fun H locs hM => ?_)
  refine lv_aload_n C.1 C.2.1 (dd_at td_X12_init 153 rfl) rfl (lv_at hl 0 rfl) ?_
  refine lv_bipush (v := (90 : Int32)) C.1 C.2.1 (dd_at td_X12_init 154 rfl) (by decide) ?_
  refine nn_arrW (ty := .long) C hM (atype := .long) (t0 := 2) (c0 := (cs.2.2)) (N' := 90) (90, .inr (.inl (fun _ => 0))) nw31 rfl rfl nn_uJ (fun _ => rfl) (by decide) rfl (Nat.le_of_ble_eq_true rfl) (Nat.le_of_ble_eq_true rfl) (Nat.le_of_ble_eq_true rfl) (dd_at td_X12_init 155 rfl) (fun q15 H hM => ?_)
  refine nn_putF C hM (K := RX12) (T := TX12) (k := 28) (ty0 := tyX12) rfl nn_Win tyX12_ok nmX12 (Nat.le_of_ble_eq_true rfl) nw34 rfl rfl rfl rfl rfl (dd_at td_X12_init 156 rfl) (fun H locs hM => ?_)
  refine lv_aload_n C.1 C.2.1 (dd_at td_X12_init 157 rfl) rfl (lv_at hl 0 rfl) ?_
  refine lv_iconst (v := (0 : Int32)) C.1 C.2.1 (dd_at td_X12_init 158 rfl) (by decide) ?_
  refine nn_put C hM (ref := RX12) (K := RX12) (T := TX12) (k := 29) (ty0 := tyX12) rfl nn_Win tyX12_ok nmX12 (Nat.le_of_ble_eq_true rfl) nw35 rfl rfl rfl rfl (dd_at td_X12_init 159 rfl) (fun H locs hM => ?_)
  refine lv_aload_n C.1 C.2.1 (dd_at td_X12_init 160 rfl) rfl (lv_at hl 0 rfl) ?_
  refine lv_bipush (v := (8 : Int32)) C.1 C.2.1 (dd_at td_X12_init 161 rfl) (by decide) ?_
  refine nn_arrW (ty := .int) C hM (atype := .int) (t0 := 0) (c0 := (cs.1)) (N' := 8) (8, .inl (fun _ => 0)) nw7 rfl rfl nn_uI (fun _ => rfl) (by decide) rfl (Nat.le_of_ble_eq_true rfl) (Nat.le_of_ble_eq_true rfl) (Nat.le_of_ble_eq_true rfl) (dd_at td_X12_init 162 rfl) (fun q16 H hM => ?_)
  refine nn_putF C hM (K := RX12) (T := TX12) (k := 30) (ty0 := tyX12) rfl nn_Win tyX12_ok nmX12 (Nat.le_of_ble_eq_true rfl) nw36 rfl rfl rfl rfl rfl (dd_at td_X12_init 163 rfl) (fun H locs hM => ?_)
  refine lv_aload_n C.1 C.2.1 (dd_at td_X12_init 164 rfl) rfl (lv_at hl 0 rfl) ?_
  refine lv_iconst (v := (0 : Int32)) C.1 C.2.1 (dd_at td_X12_init 165 rfl) (by decide) ?_
  refine nn_put C hM (ref := RX12) (K := RX12) (T := TX12) (k := 31) (ty0 := tyX12) rfl nn_Win tyX12_ok nmX12 (Nat.le_of_ble_eq_true rfl) nw37 rfl rfl rfl rfl (dd_at td_X12_init 166 rfl) (fun H locs hM => ?_)
  refine lv_aload_n C.1 C.2.1 (dd_at td_X12_init 167 rfl) rfl (lv_at hl 0 rfl) ?_
  refine lv_iconst (v := (0 : Int32)) C.1 C.2.1 (dd_at td_X12_init 168 rfl) (by decide) ?_
  refine nn_put C hM (ref := RX12) (K := RX12) (T := TX12) (k := 32) (ty0 := tyX12) rfl nn_Win tyX12_ok nmX12 (Nat.le_of_ble_eq_true rfl) nw38 rfl rfl rfl rfl (dd_at td_X12_init 169 rfl) (fun H locs hM => ?_)
  refine lv_aload_n C.1 C.2.1 (dd_at td_X12_init 170 rfl) rfl (lv_at hl 0 rfl) ?_
  refine lv_iconst (v := (5 : Int32)) C.1 C.2.1 (dd_at td_X12_init 171 rfl) (by decide) ?_
  refine nn_arrW (ty := .int) C hM (atype := .int) (t0 := 0) (c0 := (cs.1)) (N' := 5) (5, .inl (fun _ => 0)) nw7 rfl rfl nn_uI (fun _ => rfl) (by decide) rfl (Nat.le_of_ble_eq_true rfl) (Nat.le_of_ble_eq_true rfl) (Nat.le_of_ble_eq_true rfl) (dd_at td_X12_init 172 rfl) (fun q17 H hM => ?_)
  refine nn_putF C hM (K := RX12) (T := TX12) (k := 33) (ty0 := tyX12) rfl nn_Win tyX12_ok nmX12 (Nat.le_of_ble_eq_true rfl) nw39 rfl rfl rfl rfl rfl (dd_at td_X12_init 173 rfl) (fun H locs hM => ?_)
  refine lv_aload_n C.1 C.2.1 (dd_at td_X12_init 174 rfl) rfl (lv_at hl 0 rfl) ?_
  refine lv_iconst (v := (5 : Int32)) C.1 C.2.1 (dd_at td_X12_init 175 rfl) (by decide) ?_
  refine nn_arrW (ty := .int) C hM (atype := .int) (t0 := 0) (c0 := (cs.1)) (N' := 5) (5, .inl (fun _ => 0)) nw7 rfl rfl nn_uI (fun _ => rfl) (by decide) rfl (Nat.le_of_ble_eq_true rfl) (Nat.le_of_ble_eq_true rfl) (Nat.le_of_ble_eq_true rfl) (dd_at td_X12_init 176 rfl) (fun q18 H hM => ?_)
  refine nn_putF C hM (K := RX12) (T := TX12) (k := 34) (ty0 := tyX12) rfl nn_Win tyX12_ok nmX12 (Nat.le_of_ble_eq_true rfl) nw40 rfl rfl rfl rfl rfl (dd_at td_X12_init 177 rfl) (fun H locs hM => ?_)
  refine lv_aload_n C.1 C.2.1 (dd_at td_X12_init 178 rfl) rfl (lv_at hl 0 rfl) ?_
  refine lv_iconst (v := (5 : Int32)) C.1 C.2.1 (dd_at td_X12_init 179 rfl) (by decide) ?_
  refine nn_arrW (ty := .int) C hM (atype := .int) (t0 := 0) (c0 := (cs.1)) (N' := 5) (5, .inl (fun _ => 0)) nw7 rfl rfl nn_uI (fun _ => rfl) (by decide) rfl (Nat.le_of_ble_eq_true rfl) (Nat.le_of_ble_eq_true rfl) (Nat.le_of_ble_eq_true rfl) (dd_at td_X12_init 180 rfl) (fun q19 H hM => ?_)
  refine nn_putF C hM (K := RX12) (T := TX12) (k := 35) (ty0 := tyX12) rfl nn_Win tyX12_ok nmX12 (Nat.le_of_ble_eq_true rfl) nw41 rfl rfl rfl rfl rfl (dd_at td_X12_init 181 rfl) (fun H locs hM => ?_)
  refine lv_aload_n C.1 C.2.1 (dd_at td_X12_init 182 rfl) rfl (lv_at hl 0 rfl) ?_
  refine lv_bipush (v := (8 : Int32)) C.1 C.2.1 (dd_at td_X12_init 183 rfl) (by decide) ?_
  refine nn_arrW (ty := .int) C hM (atype := .int) (t0 := 0) (c0 := (cs.1)) (N' := 8) (8, .inl (fun _ => 0)) nw7 rfl rfl nn_uI (fun _ => rfl) (by decide) rfl (Nat.le_of_ble_eq_true rfl) (Nat.le_of_ble_eq_true rfl) (Nat.le_of_ble_eq_true rfl) (dd_at td_X12_init 184 rfl) (fun q20 H hM => ?_)
  refine nn_putF C hM (K := RX12) (T := TX12) (k := 36) (ty0 := tyX12) rfl nn_Win tyX12_ok nmX12 (Nat.le_of_ble_eq_true rfl) nw42 rfl rfl rfl rfl rfl (dd_at td_X12_init 185 rfl) (fun H locs hM => ?_)
  refine lv_aload_n C.1 C.2.1 (dd_at td_X12_init 186 rfl) rfl (lv_at hl 0 rfl) ?_
  refine lv_bipush (v := (8 : Int32)) C.1 C.2.1 (dd_at td_X12_init 187 rfl) (by decide) ?_
  refine nn_arrW (ty := .int) C hM (atype := .int) (t0 := 0) (c0 := (cs.1)) (N' := 8) (8, .inl (fun _ => 0)) nw7 rfl rfl nn_uI (fun _ => rfl) (by decide) rfl (Nat.le_of_ble_eq_true rfl) (Nat.le_of_ble_eq_true rfl) (Nat.le_of_ble_eq_true rfl) (dd_at td_X12_init 188 rfl) (fun q21 H hM => ?_)
  refine nn_putF C hM (K := RX12) (T := TX12) (k := 37) (ty0 := tyX12) rfl nn_Win tyX12_ok nmX12 (Nat.le_of_ble_eq_true rfl) nw43 rfl rfl rfl rfl rfl (dd_at td_X12_init 189 rfl) (fun H locs hM => ?_)
  refine lv_aload_n C.1 C.2.1 (dd_at td_X12_init 190 rfl) rfl (lv_at hl 0 rfl) ?_
  refine lv_iconst (v := (0 : Int32)) C.1 C.2.1 (dd_at td_X12_init 191 rfl) (by decide) ?_
  refine nn_put C hM (ref := RX12) (K := RX12) (T := TX12) (k := 38) (ty0 := tyX12) rfl nn_Win tyX12_ok nmX12 (Nat.le_of_ble_eq_true rfl) nw44 rfl rfl rfl rfl (dd_at td_X12_init 192 rfl) (fun H locs hM => ?_)
  refine lv_aload_n C.1 C.2.1 (dd_at td_X12_init 193 rfl) rfl (lv_at hl 0 rfl) ?_
  refine lv_iconst (v := (-1 : Int32)) C.1 C.2.1 (dd_at td_X12_init 194 rfl) (by decide) ?_
  refine nn_put C hM (ref := RX12) (K := RX12) (T := TX12) (k := 39) (ty0 := tyX12) rfl nn_Win tyX12_ok nmX12 (Nat.le_of_ble_eq_true rfl) nw45 rfl rfl rfl rfl (dd_at td_X12_init 195 rfl) (fun H locs hM => ?_)
  refine lv_aload_n C.1 C.2.1 (dd_at td_X12_init 196 rfl) rfl (lv_at hl 0 rfl) ?_
  refine lv_iconst (v := (0 : Int32)) C.1 C.2.1 (dd_at td_X12_init 197 rfl) (by decide) ?_
  refine nn_put C hM (ref := RX12) (K := RX12) (T := TX12) (k := 40) (ty0 := tyX12) rfl nn_Win tyX12_ok nmX12 (Nat.le_of_ble_eq_true rfl) nw46 rfl rfl rfl rfl (dd_at td_X12_init 198 rfl) (fun H locs hM => ?_)
  refine lv_aload_n C.1 C.2.1 (dd_at td_X12_init 199 rfl) rfl (lv_at hl 0 rfl) ?_
  refine lv_iconst (v := (0 : Int32)) C.1 C.2.1 (dd_at td_X12_init 200 rfl) (by decide) ?_
  refine nn_put C hM (ref := RX12) (K := RX12) (T := TX12) (k := 41) (ty0 := tyX12) rfl nn_Win tyX12_ok nmX12 (Nat.le_of_ble_eq_true rfl) nw47 rfl rfl rfl rfl (dd_at td_X12_init 201 rfl) (fun H locs hM => ?_)
  refine lv_aload_n C.1 C.2.1 (dd_at td_X12_init 202 rfl) rfl (lv_at hl 0 rfl) ?_
  refine lv_iconst (v := (0 : Int32)) C.1 C.2.1 (dd_at td_X12_init 203 rfl) (by decide) ?_
  refine nn_put C hM (ref := RX12) (K := RX12) (T := TX12) (k := 42) (ty0 := tyX12) rfl nn_Win tyX12_ok nmX12 (Nat.le_of_ble_eq_true rfl) nw48 rfl rfl rfl rfl (dd_at td_X12_init 204 rfl) (fun H locs hM => ?_)
  refine lv_aload_n C.1 C.2.1 (dd_at td_X12_init 205 rfl) rfl (lv_at hl 0 rfl) ?_
  refine lv_iconst (v := (0 : Int32)) C.1 C.2.1 (dd_at td_X12_init 206 rfl) (by decide) ?_
  refine nn_put C hM (ref := RX12) (K := RX12) (T := TX12) (k := 43) (ty0 := tyX12) rfl nn_Win tyX12_ok nmX12 (Nat.le_of_ble_eq_true rfl) nw49 rfl rfl rfl rfl (dd_at td_X12_init 207 rfl) (fun H locs hM => ?_)
  refine lv_aload_n C.1 C.2.1 (dd_at td_X12_init 208 rfl) rfl (lv_at hl 0 rfl) ?_
  refine lv_iconst (v := (0 : Int32)) C.1 C.2.1 (dd_at td_X12_init 209 rfl) (by decide) ?_
  refine nn_put C hM (ref := RX12) (K := RX12) (T := TX12) (k := 44) (ty0 := tyX12) rfl nn_Win tyX12_ok nmX12 (Nat.le_of_ble_eq_true rfl) nw50 rfl rfl rfl rfl (dd_at td_X12_init 210 rfl) (fun H locs hM => ?_)
  refine lv_aload_n C.1 C.2.1 (dd_at td_X12_init 211 rfl) rfl (lv_at hl 0 rfl) ?_
  refine lv_iconst (v := (0 : Int32)) C.1 C.2.1 (dd_at td_X12_init 212 rfl) (by decide) ?_
  refine nn_put C hM (ref := RX12) (K := RX12) (T := TX12) (k := 45) (ty0 := tyX12) rfl nn_Win tyX12_ok nmX12 (Nat.le_of_ble_eq_true rfl) nw51 rfl rfl rfl rfl (dd_at td_X12_init 213 rfl) (fun H locs hM => ?_)
  refine lv_aload_n C.1 C.2.1 (dd_at td_X12_init 214 rfl) rfl (lv_at hl 0 rfl) ?_
  refine lv_iconst (v := (0 : Int32)) C.1 C.2.1 (dd_at td_X12_init 215 rfl) (by decide) ?_
  refine nn_put C hM (ref := RX12) (K := RX12) (T := TX12) (k := 46) (ty0 := tyX12) rfl nn_Win tyX12_ok nmX12 (Nat.le_of_ble_eq_true rfl) nw52 rfl rfl rfl rfl (dd_at td_X12_init 216 rfl) (fun H locs hM => ?_)
  refine lv_aload_n C.1 C.2.1 (dd_at td_X12_init 217 rfl) rfl (lv_at hl 0 rfl) ?_
  refine lv_bipush (v := (6 : Int32)) C.1 C.2.1 (dd_at td_X12_init 218 rfl) (by decide) ?_
  refine nn_arrW (ty := .int) C hM (atype := .int) (t0 := 0) (c0 := (cs.1)) (N' := 6) (6, .inl (fun _ => 0)) nw7 rfl rfl nn_uI (fun _ => rfl) (by decide) rfl (Nat.le_of_ble_eq_true rfl) (Nat.le_of_ble_eq_true rfl) (Nat.le_of_ble_eq_true rfl) (dd_at td_X12_init 219 rfl) (fun q22 H hM => ?_)
  refine nn_putF C hM (K := RX12) (T := TX12) (k := 47) (ty0 := tyX12) rfl nn_Win tyX12_ok nmX12 (Nat.le_of_ble_eq_true rfl) nw53 rfl rfl rfl rfl rfl (dd_at td_X12_init 220 rfl) (fun H locs hM => ?_)
  refine lv_aload_n C.1 C.2.1 (dd_at td_X12_init 221 rfl) rfl (lv_at hl 0 rfl) ?_
  refine lv_bipush (v := (6 : Int32)) C.1 C.2.1 (dd_at td_X12_init 222 rfl) (by decide) ?_
  refine nn_arrW (ty := .int) C hM (atype := .int) (t0 := 0) (c0 := (cs.1)) (N' := 6) (6, .inl (fun _ => 0)) nw7 rfl rfl nn_uI (fun _ => rfl) (by decide) rfl (Nat.le_of_ble_eq_true rfl) (Nat.le_of_ble_eq_true rfl) (Nat.le_of_ble_eq_true rfl) (dd_at td_X12_init 223 rfl) (fun q23 H hM => ?_)
  refine nn_putF C hM (K := RX12) (T := TX12) (k := 48) (ty0 := tyX12) rfl nn_Win tyX12_ok nmX12 (Nat.le_of_ble_eq_true rfl) nw54 rfl rfl rfl rfl rfl (dd_at td_X12_init 224 rfl) (fun H locs hM => ?_)
  refine lv_aload_n C.1 C.2.1 (dd_at td_X12_init 225 rfl) rfl (lv_at hl 0 rfl) ?_
  refine lv_bipush (v := (6 : Int32)) C.1 C.2.1 (dd_at td_X12_init 226 rfl) (by decide) ?_
  refine nn_arrW (ty := .int) C hM (atype := .int) (t0 := 0) (c0 := (cs.1)) (N' := 6) (6, .inl (fun _ => 0)) nw7 rfl rfl nn_uI (fun _ => rfl) (by decide) rfl (Nat.le_of_ble_eq_true rfl) (Nat.le_of_ble_eq_true rfl) (Nat.le_of_ble_eq_true rfl) (dd_at td_X12_init 227 rfl) (fun q24 H hM => ?_)
  refine nn_putF C hM (K := RX12) (T := TX12) (k := 49) (ty0 := tyX12) rfl nn_Win tyX12_ok nmX12 (Nat.le_of_ble_eq_true rfl) nw55 rfl rfl rfl rfl rfl (dd_at td_X12_init 228 rfl) (fun H locs hM => ?_)
  refine lv_aload_n C.1 C.2.1 (dd_at td_X12_init 229 rfl) rfl (lv_at hl 0 rfl) ?_
  refine lv_bipush (v := (24 : Int32)) C.1 C.2.1 (dd_at td_X12_init 230 rfl) (by decide) ?_
  refine nn_arrW (ty := .int) C hM (atype := .int) (t0 := 0) (c0 := (cs.1)) (N' := 24) (24, .inl (fun _ => 0)) nw7 rfl rfl nn_uI (fun _ => rfl) (by decide) rfl (Nat.le_of_ble_eq_true rfl) (Nat.le_of_ble_eq_true rfl) (Nat.le_of_ble_eq_true rfl) (dd_at td_X12_init 231 rfl) (fun q25 H hM => ?_)
  refine nn_putF C hM (K := RX12) (T := TX12) (k := 50) (ty0 := tyX12) rfl nn_Win tyX12_ok nmX12 (Nat.le_of_ble_eq_true rfl) nw56 rfl rfl rfl rfl rfl (dd_at td_X12_init 232 rfl) (fun H locs hM => ?_)
  refine lv_aload_n C.1 C.2.1 (dd_at td_X12_init 233 rfl) rfl (lv_at hl 0 rfl) ?_
  refine lv_bipush (v := (8 : Int32)) C.1 C.2.1 (dd_at td_X12_init 234 rfl) (by decide) ?_
  refine nn_arrW (ty := .int) C hM (atype := .int) (t0 := 0) (c0 := (cs.1)) (N' := 8) (8, .inl (fun _ => 0)) nw7 rfl rfl nn_uI (fun _ => rfl) (by decide) rfl (Nat.le_of_ble_eq_true rfl) (Nat.le_of_ble_eq_true rfl) (Nat.le_of_ble_eq_true rfl) (dd_at td_X12_init 235 rfl) (fun q26 H hM => ?_)
  refine nn_putF C hM (K := RX12) (T := TX12) (k := 51) (ty0 := tyX12) rfl nn_Win tyX12_ok nmX12 (Nat.le_of_ble_eq_true rfl) nw57 rfl rfl rfl rfl rfl (dd_at td_X12_init 236 rfl) (fun H locs hM => ?_)
  refine lv_aload_n C.1 C.2.1 (dd_at td_X12_init 237 rfl) rfl (lv_at hl 0 rfl) ?_
  refine lv_iconst (v := (5 : Int32)) C.1 C.2.1 (dd_at td_X12_init 238 rfl) (by decide) ?_
  refine nn_arrW (ty := .int) C hM (atype := .int) (t0 := 0) (c0 := (cs.1)) (N' := 5) (5, .inl (fun _ => 0)) nw7 rfl rfl nn_uI (fun _ => rfl) (by decide) rfl (Nat.le_of_ble_eq_true rfl) (Nat.le_of_ble_eq_true rfl) (Nat.le_of_ble_eq_true rfl) (dd_at td_X12_init 239 rfl) (fun q27 H hM => ?_)
  refine nn_putF C hM (K := RX12) (T := TX12) (k := 52) (ty0 := tyX12) rfl nn_Win tyX12_ok nmX12 (Nat.le_of_ble_eq_true rfl) nw58 rfl rfl rfl rfl rfl (dd_at td_X12_init 240 rfl) (fun H locs hM => ?_)
  refine lv_aload_n C.1 C.2.1 (dd_at td_X12_init 241 rfl) rfl (lv_at hl 0 rfl) ?_
  refine lv_iconst (v := (5 : Int32)) C.1 C.2.1 (dd_at td_X12_init 242 rfl) (by decide) ?_
  refine nn_arrW (ty := .int) C hM (atype := .int) (t0 := 0) (c0 := (cs.1)) (N' := 5) (5, .inl (fun _ => 0)) nw7 rfl rfl nn_uI (fun _ => rfl) (by decide) rfl (Nat.le_of_ble_eq_true rfl) (Nat.le_of_ble_eq_true rfl) (Nat.le_of_ble_eq_true rfl) (dd_at td_X12_init 243 rfl) (fun q28 H hM => ?_)
  refine nn_putF C hM (K := RX12) (T := TX12) (k := 53) (ty0 := tyX12) rfl nn_Win tyX12_ok nmX12 (Nat.le_of_ble_eq_true rfl) nw59 rfl rfl rfl rfl rfl (dd_at td_X12_init 244 rfl) (fun H locs hM => ?_)
  refine lv_aload_n C.1 C.2.1 (dd_at td_X12_init 245 rfl) rfl (lv_at hl 0 rfl) ?_
  refine lv_iconst (v := (5 : Int32)) C.1 C.2.1 (dd_at td_X12_init 246 rfl) (by decide) ?_
  refine nn_arrW (ty := .int) C hM (atype := .int) (t0 := 0) (c0 := (cs.1)) (N' := 5) (5, .inl (fun _ => 0)) nw7 rfl rfl nn_uI (fun _ => rfl) (by decide) rfl (Nat.le_of_ble_eq_true rfl) (Nat.le_of_ble_eq_true rfl) (Nat.le_of_ble_eq_true rfl) (dd_at td_X12_init 247 rfl) (fun q29 H hM => ?_)
  refine nn_putF C hM (K := RX12) (T := TX12) (k := 54) (ty0 := tyX12) rfl nn_Win tyX12_ok nmX12 (Nat.le_of_ble_eq_true rfl) nw60 rfl rfl rfl rfl rfl (dd_at td_X12_init 248 rfl) (fun H locs hM => ?_)
  refine lv_aload_n C.1 C.2.1 (dd_at td_X12_init 249 rfl) rfl (lv_at hl 0 rfl) ?_
  refine lv_bipush (v := (8 : Int32)) C.1 C.2.1 (dd_at td_X12_init 250 rfl) (by decide) ?_
  refine nn_arrW (ty := .int) C hM (atype := .int) (t0 := 0) (c0 := (cs.1)) (N' := 8) (8, .inl (fun _ => 0)) nw7 rfl rfl nn_uI (fun _ => rfl) (by decide) rfl (Nat.le_of_ble_eq_true rfl) (Nat.le_of_ble_eq_true rfl) (Nat.le_of_ble_eq_true rfl) (dd_at td_X12_init 251 rfl) (fun q30 H hM => ?_)
  refine nn_putF C hM (K := RX12) (T := TX12) (k := 55) (ty0 := tyX12) rfl nn_Win tyX12_ok nmX12 (Nat.le_of_ble_eq_true rfl) nw61 rfl rfl rfl rfl rfl (dd_at td_X12_init 252 rfl) (fun H locs hM => ?_)
  refine lv_aload_n C.1 C.2.1 (dd_at td_X12_init 253 rfl) rfl (lv_at hl 0 rfl) ?_
  refine lv_bipush (v := (8 : Int32)) C.1 C.2.1 (dd_at td_X12_init 254 rfl) (by decide) ?_
  refine nn_arrW (ty := .int) C hM (atype := .int) (t0 := 0) (c0 := (cs.1)) (N' := 8) (8, .inl (fun _ => 0)) nw7 rfl rfl nn_uI (fun _ => rfl) (by decide) rfl (Nat.le_of_ble_eq_true rfl) (Nat.le_of_ble_eq_true rfl) (Nat.le_of_ble_eq_true rfl) (dd_at td_X12_init 255 rfl) (fun q31 H hM => ?_)
  refine nn_putF C hM (K := RX12) (T := TX12) (k := 56) (ty0 := tyX12) rfl nn_Win tyX12_ok nmX12 (Nat.le_of_ble_eq_true rfl) nw62 rfl rfl rfl rfl rfl (dd_at td_X12_init 256 rfl) (fun H locs hM => ?_)
  refine lv_aload_n C.1 C.2.1 (dd_at td_X12_init 257 rfl) rfl (lv_at hl 0 rfl) ?_
  refine lv_iconst (v := (0 : Int32)) C.1 C.2.1 (dd_at td_X12_init 258 rfl) (by decide) ?_
  refine nn_put C hM (ref := RX12) (K := RX12) (T := TX12) (k := 57) (ty0 := tyX12) rfl nn_Win tyX12_ok nmX12 (Nat.le_of_ble_eq_true rfl) nw63 rfl rfl rfl rfl (dd_at td_X12_init 259 rfl) (fun H locs hM => ?_)
  refine lv_aload_n C.1 C.2.1 (dd_at td_X12_init 260 rfl) rfl (lv_at hl 0 rfl) ?_
  refine lv_bipush (v := (20 : Int32)) C.1 C.2.1 (dd_at td_X12_init 261 rfl) (by decide) ?_
  refine nn_arrW (ty := .int) C hM (atype := .int) (t0 := 0) (c0 := (cs.1)) (N' := 20) (20, .inl (fun _ => 0)) nw7 rfl rfl nn_uI (fun _ => rfl) (by decide) rfl (Nat.le_of_ble_eq_true rfl) (Nat.le_of_ble_eq_true rfl) (Nat.le_of_ble_eq_true rfl) (dd_at td_X12_init 262 rfl) (fun q32 H hM => ?_)
  refine nn_putF C hM (K := RX12) (T := TX12) (k := 58) (ty0 := tyX12) rfl nn_Win tyX12_ok nmX12 (Nat.le_of_ble_eq_true rfl) nw64 rfl rfl rfl rfl rfl (dd_at td_X12_init 263 rfl) (fun H locs hM => ?_)
  refine lv_aload_n C.1 C.2.1 (dd_at td_X12_init 264 rfl) rfl (lv_at hl 0 rfl) ?_
  refine lv_bipush (v := (6 : Int32)) C.1 C.2.1 (dd_at td_X12_init 265 rfl) (by decide) ?_
  refine nn_arrW (ty := .int) C hM (atype := .int) (t0 := 0) (c0 := (cs.1)) (N' := 6) (6, .inl (fun _ => 0)) nw7 rfl rfl nn_uI (fun _ => rfl) (by decide) rfl (Nat.le_of_ble_eq_true rfl) (Nat.le_of_ble_eq_true rfl) (Nat.le_of_ble_eq_true rfl) (dd_at td_X12_init 266 rfl) (fun q33 H hM => ?_)
  refine lv_dup C.1 C.2.1 (dd_at td_X12_init 267 rfl) rfl ?_
  refine lv_iconst (v := (0 : Int32)) C.1 C.2.1 (dd_at td_X12_init 268 rfl) (by decide) ?_
  refine lv_iconst (v := (-1 : Int32)) C.1 C.2.1 (dd_at td_X12_init 269 rfl) (by decide) ?_
  refine nn_astW C hM (t0 := 0) rfl (by unfold vp_in; decide) (dd_at td_X12_init 270 rfl) (fun H locs hM => ?_)
  refine lv_dup C.1 C.2.1 (dd_at td_X12_init 271 rfl) rfl ?_
  refine lv_iconst (v := (1 : Int32)) C.1 C.2.1 (dd_at td_X12_init 272 rfl) (by decide) ?_
  refine lv_iconst (v := (-1 : Int32)) C.1 C.2.1 (dd_at td_X12_init 273 rfl) (by decide) ?_
  refine nn_astW C hM (t0 := 0) rfl (by unfold vp_in; decide) (dd_at td_X12_init 274 rfl) (fun H locs hM => ?_)
  refine lv_dup C.1 C.2.1 (dd_at td_X12_init 275 rfl) rfl ?_
  refine lv_iconst (v := (2 : Int32)) C.1 C.2.1 (dd_at td_X12_init 276 rfl) (by decide) ?_
  refine lv_iconst (v := (-1 : Int32)) C.1 C.2.1 (dd_at td_X12_init 277 rfl) (by decide) ?_
  refine nn_astW C hM (t0 := 0) rfl (by unfold vp_in; decide) (dd_at td_X12_init 278 rfl) (fun H locs hM => ?_)
  refine lv_dup C.1 C.2.1 (dd_at td_X12_init 279 rfl) rfl ?_
  refine lv_iconst (v := (3 : Int32)) C.1 C.2.1 (dd_at td_X12_init 280 rfl) (by decide) ?_
  refine lv_iconst (v := (-1 : Int32)) C.1 C.2.1 (dd_at td_X12_init 281 rfl) (by decide) ?_
  refine nn_astW C hM (t0 := 0) rfl (by unfold vp_in; decide) (dd_at td_X12_init 282 rfl) (fun H locs hM => ?_)
  refine lv_dup C.1 C.2.1 (dd_at td_X12_init 283 rfl) rfl ?_
  refine lv_iconst (v := (4 : Int32)) C.1 C.2.1 (dd_at td_X12_init 284 rfl) (by decide) ?_
  refine lv_iconst (v := (-1 : Int32)) C.1 C.2.1 (dd_at td_X12_init 285 rfl) (by decide) ?_
  refine nn_astW C hM (t0 := 0) rfl (by unfold vp_in; decide) (dd_at td_X12_init 286 rfl) (fun H locs hM => ?_)
  refine lv_dup C.1 C.2.1 (dd_at td_X12_init 287 rfl) rfl ?_
  refine lv_iconst (v := (5 : Int32)) C.1 C.2.1 (dd_at td_X12_init 288 rfl) (by decide) ?_
  refine lv_iconst (v := (-1 : Int32)) C.1 C.2.1 (dd_at td_X12_init 289 rfl) (by decide) ?_
  refine nn_astW C hM (t0 := 0) rfl (by unfold vp_in; decide) (dd_at td_X12_init 290 rfl) (fun H locs hM => ?_)
  refine nn_putF C hM (K := RX12) (T := TX12) (k := 59) (ty0 := tyX12) rfl nn_Win tyX12_ok nmX12 (Nat.le_of_ble_eq_true rfl) nw65 rfl rfl rfl rfl rfl (dd_at td_X12_init 291 rfl) (fun H locs hM => ?_)
  refine lv_aload_n C.1 C.2.1 (dd_at td_X12_init 292 rfl) rfl (lv_at hl 0 rfl) ?_
  refine lv_bipush (v := (6 : Int32)) C.1 C.2.1 (dd_at td_X12_init 293 rfl) (by decide) ?_
  refine nn_arrW (ty := .int) C hM (atype := .int) (t0 := 0) (c0 := (cs.1)) (N' := 6) (6, .inl (fun _ => 0)) nw7 rfl rfl nn_uI (fun _ => rfl) (by decide) rfl (Nat.le_of_ble_eq_true rfl) (Nat.le_of_ble_eq_true rfl) (Nat.le_of_ble_eq_true rfl) (dd_at td_X12_init 294 rfl) (fun q34 H hM => ?_)
  refine nn_putF C hM (K := RX12) (T := TX12) (k := 60) (ty0 := tyX12) rfl nn_Win tyX12_ok nmX12 (Nat.le_of_ble_eq_true rfl) nw66 rfl rfl rfl rfl rfl (dd_at td_X12_init 295 rfl) (fun H locs hM => ?_)
  refine lv_aload_n C.1 C.2.1 (dd_at td_X12_init 296 rfl) rfl (lv_at hl 0 rfl) ?_
  refine lv_sipush (v := (360 : Int32)) C.1 C.2.1 (dd_at td_X12_init 297 rfl) (by decide) ?_
  refine nn_arrW (ty := .long) C hM (atype := .long) (t0 := 2) (c0 := (cs.2.2)) (N' := 360) (360, .inr (.inl (fun _ => 0))) nw31 rfl rfl nn_uJ (fun _ => rfl) (by decide) rfl (Nat.le_of_ble_eq_true rfl) (Nat.le_of_ble_eq_true rfl) (Nat.le_of_ble_eq_true rfl) (dd_at td_X12_init 298 rfl) (fun q35 H hM => ?_)
  refine nn_putF C hM (K := RX12) (T := TX12) (k := 61) (ty0 := tyX12) rfl nn_Win tyX12_ok nmX12 (Nat.le_of_ble_eq_true rfl) nw67 rfl rfl rfl rfl rfl (dd_at td_X12_init 299 rfl) (fun H locs hM => ?_)
  refine lv_aload_n C.1 C.2.1 (dd_at td_X12_init 300 rfl) rfl (lv_at hl 0 rfl) ?_
  refine lv_bipush (v := (60 : Int32)) C.1 C.2.1 (dd_at td_X12_init 301 rfl) (by decide) ?_
  refine nn_arrW (ty := .long) C hM (atype := .long) (t0 := 2) (c0 := (cs.2.2)) (N' := 60) (60, .inr (.inl (fun _ => 0))) nw31 rfl rfl nn_uJ (fun _ => rfl) (by decide) rfl (Nat.le_of_ble_eq_true rfl) (Nat.le_of_ble_eq_true rfl) (Nat.le_of_ble_eq_true rfl) (dd_at td_X12_init 302 rfl) (fun q36 H hM => ?_)
  refine nn_putF C hM (K := RX12) (T := TX12) (k := 62) (ty0 := tyX12) rfl nn_Win tyX12_ok nmX12 (Nat.le_of_ble_eq_true rfl) nw68 rfl rfl rfl rfl rfl (dd_at td_X12_init 303 rfl) (fun H locs hM => ?_)
  refine W.widen (k := 37) (n := 1954) (Nat.le_of_ble_eq_true rfl) (Nat.le_of_ble_eq_true rfl) ?_
  exact nn_vr C hM ⟨rfl, (fun k => if k = 4 then q0 else if k = 5 then q1 else if k = 6 then q2 else if k = 7 then q3 else if k = 13 then q4 else if k = 14 then q5 else if k = 15 then q6 else if k = 16 then q7 else if k = 17 then q8 else if k = 18 then q9 else if k = 19 then q10 else if k = 20 then q11 else if k = 24 then q12 else if k = 25 then q13 else if k = 26 then q14 else if k = 28 then q15 else if k = 30 then q16 else if k = 33 then q17 else if k = 34 then q18 else if k = 35 then q19 else if k = 36 then q20 else if k = 37 then q21 else if k = 47 then q22 else if k = 48 then q23 else if k = 49 then q24 else if k = 50 then q25 else if k = 51 then q26 else if k = 52 then q27 else if k = 53 then q28 else if k = 54 then q29 else if k = 55 then q30 else if k = 56 then q31 else if k = 58 then q32 else if k = 59 then q33 else if k = 60 then q34 else if k = 61 then q35 else if k = 62 then q36 else 0), nn_mfin x0 q0 q1 q2 q3 q4 q5 q6 q7 q8 q9 q10 q11 q12 q13 q14 q15 q16 q17 q18 q19 q20 q21 q22 q23 q24 q25 q26 q27 q28 q29 q30 q31 q32 q33 q34 q35 q36 cs⟩ (dd_at td_X12_init 304 rfl)
