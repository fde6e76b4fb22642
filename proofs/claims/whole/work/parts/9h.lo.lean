/-! the law: its switch and its loop -/
theorem lw_rc : room_1.cells = 600000 := by decide +kernel
theorem lw_rs : room_1.slots = 7302250 := by decide +kernel
theorem lw_nIi {a : Nat} (h : a < 2 ^ 31) : (nI a).toInt = (a : Int) := Int32.toInt_ofNat_of_lt h
theorem lw_gt {i L : Nat} (hi : i < 10000) (hL : L ≤ 3072) : (nI L - 6 < nI i) ↔ ¬ i + 6 ≤ L := by
  by_cases h : 6 ≤ L
  · rw [show (6 : Int32) = nI 6 from rfl, nI_subN h (by omega), nI_lt_iff (by omega) (by omega)]
    omega
  · have hc : nI L - 6 < 0 := by
      rcases (show L = 0 ∨ L = 1 ∨ L = 2 ∨ L = 3 ∨ L = 4 ∨ L = 5 by omega) with rfl | rfl | rfl | rfl | rfl | rfl <;> decide
    have h0 : (0 : Int32) ≤ nI i := (nI_le_iff (a := 0) (by omega) (by omega)).mpr (Nat.zero_le i)
    exact ⟨fun _ => by omega, fun _ => Int32.lt_of_lt_of_le hc h0⟩
theorem lw_63 (x : Int32) : ∃ j, j ≤ 63 ∧ x &&& 63 = nI j := by
  have h : (x &&& 63).toBitVec.toNat ≤ 63 := by
    rw [Int32.toBitVec_and, BitVec.toNat_and]
    exact Nat.and_le_right
  refine ⟨_, h, ?_⟩
  apply Int32.toBitVec_inj.mp
  show _ = (Int32.ofNat _).toBitVec
  rw [Int32.toBitVec_ofNat']
  simp
section LH
variable {p : Program} {l : Launch} {e : Env} {s : State} {m : MethodId} {below : List Frame} {meth : Method} {c : Code} {H : Heap} {locs : List Loc} {cells slots : Nat} {Q : State → Prop} {ls : Array Slot} {D : va_G} {ct : Nat → ClassId} {cs : ClassId × ClassId × ClassId} {z : pp_Z} {b L x0 xr i : Nat} {xs : Nat → Int32}
theorem lw_sw (Cx : lw_C p s m meth c b L xs D ct cs z) (hI : lw_I s D ct cs x0 xr H locs) (hl : lv_has ls 4 [(3, .int (nI i)), (2, .ref xr), (1, .ref x0), (0, .ref b)]) (hi : i + 6 ≤ L) (hr : cells + 16 ≤ room_1.cells ∧ slots + 1600 ≤ room_1.slots) (kk : ∀ (H : Heap) (locs : List Loc), lw_I s D ct cs x0 xr H locs → W p l e room_1 s m #[Value.ref b] below meth c H locs (cells + 16) (slots + 1600) Q (F0 m 1343 ls [])) (j : Nat) (hj : j ≤ 63) : W p l e room_1 s m #[Value.ref b] below meth c H locs cells slots Q (F0 m 33 ls [.int (nI j)]) := by
  have hd : decode code 33 = .ok (.tableswitch 1310 0 36 #[163, 196, 229, 272, 295, 318, 341, 384, 407, 420, 443, 477, 510, 544, 578, 622, 645, 679, 702, 725, 748, 771, 814, 847, 870, 903, 916, 949, 962, 975, 1018, 1041, 1074, 1097, 1140, 1213, 1247], 163) := lw_dc (l := [(33, .tableswitch 1310 0 36 #[163, 196, 229, 272, 295, 318, 341, 384, 407, 420, 443, 477, 510, 544, 578, 622, 645, 679, 702, 725, 748, 771, 814, 847, 870, 903, 916, 949, 962, 975, 1018, 1041, 1074, 1097, 1140, 1213, 1247], 163)]) (by decide +kernel) 0 rfl
  have C1 := Cx.1
  have hr0 : cells ≤ room_1.cells ∧ slots ≤ room_1.slots := ⟨by omega, by omega⟩
  have kp : ∀ (H : Heap) (locs : List Loc), lw_I s D ct cs x0 xr H locs → W p l e room_1 s m #[Value.ref b] below meth c H locs cells slots Q (F0 m 1343 ls []) := fun H locs hI => W.widen (k := cells + 16) (n := slots + 1600) (by omega) (by omega) (kk H locs hI)
  by_cases h : j = 0
  · subst h
    exact lv_tableIn (x := nI 0) (off := 163) (tgt := 196) C1.1 C1.2.1 hd (by decide) (by decide) rfl (by decide) (lk_need Cx hI hl hi hr kk)
  by_cases h : j = 1
  · subst h
    exact lv_tableIn (x := nI 1) (off := 196) (tgt := 229) C1.1 C1.2.1 hd (by decide) (by decide) rfl (by decide) (lk_of Cx hI hl hi hr0 kp)
  by_cases h : j = 2
  · subst h
    exact lv_tableIn (x := nI 2) (off := 229) (tgt := 262) C1.1 C1.2.1 hd (by decide) (by decide) rfl (by decide) (lk_worth Cx hI hl hi hr0 kp)
  by_cases h : j = 3
  · subst h
    exact lv_tableIn (x := nI 3) (off := 272) (tgt := 305) C1.1 C1.2.1 hd (by decide) (by decide) rfl (by decide) (lk_serve Cx hI hl hi hr0 kp)
  by_cases h : j = 4
  · subst h
    exact lv_tableIn (x := nI 4) (off := 295) (tgt := 328) C1.1 C1.2.1 hd (by decide) (by decide) rfl (by decide) (lk_spare Cx hI hl hi hr0 kp)
  by_cases h : j = 5
  · subst h
    exact lv_tableIn (x := nI 5) (off := 318) (tgt := 351) C1.1 C1.2.1 hd (by decide) (by decide) rfl (by decide) (lk_darks Cx hI hl hi hr0 kp)
  by_cases h : j = 6
  · subst h
    exact lv_tableIn (x := nI 6) (off := 341) (tgt := 374) C1.1 C1.2.1 hd (by decide) (by decide) rfl (by decide) (lk_row Cx hI hl hi hr0 kp)
  by_cases h : j = 7
  · subst h
    exact lv_tableIn (x := nI 7) (off := 384) (tgt := 417) C1.1 C1.2.1 hd (by decide) (by decide) rfl (by decide) (lk_feed Cx hI hl hi hr kk)
  by_cases h : j = 8
  · subst h
    exact lv_tableIn (x := nI 8) (off := 407) (tgt := 440) C1.1 C1.2.1 hd (by decide) (by decide) rfl (by decide) (lk_archive Cx hI hl hi hr kk)
  by_cases h : j = 9
  · subst h
    exact lv_tableIn (x := nI 9) (off := 420) (tgt := 453) C1.1 C1.2.1 hd (by decide) (by decide) rfl (by decide) (lk_told Cx hI hl hi hr0 kp)
  by_cases h : j = 10
  · subst h
    exact lv_tableIn (x := nI 10) (off := 443) (tgt := 476) C1.1 C1.2.1 hd (by decide) (by decide) rfl (by decide) (lk_mean Cx hI hl hi hr0 kp)
  by_cases h : j = 11
  · subst h
    exact lv_tableIn (x := nI 11) (off := 477) (tgt := 510) C1.1 C1.2.1 hd (by decide) (by decide) rfl (by decide) (lk_wise Cx hI hl hi hr0 kp)
  by_cases h : j = 12
  · subst h
    exact lv_tableIn (x := nI 12) (off := 510) (tgt := 543) C1.1 C1.2.1 hd (by decide) (by decide) rfl (by decide) (lk_price Cx hI hl hi hr0 kp)
  by_cases h : j = 13
  · subst h
    exact lv_tableIn (x := nI 13) (off := 544) (tgt := 577) C1.1 C1.2.1 hd (by decide) (by decide) rfl (by decide) (lk_greedy Cx hI hl hi hr0 kp)
  by_cases h : j = 14
  · subst h
    exact lv_tableIn (x := nI 14) (off := 578) (tgt := 611) C1.1 C1.2.1 hd (by decide) (by decide) rfl (by decide) (lk_only Cx hI hl hi hr0 kp)
  by_cases h : j = 15
  · subst h
    exact lv_tableIn (x := nI 15) (off := 622) (tgt := 655) C1.1 C1.2.1 hd (by decide) (by decide) rfl (by decide) (lk_chosen Cx hI hl hi hr0 kp)
  by_cases h : j = 16
  · subst h
    exact lv_tableIn (x := nI 16) (off := 645) (tgt := 678) C1.1 C1.2.1 hd (by decide) (by decide) rfl (by decide) (lk_spent Cx hI hl hi hr0 kp)
  by_cases h : j = 17
  · subst h
    exact lv_tableIn (x := nI 17) (off := 679) (tgt := 712) C1.1 C1.2.1 hd (by decide) (by decide) rfl (by decide) (lk_threshold Cx hI hl hi hr0 kp)
  by_cases h : j = 18
  · subst h
    exact lv_tableIn (x := nI 18) (off := 702) (tgt := 735) C1.1 C1.2.1 hd (by decide) (by decide) rfl (by decide) (lk_century Cx hI hl hi hr0 kp)
  by_cases h : j = 19
  · subst h
    exact lv_tableIn (x := nI 19) (off := 725) (tgt := 758) C1.1 C1.2.1 hd (by decide) (by decide) rfl (by decide) (lk_plan Cx hI hl hi hr0 kp)
  by_cases h : j = 20
  · subst h
    exact lv_tableIn (x := nI 20) (off := 748) (tgt := 781) C1.1 C1.2.1 hd (by decide) (by decide) rfl (by decide) (lk_ends Cx hI hl hi hr0 kp)
  by_cases h : j = 21
  · subst h
    exact lv_tableIn (x := nI 21) (off := 771) (tgt := 804) C1.1 C1.2.1 hd (by decide) (by decide) rfl (by decide) (lk_see Cx hI hl hi hr0 kp)
  by_cases h : j = 22
  · subst h
    exact lv_tableIn (x := nI 22) (off := 814) (tgt := 847) C1.1 C1.2.1 hd (by decide) (by decide) rfl (by decide) (lk_can Cx hI hl hi hr0 kp)
  by_cases h : j = 23
  · subst h
    exact lv_tableIn (x := nI 23) (off := 847) (tgt := 880) C1.1 C1.2.1 hd (by decide) (by decide) rfl (by decide) (lk_darked Cx hI hl hi hr0 kp)
  by_cases h : j = 24
  · subst h
    exact lv_tableIn (x := nI 24) (off := 870) (tgt := 903) C1.1 C1.2.1 hd (by decide) (by decide) rfl (by decide) (lk_book Cx hI hl hi hr0 kp)
  by_cases h : j = 25
  · subst h
    exact lv_tableIn (x := nI 25) (off := 903) (tgt := 936) C1.1 C1.2.1 hd (by decide) (by decide) rfl (by decide) (lk_looked Cx hI hl hi hr0 kp)
  by_cases h : j = 26
  · subst h
    exact lv_tableIn (x := nI 26) (off := 916) (tgt := 949) C1.1 C1.2.1 hd (by decide) (by decide) rfl (by decide) (lk_judge Cx hI hl hi hr0 kp)
  by_cases h : j = 27
  · subst h
    exact lv_tableIn (x := nI 27) (off := 949) (tgt := 982) C1.1 C1.2.1 hd (by decide) (by decide) rfl (by decide) (lk_image Cx hI hl hi hr0 kp)
  by_cases h : j = 28
  · subst h
    exact lv_tableIn (x := nI 28) (off := 962) (tgt := 995) C1.1 C1.2.1 hd (by decide) (by decide) rfl (by decide) (lk_undo Cx hI hl hi hr0 kp)
  by_cases h : j = 29
  · subst h
    exact lv_tableIn (x := nI 29) (off := 975) (tgt := 1008) C1.1 C1.2.1 hd (by decide) (by decide) rfl (by decide) (lk_act Cx hI hl hi hr0 kp)
  by_cases h : j = 30
  · subst h
    exact lv_tableIn (x := nI 30) (off := 1018) (tgt := 1051) C1.1 C1.2.1 hd (by decide) (by decide) rfl (by decide) (lk_trace Cx hI hl hi hr0 kp)
  by_cases h : j = 31
  · subst h
    exact lv_tableIn (x := nI 31) (off := 1041) (tgt := 1074) C1.1 C1.2.1 hd (by decide) (by decide) rfl (by decide) (lk_taken Cx hI hl hi hr0 kp)
  by_cases h : j = 32
  · subst h
    exact lv_tableIn (x := nI 32) (off := 1074) (tgt := 1107) C1.1 C1.2.1 hd (by decide) (by decide) rfl (by decide) (lk_count Cx hI hl hi hr0 kp)
  by_cases h : j = 33
  · subst h
    exact lv_tableIn (x := nI 33) (off := 1097) (tgt := 1130) C1.1 C1.2.1 hd (by decide) (by decide) rfl (by decide) (lk_tape Cx hI hl hi hr0 kp)
  by_cases h : j = 34
  · subst h
    exact lv_tableIn (x := nI 34) (off := 1140) (tgt := 1173) C1.1 C1.2.1 hd (by decide) (by decide) rfl (by decide) (lk_item Cx hI hl hi hr0 kp)
  by_cases h : j = 35
  · subst h
    exact lv_tableIn (x := nI 35) (off := 1213) (tgt := 1246) C1.1 C1.2.1 hd (by decide) (by decide) rfl (by decide) (lk_read Cx hI hl hi hr0 kp)
  by_cases h : j = 36
  · subst h
    exact lv_tableIn (x := nI 36) (off := 1247) (tgt := 1280) C1.1 C1.2.1 hd (by decide) (by decide) rfl (by decide) (lk_shift Cx hI hl hi hr0 kp)
  exact lv_tableOut (tgt := 1343) C1.1 C1.2.1 hd (Or.inr (by rw [lw_nIi (by omega)]; omega)) (by decide) (kp H locs hI)
set_option maxRecDepth 100000 in
theorem lw_loop (Cx : lw_C p s m meth c b L xs D ct cs z) : ∀ (n i : Nat) (H : Heap) (locs : List Loc) (cells slots : Nat) (ls : Array Slot), L < i + 6 * n + 6 → i ≤ 3078 → lw_I s D ct cs x0 xr H locs → lv_has ls 4 [(3, .int (nI i)), (2, .ref xr), (1, .ref x0), (0, .ref b)] → cells + 16 * n ≤ 600000 → slots + 1600 * n ≤ 7302250 → W p l e room_1 s m #[Value.ref b] below meth c H locs cells slots (lw_Z below #[Value.ref b] s) (F0 m 18 ls []) := by
  have hdx : lw_ok [(18, .iload_n 3, 1), (19, .aload_n 0, 1), (20, .arraylength, 1), (21, .bipush 6, 2), (23, .isub, 1), (24, .if_icmp .gt 1325, 3), (1349, .iconst 1, 1), (1350, .ireturn, 1), (27, .aload_n 0, 1), (28, .iload_n 3, 1), (29, .iaload, 1), (30, .bipush 63, 2), (32, .iand, 1), (1343, .iinc 3 6, 3), (1346, .goto (-1328), 3)] = true := by decide +kernel
  have hC := Cx
  obtain ⟨C1, C2, hX, hb, hL, hz⟩ := Cx
  intro n
  induction n with
  | zero =>
    intro i H locs cells slots ls hLi hi hI hl hc hs
    have hS : va_S (fun q => s.heap.size ≤ q) s.heap H locs := by
      obtain ⟨_, _, _, _, _, _, _, _, -, -, -, -, -, -, -, -, -, -, -, -, hH⟩ := hI
      exact hH.2.2.1
    refine lv_iload_n C1.1 C1.2.1 (lw_dc hdx 0 rfl) rfl (lv_at hl 0 rfl) ?_
    refine lv_aload_n C1.1 C1.2.1 (lw_dc hdx 1 rfl) rfl (lv_at hl 3 rfl) ?_
    refine va_slen C1.1 C1.2.1 hX hb (fun h => by omega) hS (lw_dc hdx 2 rfl) ?_
    refine lv_bipush (v := (6 : Int32)) C1.1 C1.2.1 (lw_dc hdx 3 rfl) (by decide) ?_
    refine lv_isub C1.1 C1.2.1 (lw_dc hdx 4 rfl) ?_
    refine lv_icmp_gt (tgt := 1349) C1.1 C1.2.1 (lw_dc hdx 5 rfl) (by decide) (fun _ => ?_) (fun h => absurd ((lw_gt (by omega) hL).mpr (by omega)) h)
    refine lv_iconst (v := 1) C1.1 C1.2.1 (lw_dc hdx 6 rfl) (by decide) ?_
    refine W.widen (k := 600000) (n := 7302250) (by omega) (by omega) ?_
    exact W.forget (locs := []) (L := locs) hS.2.2 (lw_ret C1.1 C1.2.1 C1.2.2.1 C1.2.2.2.2.2.2.1 (lw_dc hdx 7 rfl))
  | succ n ih =>
    intro i H locs cells slots ls hLi hi hI hl hc hs
    have hS : va_S (fun q => s.heap.size ≤ q) s.heap H locs := by
      obtain ⟨_, _, _, _, _, _, _, _, -, -, -, -, -, -, -, -, -, -, -, -, hH⟩ := hI
      exact hH.2.2.1
    refine lv_iload_n C1.1 C1.2.1 (lw_dc hdx 0 rfl) rfl (lv_at hl 0 rfl) ?_
    refine lv_aload_n C1.1 C1.2.1 (lw_dc hdx 1 rfl) rfl (lv_at hl 3 rfl) ?_
    refine va_slen C1.1 C1.2.1 hX hb (fun h => by omega) hS (lw_dc hdx 2 rfl) ?_
    refine lv_bipush (v := (6 : Int32)) C1.1 C1.2.1 (lw_dc hdx 3 rfl) (by decide) ?_
    refine lv_isub C1.1 C1.2.1 (lw_dc hdx 4 rfl) ?_
    refine lv_icmp_gt (tgt := 1349) C1.1 C1.2.1 (lw_dc hdx 5 rfl) (by decide) (fun _ => ?_) (fun h => ?_)
    · refine lv_iconst (v := 1) C1.1 C1.2.1 (lw_dc hdx 6 rfl) (by decide) ?_
      refine W.widen (k := 600000) (n := 7302250) (by omega) (by omega) ?_
      exact W.forget (locs := []) (L := locs) hS.2.2 (lw_ret C1.1 C1.2.1 C1.2.2.1 C1.2.2.2.2.2.2.1 (lw_dc hdx 7 rfl))
    have h6 : i + 6 ≤ L := Classical.byContradiction fun q => h ((lw_gt (by omega) hL).mpr q)
    refine lv_aload_n C1.1 C1.2.1 (lw_dc hdx 8 rfl) rfl (lv_at hl 3 rfl) ?_
    refine lv_iload_n C1.1 C1.2.1 (lw_dc hdx 9 rfl) rfl (lv_at hl 0 rfl) ?_
    refine va_sld C1.1 C1.2.1 hX hb (fun h => by omega) hS (fc_of_ix (nI_ix (by omega) (by omega))) (lw_dc hdx 10 rfl) ?_
    rw [nI_clamp (by omega)]
    refine lv_bipush (v := (63 : Int32)) C1.1 C1.2.1 (lw_dc hdx 11 rfl) (by decide) ?_
    refine lv_iand C1.1 C1.2.1 (lw_dc hdx 12 rfl) ?_
    obtain ⟨j, hj, ej⟩ := lw_63 (xs i)
    rw [ej]
    refine lw_sw hC hI hl h6 ⟨by rw [lw_rc]; omega, by rw [lw_rs]; omega⟩ (fun H locs hI => ?_) j hj
    refine lv_iinc (v := nI (i + 6)) (lv' := [(3, .int (nI (i + 6))), (2, .ref xr), (1, .ref x0), (0, .ref b)]) C1.1 C1.2.1 (lw_dc hdx 13 rfl) hl (k := 0) rfl (by rw [show Int32.ofInt 6 = nI 6 from rfl, nI_add]) (by decide) rfl (fun ls hl => ?_)
    refine lv_goto (tgt := 18) C1.1 C1.2.1 (lw_dc hdx 14 rfl) (by decide) ?_
    exact ih (i + 6) H locs _ _ ls (by omega) (by omega) hI hl (by omega) (by omega)
end LH
