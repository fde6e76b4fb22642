/-! StringBuilder and String, as the JDK's code; a StringBuilder of Latin-1 letters: n of them, in an array of m bytes -/
def sb_W : List Cond := Cond.selects RJ4 yJ5_ensureCapacityInternal_d00df yJ5_ensureCapacityInternal_d00df :: Cond.selects RJ4 yJ5_newCapacity_0f7a4 yJ5_newCapacity_0f7a4 :: cc_W
theorem sb_c {w : Cond} (h : w ∈ cc_W) : w ∈ sb_W := List.mem_cons_of_mem _ (List.mem_cons_of_mem _ h)
theorem sb_s0 : Cond.selects RJ4 yJ5_ensureCapacityInternal_d00df yJ5_ensureCapacityInternal_d00df ∈ sb_W := List.mem_cons_self
theorem sb_s1 : Cond.selects RJ4 yJ5_newCapacity_0f7a4 yJ5_newCapacity_0f7a4 ∈ sb_W := List.mem_cons_of_mem _ List.mem_cons_self
theorem sb_Wgood : ∀ w ∈ sb_W, goodWord w = true := by
  intro w hw
  rcases List.mem_cons.mp hw with rfl | hw
  · rfl
  rcases List.mem_cons.mp hw with rfl | hw
  · rfl
  exact cc_Wgood w hw
theorem sb_gd {L : List Cond} (h : ∀ w ∈ L, w ∈ sb_W) : GoodIn sb_W L := fun w hw => ⟨h w hw, good_of_word (sb_Wgood w (h w hw))⟩
theorem sb_inJ0 : ∀ w ∈ u_ws RJ0 TJ0 4, w ∈ sb_W := fun w h => sb_c (cc_inJ0 w h)
theorem sb_inJ4 : ∀ w ∈ u_ws RJ4 TJ4 4, w ∈ sb_W := fun w h => sb_c (cc_inJ4 w h)
theorem sb_gd1 {y : MethodName} {b : ByteArray} {n : Nat} {rt : Option FieldType} (h : Cond.code y b n rt ∈ sb_W) : GoodIn sb_W (Cond.code y b n rt :: sb_W) := sb_gd (fun w hw => by
  rcases List.mem_cons.mp hw with rfl | hw
  · exact h
  · exact hw)
theorem sb_gdV {own : String} {i n : Nat} {C : String} {y : MethodName} {b : ByteArray} {rt : Option FieldType} (h1 : Cond.methodLink own i y ∈ sb_W) (h2 : Cond.instanceMethod y ∈ sb_W) (h3 : Cond.selects C y y ∈ sb_W) (h4 : Cond.initialized C ∈ sb_W) (h5 : Cond.code y b n rt ∈ sb_W) : GoodIn sb_W (wsV own i C y (Cond.code y b n rt :: sb_W)) := by
  have hm : ∀ w ∈ wsV own i C y (Cond.code y b n rt :: sb_W), w ∈ sb_W := by
    intro w hw
    simp only [wsV, List.mem_append, List.mem_cons, List.not_mem_nil, or_false] at hw
    rcases hw with (rfl | rfl | rfl | rfl) | (rfl | h)
    · exact h1
    · exact h2
    · exact h3
    · exact h4
    · exact h5
    · exact h
  exact fun w hw => ⟨hm w hw, good_of_word (sb_Wgood w (hm w hw))⟩
theorem sb_gdU {own : String} {i n : Nat} {C owner : String} {x y : MethodName} {b : ByteArray} {rt : Option FieldType} (h1 : Cond.methodLink own i x ∈ sb_W) (h2 : Cond.sameMethod x.cls owner x.name x.desc ∈ sb_W) (h3 : Cond.selects C x y ∈ sb_W) (h4 : Cond.instanceMethod y ∈ sb_W) (h5 : Cond.initialized y.cls ∈ sb_W) (h6 : Cond.code y b n rt ∈ sb_W) : GoodIn sb_W (va_wsU own i C owner x y (Cond.code y b n rt :: sb_W)) := by
  have hm : ∀ w ∈ va_wsU own i C owner x y (Cond.code y b n rt :: sb_W), w ∈ sb_W := by
    intro w hw
    simp only [va_wsU, List.mem_append, List.mem_cons, List.not_mem_nil, or_false] at hw
    rcases hw with (rfl | rfl | rfl | rfl | rfl) | (rfl | h)
    · exact h1
    · exact h2
    · exact h3
    · exact h4
    · exact h5
    · exact h6
    · exact h
  exact fun w hw => ⟨hm w hw, good_of_word (sb_Wgood w (hm w hw))⟩
theorem sb_gdO {own : String} {i n : Nat} {C owner : String} {x y : MethodName} {b : ByteArray} {rt : Option FieldType} (h1 : Cond.methodLink own i x ∈ sb_W) (h2 : Cond.sameMethod x.cls owner x.name x.desc ∈ sb_W) (h7 : Cond.instanceMethod ⟨owner, x.name, x.desc⟩ ∈ sb_W) (h3 : Cond.selects C x y ∈ sb_W) (h4 : Cond.instanceMethod y ∈ sb_W) (h5 : Cond.initialized y.cls ∈ sb_W) (h6 : Cond.code y b n rt ∈ sb_W) : GoodIn sb_W (va_wsO own i C owner x y (Cond.code y b n rt :: sb_W)) := by
  have hm : ∀ w ∈ va_wsO own i C owner x y (Cond.code y b n rt :: sb_W), w ∈ sb_W := by
    intro w hw
    simp only [va_wsO, List.mem_append, List.mem_cons, List.not_mem_nil, or_false] at hw
    rcases hw with (rfl | rfl | rfl | rfl | rfl | rfl) | (rfl | h)
    · exact h1
    · exact h2
    · exact h7
    · exact h3
    · exact h4
    · exact h5
    · exact h6
    · exact h
  exact fun w hw => ⟨hm w hw, good_of_word (sb_Wgood w (hm w hw))⟩
theorem sb_gdSU {own : String} {i n : Nat} {y : MethodName} {b : ByteArray} {rt : Option FieldType} (h1 : Cond.methodLink own i y ∈ sb_W) (h2 : Cond.sameMethod y.cls y.cls y.name y.desc ∈ sb_W) (h3 : Cond.superclass own y.cls ∈ sb_W) (h4 : Cond.instanceMethod y ∈ sb_W) (h5 : Cond.initialized y.cls ∈ sb_W) (h6 : Cond.code y b n rt ∈ sb_W) : GoodIn sb_W (va_wsSU own i y (Cond.code y b n rt :: sb_W)) := by
  have hm : ∀ w ∈ va_wsSU own i y (Cond.code y b n rt :: sb_W), w ∈ sb_W := by
    intro w hw
    simp only [va_wsSU, List.mem_append, List.mem_cons, List.not_mem_nil, or_false] at hw
    rcases hw with (rfl | rfl | rfl | rfl | rfl) | (rfl | h)
    · exact h1
    · exact h2
    · exact h3
    · exact h4
    · exact h5
    · exact h6
    · exact h
  exact fun w hw => ⟨hm w hw, good_of_word (sb_Wgood w (hm w hw))⟩
theorem sb_gdS {own : String} {i n : Nat} {y : MethodName} {b : ByteArray} {rt : Option FieldType} (h1 : Cond.methodLink own i y ∈ sb_W) (h2 : Cond.static y ∈ sb_W) (h3 : Cond.initialized y.cls ∈ sb_W) (h6 : Cond.code y b n rt ∈ sb_W) : GoodIn sb_W (va_wsS own i y (Cond.code y b n rt :: sb_W)) := by
  have hm : ∀ w ∈ va_wsS own i y (Cond.code y b n rt :: sb_W), w ∈ sb_W := by
    intro w hw
    simp only [va_wsS, List.mem_append, List.mem_cons, List.not_mem_nil, or_false] at hw
    rcases hw with (rfl | rfl | rfl) | (rfl | h)
    · exact h1
    · exact h2
    · exact h3
    · exact h6
    · exact h
  exact fun w hw => ⟨hm w hw, good_of_word (sb_Wgood w (hm w hw))⟩
section NO
variable {p : Program} {l : Launch} {e : Env} {R : Room} {s : State} {m : MethodId} {args : Array Value} {below : List Frame} {meth : Method} {c : Code} {H : Heap} {locs : List Loc} {cells slots : Nat} {Q : State → Prop}
variable {cc : ByteArray} {nL : Nat} {ret : Option FieldType} {own nm : String} {Wd : List Cond} {pc : Nat} {ls : Array Slot} {rest : List Value} {D : va_G} {tys : List (ClassId × FieldType)} {B : Nat} {z : pp_Z} {A : Nat → Prop} {ws ar : va_W} {o ci N : Nat} {F : Nat → Value}
variable {wc : va_W} {y x : MethodName} {host Cl owner : String} {bytes b0 : ByteArray} {maxL fr lo mc ms n index m0 q : Nat} {rt r0 : Option FieldType} {As : List Value} {post : Option Value → va_W → Prop} {stk : List Value}
theorem nn_cO (C : nn_C p s m args meth c cc nL ret own nm Wd D tys B z A) (hM : nn_H D A s.heap (ws ++ wc) H locs) (hcv : ∃ cell : Cell, H[q]? = some cell ∧ cell.vm.isStatics = false ∧ s.vm.findClass Cl = some cell.cls) (hMet : nn_M l D Wd tys B z y bytes maxL rt fr lo mc ms (.ref q :: As) wc post) (hg : GoodIn Wd (va_wsO own index Cl owner x y (Cond.code y bytes maxL rt :: Wd))) (h0 : Cond.code ⟨owner, x.name, x.desc⟩ b0 m0 r0 ∈ Wd) (hd : owner ≠ "java/lang/invoke/MethodHandle" ∧ owner ≠ "java/lang/invoke/VarHandle" ∧ (parseMethodDescriptor x.desc).map (fun d => d.parameters.length) = some n) (hR : fr + 1 ≤ R.frames ∧ 8 + (maxL + 11) + lo ≤ R.locals) (hn : As.length = n) (hsz : ls.size = nL) (hst : stk = As.reverse ++ .ref q :: rest) (hW : (rest.map fun v => v.category).sum ≤ 8) (hdg : decode cc pc = .ok (.invokevirtual index, 3)) (hf : cells + mc ≤ R.cells ∧ slots + ms ≤ R.slots)
    (kk : ∀ (r : Option Value) (u : va_W) (H : Heap) (locs : List Loc), post r u → nn_H D A s.heap (ws ++ u) H locs → W p l e R s m args below meth c H locs (cells + mc) (slots + ms) Q (F0 m (pc + 3) ls (r.toList ++ rest))) : W p l e R s m args below meth c H locs cells slots Q (F0 m pc ls (stk)) :=
  nn_aft C hM (va_runU (As := As) (rest := rest) (nn_fix C) (hMet H.size) (va_cwO n (fun w hw => nn_w C hw) hg rfl rfl rfl h0 hd hR) ⟨nn_blind, hcv, nn_pc C hM⟩ rfl hn hsz hst (lv_room hW) hdg hf) kk
end NO
theorem nn_min {n m : Nat} (h : n ≤ m) (hm : m < 2 ^ 31) : (if nI n < nI m then nI n else nI m) = nI n := by
  by_cases e : n < m
  · exact if_pos (nI_lt e hm)
  · rw [if_neg (nI_nlt (by omega) (by omega)), show m = n by omega]
def nn_by (ct : Nat → ClassId) (b m : Nat) (f : Nat → Int32) : Nat × va_E := (b, .inl (ct 5, m, .inl f))
def nn_bo (a b : Nat) (ml n : Int32) : Nat × va_E := (a, .inr (1, [.ref b, .int 0, .int ml, .int n]))
def tbn_J1_canEncode_fc78d : List (Nat × Instr × Nat) := [(0, .iload_n 0, 1), (1, .sipush 255, 3), (4, .if_icmp .gt 7, 3), (7, .iconst 1, 1), (8, .goto 4, 3), (11, .iconst 0, 1), (12, .ireturn, 1)]
theorem tdn_J1_canEncode_fc78d : tbn_J1_canEncode_fc78d.all (fun q => decide (decode cJ1_canEncode_fc78d q.1 = .ok (q.2.1, q.2.2))) = true := by decide +kernel
set_option maxHeartbeats 4000000 in
set_option maxRecDepth 100000 in
theorem n_canEncode (l : Launch) (D : va_G) (B : Nat) (z : pp_Z) (ct : Nat → ClassId) (x : Nat) (hx : x < 256) : nn_M l D sb_W (nn_ts ct) B z yJ1_canEncode_fc78d cJ1_canEncode_fc78d 1 (some .boolean) 1 12 0 0 [.int (nI x)] [] (fun r u => r = some (.int 1) ∧ u = []) := by
  refine nn_enter (own := RJ1) (by decide) rfl (Nat.le_of_ble_eq_true rfl) ?_
  intro p e s mi args below meth c ls A C hl hM
  have hl : lv_has ls 1 [(0, .int (nI x))] := hl
  have hM : nn_H D A s.heap [] s.heap [] := hM
  refine lv_iload_n C.1 C.2.1 (dd_at tdn_J1_canEncode_fc78d 0 rfl) rfl (lv_at hl 0 rfl) ?_
  refine lv_sipush (v := (255 : Int32)) C.1 C.2.1 (dd_at tdn_J1_canEncode_fc78d 1 rfl) (by decide) ?_
  refine lv_icmp_gt (tgt := 11) C.1 C.2.1 (dd_at tdn_J1_canEncode_fc78d 2 rfl) (by decide) (fun h => absurd h (show ¬ nI 255 < nI x from nI_nlt (by omega) (by omega))) (fun _ => ?_)
  refine lv_iconst (v := (1 : Int32)) C.1 C.2.1 (dd_at tdn_J1_canEncode_fc78d 3 rfl) (by decide) ?_
  refine lv_goto (tgt := 12) C.1 C.2.1 (dd_at tdn_J1_canEncode_fc78d 4 rfl) (by decide) ?_
  exact nn_zr C hM rfl ⟨rfl, rfl⟩ (dd_at tdn_J1_canEncode_fc78d 6 rfl)
def tbn_J5_isLatin1_aae02 : List (Nat × Instr × Nat) := [(0, .getstatic 18, 3), (3, .ifCond .eq 14, 3), (6, .aload_n 0, 1), (7, .getfield 22, 3), (10, .ifCond .ne 7, 3), (13, .iconst 1, 1), (14, .goto 4, 3), (17, .iconst 0, 1), (18, .ireturn, 1)]
theorem tdn_J5_isLatin1_aae02 : tbn_J5_isLatin1_aae02.all (fun q => decide (decode cJ5_isLatin1_aae02 q.1 = .ok (q.2.1, q.2.2))) = true := by decide +kernel
set_option maxHeartbeats 4000000 in
set_option maxRecDepth 100000 in
theorem n_isLatin1 (l : Launch) (D : va_G) (B : Nat) (z : pp_Z) (ct : Nat → ClassId) (a b : Nat) (ml : Int32) (n m : Nat) (f : Nat → Int32) : nn_M l D sb_W (nn_ts ct) B z yJ5_isLatin1_aae02 cJ5_isLatin1_aae02 1 (some .boolean) 1 12 0 0 [.ref a] [nn_bo a b ml (nI n), nn_by ct b m f] (fun r u => r = some (.int 1) ∧ u = [nn_bo a b ml (nI n), nn_by ct b m f]) := by
  refine nn_enter (own := RJ5) (by decide) rfl (Nat.le_of_ble_eq_true rfl) ?_
  intro p e s mi args below meth c ls A C hl hM
  have hl : lv_has ls 1 [(0, .ref a)] := hl
  have hM : nn_H D A s.heap [(a, .inr (1, [.ref b, .int (0 : Int32), .int ml, .int (nI n)])), (b, .inl (ct 5, m, .inl f))] s.heap [] := hM
  refine nn_gets (ref := "java/lang/String") C hM (nn_e C).2.2.2.2.1.1 (sb_c cw486) rfl (dd_at tdn_J5_isLatin1_aae02 0 rfl) ?_
  refine lv_if_eq (tgt := 17) C.1 C.2.1 (dd_at tdn_J5_isLatin1_aae02 1 rfl) (by decide) (fun h => absurd h (by decide)) (fun _ => ?_)
  refine lv_aload_n C.1 C.2.1 (dd_at tdn_J5_isLatin1_aae02 2 rfl) rfl (lv_at hl 0 rfl) ?_
  refine nn_get C hM 0 (K := RJ4) (T := TJ4) (N := 4) (k := 1) (ref := "java/lang/AbstractStringBuilder") (v := .int (0 : Int32)) rfl rfl sb_inJ4 (Nat.le_of_ble_eq_true rfl) (sb_c cw488) rfl rfl (dd_at tdn_J5_isLatin1_aae02 3 rfl) ?_
  refine lv_if_ne (tgt := 17) C.1 C.2.1 (dd_at tdn_J5_isLatin1_aae02 4 rfl) (by decide) (fun h => absurd h (fun q => q rfl)) (fun _ => ?_)
  refine lv_iconst (v := (1 : Int32)) C.1 C.2.1 (dd_at tdn_J5_isLatin1_aae02 5 rfl) (by decide) ?_
  refine lv_goto (tgt := 18) C.1 C.2.1 (dd_at tdn_J5_isLatin1_aae02 6 rfl) (by decide) ?_
  exact nn_zr C hM rfl ⟨rfl, rfl⟩ (dd_at tdn_J5_isLatin1_aae02 8 rfl)
def tbn_J5_length_8abf5 : List (Nat × Instr × Nat) := [(0, .aload_n 0, 1), (1, .getfield 79, 3), (4, .ireturn, 1)]
theorem tdn_J5_length_8abf5 : tbn_J5_length_8abf5.all (fun q => decide (decode cJ5_length_8abf5 q.1 = .ok (q.2.1, q.2.2))) = true := by decide +kernel
set_option maxHeartbeats 4000000 in
set_option maxRecDepth 100000 in
theorem n_length5 (l : Launch) (D : va_G) (B : Nat) (z : pp_Z) (ct : Nat → ClassId) (a b : Nat) (ml : Int32) (n m : Nat) (f : Nat → Int32) : nn_M l D sb_W (nn_ts ct) B z yJ5_length_8abf5 cJ5_length_8abf5 1 (some .int) 1 12 0 0 [.ref a] [nn_bo a b ml (nI n), nn_by ct b m f] (fun r u => r = some (.int (nI n)) ∧ u = [nn_bo a b ml (nI n), nn_by ct b m f]) := by
  refine nn_enter (own := RJ5) (by decide) rfl (Nat.le_of_ble_eq_true rfl) ?_
  intro p e s mi args below meth c ls A C hl hM
  have hl : lv_has ls 1 [(0, .ref a)] := hl
  have hM : nn_H D A s.heap [(a, .inr (1, [.ref b, .int (0 : Int32), .int ml, .int (nI n)])), (b, .inl (ct 5, m, .inl f))] s.heap [] := hM
  refine lv_aload_n C.1 C.2.1 (dd_at tdn_J5_length_8abf5 0 rfl) rfl (lv_at hl 0 rfl) ?_
  refine nn_get C hM 0 (K := RJ4) (T := TJ4) (N := 4) (k := 3) (ref := "java/lang/AbstractStringBuilder") (v := .int (nI n)) rfl rfl sb_inJ4 (Nat.le_of_ble_eq_true rfl) (sb_c cw579) rfl rfl (dd_at tdn_J5_length_8abf5 1 rfl) ?_
  exact nn_ir C hM ⟨rfl, rfl⟩ (dd_at tdn_J5_length_8abf5 2 rfl)
theorem hnS_J5_length_8abf5 : yJ5_length_8abf5.name ≠ "<init>" ∧ (parseMethodDescriptor yJ5_length_8abf5.desc).map (fun d => d.parameters.length) = some 0 := by decide +kernel
def tbn_J4_length_8abf5 : List (Nat × Instr × Nat) := [(0, .aload_n 0, 1), (1, .invokespecial 343, 3), (4, .ireturn, 1)]
theorem tdn_J4_length_8abf5 : tbn_J4_length_8abf5.all (fun q => decide (decode cJ4_length_8abf5 q.1 = .ok (q.2.1, q.2.2))) = true := by decide +kernel
set_option maxHeartbeats 4000000 in
set_option maxRecDepth 100000 in
theorem n_length (l : Launch) (D : va_G) (B : Nat) (z : pp_Z) (ct : Nat → ClassId) (a b : Nat) (ml : Int32) (n m : Nat) (f : Nat → Int32) : nn_M l D sb_W (nn_ts ct) B z yJ4_length_8abf5 cJ4_length_8abf5 1 (some .int) 2 32 0 0 [.ref a] [nn_bo a b ml (nI n), nn_by ct b m f] (fun r u => r = some (.int (nI n)) ∧ u = [nn_bo a b ml (nI n), nn_by ct b m f]) := by
  refine nn_enter (own := RJ4) (by decide) rfl (Nat.le_of_ble_eq_true rfl) ?_
  intro p e s mi args below meth c ls A C hl hM
  have hl : lv_has ls 1 [(0, .ref a)] := hl
  have hM : nn_H D A s.heap [(a, .inr (1, [.ref b, .int (0 : Int32), .int ml, .int (nI n)])), (b, .inl (ct 5, m, .inl f))] s.heap [] := hM
  refine lv_aload_n C.1 C.2.1 (dd_at tdn_J4_length_8abf5 0 rfl) rfl (lv_at hl 0 rfl) ?_
  refine nn_cSU (Cl := RJ4) (ws := []) (wc := [(a, .inr (1, [.ref b, .int (0 : Int32), .int ml, .int (nI n)])), (b, .inl (ct 5, m, .inl f))]) (n := 0) (As := []) (rest := []) C hM (nn_rcv C hM (q0 := 0) rfl rfl) ⟨_, ((nn_K C).1 1 _ rfl).2⟩ (n_length5 l D B z ct a b ml n m f) (sb_gdSU (sb_c cw581) (sb_c cw582) (sb_c cw583) (sb_c cw584) (sb_c cw494) (sb_c cw578)) hnS_J5_length_8abf5 ⟨(Nat.le_of_ble_eq_true rfl), (Nat.le_of_ble_eq_true rfl)⟩ rfl hl.1 rfl (Nat.le_of_ble_eq_true rfl) (dd_at tdn_J4_length_8abf5 1 rfl) ⟨(Nat.le_of_ble_eq_true rfl), (Nat.le_of_ble_eq_true rfl)⟩ (fun r u H locs hu hM => ?_)
  obtain ⟨rfl, rfl⟩ := hu
  have hM : nn_H D A s.heap ([(a, .inr (1, [.ref b, .int (0 : Int32), .int ml, .int (nI n)])), (b, .inl (ct 5, m, .inl f))]) H _ := hM
  exact nn_ir C hM ⟨rfl, rfl⟩ (dd_at tdn_J4_length_8abf5 2 rfl)
def tbn_J8_newLength_cabcc : List (Nat × Instr × Nat) := [(0, .iload_n 0, 1), (1, .iload_n 1, 1), (2, .iload_n 2, 1), (3, .invokestatic 194, 3), (6, .iadd, 1), (7, .istore_n 3, 1), (8, .iconst 0, 1), (9, .iload_n 3, 1), (10, .if_icmp .ge 11, 3), (13, .iload_n 3, 1), (14, .ldc 200, 2), (16, .if_icmp .gt 5, 3), (19, .iload_n 3, 1), (20, .ireturn, 1), (21, .iload_n 0, 1), (22, .iload_n 1, 1), (23, .invokestatic 201, 3), (26, .ireturn, 1)]
theorem tdn_J8_newLength_cabcc : tbn_J8_newLength_cabcc.all (fun q => decide (decode cJ8_newLength_cabcc q.1 = .ok (q.2.1, q.2.2))) = true := by decide +kernel
set_option maxHeartbeats 4000000 in
set_option maxRecDepth 100000 in
theorem n_newLength (l : Launch) (D : va_G) (B : Nat) (z : pp_Z) (ct : Nat → ClassId) (m g k : Nat) (hg : g < k) (hm : m + k < 65536) : nn_M l D sb_W (nn_ts ct) B z yJ8_newLength_cabcc cJ8_newLength_cabcc 4 (some .int) 2 40 0 0 [.int (nI m), .int (nI g), .int (nI k)] [] (fun r u => r = some (.int (nI (m + k))) ∧ u = []) := by
  refine nn_enter (own := RJ8) (by decide) rfl (Nat.le_of_ble_eq_true rfl) ?_
  intro p e s mi args below meth c ls A C hl hM
  have hl : lv_has ls 4 [(0, .int (nI m)), (1, .int (nI g)), (2, .int (nI k))] := hl
  have hM : nn_H D A s.heap [] s.heap [] := hM
  refine lv_iload_n C.1 C.2.1 (dd_at tdn_J8_newLength_cabcc 0 rfl) rfl (lv_at hl 0 rfl) ?_
  refine lv_iload_n C.1 C.2.1 (dd_at tdn_J8_newLength_cabcc 1 rfl) rfl (lv_at hl 1 rfl) ?_
  refine lv_iload_n C.1 C.2.1 (dd_at tdn_J8_newLength_cabcc 2 rfl) rfl (lv_at hl 2 rfl) ?_
  refine va_mmax C.1 C.2.1 (C.2.2.2.1.trans hl.1.symm) (nn_own C) (nn_w C (sb_c cw588)) (nn_w C (sb_c cw62)) (nn_w C (sb_c cw63)) (nn_w C (sb_c cw64)) (Nat.le_of_ble_eq_true rfl) (Nat.le_of_ble_eq_true rfl) (Nat.le_of_ble_eq_true rfl) (Nat.le_of_ble_eq_true rfl) (dd_at tdn_J8_newLength_cabcc 3 rfl) ?_
  refine lv_topi (fun vy ey => ?_)
  obtain rfl : vy = (nI k) := ey.trans (if_pos (nI_lt hg (by omega)))
  refine lv_iadd C.1 C.2.1 (dd_at tdn_J8_newLength_cabcc 4 rfl) ?_
  refine lv_topi (fun vy ey => ?_)
  obtain rfl : vy = (nI (m + k)) := ey.trans (nI_add m k)
  refine lv_istore_n (lv' := [(3, .int (nI (m + k))), (0, .int (nI m)), (1, .int (nI g)), (2, .int (nI k))]) C.1 C.2.1 (dd_at tdn_J8_newLength_cabcc 5 rfl) rfl hl (by decide) rfl (fun ls hl => ?_)
  refine lv_iconst (v := (0 : Int32)) C.1 C.2.1 (dd_at tdn_J8_newLength_cabcc 6 rfl) (by decide) ?_
  refine lv_iload_n C.1 C.2.1 (dd_at tdn_J8_newLength_cabcc 7 rfl) rfl (lv_at hl 0 rfl) ?_
  refine lv_icmp_ge (tgt := 21) C.1 C.2.1 (dd_at tdn_J8_newLength_cabcc 8 rfl) (by decide) (fun h => absurd h (nI_nle (by omega) (by omega))) (fun _ => ?_)
  refine lv_iload_n C.1 C.2.1 (dd_at tdn_J8_newLength_cabcc 9 rfl) rfl (lv_at hl 0 rfl) ?_
  refine lv_ldc (v := (2147483639 : Int32)) C.1 C.2.1 (nn_own C) (nn_w C (sb_c cw586)) (dd_at tdn_J8_newLength_cabcc 10 rfl) ?_
  refine lv_icmp_gt (tgt := 21) C.1 C.2.1 (dd_at tdn_J8_newLength_cabcc 11 rfl) (by decide) (fun h => absurd h (show ¬ nI 2147483639 < nI (m + k) from nI_nlt (by omega) (by omega))) (fun _ => ?_)
  refine lv_iload_n C.1 C.2.1 (dd_at tdn_J8_newLength_cabcc 12 rfl) rfl (lv_at hl 0 rfl) ?_
  exact nn_ir C hM ⟨rfl, rfl⟩ (dd_at tdn_J8_newLength_cabcc 13 rfl)
theorem hnB_J8_newLength_cabcc : yJ8_newLength_cabcc.cls ≠ "java/lang/invoke/MethodHandle" ∧ yJ8_newLength_cabcc.cls ≠ "java/lang/invoke/VarHandle" ∧ (parseMethodDescriptor yJ8_newLength_cabcc.desc).map (fun d => d.parameters.length) = some 3 := by decide +kernel
def tbn_J5_newCapacity_0f7a4 : List (Nat × Instr × Nat) := [(0, .aload_n 0, 1), (1, .getfield 15, 3), (4, .arraylength, 1), (5, .istore_n 2, 1), (6, .iload_n 1, 1), (7, .aload_n 0, 1), (8, .getfield 22, 3), (11, .ishl, 1), (12, .istore_n 3, 1), (13, .iload_n 3, 1), (14, .iload_n 2, 1), (15, .isub, 1), (16, .istore 4, 2), (18, .iload_n 2, 1), (19, .iload 4, 2), (21, .iload_n 2, 1), (22, .iconst 2, 1), (23, .aload_n 0, 1), (24, .getfield 22, 3), (27, .ishl, 1), (28, .iadd, 1), (29, .invokestatic 114, 3), (32, .istore 5, 2), (34, .iload 5, 2), (36, .ldc 39, 2), (38, .if_icmp .ne 13, 3), (41, .new 120, 3), (44, .dup, 1), (45, .ldc 122, 2), (47, .invokespecial 124, 3), (50, .athrow, 1), (51, .iload 5, 2), (53, .aload_n 0, 1), (54, .getfield 22, 3), (57, .ishr, 1), (58, .ireturn, 1)]
theorem tdn_J5_newCapacity_0f7a4 : tbn_J5_newCapacity_0f7a4.all (fun q => decide (decode cJ5_newCapacity_0f7a4 q.1 = .ok (q.2.1, q.2.2))) = true := by decide +kernel
set_option maxHeartbeats 4000000 in
set_option maxRecDepth 100000 in
theorem n_newCapacity (l : Launch) (D : va_G) (B : Nat) (z : pp_Z) (ct : Nat → ClassId) (a b : Nat) (ml : Int32) (n m : Nat) (f : Nat → Int32) (q : Nat) (hq : m < q) (hq2 : q < 2 * m + 2) (hm : m ≤ 300) : nn_M l D sb_W (nn_ts ct) B z yJ5_newCapacity_0f7a4 cJ5_newCapacity_0f7a4 6 (some .int) 3 63 0 0 [.ref a, .int (nI q)] [nn_bo a b ml (nI n), nn_by ct b m f] (fun r u => r = some (.int (nI (2 * m + 2))) ∧ u = [nn_bo a b ml (nI n), nn_by ct b m f]) := by
  refine nn_enter (own := RJ5) (by decide) rfl (Nat.le_of_ble_eq_true rfl) ?_
  intro p e s mi args below meth c ls A C hl hM
  have hl : lv_has ls 6 [(0, .ref a), (1, .int (nI q))] := hl
  have hM : nn_H D A s.heap [(a, .inr (1, [.ref b, .int (0 : Int32), .int ml, .int (nI n)])), (b, .inl (ct 5, m, .inl f))] s.heap [] := hM
  refine lv_aload_n C.1 C.2.1 (dd_at tdn_J5_newCapacity_0f7a4 0 rfl) rfl (lv_at hl 0 rfl) ?_
  refine nn_get C hM 0 (K := RJ4) (T := TJ4) (N := 4) (k := 0) (ref := "java/lang/AbstractStringBuilder") (v := .ref b) rfl rfl sb_inJ4 (Nat.le_of_ble_eq_true rfl) (sb_c cw487) rfl rfl (dd_at tdn_J5_newCapacity_0f7a4 1 rfl) ?_
  refine nn_aln (v := nI m) C hM 1 (t0 := 5) rfl rfl rfl (dd_at tdn_J5_newCapacity_0f7a4 2 rfl) ?_
  refine lv_istore_n (lv' := [(2, .int (nI m)), (0, .ref a), (1, .int (nI q))]) C.1 C.2.1 (dd_at tdn_J5_newCapacity_0f7a4 3 rfl) rfl hl (by decide) rfl (fun ls hl => ?_)
  refine lv_iload_n C.1 C.2.1 (dd_at tdn_J5_newCapacity_0f7a4 4 rfl) rfl (lv_at hl 2 rfl) ?_
  refine lv_aload_n C.1 C.2.1 (dd_at tdn_J5_newCapacity_0f7a4 5 rfl) rfl (lv_at hl 1 rfl) ?_
  refine nn_get C hM 0 (K := RJ4) (T := TJ4) (N := 4) (k := 1) (ref := "java/lang/AbstractStringBuilder") (v := .int (0 : Int32)) rfl rfl sb_inJ4 (Nat.le_of_ble_eq_true rfl) (sb_c cw488) rfl rfl (dd_at tdn_J5_newCapacity_0f7a4 6 rfl) ?_
  refine lv_ishl C.1 C.2.1 (dd_at tdn_J5_newCapacity_0f7a4 7 rfl) ?_
  refine lv_topi (fun vy ey => ?_)
  obtain rfl : vy = (nI q) := ey.trans (sb_shl0 _)
  refine lv_istore_n (lv' := [(3, .int (nI q)), (2, .int (nI m)), (0, .ref a), (1, .int (nI q))]) C.1 C.2.1 (dd_at tdn_J5_newCapacity_0f7a4 8 rfl) rfl hl (by decide) rfl (fun ls hl => ?_)
  refine lv_iload_n C.1 C.2.1 (dd_at tdn_J5_newCapacity_0f7a4 9 rfl) rfl (lv_at hl 0 rfl) ?_
  refine lv_iload_n C.1 C.2.1 (dd_at tdn_J5_newCapacity_0f7a4 10 rfl) rfl (lv_at hl 1 rfl) ?_
  refine lv_isub C.1 C.2.1 (dd_at tdn_J5_newCapacity_0f7a4 11 rfl) ?_
  refine lv_topi (fun vy ey => ?_)
  obtain rfl : vy = (nI (q - m)) := ey.trans (nI_subN (by omega) (by omega))
  refine lv_istore (lv' := [(4, .int (nI (q - m))), (3, .int (nI q)), (2, .int (nI m)), (0, .ref a), (1, .int (nI q))]) C.1 C.2.1 (dd_at tdn_J5_newCapacity_0f7a4 12 rfl) hl (by decide) rfl (fun ls hl => ?_)
  refine lv_iload_n C.1 C.2.1 (dd_at tdn_J5_newCapacity_0f7a4 13 rfl) rfl (lv_at hl 2 rfl) ?_
  refine lv_iload C.1 C.2.1 (dd_at tdn_J5_newCapacity_0f7a4 14 rfl) (lv_at hl 0 rfl) ?_
  refine lv_iload_n C.1 C.2.1 (dd_at tdn_J5_newCapacity_0f7a4 15 rfl) rfl (lv_at hl 2 rfl) ?_
  refine lv_iconst (v := (2 : Int32)) C.1 C.2.1 (dd_at tdn_J5_newCapacity_0f7a4 16 rfl) (by decide) ?_
  refine lv_aload_n C.1 C.2.1 (dd_at tdn_J5_newCapacity_0f7a4 17 rfl) rfl (lv_at hl 3 rfl) ?_
  refine nn_get C hM 0 (K := RJ4) (T := TJ4) (N := 4) (k := 1) (ref := "java/lang/AbstractStringBuilder") (v := .int (0 : Int32)) rfl rfl sb_inJ4 (Nat.le_of_ble_eq_true rfl) (sb_c cw488) rfl rfl (dd_at tdn_J5_newCapacity_0f7a4 18 rfl) ?_
  refine lv_ishl C.1 C.2.1 (dd_at tdn_J5_newCapacity_0f7a4 19 rfl) ?_
  refine lv_topi (fun vy ey => ?_)
  obtain rfl : vy = (2 : Int32) := ey.trans (sb_shl0 _)
  refine lv_iadd C.1 C.2.1 (dd_at tdn_J5_newCapacity_0f7a4 20 rfl) ?_
  refine lv_topi (fun vy ey => ?_)
  obtain rfl : vy = (nI (m + 2)) := ey.trans (nI_add m 2)
  refine nn_cS (ws := [(a, .inr (1, [.ref b, .int (0 : Int32), .int ml, .int (nI n)])), (b, .inl (ct 5, m, .inl f))]) (wc := []) (n := 3) (As := [.int (nI m), .int (nI (q - m)), .int (nI (m + 2))]) (rest := []) C hM (n_newLength l D B z ct m (q - m) (m + 2) (by omega) (by omega)) (sb_gdS (sb_c cw594) (sb_c cw595) (sb_c cw591) (sb_c cw587)) hnB_J8_newLength_cabcc ⟨(Nat.le_of_ble_eq_true rfl), (Nat.le_of_ble_eq_true rfl)⟩ rfl hl.1 rfl (Nat.le_of_ble_eq_true rfl) (dd_at tdn_J5_newCapacity_0f7a4 21 rfl) ⟨(Nat.le_of_ble_eq_true rfl), (Nat.le_of_ble_eq_true rfl)⟩ (fun r u H locs hu hM => ?_)
  obtain ⟨rfl, rfl⟩ := hu
  have hM : nn_H D A s.heap ([(a, .inr (1, [.ref b, .int (0 : Int32), .int ml, .int (nI n)])), (b, .inl (ct 5, m, .inl f))]) H _ := hM
  rw [show m + (m + 2) = 2 * m + 2 by omega]
  refine lv_istore (lv' := [(5, .int (nI (2 * m + 2))), (4, .int (nI (q - m))), (3, .int (nI q)), (2, .int (nI m)), (0, .ref a), (1, .int (nI q))]) C.1 C.2.1 (dd_at tdn_J5_newCapacity_0f7a4 22 rfl) hl (by decide) rfl (fun ls hl => ?_)
  refine lv_iload C.1 C.2.1 (dd_at tdn_J5_newCapacity_0f7a4 23 rfl) (lv_at hl 0 rfl) ?_
  refine lv_ldc (v := (2147483647 : Int32)) C.1 C.2.1 (nn_own C) (nn_w C (sb_c cw593)) (dd_at tdn_J5_newCapacity_0f7a4 24 rfl) ?_
  refine lv_icmp_ne (tgt := 51) C.1 C.2.1 (dd_at tdn_J5_newCapacity_0f7a4 25 rfl) (by decide) (fun _ => ?_) (fun h => absurd h (fun h => by have := (nI_eq (by omega) (by decide)).mp (show nI (2 * m + 2) = nI 2147483647 from h); omega))
  refine lv_iload C.1 C.2.1 (dd_at tdn_J5_newCapacity_0f7a4 31 rfl) (lv_at hl 0 rfl) ?_
  refine lv_aload_n C.1 C.2.1 (dd_at tdn_J5_newCapacity_0f7a4 32 rfl) rfl (lv_at hl 4 rfl) ?_
  refine nn_get C hM 0 (K := RJ4) (T := TJ4) (N := 4) (k := 1) (ref := "java/lang/AbstractStringBuilder") (v := .int (0 : Int32)) rfl rfl sb_inJ4 (Nat.le_of_ble_eq_true rfl) (sb_c cw488) rfl rfl (dd_at tdn_J5_newCapacity_0f7a4 33 rfl) ?_
  refine lv_ishr C.1 C.2.1 (dd_at tdn_J5_newCapacity_0f7a4 34 rfl) ?_
  refine lv_topi (fun vy ey => ?_)
  obtain rfl : vy = (nI (2 * m + 2)) := ey.trans (sb_shr0 _)
  exact nn_ir C hM ⟨rfl, rfl⟩ (dd_at tdn_J5_newCapacity_0f7a4 35 rfl)
def tbn_J7_copyOf_9075b : List (Nat × Instr × Nat) := [(0, .iload_n 1, 1), (1, .aload_n 0, 1), (2, .arraylength, 1), (3, .if_icmp .ne 11, 3), (6, .aload_n 0, 1), (7, .invokevirtual 310, 3), (10, .checkcast 311, 3), (13, .areturn, 1), (14, .iload_n 1, 1), (15, .newarray .byte, 2), (17, .astore_n 2, 1), (18, .aload_n 0, 1), (19, .iconst 0, 1), (20, .aload_n 2, 1), (21, .iconst 0, 1), (22, .aload_n 0, 1), (23, .arraylength, 1), (24, .iload_n 1, 1), (25, .invokestatic 304, 3), (28, .invokestatic 150, 3), (31, .aload_n 2, 1), (32, .areturn, 1)]
theorem tdn_J7_copyOf_9075b : tbn_J7_copyOf_9075b.all (fun q => decide (decode cJ7_copyOf_9075b q.1 = .ok (q.2.1, q.2.2))) = true := by decide +kernel
set_option maxHeartbeats 4000000 in
set_option maxRecDepth 100000 in
theorem n_copyOf (l : Launch) (D : va_G) (B : Nat) (z : pp_Z) (ct : Nat → ClassId) (b m q : Nat) (f : Nat → Int32) (hq : m < q) (hq2 : q ≤ 700) (hf : sb_Fit f) : nn_M l D sb_W (nn_ts ct) B z yJ7_copyOf_9075b cJ7_copyOf_9075b 3 (some (.array .byte)) 3 120 1 700 [.ref b, .int (nI q)] [nn_by ct b m f] (fun r u => ∃ w, r = some (.ref w) ∧ u = [nn_by ct b m f, nn_by ct w q (va_cpy f (fun _ => 0) 0 0 m)]) := by
  refine nn_enter (own := RJ7) (by decide) rfl (Nat.le_of_ble_eq_true rfl) ?_
  intro p e s mi args below meth c ls A C hl hM
  have hl : lv_has ls 3 [(0, .ref b), (1, .int (nI q))] := hl
  have hM : nn_H D A s.heap [(b, .inl (ct 5, m, .inl f))] s.heap [] := hM
  refine lv_iload_n C.1 C.2.1 (dd_at tdn_J7_copyOf_9075b 0 rfl) rfl (lv_at hl 1 rfl) ?_
  refine lv_aload_n C.1 C.2.1 (dd_at tdn_J7_copyOf_9075b 1 rfl) rfl (lv_at hl 0 rfl) ?_
  refine nn_aln (v := nI m) C hM 0 (t0 := 5) rfl rfl rfl (dd_at tdn_J7_copyOf_9075b 2 rfl) ?_
  refine lv_icmp_ne (tgt := 14) C.1 C.2.1 (dd_at tdn_J7_copyOf_9075b 3 rfl) (by decide) (fun _ => ?_) (fun h => absurd h (fun h => by have := (nI_eq (by omega) (by omega)).mp h; omega))
  refine lv_iload_n C.1 C.2.1 (dd_at tdn_J7_copyOf_9075b 8 rfl) rfl (lv_at hl 1 rfl) ?_
  refine nn_arr (ty := .byte) C hM (atype := .byte) (t0 := 5) (c0 := ct 5) (N' := q) (q, .inl (fun _ => 0)) (sb_c cw481) rfl rfl nn_uB (fun _ => rfl) (nI_pos (by omega)) (nI_clamp (by omega)) (by show q * 1 ≤ _; omega) (Nat.le_of_ble_eq_true rfl) (by show 0 + q ≤ 700; omega) (dd_at tdn_J7_copyOf_9075b 9 rfl) (fun q0 H hM => ?_)
  have hM : nn_H D A s.heap ([(b, .inl (ct 5, m, .inl f)), (q0, .inl (ct 5, q, .inl (fun _ => 0)))]) H _ := hM
  refine lv_astore_n (lv' := [(2, .ref q0), (0, .ref b), (1, .int (nI q))]) C.1 C.2.1 (dd_at tdn_J7_copyOf_9075b 10 rfl) rfl hl (by decide) rfl (fun ls hl => ?_)
  refine lv_aload_n C.1 C.2.1 (dd_at tdn_J7_copyOf_9075b 11 rfl) rfl (lv_at hl 1 rfl) ?_
  refine lv_iconst (v := (0 : Int32)) C.1 C.2.1 (dd_at tdn_J7_copyOf_9075b 12 rfl) (by decide) ?_
  refine lv_aload_n C.1 C.2.1 (dd_at tdn_J7_copyOf_9075b 13 rfl) rfl (lv_at hl 0 rfl) ?_
  refine lv_iconst (v := (0 : Int32)) C.1 C.2.1 (dd_at tdn_J7_copyOf_9075b 14 rfl) (by decide) ?_
  refine lv_aload_n C.1 C.2.1 (dd_at tdn_J7_copyOf_9075b 15 rfl) rfl (lv_at hl 1 rfl) ?_
  refine nn_aln (v := nI m) C hM 0 (t0 := 5) rfl rfl rfl (dd_at tdn_J7_copyOf_9075b 16 rfl) ?_
  refine lv_iload_n C.1 C.2.1 (dd_at tdn_J7_copyOf_9075b 17 rfl) rfl (lv_at hl 2 rfl) ?_
  refine va_mmin C.1 C.2.1 (C.2.2.2.1.trans hl.1.symm) (nn_own C) (nn_w C (sb_c cw603)) (nn_w C (sb_c cw74)) (nn_w C (sb_c cw63)) (nn_w C (sb_c cw75)) (Nat.le_of_ble_eq_true rfl) (Nat.le_of_ble_eq_true rfl) (Nat.le_of_ble_eq_true rfl) (by show 0 + q ≤ 700; omega) (dd_at tdn_J7_copyOf_9075b 18 rfl) ?_
  refine lv_topi (fun vy ey => ?_)
  obtain rfl : vy = (nI m) := ey.trans (if_neg (nI_nlt (by omega) (by omega)))
  refine nn_cpy (ws' := [(b, .inl (ct 5, m, .inl f)), (q0, .inl (ct 5, q, .inl (va_cpy f (fun _ => 0) 0 0 m)))]) C hM 0 1 (t0 := 5) hl.1 (sb_c cw604) (sb_c cw337) (sb_c cw338) (sb_c cw339) rfl rfl (by rw [nI_clamp (n := m) (by omega)]; rfl) rfl (by decide) (by decide) (nI_pos (by omega)) (by rw [nI_clamp (by omega)]; exact Nat.le_of_eq (Nat.zero_add m)) (by rw [nI_clamp (by omega)]; show 0 + m ≤ q; omega) hf (Nat.le_of_ble_eq_true rfl) (by decide +kernel) (dd_at tdn_J7_copyOf_9075b 19 rfl) (fun H locs hM => ?_)
  refine lv_aload_n C.1 C.2.1 (dd_at tdn_J7_copyOf_9075b 20 rfl) rfl (lv_at hl 0 rfl) ?_
  refine W.widen (k := 1) (n := 700) (Nat.le_of_ble_eq_true rfl) (by show 0 + q ≤ 700; omega) ?_
  exact nn_ar (Or.inr ⟨_, rfl⟩) C hM ⟨q0, rfl, rfl⟩ (dd_at tdn_J7_copyOf_9075b 21 rfl)
def tbn_J5_ensureCapacityInternal_d00df : List (Nat × Instr × Nat) := [(0, .aload_n 0, 1), (1, .getfield 15, 3), (4, .arraylength, 1), (5, .aload_n 0, 1), (6, .getfield 22, 3), (9, .ishr, 1), (10, .istore_n 2, 1), (11, .iload_n 1, 1), (12, .iload_n 2, 1), (13, .isub, 1), (14, .ifCond .le 24, 3), (17, .aload_n 0, 1), (18, .aload_n 0, 1), (19, .getfield 15, 3), (22, .aload_n 0, 1), (23, .iload_n 1, 1), (24, .invokevirtual 104, 3), (27, .aload_n 0, 1), (28, .getfield 22, 3), (31, .ishl, 1), (32, .invokestatic 108, 3), (35, .putfield 15, 3), (38, .return_, 1)]
theorem tdn_J5_ensureCapacityInternal_d00df : tbn_J5_ensureCapacityInternal_d00df.all (fun q => decide (decode cJ5_ensureCapacityInternal_d00df q.1 = .ok (q.2.1, q.2.2))) = true := by decide +kernel
set_option maxHeartbeats 4000000 in
set_option maxRecDepth 100000 in
theorem n_ensureA (l : Launch) (D : va_G) (B : Nat) (z : pp_Z) (ct : Nat → ClassId) (a b : Nat) (ml : Int32) (n m : Nat) (f : Nat → Int32) (q : Nat) (hq : q ≤ m) (hm : m ≤ 300) (hf : sb_Fit f) : nn_M l D sb_W (nn_ts ct) B z yJ5_ensureCapacityInternal_d00df cJ5_ensureCapacityInternal_d00df 3 none 5 260 1 700 [.ref a, .int (nI q)] [nn_bo a b ml (nI n), nn_by ct b m f] (fun r u => r = none ∧ ∃ b2 m2 f2, u = [nn_bo a b2 ml (nI n), nn_by ct b2 m2 f2] ∧ (m2 = m ∨ m2 = 2 * m + 2 ∧ m < q) ∧ (∀ j, j < m → f2 j = f j) ∧ sb_Fit f2 ∧ q ≤ m2) := by
  refine nn_enter (own := RJ5) (by decide) rfl (Nat.le_of_ble_eq_true rfl) ?_
  intro p e s mi args below meth c ls A C hl hM
  have hl : lv_has ls 3 [(0, .ref a), (1, .int (nI q))] := hl
  have hM : nn_H D A s.heap [(a, .inr (1, [.ref b, .int (0 : Int32), .int ml, .int (nI n)])), (b, .inl (ct 5, m, .inl f))] s.heap [] := hM
  refine lv_aload_n C.1 C.2.1 (dd_at tdn_J5_ensureCapacityInternal_d00df 0 rfl) rfl (lv_at hl 0 rfl) ?_
  refine nn_get C hM 0 (K := RJ4) (T := TJ4) (N := 4) (k := 0) (ref := "java/lang/AbstractStringBuilder") (v := .ref b) rfl rfl sb_inJ4 (Nat.le_of_ble_eq_true rfl) (sb_c cw487) rfl rfl (dd_at tdn_J5_ensureCapacityInternal_d00df 1 rfl) ?_
  refine nn_aln (v := nI m) C hM 1 (t0 := 5) rfl rfl rfl (dd_at tdn_J5_ensureCapacityInternal_d00df 2 rfl) ?_
  refine lv_aload_n C.1 C.2.1 (dd_at tdn_J5_ensureCapacityInternal_d00df 3 rfl) rfl (lv_at hl 0 rfl) ?_
  refine nn_get C hM 0 (K := RJ4) (T := TJ4) (N := 4) (k := 1) (ref := "java/lang/AbstractStringBuilder") (v := .int (0 : Int32)) rfl rfl sb_inJ4 (Nat.le_of_ble_eq_true rfl) (sb_c cw488) rfl rfl (dd_at tdn_J5_ensureCapacityInternal_d00df 4 rfl) ?_
  refine lv_ishr C.1 C.2.1 (dd_at tdn_J5_ensureCapacityInternal_d00df 5 rfl) ?_
  refine lv_topi (fun vy ey => ?_)
  obtain rfl : vy = (nI m) := ey.trans (sb_shr0 _)
  refine lv_istore_n (lv' := [(2, .int (nI m)), (0, .ref a), (1, .int (nI q))]) C.1 C.2.1 (dd_at tdn_J5_ensureCapacityInternal_d00df 6 rfl) rfl hl (by decide) rfl (fun ls hl => ?_)
  refine lv_iload_n C.1 C.2.1 (dd_at tdn_J5_ensureCapacityInternal_d00df 7 rfl) rfl (lv_at hl 2 rfl) ?_
  refine lv_iload_n C.1 C.2.1 (dd_at tdn_J5_ensureCapacityInternal_d00df 8 rfl) rfl (lv_at hl 0 rfl) ?_
  refine lv_isub C.1 C.2.1 (dd_at tdn_J5_ensureCapacityInternal_d00df 9 rfl) ?_
  refine lv_if_le (tgt := 38) C.1 C.2.1 (dd_at tdn_J5_ensureCapacityInternal_d00df 10 rfl) (by decide) (fun _ => ?_) (fun h => absurd (by rw [Int32.le_iff_toInt_le, pk_sub_toInt (by omega) (by omega), Int32.toInt_zero]; omega) h)
  refine W.widen (k := 1) (n := 700) (Nat.le_of_ble_eq_true rfl) (Nat.le_of_ble_eq_true rfl) ?_
  exact nn_vr C hM ⟨rfl, b, m, f, rfl, Or.inl rfl, fun _ _ => rfl, hf, hq⟩ (dd_at tdn_J5_ensureCapacityInternal_d00df 22 rfl)
theorem hnU_J5_newCapacity_0f7a4 : ("java/lang/AbstractStringBuilder" : String) ≠ "java/lang/invoke/MethodHandle" ∧ ("java/lang/AbstractStringBuilder" : String) ≠ "java/lang/invoke/VarHandle" ∧ (parseMethodDescriptor yJ5_newCapacity_0f7a4.desc).map (fun d => d.parameters.length) = some 1 := by decide +kernel
theorem hnB_J7_copyOf_9075b : yJ7_copyOf_9075b.cls ≠ "java/lang/invoke/MethodHandle" ∧ yJ7_copyOf_9075b.cls ≠ "java/lang/invoke/VarHandle" ∧ (parseMethodDescriptor yJ7_copyOf_9075b.desc).map (fun d => d.parameters.length) = some 2 := by decide +kernel
set_option maxHeartbeats 4000000 in
set_option maxRecDepth 100000 in
theorem n_ensureB (l : Launch) (D : va_G) (B : Nat) (z : pp_Z) (ct : Nat → ClassId) (a b : Nat) (ml : Int32) (n m : Nat) (f : Nat → Int32) (q : Nat) (hq : m < q) (hq2 : q < 2 * m + 2) (hm : m ≤ 300) (hf : sb_Fit f) : nn_M l D sb_W (nn_ts ct) B z yJ5_ensureCapacityInternal_d00df cJ5_ensureCapacityInternal_d00df 3 none 5 260 1 700 [.ref a, .int (nI q)] [nn_bo a b ml (nI n), nn_by ct b m f] (fun r u => r = none ∧ ∃ b2 m2 f2, u = [nn_bo a b2 ml (nI n), nn_by ct b2 m2 f2] ∧ (m2 = m ∨ m2 = 2 * m + 2 ∧ m < q) ∧ (∀ j, j < m → f2 j = f j) ∧ sb_Fit f2 ∧ q ≤ m2) := by
  refine nn_enter (own := RJ5) (by decide) rfl (Nat.le_of_ble_eq_true rfl) ?_
  intro p e s mi args below meth c ls A C hl hM
  have hl : lv_has ls 3 [(0, .ref a), (1, .int (nI q))] := hl
  have hM : nn_H D A s.heap [(a, .inr (1, [.ref b, .int (0 : Int32), .int ml, .int (nI n)])), (b, .inl (ct 5, m, .inl f))] s.heap [] := hM
  refine lv_aload_n C.1 C.2.1 (dd_at tdn_J5_ensureCapacityInternal_d00df 0 rfl) rfl (lv_at hl 0 rfl) ?_
  refine nn_get C hM 0 (K := RJ4) (T := TJ4) (N := 4) (k := 0) (ref := "java/lang/AbstractStringBuilder") (v := .ref b) rfl rfl sb_inJ4 (Nat.le_of_ble_eq_true rfl) (sb_c cw487) rfl rfl (dd_at tdn_J5_ensureCapacityInternal_d00df 1 rfl) ?_
  refine nn_aln (v := nI m) C hM 1 (t0 := 5) rfl rfl rfl (dd_at tdn_J5_ensureCapacityInternal_d00df 2 rfl) ?_
  refine lv_aload_n C.1 C.2.1 (dd_at tdn_J5_ensureCapacityInternal_d00df 3 rfl) rfl (lv_at hl 0 rfl) ?_
  refine nn_get C hM 0 (K := RJ4) (T := TJ4) (N := 4) (k := 1) (ref := "java/lang/AbstractStringBuilder") (v := .int (0 : Int32)) rfl rfl sb_inJ4 (Nat.le_of_ble_eq_true rfl) (sb_c cw488) rfl rfl (dd_at tdn_J5_ensureCapacityInternal_d00df 4 rfl) ?_
  refine lv_ishr C.1 C.2.1 (dd_at tdn_J5_ensureCapacityInternal_d00df 5 rfl) ?_
  refine lv_topi (fun vy ey => ?_)
  obtain rfl : vy = (nI m) := ey.trans (sb_shr0 _)
  refine lv_istore_n (lv' := [(2, .int (nI m)), (0, .ref a), (1, .int (nI q))]) C.1 C.2.1 (dd_at tdn_J5_ensureCapacityInternal_d00df 6 rfl) rfl hl (by decide) rfl (fun ls hl => ?_)
  refine lv_iload_n C.1 C.2.1 (dd_at tdn_J5_ensureCapacityInternal_d00df 7 rfl) rfl (lv_at hl 2 rfl) ?_
  refine lv_iload_n C.1 C.2.1 (dd_at tdn_J5_ensureCapacityInternal_d00df 8 rfl) rfl (lv_at hl 0 rfl) ?_
  refine lv_isub C.1 C.2.1 (dd_at tdn_J5_ensureCapacityInternal_d00df 9 rfl) ?_
  refine lv_if_le (tgt := 38) C.1 C.2.1 (dd_at tdn_J5_ensureCapacityInternal_d00df 10 rfl) (by decide) (fun h => absurd h (by intro h; rw [Int32.le_iff_toInt_le, pk_sub_toInt (by omega) (by omega), Int32.toInt_zero] at h; omega)) (fun _ => ?_)
  refine lv_aload_n C.1 C.2.1 (dd_at tdn_J5_ensureCapacityInternal_d00df 11 rfl) rfl (lv_at hl 1 rfl) ?_
  refine lv_aload_n C.1 C.2.1 (dd_at tdn_J5_ensureCapacityInternal_d00df 12 rfl) rfl (lv_at hl 1 rfl) ?_
  refine nn_get C hM 0 (K := RJ4) (T := TJ4) (N := 4) (k := 0) (ref := "java/lang/AbstractStringBuilder") (v := .ref b) rfl rfl sb_inJ4 (Nat.le_of_ble_eq_true rfl) (sb_c cw487) rfl rfl (dd_at tdn_J5_ensureCapacityInternal_d00df 13 rfl) ?_
  refine lv_aload_n C.1 C.2.1 (dd_at tdn_J5_ensureCapacityInternal_d00df 14 rfl) rfl (lv_at hl 1 rfl) ?_
  refine lv_iload_n C.1 C.2.1 (dd_at tdn_J5_ensureCapacityInternal_d00df 15 rfl) rfl (lv_at hl 2 rfl) ?_
  refine nn_cU (Cl := RJ4) (owner := "java/lang/AbstractStringBuilder") (x := ⟨"java/lang/AbstractStringBuilder", "newCapacity", "(I)I"⟩) (ws := []) (wc := [(a, .inr (1, [.ref b, .int (0 : Int32), .int ml, .int (nI n)])), (b, .inl (ct 5, m, .inl f))]) (n := 1) (As := [.int (nI q)]) (rest := [.ref b, .ref a]) C hM (nn_rcv C hM (q0 := 0) rfl rfl) (n_newCapacity l D B z ct a b ml n m f q hq hq2 hm) (sb_gdU (sb_c cw605) (sb_c cw606) sb_s1 (sb_c cw607) (sb_c cw494) (sb_c cw592)) rfl hnU_J5_newCapacity_0f7a4 ⟨(Nat.le_of_ble_eq_true rfl), (Nat.le_of_ble_eq_true rfl)⟩ rfl hl.1 rfl (Nat.le_of_ble_eq_true rfl) (dd_at tdn_J5_ensureCapacityInternal_d00df 16 rfl) ⟨(Nat.le_of_ble_eq_true rfl), (Nat.le_of_ble_eq_true rfl)⟩ (fun r u H locs hu hM => ?_)
  obtain ⟨rfl, rfl⟩ := hu
  have hM : nn_H D A s.heap ([(a, .inr (1, [.ref b, .int (0 : Int32), .int ml, .int (nI n)])), (b, .inl (ct 5, m, .inl f))]) H _ := hM
  refine lv_aload_n C.1 C.2.1 (dd_at tdn_J5_ensureCapacityInternal_d00df 17 rfl) rfl (lv_at hl 1 rfl) ?_
  refine nn_get C hM 0 (K := RJ4) (T := TJ4) (N := 4) (k := 1) (ref := "java/lang/AbstractStringBuilder") (v := .int (0 : Int32)) rfl rfl sb_inJ4 (Nat.le_of_ble_eq_true rfl) (sb_c cw488) rfl rfl (dd_at tdn_J5_ensureCapacityInternal_d00df 18 rfl) ?_
  refine lv_ishl C.1 C.2.1 (dd_at tdn_J5_ensureCapacityInternal_d00df 19 rfl) ?_
  refine lv_topi (fun vy ey => ?_)
  obtain rfl : vy = (nI (2 * m + 2)) := ey.trans (sb_shl0 _)
  refine nn_cS (ws := [(a, .inr (1, [.ref b, .int (0 : Int32), .int ml, .int (nI n)]))]) (wc := [(b, .inl (ct 5, m, .inl f))]) (n := 2) (As := [.ref b, .int (nI (2 * m + 2))]) (rest := [.ref a]) C hM (n_copyOf l D B z ct b m (2 * m + 2) f (by omega) (by omega) hf) (sb_gdS (sb_c cw608) (sb_c cw609) (sb_c cw610) (sb_c cw596)) hnB_J7_copyOf_9075b ⟨(Nat.le_of_ble_eq_true rfl), (Nat.le_of_ble_eq_true rfl)⟩ rfl hl.1 rfl (Nat.le_of_ble_eq_true rfl) (dd_at tdn_J5_ensureCapacityInternal_d00df 20 rfl) ⟨(Nat.le_of_ble_eq_true rfl), (Nat.le_of_ble_eq_true rfl)⟩ (fun r u H locs hu hM => ?_)
  obtain ⟨w, rfl, rfl⟩ := hu
  have hM : nn_H D A s.heap ([(a, .inr (1, [.ref b, .int (0 : Int32), .int ml, .int (nI n)])), (b, .inl (ct 5, m, .inl f)), (w, .inl (ct 5, (2 * m + 2), .inl (va_cpy f (fun _ => 0) 0 0 m)))]) H _ := hM
  refine nn_pt (ws' := [(a, .inr (1, [.ref w, .int (0 : Int32), .int ml, .int (nI n)])), (b, .inl (ct 5, m, .inl f)), (w, .inl (ct 5, (2 * m + 2), .inl (va_cpy f (fun _ => 0) 0 0 m)))]) C hM 0 (ref := "java/lang/AbstractStringBuilder") (K := RJ4) (T := TJ4) (k := 0) (ty0 := tyJ4) rfl rfl rfl sb_inJ4 tyJ4_ok nmJ4 (Nat.le_of_ble_eq_true rfl) (sb_c cw487) rfl rfl rfl rfl (Nat.le_of_ble_eq_true rfl) (dd_at tdn_J5_ensureCapacityInternal_d00df 21 rfl) (fun H locs hM => ?_)
  have hM := nn_left (ws := [nn_bo a w ml (nI n), nn_by ct w (2 * m + 2) (va_cpy f (fun _ => 0) 0 0 m)]) (x := [nn_by ct b m f]) (nn_perm (List.Perm.cons _ (List.Perm.swap _ _ _)) hM)
  exact nn_vr C hM ⟨rfl, w, 2 * m + 2, _, rfl, Or.inr ⟨rfl, hq⟩, fun j hj => sb_cpy0 hj, sb_fitC hf sb_fit0, by omega⟩ (dd_at tdn_J5_ensureCapacityInternal_d00df 22 rfl)
theorem n_ensure (l : Launch) (D : va_G) (B : Nat) (z : pp_Z) (ct : Nat → ClassId) (a b : Nat) (ml : Int32) (n m : Nat) (f : Nat → Int32) (q : Nat) (hq2 : q < 2 * m + 2) (hm : m ≤ 300) (hf : sb_Fit f) : nn_M l D sb_W (nn_ts ct) B z yJ5_ensureCapacityInternal_d00df cJ5_ensureCapacityInternal_d00df 3 none 5 260 1 700 [.ref a, .int (nI q)] [nn_bo a b ml (nI n), nn_by ct b m f] (fun r u => r = none ∧ ∃ b2 m2 f2, u = [nn_bo a b2 ml (nI n), nn_by ct b2 m2 f2] ∧ (m2 = m ∨ m2 = 2 * m + 2 ∧ m < q) ∧ (∀ j, j < m → f2 j = f j) ∧ sb_Fit f2 ∧ q ≤ m2) := by
  by_cases h : q ≤ m
  · exact n_ensureA l D B z ct a b ml n m f q h hm hf
  · exact n_ensureB l D B z ct a b ml n m f q (by omega) hq2 hm hf
theorem hnU_J5_ensureCapacityInternal_d00df : ("java/lang/AbstractStringBuilder" : String) ≠ "java/lang/invoke/MethodHandle" ∧ ("java/lang/AbstractStringBuilder" : String) ≠ "java/lang/invoke/VarHandle" ∧ (parseMethodDescriptor yJ5_ensureCapacityInternal_d00df.desc).map (fun d => d.parameters.length) = some 1 := by decide +kernel
theorem hnU_J5_isLatin1_aae02 : ("java/lang/AbstractStringBuilder" : String) ≠ "java/lang/invoke/MethodHandle" ∧ ("java/lang/AbstractStringBuilder" : String) ≠ "java/lang/invoke/VarHandle" ∧ (parseMethodDescriptor yJ5_isLatin1_aae02.desc).map (fun d => d.parameters.length) = some 0 := by decide +kernel
theorem hnB_J1_canEncode_fc78d : yJ1_canEncode_fc78d.cls ≠ "java/lang/invoke/MethodHandle" ∧ yJ1_canEncode_fc78d.cls ≠ "java/lang/invoke/VarHandle" ∧ (parseMethodDescriptor yJ1_canEncode_fc78d.desc).map (fun d => d.parameters.length) = some 1 := by decide +kernel
def tbn_J5_append_3fe6f : List (Nat × Instr × Nat) := [(0, .aload_n 0, 1), (1, .aload_n 0, 1), (2, .getfield 79, 3), (5, .iconst 1, 1), (6, .iadd, 1), (7, .invokevirtual 100, 3), (10, .aload_n 0, 1), (11, .invokevirtual 83, 3), (14, .ifCond .eq 31, 3), (17, .iload_n 1, 1), (18, .invokestatic 191, 3), (21, .ifCond .eq 24, 3), (24, .aload_n 0, 1), (25, .getfield 15, 3), (28, .aload_n 0, 1), (29, .dup, 1), (30, .getfield 79, 3), (33, .dup_x1, 1), (34, .iconst 1, 1), (35, .iadd, 1), (36, .putfield 79, 3), (39, .iload_n 1, 1), (40, .i2b, 1), (41, .bastore, 1), (42, .goto 33, 3), (45, .aload_n 0, 1), (46, .invokevirtual 83, 3), (49, .ifCond .eq 7, 3), (52, .aload_n 0, 1), (53, .invokevirtual 195, 3), (56, .aload_n 0, 1), (57, .getfield 15, 3), (60, .aload_n 0, 1), (61, .dup, 1), (62, .getfield 79, 3), (65, .dup_x1, 1), (66, .iconst 1, 1), (67, .iadd, 1), (68, .putfield 79, 3), (71, .iload_n 1, 1), (72, .invokestatic 197, 3), (75, .aload_n 0, 1), (76, .areturn, 1)]
theorem tdn_J5_append_3fe6f : tbn_J5_append_3fe6f.all (fun q => decide (decode cJ5_append_3fe6f q.1 = .ok (q.2.1, q.2.2))) = true := by decide +kernel
set_option maxHeartbeats 4000000 in
set_option maxRecDepth 100000 in
theorem n_append5 (l : Launch) (D : va_G) (B : Nat) (z : pp_Z) (ct : Nat → ClassId) (a b : Nat) (ml : Int32) (n m : Nat) (f : Nat → Int32) (x : Nat) (hx : x < 256) (hn : n ≤ m) (hm : m ≤ 300) (hf : sb_Fit f) : nn_M l D sb_W (nn_ts ct) B z yJ5_append_3fe6f cJ5_append_3fe6f 2 (some (.object "java/lang/AbstractStringBuilder")) 6 282 1 700 [.ref a, .int (nI x)] [nn_bo a b ml (nI n), nn_by ct b m f] (fun r u => r = some (.ref a) ∧ ∃ b2 m2 f2, u = [nn_bo a b2 ml (nI (n + 1)), nn_by ct b2 m2 f2] ∧ (m2 = m ∨ m2 = 2 * m + 2 ∧ m < n + 1) ∧ (∀ j, j < n → f2 j = f j) ∧ f2 n = sb_b x ∧ sb_Fit f2 ∧ n + 1 ≤ m2) := by
  refine nn_enter (own := RJ5) (by decide) rfl (Nat.le_of_ble_eq_true rfl) ?_
  intro p e s mi args below meth c ls A C hl hM
  have hl : lv_has ls 2 [(0, .ref a), (1, .int (nI x))] := hl
  have hM : nn_H D A s.heap [(a, .inr (1, [.ref b, .int (0 : Int32), .int ml, .int (nI n)])), (b, .inl (ct 5, m, .inl f))] s.heap [] := hM
  refine lv_aload_n C.1 C.2.1 (dd_at tdn_J5_append_3fe6f 0 rfl) rfl (lv_at hl 0 rfl) ?_
  refine lv_aload_n C.1 C.2.1 (dd_at tdn_J5_append_3fe6f 1 rfl) rfl (lv_at hl 0 rfl) ?_
  refine nn_get C hM 0 (K := RJ4) (T := TJ4) (N := 4) (k := 3) (ref := "java/lang/AbstractStringBuilder") (v := .int (nI n)) rfl rfl sb_inJ4 (Nat.le_of_ble_eq_true rfl) (sb_c cw579) rfl rfl (dd_at tdn_J5_append_3fe6f 2 rfl) ?_
  refine lv_iconst (v := (1 : Int32)) C.1 C.2.1 (dd_at tdn_J5_append_3fe6f 3 rfl) (by decide) ?_
  refine lv_iadd C.1 C.2.1 (dd_at tdn_J5_append_3fe6f 4 rfl) ?_
  refine lv_topi (fun vy ey => ?_)
  obtain rfl : vy = (nI (n + 1)) := ey.trans (nI_1 n)
  refine nn_cU (Cl := RJ4) (owner := "java/lang/AbstractStringBuilder") (x := ⟨"java/lang/AbstractStringBuilder", "ensureCapacityInternal", "(I)V"⟩) (ws := []) (wc := [(a, .inr (1, [.ref b, .int (0 : Int32), .int ml, .int (nI n)])), (b, .inl (ct 5, m, .inl f))]) (n := 1) (As := [.int (nI (n + 1))]) (rest := []) C hM (nn_rcv C hM (q0 := 0) rfl rfl) (n_ensure l D B z ct a b ml n m f (n + 1) (by omega) hm hf) (sb_gdU (sb_c cw638) (sb_c cw639) sb_s0 (sb_c cw640) (sb_c cw494) (sb_c cw611)) rfl hnU_J5_ensureCapacityInternal_d00df ⟨(Nat.le_of_ble_eq_true rfl), (Nat.le_of_ble_eq_true rfl)⟩ rfl hl.1 rfl (Nat.le_of_ble_eq_true rfl) (dd_at tdn_J5_append_3fe6f 5 rfl) ⟨(Nat.le_of_ble_eq_true rfl), (Nat.le_of_ble_eq_true rfl)⟩ (fun r u H locs hu hM => ?_)
  obtain ⟨rfl, b2, m2, f2, rfl, hm2, hk2, hf2, hq2⟩ := hu
  have hM : nn_H D A s.heap ([(a, .inr (1, [.ref b2, .int (0 : Int32), .int ml, .int (nI n)])), (b2, .inl (ct 5, m2, .inl f2))]) H _ := hM
  refine lv_aload_n C.1 C.2.1 (dd_at tdn_J5_append_3fe6f 6 rfl) rfl (lv_at hl 0 rfl) ?_
  refine nn_cU (Cl := RJ4) (owner := "java/lang/AbstractStringBuilder") (x := ⟨"java/lang/AbstractStringBuilder", "isLatin1", "()Z"⟩) (ws := []) (wc := [(a, .inr (1, [.ref b2, .int (0 : Int32), .int ml, .int (nI n)])), (b2, .inl (ct 5, m2, .inl f2))]) (n := 0) (As := []) (rest := []) C hM (nn_rcv C hM (q0 := 0) rfl rfl) (n_isLatin1 l D B z ct a b2 ml n m2 f2) (sb_gdU (sb_c cw630) (sb_c cw631) (sb_c cw632) (sb_c cw633) (sb_c cw494) (sb_c cw612)) rfl hnU_J5_isLatin1_aae02 ⟨(Nat.le_of_ble_eq_true rfl), (Nat.le_of_ble_eq_true rfl)⟩ rfl hl.1 rfl (Nat.le_of_ble_eq_true rfl) (dd_at tdn_J5_append_3fe6f 7 rfl) ⟨(Nat.le_of_ble_eq_true rfl), (Nat.le_of_ble_eq_true rfl)⟩ (fun r u H locs hu hM => ?_)
  obtain ⟨rfl, rfl⟩ := hu
  have hM : nn_H D A s.heap ([(a, .inr (1, [.ref b2, .int (0 : Int32), .int ml, .int (nI n)])), (b2, .inl (ct 5, m2, .inl f2))]) H _ := hM
  refine lv_if_eq (tgt := 45) C.1 C.2.1 (dd_at tdn_J5_append_3fe6f 8 rfl) (by decide) (fun h => absurd h (by decide)) (fun _ => ?_)
  refine lv_iload_n C.1 C.2.1 (dd_at tdn_J5_append_3fe6f 9 rfl) rfl (lv_at hl 1 rfl) ?_
  refine nn_cS (ws := [(a, .inr (1, [.ref b2, .int (0 : Int32), .int ml, .int (nI n)])), (b2, .inl (ct 5, m2, .inl f2))]) (wc := []) (n := 1) (As := [.int (nI x)]) (rest := []) C hM (n_canEncode l D B z ct x hx) (sb_gdS (sb_c cw641) (sb_c cw642) (sb_c cw39) (sb_c cw613)) hnB_J1_canEncode_fc78d ⟨(Nat.le_of_ble_eq_true rfl), (Nat.le_of_ble_eq_true rfl)⟩ rfl hl.1 rfl (Nat.le_of_ble_eq_true rfl) (dd_at tdn_J5_append_3fe6f 10 rfl) ⟨(Nat.le_of_ble_eq_true rfl), (Nat.le_of_ble_eq_true rfl)⟩ (fun r u H locs hu hM => ?_)
  obtain ⟨rfl, rfl⟩ := hu
  have hM : nn_H D A s.heap ([(a, .inr (1, [.ref b2, .int (0 : Int32), .int ml, .int (nI n)])), (b2, .inl (ct 5, m2, .inl f2))]) H _ := hM
  refine lv_if_eq (tgt := 45) C.1 C.2.1 (dd_at tdn_J5_append_3fe6f 11 rfl) (by decide) (fun h => absurd h (by decide)) (fun _ => ?_)
  refine lv_aload_n C.1 C.2.1 (dd_at tdn_J5_append_3fe6f 12 rfl) rfl (lv_at hl 0 rfl) ?_
  refine nn_get C hM 0 (K := RJ4) (T := TJ4) (N := 4) (k := 0) (ref := "java/lang/AbstractStringBuilder") (v := .ref b2) rfl rfl sb_inJ4 (Nat.le_of_ble_eq_true rfl) (sb_c cw487) rfl rfl (dd_at tdn_J5_append_3fe6f 13 rfl) ?_
  refine lv_aload_n C.1 C.2.1 (dd_at tdn_J5_append_3fe6f 14 rfl) rfl (lv_at hl 0 rfl) ?_
  refine lv_dup C.1 C.2.1 (dd_at tdn_J5_append_3fe6f 15 rfl) rfl ?_
  refine nn_get C hM 0 (K := RJ4) (T := TJ4) (N := 4) (k := 3) (ref := "java/lang/AbstractStringBuilder") (v := .int (nI n)) rfl rfl sb_inJ4 (Nat.le_of_ble_eq_true rfl) (sb_c cw579) rfl rfl (dd_at tdn_J5_append_3fe6f 16 rfl) ?_
  refine lv_dup_x1 C.1 C.2.1 (dd_at tdn_J5_append_3fe6f 17 rfl) rfl rfl ?_
  refine lv_iconst (v := (1 : Int32)) C.1 C.2.1 (dd_at tdn_J5_append_3fe6f 18 rfl) (by decide) ?_
  refine lv_iadd C.1 C.2.1 (dd_at tdn_J5_append_3fe6f 19 rfl) ?_
  refine lv_topi (fun vy ey => ?_)
  obtain rfl : vy = (nI (n + 1)) := ey.trans (nI_1 n)
  refine nn_pt (ws' := [(a, .inr (1, [.ref b2, .int (0 : Int32), .int ml, .int (nI (n + 1))])), (b2, .inl (ct 5, m2, .inl f2))]) C hM 0 (ref := "java/lang/AbstractStringBuilder") (K := RJ4) (T := TJ4) (k := 3) (ty0 := tyJ4) rfl rfl rfl sb_inJ4 tyJ4_ok nmJ4 (Nat.le_of_ble_eq_true rfl) (sb_c cw579) rfl rfl rfl rfl (Nat.le_of_ble_eq_true rfl) (dd_at tdn_J5_append_3fe6f 20 rfl) (fun H locs hM => ?_)
  refine lv_iload_n C.1 C.2.1 (dd_at tdn_J5_append_3fe6f 21 rfl) rfl (lv_at hl 1 rfl) ?_
  refine lv_i2b (v := (sb_b x)) C.1 C.2.1 (dd_at tdn_J5_append_3fe6f 22 rfl) (rfl) ?_
  refine nn_bas (ws' := [(a, .inr (1, [.ref b2, .int (0 : Int32), .int ml, .int (nI (n + 1))])), (b2, .inl (ct 5, m2, .inl (upd f2 n (sb_b x))))]) C hM 1 (t0 := 5) rfl (by rw [nI_clamp (by omega), show vp_nar .byte (sb_b x) = sb_b x from pk_vb _]; rfl) rfl (by unfold vp_in; rw [nI_clamp (by omega)]; exact fun h => h.elim (nI_pos (by omega)) (by omega)) (dd_at tdn_J5_append_3fe6f 23 rfl) (fun H locs hM => ?_)
  refine lv_goto (tgt := 75) C.1 C.2.1 (dd_at tdn_J5_append_3fe6f 24 rfl) (by decide) ?_
  refine lv_aload_n C.1 C.2.1 (dd_at tdn_J5_append_3fe6f 41 rfl) rfl (lv_at hl 0 rfl) ?_
  exact nn_ar (Or.inl ⟨_, rfl⟩) C hM ⟨rfl, b2, m2, _, rfl, hm2, fun j hj => (pk_un (by omega)).trans (hk2 j (by omega)), pk_us, sb_fitU hf2 (sb_fitB x), hq2⟩ (dd_at tdn_J5_append_3fe6f 42 rfl)
theorem hnS_J5_append_3fe6f : yJ5_append_3fe6f.name ≠ "<init>" ∧ (parseMethodDescriptor yJ5_append_3fe6f.desc).map (fun d => d.parameters.length) = some 1 := by decide +kernel
def tbn_J4_append_cf468 : List (Nat × Instr × Nat) := [(0, .aload_n 0, 1), (1, .iload_n 1, 1), (2, .invokespecial 50, 3), (5, .pop, 1), (6, .aload_n 0, 1), (7, .areturn, 1)]
theorem tdn_J4_append_cf468 : tbn_J4_append_cf468.all (fun q => decide (decode cJ4_append_cf468 q.1 = .ok (q.2.1, q.2.2))) = true := by decide +kernel
set_option maxHeartbeats 4000000 in
set_option maxRecDepth 100000 in
theorem n_append (l : Launch) (D : va_G) (B : Nat) (z : pp_Z) (ct : Nat → ClassId) (a b : Nat) (ml : Int32) (n m : Nat) (f : Nat → Int32) (x : Nat) (hx : x < 256) (hn : n ≤ m) (hm : m ≤ 300) (hf : sb_Fit f) : nn_M l D sb_W (nn_ts ct) B z yJ4_append_cf468 cJ4_append_cf468 2 (some (.object "java/lang/StringBuilder")) 7 303 1 700 [.ref a, .int (nI x)] [nn_bo a b ml (nI n), nn_by ct b m f] (fun r u => r = some (.ref a) ∧ ∃ b2 m2 f2, u = [nn_bo a b2 ml (nI (n + 1)), nn_by ct b2 m2 f2] ∧ (m2 = m ∨ m2 = 2 * m + 2 ∧ m < n + 1) ∧ (∀ j, j < n → f2 j = f j) ∧ f2 n = sb_b x ∧ sb_Fit f2 ∧ n + 1 ≤ m2) := by
  refine nn_enter (own := RJ4) (by decide) rfl (Nat.le_of_ble_eq_true rfl) ?_
  intro p e s mi args below meth c ls A C hl hM
  have hl : lv_has ls 2 [(0, .ref a), (1, .int (nI x))] := hl
  have hM : nn_H D A s.heap [(a, .inr (1, [.ref b, .int (0 : Int32), .int ml, .int (nI n)])), (b, .inl (ct 5, m, .inl f))] s.heap [] := hM
  refine lv_aload_n C.1 C.2.1 (dd_at tdn_J4_append_cf468 0 rfl) rfl (lv_at hl 0 rfl) ?_
  refine lv_iload_n C.1 C.2.1 (dd_at tdn_J4_append_cf468 1 rfl) rfl (lv_at hl 1 rfl) ?_
  refine nn_cSU (Cl := RJ4) (ws := []) (wc := [(a, .inr (1, [.ref b, .int (0 : Int32), .int ml, .int (nI n)])), (b, .inl (ct 5, m, .inl f))]) (n := 1) (As := [.int (nI x)]) (rest := []) C hM (nn_rcv C hM (q0 := 0) rfl rfl) ⟨_, ((nn_K C).1 1 _ rfl).2⟩ (n_append5 l D B z ct a b ml n m f x hx hn hm hf) (sb_gdSU (sb_c cw649) (sb_c cw650) (sb_c cw583) (sb_c cw651) (sb_c cw494) (sb_c cw648)) hnS_J5_append_3fe6f ⟨(Nat.le_of_ble_eq_true rfl), (Nat.le_of_ble_eq_true rfl)⟩ rfl hl.1 rfl (Nat.le_of_ble_eq_true rfl) (dd_at tdn_J4_append_cf468 2 rfl) ⟨(Nat.le_of_ble_eq_true rfl), (Nat.le_of_ble_eq_true rfl)⟩ (fun r u H locs hu hM => ?_)
  obtain ⟨rfl, b2, m2, f2, rfl, hm2, hk2, hx2, hf2, hn2⟩ := hu
  have hM : nn_H D A s.heap ([(a, .inr (1, [.ref b2, .int (0 : Int32), .int ml, .int (nI (n + 1))])), (b2, .inl (ct 5, m2, .inl f2))]) H _ := hM
  refine lv_pop C.1 C.2.1 (dd_at tdn_J4_append_cf468 3 rfl) rfl ?_
  refine lv_aload_n C.1 C.2.1 (dd_at tdn_J4_append_cf468 4 rfl) rfl (lv_at hl 0 rfl) ?_
  exact nn_ar (Or.inl ⟨_, rfl⟩) C hM ⟨rfl, b2, m2, f2, rfl, hm2, hk2, hx2, hf2, hn2⟩ (dd_at tdn_J4_append_cf468 5 rfl)
def tbn_J5_setLength_d00df : List (Nat × Instr × Nat) := [(0, .iload_n 1, 1), (1, .ifCond .ge 12, 3), (4, .new 129, 3), (7, .dup, 1), (8, .iload_n 1, 1), (9, .invokespecial 131, 3), (12, .athrow, 1), (13, .aload_n 0, 1), (14, .iload_n 1, 1), (15, .invokevirtual 100, 3), (18, .aload_n 0, 1), (19, .getfield 79, 3), (22, .iload_n 1, 1), (23, .if_icmp .ge 40, 3), (26, .aload_n 0, 1), (27, .invokevirtual 83, 3), (30, .ifCond .eq 18, 3), (33, .aload_n 0, 1), (34, .getfield 15, 3), (37, .aload_n 0, 1), (38, .getfield 79, 3), (41, .iload_n 1, 1), (42, .invokestatic 133, 3), (45, .goto 31, 3), (48, .aload_n 0, 1), (49, .getfield 15, 3), (52, .aload_n 0, 1), (53, .getfield 79, 3), (56, .iload_n 1, 1), (57, .invokestatic 137, 3), (60, .goto 16, 3), (63, .aload_n 0, 1), (64, .getfield 79, 3), (67, .iload_n 1, 1), (68, .if_icmp .le 8, 3), (71, .aload_n 0, 1), (72, .iconst 1, 1), (73, .putfield 73, 3), (76, .aload_n 0, 1), (77, .iload_n 1, 1), (78, .putfield 79, 3), (81, .return_, 1)]
theorem tdn_J5_setLength_d00df : tbn_J5_setLength_d00df.all (fun q => decide (decode cJ5_setLength_d00df q.1 = .ok (q.2.1, q.2.2))) = true := by decide +kernel
set_option maxHeartbeats 4000000 in
set_option maxRecDepth 100000 in
theorem n_setLength5A (l : Launch) (D : va_G) (B : Nat) (z : pp_Z) (ct : Nat → ClassId) (a b : Nat) (ml : Int32) (n m : Nat) (f : Nat → Int32) (hn : n = 0) (hm : m ≤ 300) (hf : sb_Fit f) : nn_M l D sb_W (nn_ts ct) B z yJ5_setLength_d00df cJ5_setLength_d00df 2 none 6 282 1 700 [.ref a, .int (nI 0)] [nn_bo a b ml (nI n), nn_by ct b m f] (fun r u => r = none ∧ ∃ b2 m2 f2 ml2, u = [nn_bo a b2 ml2 (nI 0), nn_by ct b2 m2 f2] ∧ m2 = m ∧ sb_Fit f2) := by
  refine nn_enter (own := RJ5) (by decide) rfl (Nat.le_of_ble_eq_true rfl) ?_
  intro p e s mi args below meth c ls A C hl hM
  have hl : lv_has ls 2 [(0, .ref a), (1, .int (nI 0))] := hl
  have hM : nn_H D A s.heap [(a, .inr (1, [.ref b, .int (0 : Int32), .int ml, .int (nI n)])), (b, .inl (ct 5, m, .inl f))] s.heap [] := hM
  refine lv_iload_n C.1 C.2.1 (dd_at tdn_J5_setLength_d00df 0 rfl) rfl (lv_at hl 1 rfl) ?_
  refine lv_if_ge (tgt := 13) C.1 C.2.1 (dd_at tdn_J5_setLength_d00df 1 rfl) (by decide) (fun _ => ?_) (fun h => absurd (by decide) h)
  refine lv_aload_n C.1 C.2.1 (dd_at tdn_J5_setLength_d00df 7 rfl) rfl (lv_at hl 0 rfl) ?_
  refine lv_iload_n C.1 C.2.1 (dd_at tdn_J5_setLength_d00df 8 rfl) rfl (lv_at hl 1 rfl) ?_
  refine nn_cU (Cl := RJ4) (owner := "java/lang/AbstractStringBuilder") (x := ⟨"java/lang/AbstractStringBuilder", "ensureCapacityInternal", "(I)V"⟩) (ws := []) (wc := [(a, .inr (1, [.ref b, .int (0 : Int32), .int ml, .int (nI n)])), (b, .inl (ct 5, m, .inl f))]) (n := 1) (As := [.int (nI 0)]) (rest := []) C hM (nn_rcv C hM (q0 := 0) rfl rfl) (n_ensure l D B z ct a b ml n m f 0 (by omega) hm hf) (sb_gdU (sb_c cw638) (sb_c cw639) sb_s0 (sb_c cw640) (sb_c cw494) (sb_c cw611)) rfl hnU_J5_ensureCapacityInternal_d00df ⟨(Nat.le_of_ble_eq_true rfl), (Nat.le_of_ble_eq_true rfl)⟩ rfl hl.1 rfl (Nat.le_of_ble_eq_true rfl) (dd_at tdn_J5_setLength_d00df 9 rfl) ⟨(Nat.le_of_ble_eq_true rfl), (Nat.le_of_ble_eq_true rfl)⟩ (fun r u H locs hu hM => ?_)
  obtain ⟨rfl, b2, m2, f2, rfl, hm2, hk2, hf2, -⟩ := hu
  replace hm2 := hm2.resolve_right (fun h => Nat.not_lt_zero _ h.2)
  have hM : nn_H D A s.heap ([(a, .inr (1, [.ref b2, .int (0 : Int32), .int ml, .int (nI n)])), (b2, .inl (ct 5, m2, .inl f2))]) H _ := hM
  refine lv_aload_n C.1 C.2.1 (dd_at tdn_J5_setLength_d00df 10 rfl) rfl (lv_at hl 0 rfl) ?_
  refine nn_get C hM 0 (K := RJ4) (T := TJ4) (N := 4) (k := 3) (ref := "java/lang/AbstractStringBuilder") (v := .int (nI n)) rfl rfl sb_inJ4 (Nat.le_of_ble_eq_true rfl) (sb_c cw579) rfl rfl (dd_at tdn_J5_setLength_d00df 11 rfl) ?_
  refine lv_iload_n C.1 C.2.1 (dd_at tdn_J5_setLength_d00df 12 rfl) rfl (lv_at hl 1 rfl) ?_
  refine lv_icmp_ge (tgt := 63) C.1 C.2.1 (dd_at tdn_J5_setLength_d00df 13 rfl) (by decide) (fun _ => ?_) (fun h => absurd (show nI 0 ≤ nI n from (nI_le_iff (by omega) (by omega)).mpr (by omega)) h)
  refine lv_aload_n C.1 C.2.1 (dd_at tdn_J5_setLength_d00df 31 rfl) rfl (lv_at hl 0 rfl) ?_
  refine nn_get C hM 0 (K := RJ4) (T := TJ4) (N := 4) (k := 3) (ref := "java/lang/AbstractStringBuilder") (v := .int (nI n)) rfl rfl sb_inJ4 (Nat.le_of_ble_eq_true rfl) (sb_c cw579) rfl rfl (dd_at tdn_J5_setLength_d00df 32 rfl) ?_
  refine lv_iload_n C.1 C.2.1 (dd_at tdn_J5_setLength_d00df 33 rfl) rfl (lv_at hl 1 rfl) ?_
  refine lv_icmp_le (tgt := 76) C.1 C.2.1 (dd_at tdn_J5_setLength_d00df 34 rfl) (by decide) (fun _ => ?_) (fun h => absurd (show nI n ≤ nI 0 from (nI_le_iff (by omega) (by omega)).mpr (by omega)) h)
  refine lv_aload_n C.1 C.2.1 (dd_at tdn_J5_setLength_d00df 38 rfl) rfl (lv_at hl 0 rfl) ?_
  refine lv_iload_n C.1 C.2.1 (dd_at tdn_J5_setLength_d00df 39 rfl) rfl (lv_at hl 1 rfl) ?_
  refine nn_pt (ws' := [(a, .inr (1, [.ref b2, .int (0 : Int32), .int ml, .int (nI 0)])), (b2, .inl (ct 5, m2, .inl f2))]) C hM 0 (ref := "java/lang/AbstractStringBuilder") (K := RJ4) (T := TJ4) (k := 3) (ty0 := tyJ4) rfl rfl rfl sb_inJ4 tyJ4_ok nmJ4 (Nat.le_of_ble_eq_true rfl) (sb_c cw579) rfl rfl rfl rfl (Nat.le_of_ble_eq_true rfl) (dd_at tdn_J5_setLength_d00df 40 rfl) (fun H locs hM => ?_)
  exact nn_vr C hM ⟨rfl, b2, m2, f2, ml, rfl, hm2, hf2⟩ (dd_at tdn_J5_setLength_d00df 41 rfl)
set_option maxHeartbeats 4000000 in
set_option maxRecDepth 100000 in
theorem n_setLength5B (l : Launch) (D : va_G) (B : Nat) (z : pp_Z) (ct : Nat → ClassId) (a b : Nat) (ml : Int32) (n m : Nat) (f : Nat → Int32) (hn : 0 < n) (hn2 : n ≤ 300) (hm : m ≤ 300) (hf : sb_Fit f) : nn_M l D sb_W (nn_ts ct) B z yJ5_setLength_d00df cJ5_setLength_d00df 2 none 6 282 1 700 [.ref a, .int (nI 0)] [nn_bo a b ml (nI n), nn_by ct b m f] (fun r u => r = none ∧ ∃ b2 m2 f2 ml2, u = [nn_bo a b2 ml2 (nI 0), nn_by ct b2 m2 f2] ∧ m2 = m ∧ sb_Fit f2) := by
  refine nn_enter (own := RJ5) (by decide) rfl (Nat.le_of_ble_eq_true rfl) ?_
  intro p e s mi args below meth c ls A C hl hM
  have hl : lv_has ls 2 [(0, .ref a), (1, .int (nI 0))] := hl
  have hM : nn_H D A s.heap [(a, .inr (1, [.ref b, .int (0 : Int32), .int ml, .int (nI n)])), (b, .inl (ct 5, m, .inl f))] s.heap [] := hM
  refine lv_iload_n C.1 C.2.1 (dd_at tdn_J5_setLength_d00df 0 rfl) rfl (lv_at hl 1 rfl) ?_
  refine lv_if_ge (tgt := 13) C.1 C.2.1 (dd_at tdn_J5_setLength_d00df 1 rfl) (by decide) (fun _ => ?_) (fun h => absurd (by decide) h)
  refine lv_aload_n C.1 C.2.1 (dd_at tdn_J5_setLength_d00df 7 rfl) rfl (lv_at hl 0 rfl) ?_
  refine lv_iload_n C.1 C.2.1 (dd_at tdn_J5_setLength_d00df 8 rfl) rfl (lv_at hl 1 rfl) ?_
  refine nn_cU (Cl := RJ4) (owner := "java/lang/AbstractStringBuilder") (x := ⟨"java/lang/AbstractStringBuilder", "ensureCapacityInternal", "(I)V"⟩) (ws := []) (wc := [(a, .inr (1, [.ref b, .int (0 : Int32), .int ml, .int (nI n)])), (b, .inl (ct 5, m, .inl f))]) (n := 1) (As := [.int (nI 0)]) (rest := []) C hM (nn_rcv C hM (q0 := 0) rfl rfl) (n_ensure l D B z ct a b ml n m f 0 (by omega) hm hf) (sb_gdU (sb_c cw638) (sb_c cw639) sb_s0 (sb_c cw640) (sb_c cw494) (sb_c cw611)) rfl hnU_J5_ensureCapacityInternal_d00df ⟨(Nat.le_of_ble_eq_true rfl), (Nat.le_of_ble_eq_true rfl)⟩ rfl hl.1 rfl (Nat.le_of_ble_eq_true rfl) (dd_at tdn_J5_setLength_d00df 9 rfl) ⟨(Nat.le_of_ble_eq_true rfl), (Nat.le_of_ble_eq_true rfl)⟩ (fun r u H locs hu hM => ?_)
  obtain ⟨rfl, b2, m2, f2, rfl, hm2, hk2, hf2, -⟩ := hu
  replace hm2 := hm2.resolve_right (fun h => Nat.not_lt_zero _ h.2)
  have hM : nn_H D A s.heap ([(a, .inr (1, [.ref b2, .int (0 : Int32), .int ml, .int (nI n)])), (b2, .inl (ct 5, m2, .inl f2))]) H _ := hM
  refine lv_aload_n C.1 C.2.1 (dd_at tdn_J5_setLength_d00df 10 rfl) rfl (lv_at hl 0 rfl) ?_
  refine nn_get C hM 0 (K := RJ4) (T := TJ4) (N := 4) (k := 3) (ref := "java/lang/AbstractStringBuilder") (v := .int (nI n)) rfl rfl sb_inJ4 (Nat.le_of_ble_eq_true rfl) (sb_c cw579) rfl rfl (dd_at tdn_J5_setLength_d00df 11 rfl) ?_
  refine lv_iload_n C.1 C.2.1 (dd_at tdn_J5_setLength_d00df 12 rfl) rfl (lv_at hl 1 rfl) ?_
  refine lv_icmp_ge (tgt := 63) C.1 C.2.1 (dd_at tdn_J5_setLength_d00df 13 rfl) (by decide) (fun _ => ?_) (fun h => absurd (show nI 0 ≤ nI n from (nI_le_iff (by omega) (by omega)).mpr (by omega)) h)
  refine lv_aload_n C.1 C.2.1 (dd_at tdn_J5_setLength_d00df 31 rfl) rfl (lv_at hl 0 rfl) ?_
  refine nn_get C hM 0 (K := RJ4) (T := TJ4) (N := 4) (k := 3) (ref := "java/lang/AbstractStringBuilder") (v := .int (nI n)) rfl rfl sb_inJ4 (Nat.le_of_ble_eq_true rfl) (sb_c cw579) rfl rfl (dd_at tdn_J5_setLength_d00df 32 rfl) ?_
  refine lv_iload_n C.1 C.2.1 (dd_at tdn_J5_setLength_d00df 33 rfl) rfl (lv_at hl 1 rfl) ?_
  refine lv_icmp_le (tgt := 76) C.1 C.2.1 (dd_at tdn_J5_setLength_d00df 34 rfl) (by decide) (fun h => absurd h (fun h => by have := (nI_le_iff (by omega) (by omega)).mp (show nI n ≤ nI 0 from h); omega)) (fun _ => ?_)
  refine lv_aload_n C.1 C.2.1 (dd_at tdn_J5_setLength_d00df 35 rfl) rfl (lv_at hl 0 rfl) ?_
  refine lv_iconst (v := (1 : Int32)) C.1 C.2.1 (dd_at tdn_J5_setLength_d00df 36 rfl) (by decide) ?_
  refine nn_pt (ws' := [(a, .inr (1, [.ref b2, .int (0 : Int32), .int (1 : Int32), .int (nI n)])), (b2, .inl (ct 5, m2, .inl f2))]) C hM 0 (ref := "java/lang/AbstractStringBuilder") (K := RJ4) (T := TJ4) (k := 2) (ty0 := tyJ4) rfl rfl rfl sb_inJ4 tyJ4_ok nmJ4 (Nat.le_of_ble_eq_true rfl) (sb_c cw708) rfl rfl rfl rfl (Nat.le_of_ble_eq_true rfl) (dd_at tdn_J5_setLength_d00df 37 rfl) (fun H locs hM => ?_)
  refine lv_aload_n C.1 C.2.1 (dd_at tdn_J5_setLength_d00df 38 rfl) rfl (lv_at hl 0 rfl) ?_
  refine lv_iload_n C.1 C.2.1 (dd_at tdn_J5_setLength_d00df 39 rfl) rfl (lv_at hl 1 rfl) ?_
  refine nn_pt (ws' := [(a, .inr (1, [.ref b2, .int (0 : Int32), .int (1 : Int32), .int (nI 0)])), (b2, .inl (ct 5, m2, .inl f2))]) C hM 0 (ref := "java/lang/AbstractStringBuilder") (K := RJ4) (T := TJ4) (k := 3) (ty0 := tyJ4) rfl rfl rfl sb_inJ4 tyJ4_ok nmJ4 (Nat.le_of_ble_eq_true rfl) (sb_c cw579) rfl rfl rfl rfl (Nat.le_of_ble_eq_true rfl) (dd_at tdn_J5_setLength_d00df 40 rfl) (fun H locs hM => ?_)
  exact nn_vr C hM ⟨rfl, b2, m2, f2, 1, rfl, hm2, hf2⟩ (dd_at tdn_J5_setLength_d00df 41 rfl)
theorem n_setLength5 (l : Launch) (D : va_G) (B : Nat) (z : pp_Z) (ct : Nat → ClassId) (a b : Nat) (ml : Int32) (n m : Nat) (f : Nat → Int32) (hn : n ≤ 300) (hm : m ≤ 300) (hf : sb_Fit f) : nn_M l D sb_W (nn_ts ct) B z yJ5_setLength_d00df cJ5_setLength_d00df 2 none 6 282 1 700 [.ref a, .int (nI 0)] [nn_bo a b ml (nI n), nn_by ct b m f] (fun r u => r = none ∧ ∃ b2 m2 f2 ml2, u = [nn_bo a b2 ml2 (nI 0), nn_by ct b2 m2 f2] ∧ m2 = m ∧ sb_Fit f2) := by
  by_cases h : n = 0
  · exact n_setLength5A l D B z ct a b ml n m f h hm hf
  · exact n_setLength5B l D B z ct a b ml n m f (by omega) hn hm hf
theorem hnS_J5_setLength_d00df : yJ5_setLength_d00df.name ≠ "<init>" ∧ (parseMethodDescriptor yJ5_setLength_d00df.desc).map (fun d => d.parameters.length) = some 1 := by decide +kernel
def tbn_J4_setLength_d00df : List (Nat × Instr × Nat) := [(0, .aload_n 0, 1), (1, .iload_n 1, 1), (2, .invokespecial 333, 3), (5, .return_, 1)]
theorem tdn_J4_setLength_d00df : tbn_J4_setLength_d00df.all (fun q => decide (decode cJ4_setLength_d00df q.1 = .ok (q.2.1, q.2.2))) = true := by decide +kernel
set_option maxHeartbeats 4000000 in
set_option maxRecDepth 100000 in
theorem n_setLength (l : Launch) (D : va_G) (B : Nat) (z : pp_Z) (ct : Nat → ClassId) (a b : Nat) (ml : Int32) (n m : Nat) (f : Nat → Int32) (hn : n ≤ 300) (hm : m ≤ 300) (hf : sb_Fit f) : nn_M l D sb_W (nn_ts ct) B z yJ4_setLength_d00df cJ4_setLength_d00df 2 none 7 303 1 700 [.ref a, .int (nI 0)] [nn_bo a b ml (nI n), nn_by ct b m f] (fun r u => r = none ∧ ∃ b2 m2 f2 ml2, u = [nn_bo a b2 ml2 (nI 0), nn_by ct b2 m2 f2] ∧ m2 = m ∧ sb_Fit f2) := by
  refine nn_enter (own := RJ4) (by decide) rfl (Nat.le_of_ble_eq_true rfl) ?_
  intro p e s mi args below meth c ls A C hl hM
  have hl : lv_has ls 2 [(0, .ref a), (1, .int (nI 0))] := hl
  have hM : nn_H D A s.heap [(a, .inr (1, [.ref b, .int (0 : Int32), .int ml, .int (nI n)])), (b, .inl (ct 5, m, .inl f))] s.heap [] := hM
  refine lv_aload_n C.1 C.2.1 (dd_at tdn_J4_setLength_d00df 0 rfl) rfl (lv_at hl 0 rfl) ?_
  refine lv_iload_n C.1 C.2.1 (dd_at tdn_J4_setLength_d00df 1 rfl) rfl (lv_at hl 1 rfl) ?_
  refine nn_cSU (Cl := RJ4) (ws := []) (wc := [(a, .inr (1, [.ref b, .int (0 : Int32), .int ml, .int (nI n)])), (b, .inl (ct 5, m, .inl f))]) (n := 1) (As := [.int (nI 0)]) (rest := []) C hM (nn_rcv C hM (q0 := 0) rfl rfl) ⟨_, ((nn_K C).1 1 _ rfl).2⟩ (n_setLength5 l D B z ct a b ml n m f hn hm hf) (sb_gdSU (sb_c cw714) (sb_c cw715) (sb_c cw583) (sb_c cw716) (sb_c cw494) (sb_c cw713)) hnS_J5_setLength_d00df ⟨(Nat.le_of_ble_eq_true rfl), (Nat.le_of_ble_eq_true rfl)⟩ rfl hl.1 rfl (Nat.le_of_ble_eq_true rfl) (dd_at tdn_J4_setLength_d00df 2 rfl) ⟨(Nat.le_of_ble_eq_true rfl), (Nat.le_of_ble_eq_true rfl)⟩ (fun r u H locs hu hM => ?_)
  obtain ⟨rfl, b2, m2, f2, ml2, rfl, hm2, hf2⟩ := hu
  have hM : nn_H D A s.heap ([(a, .inr (1, [.ref b2, .int (0 : Int32), .int ml2, .int (nI 0)])), (b2, .inl (ct 5, m2, .inl f2))]) H _ := hM
  exact nn_vr C hM ⟨rfl, b2, m2, f2, ml2, rfl, hm2, hf2⟩ (dd_at tdn_J4_setLength_d00df 3 rfl)
def tbn_J5_getValue_6d5f1 : List (Nat × Instr × Nat) := [(0, .aload_n 0, 1), (1, .getfield 15, 3), (4, .areturn, 1)]
theorem tdn_J5_getValue_6d5f1 : tbn_J5_getValue_6d5f1.all (fun q => decide (decode cJ5_getValue_6d5f1 q.1 = .ok (q.2.1, q.2.2))) = true := by decide +kernel
set_option maxHeartbeats 4000000 in
set_option maxRecDepth 100000 in
theorem n_getValue (l : Launch) (D : va_G) (B : Nat) (z : pp_Z) (ct : Nat → ClassId) (a b : Nat) (ml : Int32) (n m : Nat) (f : Nat → Int32) : nn_M l D sb_W (nn_ts ct) B z yJ5_getValue_6d5f1 cJ5_getValue_6d5f1 1 (some (.array .byte)) 1 12 0 0 [.ref a] [nn_bo a b ml (nI n), nn_by ct b m f] (fun r u => r = some (.ref b) ∧ u = [nn_bo a b ml (nI n), nn_by ct b m f]) := by
  refine nn_enter (own := RJ5) (by decide) rfl (Nat.le_of_ble_eq_true rfl) ?_
  intro p e s mi args below meth c ls A C hl hM
  have hl : lv_has ls 1 [(0, .ref a)] := hl
  have hM : nn_H D A s.heap [(a, .inr (1, [.ref b, .int (0 : Int32), .int ml, .int (nI n)])), (b, .inl (ct 5, m, .inl f))] s.heap [] := hM
  refine lv_aload_n C.1 C.2.1 (dd_at tdn_J5_getValue_6d5f1 0 rfl) rfl (lv_at hl 0 rfl) ?_
  refine nn_get C hM 0 (K := RJ4) (T := TJ4) (N := 4) (k := 0) (ref := "java/lang/AbstractStringBuilder") (v := .ref b) rfl rfl sb_inJ4 (Nat.le_of_ble_eq_true rfl) (sb_c cw487) rfl rfl (dd_at tdn_J5_getValue_6d5f1 1 rfl) ?_
  exact nn_ar (Or.inr ⟨_, rfl⟩) C hM ⟨rfl, rfl⟩ (dd_at tdn_J5_getValue_6d5f1 2 rfl)
def tbn_J7_checkLength_df160 : List (Nat × Instr × Nat) := [(0, .iload_n 1, 1), (1, .iload_n 0, 1), (2, .if_icmp .ge 35, 3), (5, .new 43, 3), (8, .dup, 1), (9, .new 45, 3), (12, .dup, 1), (13, .invokespecial 47, 3), (16, .iload_n 0, 1), (17, .invokevirtual 54, 3), (20, .ldc_w 337, 3), (23, .invokevirtual 50, 3), (26, .iload_n 1, 1), (27, .invokevirtual 54, 3), (30, .invokevirtual 61, 3), (33, .invokespecial 65, 3), (36, .athrow, 1), (37, .return_, 1)]
theorem tdn_J7_checkLength_df160 : tbn_J7_checkLength_df160.all (fun q => decide (decode cJ7_checkLength_df160 q.1 = .ok (q.2.1, q.2.2))) = true := by decide +kernel
set_option maxHeartbeats 4000000 in
set_option maxRecDepth 100000 in
theorem n_checkLength (l : Launch) (D : va_G) (B : Nat) (z : pp_Z) (ct : Nat → ClassId) (n : Nat) (hn : n < 1000) : nn_M l D sb_W (nn_ts ct) B z yJ7_checkLength_df160 cJ7_checkLength_df160 2 none 1 12 0 0 [.int (nI 0), .int (nI n)] [] (fun r u => r = none ∧ u = []) := by
  refine nn_enter (own := RJ7) (by decide) rfl (Nat.le_of_ble_eq_true rfl) ?_
  intro p e s mi args below meth c ls A C hl hM
  have hl : lv_has ls 2 [(0, .int (nI 0)), (1, .int (nI n))] := hl
  have hM : nn_H D A s.heap [] s.heap [] := hM
  refine lv_iload_n C.1 C.2.1 (dd_at tdn_J7_checkLength_df160 0 rfl) rfl (lv_at hl 1 rfl) ?_
  refine lv_iload_n C.1 C.2.1 (dd_at tdn_J7_checkLength_df160 1 rfl) rfl (lv_at hl 0 rfl) ?_
  refine lv_icmp_ge (tgt := 37) C.1 C.2.1 (dd_at tdn_J7_checkLength_df160 2 rfl) (by decide) (fun _ => ?_) (fun h => absurd ((nI_le_iff (by omega) (by omega)).mpr (by omega)) h)
  exact nn_vr C hM ⟨rfl, rfl⟩ (dd_at tdn_J7_checkLength_df160 17 rfl)
theorem hnB_J7_checkLength_df160 : yJ7_checkLength_df160.cls ≠ "java/lang/invoke/MethodHandle" ∧ yJ7_checkLength_df160.cls ≠ "java/lang/invoke/VarHandle" ∧ (parseMethodDescriptor yJ7_checkLength_df160.desc).map (fun d => d.parameters.length) = some 2 := by decide +kernel
def tbn_J7_copyOfRangeByte_39247 : List (Nat × Instr × Nat) := [(0, .iload_n 1, 1), (1, .iload_n 2, 1), (2, .invokestatic 343, 3), (5, .iload_n 2, 1), (6, .iload_n 1, 1), (7, .isub, 1), (8, .istore_n 3, 1), (9, .iload_n 3, 1), (10, .newarray .byte, 2), (12, .astore 4, 2), (14, .aload_n 0, 1), (15, .iload_n 1, 1), (16, .aload 4, 2), (18, .iconst 0, 1), (19, .aload_n 0, 1), (20, .arraylength, 1), (21, .iload_n 1, 1), (22, .isub, 1), (23, .iload_n 3, 1), (24, .invokestatic 304, 3), (27, .invokestatic 150, 3), (30, .aload 4, 2), (32, .areturn, 1)]
theorem tdn_J7_copyOfRangeByte_39247 : tbn_J7_copyOfRangeByte_39247.all (fun q => decide (decode cJ7_copyOfRangeByte_39247 q.1 = .ok (q.2.1, q.2.2))) = true := by decide +kernel
set_option maxHeartbeats 4000000 in
set_option maxRecDepth 100000 in
theorem n_copyRB (l : Launch) (D : va_G) (B : Nat) (z : pp_Z) (ct : Nat → ClassId) (b m n : Nat) (f : Nat → Int32) (hn : n ≤ m) (hm : m ≤ 700) (hf : sb_Fit f) : nn_M l D sb_W (nn_ts ct) B z yJ7_copyOfRangeByte_39247 cJ7_copyOfRangeByte_39247 5 (some (.array .byte)) 3 120 1 700 [.ref b, .int (nI 0), .int (nI n)] [nn_by ct b m f] (fun r u => ∃ w f2, r = some (.ref w) ∧ u = [nn_by ct b m f, nn_by ct w n f2] ∧ sb_Fit f2 ∧ ∀ j, j < n → f2 j = f j) := by
  refine nn_enter (own := RJ7) (by decide) rfl (Nat.le_of_ble_eq_true rfl) ?_
  intro p e s mi args below meth c ls A C hl hM
  have hl : lv_has ls 5 [(0, .ref b), (1, .int (nI 0)), (2, .int (nI n))] := hl
  have hM : nn_H D A s.heap [(b, .inl (ct 5, m, .inl f))] s.heap [] := hM
  refine lv_iload_n C.1 C.2.1 (dd_at tdn_J7_copyOfRangeByte_39247 0 rfl) rfl (lv_at hl 1 rfl) ?_
  refine lv_iload_n C.1 C.2.1 (dd_at tdn_J7_copyOfRangeByte_39247 1 rfl) rfl (lv_at hl 2 rfl) ?_
  refine nn_cS (ws := [(b, .inl (ct 5, m, .inl f))]) (wc := []) (n := 2) (As := [.int (nI 0), .int (nI n)]) (rest := []) C hM (n_checkLength l D B z ct n (by omega)) (sb_gdS (sb_c cw663) (sb_c cw664) (sb_c cw610) (sb_c cw661)) hnB_J7_checkLength_df160 ⟨(Nat.le_of_ble_eq_true rfl), (Nat.le_of_ble_eq_true rfl)⟩ rfl hl.1 rfl (Nat.le_of_ble_eq_true rfl) (dd_at tdn_J7_copyOfRangeByte_39247 2 rfl) ⟨(Nat.le_of_ble_eq_true rfl), (Nat.le_of_ble_eq_true rfl)⟩ (fun r u H locs hu hM => ?_)
  obtain ⟨rfl, rfl⟩ := hu
  have hM : nn_H D A s.heap ([(b, .inl (ct 5, m, .inl f))]) H _ := hM
  refine lv_iload_n C.1 C.2.1 (dd_at tdn_J7_copyOfRangeByte_39247 3 rfl) rfl (lv_at hl 2 rfl) ?_
  refine lv_iload_n C.1 C.2.1 (dd_at tdn_J7_copyOfRangeByte_39247 4 rfl) rfl (lv_at hl 1 rfl) ?_
  refine lv_isub C.1 C.2.1 (dd_at tdn_J7_copyOfRangeByte_39247 5 rfl) ?_
  refine lv_topi (fun vy ey => ?_)
  obtain rfl : vy = (nI n) := ey.trans (by rw [nI_subN (by omega) (by omega)]; rfl)
  refine lv_istore_n (lv' := [(3, .int (nI n)), (0, .ref b), (1, .int (nI 0)), (2, .int (nI n))]) C.1 C.2.1 (dd_at tdn_J7_copyOfRangeByte_39247 6 rfl) rfl hl (by decide) rfl (fun ls hl => ?_)
  refine lv_iload_n C.1 C.2.1 (dd_at tdn_J7_copyOfRangeByte_39247 7 rfl) rfl (lv_at hl 0 rfl) ?_
  refine nn_arr (ty := .byte) C hM (atype := .byte) (t0 := 5) (c0 := ct 5) (N' := n) (n, .inl (fun _ => 0)) (sb_c cw481) rfl rfl nn_uB (fun _ => rfl) (nI_pos (by omega)) (nI_clamp (by omega)) (by show n * 1 ≤ _; omega) (Nat.le_of_ble_eq_true rfl) (by show 0 + n ≤ 700; omega) (dd_at tdn_J7_copyOfRangeByte_39247 8 rfl) (fun q0 H hM => ?_)
  have hM : nn_H D A s.heap ([(b, .inl (ct 5, m, .inl f)), (q0, .inl (ct 5, n, .inl (fun _ => 0)))]) H _ := hM
  refine lv_astore (lv' := [(4, .ref q0), (3, .int (nI n)), (0, .ref b), (1, .int (nI 0)), (2, .int (nI n))]) C.1 C.2.1 (dd_at tdn_J7_copyOfRangeByte_39247 9 rfl) hl (by decide) rfl (fun ls hl => ?_)
  refine lv_aload_n C.1 C.2.1 (dd_at tdn_J7_copyOfRangeByte_39247 10 rfl) rfl (lv_at hl 2 rfl) ?_
  refine lv_iload_n C.1 C.2.1 (dd_at tdn_J7_copyOfRangeByte_39247 11 rfl) rfl (lv_at hl 3 rfl) ?_
  refine lv_aload C.1 C.2.1 (dd_at tdn_J7_copyOfRangeByte_39247 12 rfl) (lv_at hl 0 rfl) ?_
  refine lv_iconst (v := (0 : Int32)) C.1 C.2.1 (dd_at tdn_J7_copyOfRangeByte_39247 13 rfl) (by decide) ?_
  refine lv_aload_n C.1 C.2.1 (dd_at tdn_J7_copyOfRangeByte_39247 14 rfl) rfl (lv_at hl 2 rfl) ?_
  refine nn_aln (v := nI m) C hM 0 (t0 := 5) rfl rfl rfl (dd_at tdn_J7_copyOfRangeByte_39247 15 rfl) ?_
  refine lv_iload_n C.1 C.2.1 (dd_at tdn_J7_copyOfRangeByte_39247 16 rfl) rfl (lv_at hl 3 rfl) ?_
  refine lv_isub C.1 C.2.1 (dd_at tdn_J7_copyOfRangeByte_39247 17 rfl) ?_
  refine lv_topi (fun vy ey => ?_)
  obtain rfl : vy = (nI m) := ey.trans (by rw [nI_subN (by omega) (by omega)]; rfl)
  refine lv_iload_n C.1 C.2.1 (dd_at tdn_J7_copyOfRangeByte_39247 18 rfl) rfl (lv_at hl 1 rfl) ?_
  refine va_mmin C.1 C.2.1 (C.2.2.2.1.trans hl.1.symm) (nn_own C) (nn_w C (sb_c cw603)) (nn_w C (sb_c cw74)) (nn_w C (sb_c cw63)) (nn_w C (sb_c cw75)) (Nat.le_of_ble_eq_true rfl) (Nat.le_of_ble_eq_true rfl) (Nat.le_of_ble_eq_true rfl) (by show 0 + 0 + n ≤ 700; omega) (dd_at tdn_J7_copyOfRangeByte_39247 19 rfl) ?_
  refine lv_topi (fun vy ey => ?_)
  obtain rfl : vy = (nI n) := ey.trans (nn_min hn (by omega))
  refine nn_cpy (ws' := [(b, .inl (ct 5, m, .inl f)), (q0, .inl (ct 5, n, .inl (va_cpy f (fun _ => 0) 0 0 n)))]) C hM 0 1 (t0 := 5) hl.1 (sb_c cw604) (sb_c cw337) (sb_c cw338) (sb_c cw339) rfl rfl (by rw [nI_clamp (n := n) (by omega)]; rfl) rfl (nI_pos (by decide)) (by decide) (nI_pos (by omega)) (by rw [nI_clamp (by omega), nI_clamp (by omega)]; omega) (by rw [nI_clamp (by omega)]; show 0 + n ≤ n; omega) hf (Nat.le_of_ble_eq_true rfl) (by decide +kernel) (dd_at tdn_J7_copyOfRangeByte_39247 20 rfl) (fun H locs hM => ?_)
  refine lv_aload C.1 C.2.1 (dd_at tdn_J7_copyOfRangeByte_39247 21 rfl) (lv_at hl 0 rfl) ?_
  refine W.widen (k := 1) (n := 700) (Nat.le_of_ble_eq_true rfl) (by show 0 + n ≤ 700; omega) ?_
  exact nn_ar (Or.inr ⟨_, rfl⟩) C hM ⟨q0, _, rfl, rfl, sb_fitC hf sb_fit0, fun j hj => sb_cpy0 hj⟩ (dd_at tdn_J7_copyOfRangeByte_39247 22 rfl)
theorem hnB_J7_copyOfRangeByte_39247 : yJ7_copyOfRangeByte_39247.cls ≠ "java/lang/invoke/MethodHandle" ∧ yJ7_copyOfRangeByte_39247.cls ≠ "java/lang/invoke/VarHandle" ∧ (parseMethodDescriptor yJ7_copyOfRangeByte_39247.desc).map (fun d => d.parameters.length) = some 3 := by decide +kernel
def tbn_J7_copyOfRange_39247 : List (Nat × Instr × Nat) := [(0, .iload_n 1, 1), (1, .ifCond .ne 9, 3), (4, .iload_n 2, 1), (5, .aload_n 0, 1), (6, .arraylength, 1), (7, .if_icmp .eq 10, 3), (10, .aload_n 0, 1), (11, .iload_n 1, 1), (12, .iload_n 2, 1), (13, .invokestatic 339, 3), (16, .areturn, 1), (17, .aload_n 0, 1), (18, .invokevirtual 310, 3), (21, .checkcast 311, 3), (24, .areturn, 1)]
theorem tdn_J7_copyOfRange_39247 : tbn_J7_copyOfRange_39247.all (fun q => decide (decode cJ7_copyOfRange_39247 q.1 = .ok (q.2.1, q.2.2))) = true := by decide +kernel
set_option maxHeartbeats 4000000 in
set_option maxRecDepth 100000 in
theorem n_copyRA (l : Launch) (D : va_G) (B : Nat) (z : pp_Z) (ct : Nat → ClassId) (b m n : Nat) (f : Nat → Int32) (hn : n < m) (hm : m ≤ 700) (hf : sb_Fit f) : nn_M l D sb_W (nn_ts ct) B z yJ7_copyOfRange_39247 cJ7_copyOfRange_39247 3 (some (.array .byte)) 4 144 1 700 [.ref b, .int (nI 0), .int (nI n)] [nn_by ct b m f] (fun r u => ∃ w f2, r = some (.ref w) ∧ u = [nn_by ct b m f, nn_by ct w n f2] ∧ sb_Fit f2 ∧ ∀ j, j < n → f2 j = f j) := by
  refine nn_enter (own := RJ7) (by decide) rfl (Nat.le_of_ble_eq_true rfl) ?_
  intro p e s mi args below meth c ls A C hl hM
  have hl : lv_has ls 3 [(0, .ref b), (1, .int (nI 0)), (2, .int (nI n))] := hl
  have hM : nn_H D A s.heap [(b, .inl (ct 5, m, .inl f))] s.heap [] := hM
  refine lv_iload_n C.1 C.2.1 (dd_at tdn_J7_copyOfRange_39247 0 rfl) rfl (lv_at hl 1 rfl) ?_
  refine lv_if_ne (tgt := 10) C.1 C.2.1 (dd_at tdn_J7_copyOfRange_39247 1 rfl) (by decide) (fun h => absurd h (fun h => h rfl)) (fun _ => ?_)
  refine lv_iload_n C.1 C.2.1 (dd_at tdn_J7_copyOfRange_39247 2 rfl) rfl (lv_at hl 2 rfl) ?_
  refine lv_aload_n C.1 C.2.1 (dd_at tdn_J7_copyOfRange_39247 3 rfl) rfl (lv_at hl 0 rfl) ?_
  refine nn_aln (v := nI m) C hM 0 (t0 := 5) rfl rfl rfl (dd_at tdn_J7_copyOfRange_39247 4 rfl) ?_
  refine lv_icmp_eq (tgt := 17) C.1 C.2.1 (dd_at tdn_J7_copyOfRange_39247 5 rfl) (by decide) (fun h => absurd h (fun h => by have := (nI_eq (by omega) (by omega)).mp h; omega)) (fun _ => ?_)
  refine lv_aload_n C.1 C.2.1 (dd_at tdn_J7_copyOfRange_39247 6 rfl) rfl (lv_at hl 0 rfl) ?_
  refine lv_iload_n C.1 C.2.1 (dd_at tdn_J7_copyOfRange_39247 7 rfl) rfl (lv_at hl 1 rfl) ?_
  refine lv_iload_n C.1 C.2.1 (dd_at tdn_J7_copyOfRange_39247 8 rfl) rfl (lv_at hl 2 rfl) ?_
  refine nn_cS (ws := []) (wc := [(b, .inl (ct 5, m, .inl f))]) (n := 3) (As := [.ref b, .int (nI 0), .int (nI n)]) (rest := []) C hM (n_copyRB l D B z ct b m n f (by omega) hm hf) (sb_gdS (sb_c cw666) (sb_c cw667) (sb_c cw610) (sb_c cw662)) hnB_J7_copyOfRangeByte_39247 ⟨(Nat.le_of_ble_eq_true rfl), (Nat.le_of_ble_eq_true rfl)⟩ rfl hl.1 rfl (Nat.le_of_ble_eq_true rfl) (dd_at tdn_J7_copyOfRange_39247 9 rfl) ⟨(Nat.le_of_ble_eq_true rfl), (Nat.le_of_ble_eq_true rfl)⟩ (fun r u H locs hu hM => ?_)
  obtain ⟨w, f2, rfl, rfl, hf2, hk2⟩ := hu
  have hM : nn_H D A s.heap ([(b, .inl (ct 5, m, .inl f)), (w, .inl (ct 5, n, .inl f2))]) H _ := hM
  exact nn_ar (Or.inr ⟨_, rfl⟩) C hM ⟨w, f2, rfl, rfl, hf2, hk2⟩ (dd_at tdn_J7_copyOfRange_39247 10 rfl)
set_option maxHeartbeats 4000000 in
set_option maxRecDepth 100000 in
theorem n_copyRC (l : Launch) (D : va_G) (B : Nat) (z : pp_Z) (ct : Nat → ClassId) (b m : Nat) (f : Nat → Int32) (hm : m ≤ 700) (hf : sb_Fit f) : nn_M l D sb_W (nn_ts ct) B z yJ7_copyOfRange_39247 cJ7_copyOfRange_39247 3 (some (.array .byte)) 4 144 1 700 [.ref b, .int (nI 0), .int (nI m)] [nn_by ct b m f] (fun r u => ∃ w f2, r = some (.ref w) ∧ u = [nn_by ct b m f, nn_by ct w m f2] ∧ sb_Fit f2 ∧ ∀ j, j < m → f2 j = f j) := by
  refine nn_enter (own := RJ7) (by decide) rfl (Nat.le_of_ble_eq_true rfl) ?_
  intro p e s mi args below meth c ls A C hl hM
  have hl : lv_has ls 3 [(0, .ref b), (1, .int (nI 0)), (2, .int (nI m))] := hl
  have hM : nn_H D A s.heap [(b, .inl (ct 5, m, .inl f))] s.heap [] := hM
  refine lv_iload_n C.1 C.2.1 (dd_at tdn_J7_copyOfRange_39247 0 rfl) rfl (lv_at hl 1 rfl) ?_
  refine lv_if_ne (tgt := 10) C.1 C.2.1 (dd_at tdn_J7_copyOfRange_39247 1 rfl) (by decide) (fun h => absurd h (fun h => h rfl)) (fun _ => ?_)
  refine lv_iload_n C.1 C.2.1 (dd_at tdn_J7_copyOfRange_39247 2 rfl) rfl (lv_at hl 2 rfl) ?_
  refine lv_aload_n C.1 C.2.1 (dd_at tdn_J7_copyOfRange_39247 3 rfl) rfl (lv_at hl 0 rfl) ?_
  refine nn_aln (v := nI m) C hM 0 (t0 := 5) rfl rfl rfl (dd_at tdn_J7_copyOfRange_39247 4 rfl) ?_
  refine lv_icmp_eq (tgt := 17) C.1 C.2.1 (dd_at tdn_J7_copyOfRange_39247 5 rfl) (by decide) (fun _ => ?_) (fun h => absurd (rfl) h)
  refine lv_aload_n C.1 C.2.1 (dd_at tdn_J7_copyOfRange_39247 11 rfl) rfl (lv_at hl 0 rfl) ?_
  refine nn_cln C hM 0 (t0 := 5) hl.1 (sb_c cw597) (sb_c cw598) (sb_c cw599) (sb_c cw600) (sb_c cw601) rfl rfl hf (Nat.le_of_ble_eq_true rfl) (Nat.le_of_ble_eq_true rfl) (Nat.le_of_ble_eq_true rfl) (by show 0 + m ≤ 700; omega) (dd_at tdn_J7_copyOfRange_39247 12 rfl) (fun q9 H hM => ?_)
  have hM : nn_H D A s.heap ([(b, .inl (ct 5, m, .inl f)), (q9, .inl (ct 5, m, .inl f))]) H _ := hM
  refine nn_cst C hM 1 (t0 := 5) (sb_c cw602) rfl rfl (dd_at tdn_J7_copyOfRange_39247 13 rfl) ?_
  refine W.widen (k := 1) (n := 700) (Nat.le_of_ble_eq_true rfl) (by show 0 + m ≤ 700; omega) ?_
  exact nn_ar (Or.inr ⟨_, rfl⟩) C hM ⟨q9, f, rfl, rfl, hf, fun _ _ => rfl⟩ (dd_at tdn_J7_copyOfRange_39247 14 rfl)
theorem n_copyR (l : Launch) (D : va_G) (B : Nat) (z : pp_Z) (ct : Nat → ClassId) (b m n : Nat) (f : Nat → Int32) (hn : n ≤ m) (hm : m ≤ 700) (hf : sb_Fit f) : nn_M l D sb_W (nn_ts ct) B z yJ7_copyOfRange_39247 cJ7_copyOfRange_39247 3 (some (.array .byte)) 4 144 1 700 [.ref b, .int (nI 0), .int (nI n)] [nn_by ct b m f] (fun r u => ∃ w f2, r = some (.ref w) ∧ u = [nn_by ct b m f, nn_by ct w n f2] ∧ sb_Fit f2 ∧ ∀ j, j < n → f2 j = f j) := by
  by_cases h : n = m
  · subst h
    exact n_copyRC l D B z ct b n f hm hf
  · exact n_copyRA l D B z ct b m n f (by omega) hm hf
def nn_so (t : Nat) (v : Value) : Nat × va_E := (t, .inr (0, [v, .int 0, .int 0, .int 0]))
theorem hnU_J5_getValue_6d5f1 : ("java/lang/AbstractStringBuilder" : String) ≠ "java/lang/invoke/MethodHandle" ∧ ("java/lang/AbstractStringBuilder" : String) ≠ "java/lang/invoke/VarHandle" ∧ (parseMethodDescriptor yJ5_getValue_6d5f1.desc).map (fun d => d.parameters.length) = some 0 := by decide +kernel
theorem hnU_J5_length_8abf5 : ("java/lang/AbstractStringBuilder" : String) ≠ "java/lang/invoke/MethodHandle" ∧ ("java/lang/AbstractStringBuilder" : String) ≠ "java/lang/invoke/VarHandle" ∧ (parseMethodDescriptor yJ5_length_8abf5.desc).map (fun d => d.parameters.length) = some 0 := by decide +kernel
theorem hnB_J7_copyOfRange_39247 : yJ7_copyOfRange_39247.cls ≠ "java/lang/invoke/MethodHandle" ∧ yJ7_copyOfRange_39247.cls ≠ "java/lang/invoke/VarHandle" ∧ (parseMethodDescriptor yJ7_copyOfRange_39247.desc).map (fun d => d.parameters.length) = some 3 := by decide +kernel
def tbn_J0_init_db425 : List (Nat × Instr × Nat) := [(0, .aload_n 0, 1), (1, .invokespecial 1, 3), (4, .aload_n 1, 1), (5, .invokevirtual 552, 3), (8, .astore_n 3, 1), (9, .aload_n 1, 1), (10, .invokevirtual 549, 3), (13, .istore 4, 2), (15, .aload_n 1, 1), (16, .invokevirtual 1047, 3), (19, .ifCond .eq 22, 3), (22, .aload_n 0, 1), (23, .iconst 0, 1), (24, .putfield 15, 3), (27, .aload_n 0, 1), (28, .aload_n 3, 1), (29, .iconst 0, 1), (30, .iload 4, 2), (32, .invokestatic 54, 3), (35, .putfield 9, 3), (38, .goto 59, 3), (41, .getstatic 38, 3), (44, .ifCond .eq 35, 3), (47, .aload_n 1, 1), (48, .getfield 1048, 3), (51, .ifCond .eq 28, 3), (54, .aload_n 0, 1), (55, .aload_n 3, 1), (56, .iconst 0, 1), (57, .iload 4, 2), (59, .invokestatic 1051, 3), (62, .putfield 9, 3), (65, .aload_n 0, 1), (66, .aload_n 0, 1), (67, .getfield 9, 3), (70, .iload 4, 2), (72, .invokestatic 47, 3), (75, .putfield 15, 3), (78, .return_, 1), (79, .aload_n 0, 1), (80, .iconst 1, 1), (81, .putfield 15, 3), (84, .aload_n 0, 1), (85, .aload_n 3, 1), (86, .iconst 0, 1), (87, .iload 4, 2), (89, .iconst 1, 1), (90, .ishl, 1), (91, .invokestatic 54, 3), (94, .putfield 9, 3), (97, .return_, 1)]
theorem tdn_J0_init_db425 : tbn_J0_init_db425.all (fun q => decide (decode cJ0_init_db425 q.1 = .ok (q.2.1, q.2.2))) = true := by decide +kernel
set_option maxHeartbeats 4000000 in
set_option maxRecDepth 100000 in
theorem n_string5 (l : Launch) (D : va_G) (B : Nat) (z : pp_Z) (ct : Nat → ClassId) (t : Nat) (a b : Nat) (ml : Int32) (n m : Nat) (f : Nat → Int32) (hn : n ≤ m) (hm : m ≤ 700) (hf : sb_Fit f) : nn_M l D sb_W (nn_ts ct) B z yJ0_init_db425 cJ0_init_db425 5 none 5 166 1 700 [.ref t, .ref a, .null] [nn_so t .null, nn_bo a b ml (nI n), nn_by ct b m f] (fun r u => r = none ∧ ∃ w f2, u = [nn_so t (.ref w), nn_bo a b ml (nI n), nn_by ct b m f, nn_by ct w n f2] ∧ sb_Fit f2 ∧ ∀ j, j < n → f2 j = f j) := by
  refine nn_enter (own := RJ0) (by decide) rfl (Nat.le_of_ble_eq_true rfl) ?_
  intro p e s mi args below meth c ls A C hl hM
  have hl : lv_has ls 5 [(0, .ref t), (1, .ref a), (2, .null)] := hl
  have hM : nn_H D A s.heap [(t, .inr (0, [.null, .int (0 : Int32), .int (0 : Int32), .int (0 : Int32)])), (a, .inr (1, [.ref b, .int (0 : Int32), .int ml, .int (nI n)])), (b, .inl (ct 5, m, .inl f))] s.heap [] := hM
  refine lv_aload_n C.1 C.2.1 (dd_at tdn_J0_init_db425 0 rfl) rfl (lv_at hl 0 rfl) ?_
  refine nn_obj C hl.1 (sb_c cw675) (sb_c cw167) (sb_c cw168) (dd_at tdn_J0_init_db425 1 rfl) (Nat.le_of_ble_eq_true rfl) (Nat.le_of_ble_eq_true rfl) ?_
  refine lv_aload_n C.1 C.2.1 (dd_at tdn_J0_init_db425 2 rfl) rfl (lv_at hl 1 rfl) ?_
  refine nn_cU (Cl := RJ4) (owner := "java/lang/AbstractStringBuilder") (x := ⟨"java/lang/AbstractStringBuilder", "getValue", "()[B"⟩) (ws := [(t, .inr (0, [.null, .int (0 : Int32), .int (0 : Int32), .int (0 : Int32)]))]) (wc := [(a, .inr (1, [.ref b, .int (0 : Int32), .int ml, .int (nI n)])), (b, .inl (ct 5, m, .inl f))]) (n := 0) (As := []) (rest := []) C hM (nn_rcv C hM (q0 := 1) rfl rfl) (n_getValue l D B z ct a b ml n m f) (sb_gdU (sb_c cw677) (sb_c cw678) (sb_c cw679) (sb_c cw680) (sb_c cw494) (sb_c cw660)) rfl hnU_J5_getValue_6d5f1 ⟨(Nat.le_of_ble_eq_true rfl), (Nat.le_of_ble_eq_true rfl)⟩ rfl hl.1 rfl (Nat.le_of_ble_eq_true rfl) (dd_at tdn_J0_init_db425 3 rfl) ⟨(Nat.le_of_ble_eq_true rfl), (Nat.le_of_ble_eq_true rfl)⟩ (fun r u H locs hu hM => ?_)
  obtain ⟨rfl, rfl⟩ := hu
  have hM : nn_H D A s.heap ([(t, .inr (0, [.null, .int (0 : Int32), .int (0 : Int32), .int (0 : Int32)])), (a, .inr (1, [.ref b, .int (0 : Int32), .int ml, .int (nI n)])), (b, .inl (ct 5, m, .inl f))]) H _ := hM
  refine lv_astore_n (lv' := [(3, .ref b), (0, .ref t), (1, .ref a), (2, .null)]) C.1 C.2.1 (dd_at tdn_J0_init_db425 4 rfl) rfl hl (by decide) rfl (fun ls hl => ?_)
  refine lv_aload_n C.1 C.2.1 (dd_at tdn_J0_init_db425 5 rfl) rfl (lv_at hl 2 rfl) ?_
  refine nn_cO (Cl := RJ4) (owner := "java/lang/AbstractStringBuilder") (x := ⟨"java/lang/AbstractStringBuilder", "length", "()I"⟩) (ws := [(t, .inr (0, [.null, .int (0 : Int32), .int (0 : Int32), .int (0 : Int32)]))]) (wc := [(a, .inr (1, [.ref b, .int (0 : Int32), .int ml, .int (nI n)])), (b, .inl (ct 5, m, .inl f))]) (n := 0) (As := []) (rest := []) C hM (nn_rcv C hM (q0 := 1) rfl rfl) (n_length l D B z ct a b ml n m f) (sb_gdO (sb_c cw681) (sb_c cw582) (sb_c cw584) (sb_c cw683) (sb_c cw654) (sb_c cw507) (sb_c cw580)) (sb_c cw578) hnU_J5_length_8abf5 ⟨(Nat.le_of_ble_eq_true rfl), (Nat.le_of_ble_eq_true rfl)⟩ rfl hl.1 rfl (Nat.le_of_ble_eq_true rfl) (dd_at tdn_J0_init_db425 6 rfl) ⟨(Nat.le_of_ble_eq_true rfl), (Nat.le_of_ble_eq_true rfl)⟩ (fun r u H locs hu hM => ?_)
  obtain ⟨rfl, rfl⟩ := hu
  have hM : nn_H D A s.heap ([(t, .inr (0, [.null, .int (0 : Int32), .int (0 : Int32), .int (0 : Int32)])), (a, .inr (1, [.ref b, .int (0 : Int32), .int ml, .int (nI n)])), (b, .inl (ct 5, m, .inl f))]) H _ := hM
  refine lv_istore (lv' := [(4, .int (nI n)), (3, .ref b), (0, .ref t), (1, .ref a), (2, .null)]) C.1 C.2.1 (dd_at tdn_J0_init_db425 7 rfl) hl (by decide) rfl (fun ls hl => ?_)
  refine lv_aload_n C.1 C.2.1 (dd_at tdn_J0_init_db425 8 rfl) rfl (lv_at hl 3 rfl) ?_
  refine nn_cU (Cl := RJ4) (owner := "java/lang/AbstractStringBuilder") (x := ⟨"java/lang/AbstractStringBuilder", "isLatin1", "()Z"⟩) (ws := [(t, .inr (0, [.null, .int (0 : Int32), .int (0 : Int32), .int (0 : Int32)]))]) (wc := [(a, .inr (1, [.ref b, .int (0 : Int32), .int ml, .int (nI n)])), (b, .inl (ct 5, m, .inl f))]) (n := 0) (As := []) (rest := []) C hM (nn_rcv C hM (q0 := 1) rfl rfl) (n_isLatin1 l D B z ct a b ml n m f) (sb_gdU (sb_c cw684) (sb_c cw631) (sb_c cw632) (sb_c cw633) (sb_c cw494) (sb_c cw612)) rfl hnU_J5_isLatin1_aae02 ⟨(Nat.le_of_ble_eq_true rfl), (Nat.le_of_ble_eq_true rfl)⟩ rfl hl.1 rfl (Nat.le_of_ble_eq_true rfl) (dd_at tdn_J0_init_db425 9 rfl) ⟨(Nat.le_of_ble_eq_true rfl), (Nat.le_of_ble_eq_true rfl)⟩ (fun r u H locs hu hM => ?_)
  obtain ⟨rfl, rfl⟩ := hu
  have hM : nn_H D A s.heap ([(t, .inr (0, [.null, .int (0 : Int32), .int (0 : Int32), .int (0 : Int32)])), (a, .inr (1, [.ref b, .int (0 : Int32), .int ml, .int (nI n)])), (b, .inl (ct 5, m, .inl f))]) H _ := hM
  refine lv_if_eq (tgt := 41) C.1 C.2.1 (dd_at tdn_J0_init_db425 10 rfl) (by decide) (fun h => absurd h (by decide)) (fun _ => ?_)
  refine lv_aload_n C.1 C.2.1 (dd_at tdn_J0_init_db425 11 rfl) rfl (lv_at hl 2 rfl) ?_
  refine lv_iconst (v := (0 : Int32)) C.1 C.2.1 (dd_at tdn_J0_init_db425 12 rfl) (by decide) ?_
  refine nn_ptF (ws' := [(t, .inr (0, [.null, .int (0 : Int32), .int (0 : Int32), .int (0 : Int32)])), (a, .inr (1, [.ref b, .int (0 : Int32), .int ml, .int (nI n)])), (b, .inl (ct 5, m, .inl f))]) C hM 0 (K := RJ0) (T := TJ0) (k := 1) (ty0 := tyJ0) rfl rfl rfl sb_inJ0 tyJ0_ok nmJ0 (Nat.le_of_ble_eq_true rfl) (sb_c cw2) rfl rfl rfl rfl rfl (Nat.le_of_ble_eq_true rfl) (dd_at tdn_J0_init_db425 13 rfl) (fun H locs hM => ?_)
  refine lv_aload_n C.1 C.2.1 (dd_at tdn_J0_init_db425 14 rfl) rfl (lv_at hl 2 rfl) ?_
  refine lv_aload_n C.1 C.2.1 (dd_at tdn_J0_init_db425 15 rfl) rfl (lv_at hl 1 rfl) ?_
  refine lv_iconst (v := (0 : Int32)) C.1 C.2.1 (dd_at tdn_J0_init_db425 16 rfl) (by decide) ?_
  refine lv_iload C.1 C.2.1 (dd_at tdn_J0_init_db425 17 rfl) (lv_at hl 0 rfl) ?_
  refine nn_cS (ws := [(t, .inr (0, [.null, .int (0 : Int32), .int (0 : Int32), .int (0 : Int32)])), (a, .inr (1, [.ref b, .int (0 : Int32), .int ml, .int (nI n)]))]) (wc := [(b, .inl (ct 5, m, .inl f))]) (n := 3) (As := [.ref b, .int (0 : Int32), .int (nI n)]) (rest := [.ref t]) C hM (n_copyR l D B z ct b m n f hn hm hf) (sb_gdS (sb_c cw685) (sb_c cw672) (sb_c cw610) (sb_c cw665)) hnB_J7_copyOfRange_39247 ⟨(Nat.le_of_ble_eq_true rfl), (Nat.le_of_ble_eq_true rfl)⟩ rfl hl.1 rfl (Nat.le_of_ble_eq_true rfl) (dd_at tdn_J0_init_db425 18 rfl) ⟨(Nat.le_of_ble_eq_true rfl), (Nat.le_of_ble_eq_true rfl)⟩ (fun r u H locs hu hM => ?_)
  obtain ⟨w, f2, rfl, rfl, hf2, hk2⟩ := hu
  have hM : nn_H D A s.heap ([(t, .inr (0, [.null, .int (0 : Int32), .int (0 : Int32), .int (0 : Int32)])), (a, .inr (1, [.ref b, .int (0 : Int32), .int ml, .int (nI n)])), (b, .inl (ct 5, m, .inl f)), (w, .inl (ct 5, n, .inl f2))]) H _ := hM
  refine nn_ptF (ws' := [(t, .inr (0, [.ref w, .int (0 : Int32), .int (0 : Int32), .int (0 : Int32)])), (a, .inr (1, [.ref b, .int (0 : Int32), .int ml, .int (nI n)])), (b, .inl (ct 5, m, .inl f)), (w, .inl (ct 5, n, .inl f2))]) C hM 0 (K := RJ0) (T := TJ0) (k := 0) (ty0 := tyJ0) rfl rfl rfl sb_inJ0 tyJ0_ok nmJ0 (Nat.le_of_ble_eq_true rfl) (sb_c cw4) rfl rfl rfl rfl rfl (Nat.le_of_ble_eq_true rfl) (dd_at tdn_J0_init_db425 19 rfl) (fun H locs hM => ?_)
  refine lv_goto (tgt := 97) C.1 C.2.1 (dd_at tdn_J0_init_db425 20 rfl) (by decide) ?_
  exact nn_vr C hM ⟨rfl, w, f2, rfl, hf2, hk2⟩ (dd_at tdn_J0_init_db425 50 rfl)
theorem hnB_J0_init_db425 : yJ0_init_db425.cls ≠ "java/lang/invoke/MethodHandle" ∧ yJ0_init_db425.cls ≠ "java/lang/invoke/VarHandle" ∧ (parseMethodDescriptor yJ0_init_db425.desc).map (fun d => d.parameters.length) = some 2 := by decide +kernel
def tbn_J0_init_81219 : List (Nat × Instr × Nat) := [(0, .aload_n 0, 1), (1, .aload_n 1, 1), (2, .aconst_null, 1), (3, .invokespecial 489, 3), (6, .return_, 1)]
theorem tdn_J0_init_81219 : tbn_J0_init_81219.all (fun q => decide (decode cJ0_init_81219 q.1 = .ok (q.2.1, q.2.2))) = true := by decide +kernel
set_option maxHeartbeats 4000000 in
set_option maxRecDepth 100000 in
theorem n_string (l : Launch) (D : va_G) (B : Nat) (z : pp_Z) (ct : Nat → ClassId) (t : Nat) (a b : Nat) (ml : Int32) (n m : Nat) (f : Nat → Int32) (hn : n ≤ m) (hm : m ≤ 700) (hf : sb_Fit f) : nn_M l D sb_W (nn_ts ct) B z yJ0_init_81219 cJ0_init_81219 2 none 6 190 1 700 [.ref t, .ref a] [nn_so t .null, nn_bo a b ml (nI n), nn_by ct b m f] (fun r u => r = none ∧ ∃ w f2, u = [nn_so t (.ref w), nn_bo a b ml (nI n), nn_by ct b m f, nn_by ct w n f2] ∧ sb_Fit f2 ∧ ∀ j, j < n → f2 j = f j) := by
  refine nn_enter (own := RJ0) (by decide) rfl (Nat.le_of_ble_eq_true rfl) ?_
  intro p e s mi args below meth c ls A C hl hM
  have hl : lv_has ls 2 [(0, .ref t), (1, .ref a)] := hl
  have hM : nn_H D A s.heap [(t, .inr (0, [.null, .int (0 : Int32), .int (0 : Int32), .int (0 : Int32)])), (a, .inr (1, [.ref b, .int (0 : Int32), .int ml, .int (nI n)])), (b, .inl (ct 5, m, .inl f))] s.heap [] := hM
  refine lv_aload_n C.1 C.2.1 (dd_at tdn_J0_init_81219 0 rfl) rfl (lv_at hl 0 rfl) ?_
  refine lv_aload_n C.1 C.2.1 (dd_at tdn_J0_init_81219 1 rfl) rfl (lv_at hl 1 rfl) ?_
  refine lv_null C.1 C.2.1 (dd_at tdn_J0_init_81219 2 rfl) ?_
  refine nn_cI (q := t) (ws := []) (wc := [(t, .inr (0, [.null, .int (0 : Int32), .int (0 : Int32), .int (0 : Int32)])), (a, .inr (1, [.ref b, .int (0 : Int32), .int ml, .int (nI n)])), (b, .inl (ct 5, m, .inl f))]) (n := 2) (As := [.ref a, .null]) (rest := []) C hM (n_string5 l D B z ct t a b ml n m f hn hm hf) (sb_gd1 (sb_c cw690)) (sb_c cw8) (sb_c cw691) (sb_c cw692) rfl hnB_J0_init_db425 ⟨(Nat.le_of_ble_eq_true rfl), (Nat.le_of_ble_eq_true rfl)⟩ rfl hl.1 rfl (Nat.le_of_ble_eq_true rfl) (dd_at tdn_J0_init_81219 3 rfl) ⟨(Nat.le_of_ble_eq_true rfl), (Nat.le_of_ble_eq_true rfl)⟩ (fun r u H locs hu hM => ?_)
  obtain ⟨rfl, w, f2, rfl, hf2, hk2⟩ := hu
  have hM : nn_H D A s.heap ([(t, .inr (0, [.ref w, .int (0 : Int32), .int (0 : Int32), .int (0 : Int32)])), (a, .inr (1, [.ref b, .int (0 : Int32), .int ml, .int (nI n)])), (b, .inl (ct 5, m, .inl f)), (w, .inl (ct 5, n, .inl f2))]) H _ := hM
  exact nn_vr C hM ⟨rfl, w, f2, rfl, hf2, hk2⟩ (dd_at tdn_J0_init_81219 4 rfl)
theorem hnB_J0_init_81219 : yJ0_init_81219.cls ≠ "java/lang/invoke/MethodHandle" ∧ yJ0_init_81219.cls ≠ "java/lang/invoke/VarHandle" ∧ (parseMethodDescriptor yJ0_init_81219.desc).map (fun d => d.parameters.length) = some 1 := by decide +kernel
def tbn_J4_toString_0e30d : List (Nat × Instr × Nat) := [(0, .new 18, 3), (3, .dup, 1), (4, .aload_n 0, 1), (5, .invokespecial 137, 3), (8, .areturn, 1)]
theorem tdn_J4_toString_0e30d : tbn_J4_toString_0e30d.all (fun q => decide (decode cJ4_toString_0e30d q.1 = .ok (q.2.1, q.2.2))) = true := by decide +kernel
set_option maxHeartbeats 4000000 in
set_option maxRecDepth 100000 in
theorem n_toString (l : Launch) (D : va_G) (B : Nat) (z : pp_Z) (ct : Nat → ClassId) (a b : Nat) (ml : Int32) (n m : Nat) (f : Nat → Int32) (hn : n ≤ m) (hm : m ≤ 700) (hf : sb_Fit f) : nn_M l D sb_W (nn_ts ct) B z yJ4_toString_0e30d cJ4_toString_0e30d 1 (some (.object "java/lang/String")) 7 211 2 704 [.ref a] [nn_bo a b ml (nI n), nn_by ct b m f] (fun r u => ∃ t w f2, r = some (.ref t) ∧ u = [nn_so t (.ref w), nn_bo a b ml (nI n), nn_by ct b m f, nn_by ct w n f2] ∧ sb_Fit f2 ∧ ∀ j, j < n → f2 j = f j) := by
  refine nn_enter (own := RJ4) (by decide) rfl (Nat.le_of_ble_eq_true rfl) ?_
  intro p e s mi args below meth c ls A C hl hM
  have hl : lv_has ls 1 [(0, .ref a)] := hl
  have hM : nn_H D A s.heap [(a, .inr (1, [.ref b, .int (0 : Int32), .int ml, .int (nI n)])), (b, .inl (ct 5, m, .inl f))] s.heap [] := hM
  refine nn_new C hM (K := RJ0) (T := TJ0) (ty0 := tyJ0) (N1 := 4) (c1 := 0) (fun j => defaultValue (tyJ0 j)) rfl sb_inJ0 tyJ0_ok (sb_c cw694) (sb_c cw695) (sb_c cw8) (fun _ _ => rfl) (Nat.le_of_ble_eq_true rfl) (Nat.le_of_ble_eq_true rfl) (dd_at tdn_J4_toString_0e30d 0 rfl) (fun t H hM => ?_)
  have hM := nn_perm (ws' := [(t, .inr (0, [.null, .int (0 : Int32), .int (0 : Int32), .int (0 : Int32)])), nn_bo a b ml (nI n), nn_by ct b m f]) (List.perm_append_comm (l₁ := [nn_bo a b ml (nI n), nn_by ct b m f]) (l₂ := [(t, .inr (0, [.null, .int (0 : Int32), .int (0 : Int32), .int (0 : Int32)]))])) hM
  have hM : nn_H D A s.heap ([(t, .inr (0, [.null, .int (0 : Int32), .int (0 : Int32), .int (0 : Int32)])), (a, .inr (1, [.ref b, .int (0 : Int32), .int ml, .int (nI n)])), (b, .inl (ct 5, m, .inl f))]) H _ := hM
  refine lv_dup C.1 C.2.1 (dd_at tdn_J4_toString_0e30d 1 rfl) rfl ?_
  refine lv_aload_n C.1 C.2.1 (dd_at tdn_J4_toString_0e30d 2 rfl) rfl (lv_at hl 0 rfl) ?_
  refine nn_cI (q := t) (ws := []) (wc := [(t, .inr (0, [.null, .int (0 : Int32), .int (0 : Int32), .int (0 : Int32)])), (a, .inr (1, [.ref b, .int (0 : Int32), .int ml, .int (nI n)])), (b, .inl (ct 5, m, .inl f))]) (n := 1) (As := [.ref a]) (rest := [.ref t]) C hM (n_string l D B z ct t a b ml n m f hn hm hf) (sb_gd1 (sb_c cw693)) (sb_c cw8) (sb_c cw696) (sb_c cw697) rfl hnB_J0_init_81219 ⟨(Nat.le_of_ble_eq_true rfl), (Nat.le_of_ble_eq_true rfl)⟩ rfl hl.1 rfl (Nat.le_of_ble_eq_true rfl) (dd_at tdn_J4_toString_0e30d 3 rfl) ⟨(Nat.le_of_ble_eq_true rfl), (Nat.le_of_ble_eq_true rfl)⟩ (fun r u H locs hu hM => ?_)
  obtain ⟨rfl, w, f2, rfl, hf2, hk2⟩ := hu
  have hM : nn_H D A s.heap ([(t, .inr (0, [.ref w, .int (0 : Int32), .int (0 : Int32), .int (0 : Int32)])), (a, .inr (1, [.ref b, .int (0 : Int32), .int ml, .int (nI n)])), (b, .inl (ct 5, m, .inl f)), (w, .inl (ct 5, n, .inl f2))]) H _ := hM
  exact nn_ar (Or.inl ⟨_, rfl⟩) C hM ⟨t, w, f2, rfl, rfl, hf2, hk2⟩ (dd_at tdn_J4_toString_0e30d 4 rfl)
def tbn_J5_init_d00df : List (Nat × Instr × Nat) := [(0, .aload_n 0, 1), (1, .invokespecial 3, 3), (4, .getstatic 18, 3), (7, .ifCond .eq 18, 3), (10, .aload_n 0, 1), (11, .iload_n 1, 1), (12, .newarray .byte, 2), (14, .putfield 15, 3), (17, .aload_n 0, 1), (18, .iconst 0, 1), (19, .putfield 22, 3), (22, .goto 16, 3), (25, .aload_n 0, 1), (26, .iload_n 1, 1), (27, .invokestatic 26, 3), (30, .putfield 15, 3), (33, .aload_n 0, 1), (34, .iconst 1, 1), (35, .putfield 22, 3), (38, .return_, 1)]
theorem tdn_J5_init_d00df : tbn_J5_init_d00df.all (fun q => decide (decode cJ5_init_d00df q.1 = .ok (q.2.1, q.2.2))) = true := by decide +kernel
set_option maxHeartbeats 4000000 in
set_option maxRecDepth 100000 in
theorem n_init5 (l : Launch) (D : va_G) (B : Nat) (z : pp_Z) (ct : Nat → ClassId) (a : Nat) : nn_M l D sb_W (nn_ts ct) B z yJ5_init_d00df cJ5_init_d00df 2 none 2 40 1 16 [.ref a, .int 16] [(a, .inr (1, [.null, .int 0, .int 0, .int 0]))] (fun r u => r = none ∧ ∃ b, u = [nn_bo a b 0 (nI 0), nn_by ct b 16 (fun _ => 0)]) := by
  refine nn_enter (own := RJ5) (by decide) rfl (Nat.le_of_ble_eq_true rfl) ?_
  intro p e s mi args below meth c ls A C hl hM
  have hl : lv_has ls 2 [(0, .ref a), (1, .int (16 : Int32))] := hl
  have hM : nn_H D A s.heap [(a, .inr (1, [.null, .int (0 : Int32), .int (0 : Int32), .int (0 : Int32)]))] s.heap [] := hM
  refine lv_aload_n C.1 C.2.1 (dd_at tdn_J5_init_d00df 0 rfl) rfl (lv_at hl 0 rfl) ?_
  refine nn_obj C hl.1 (sb_c cw485) (sb_c cw167) (sb_c cw168) (dd_at tdn_J5_init_d00df 1 rfl) (Nat.le_of_ble_eq_true rfl) (Nat.le_of_ble_eq_true rfl) ?_
  refine nn_gets (ref := "java/lang/String") C hM (nn_e C).2.2.2.2.1.1 (sb_c cw486) rfl (dd_at tdn_J5_init_d00df 2 rfl) ?_
  refine lv_if_eq (tgt := 25) C.1 C.2.1 (dd_at tdn_J5_init_d00df 3 rfl) (by decide) (fun h => absurd h (by decide)) (fun _ => ?_)
  refine lv_aload_n C.1 C.2.1 (dd_at tdn_J5_init_d00df 4 rfl) rfl (lv_at hl 0 rfl) ?_
  refine lv_iload_n C.1 C.2.1 (dd_at tdn_J5_init_d00df 5 rfl) rfl (lv_at hl 1 rfl) ?_
  refine nn_arr (ty := .byte) C hM (atype := .byte) (t0 := 5) (c0 := ct 5) (N' := 16) (16, .inl (fun _ => 0)) (sb_c cw481) rfl rfl nn_uB (fun _ => rfl) (by decide) (rfl) (Nat.le_of_ble_eq_true rfl) (Nat.le_of_ble_eq_true rfl) (Nat.le_of_ble_eq_true rfl) (dd_at tdn_J5_init_d00df 6 rfl) (fun q0 H hM => ?_)
  have hM : nn_H D A s.heap ([(a, .inr (1, [.null, .int (0 : Int32), .int (0 : Int32), .int (0 : Int32)])), (q0, .inl (ct 5, 16, .inl (fun _ => 0)))]) H _ := hM
  refine nn_pt (ws' := [(a, .inr (1, [.ref q0, .int (0 : Int32), .int (0 : Int32), .int (0 : Int32)])), (q0, .inl (ct 5, 16, .inl (fun _ => 0)))]) C hM 0 (ref := "java/lang/AbstractStringBuilder") (K := RJ4) (T := TJ4) (k := 0) (ty0 := tyJ4) rfl rfl rfl sb_inJ4 tyJ4_ok nmJ4 (Nat.le_of_ble_eq_true rfl) (sb_c cw487) rfl rfl rfl rfl (Nat.le_of_ble_eq_true rfl) (dd_at tdn_J5_init_d00df 7 rfl) (fun H locs hM => ?_)
  refine lv_aload_n C.1 C.2.1 (dd_at tdn_J5_init_d00df 8 rfl) rfl (lv_at hl 0 rfl) ?_
  refine lv_iconst (v := (0 : Int32)) C.1 C.2.1 (dd_at tdn_J5_init_d00df 9 rfl) (by decide) ?_
  refine nn_pt (ws' := [(a, .inr (1, [.ref q0, .int (0 : Int32), .int (0 : Int32), .int (0 : Int32)])), (q0, .inl (ct 5, 16, .inl (fun _ => 0)))]) C hM 0 (ref := "java/lang/AbstractStringBuilder") (K := RJ4) (T := TJ4) (k := 1) (ty0 := tyJ4) rfl rfl rfl sb_inJ4 tyJ4_ok nmJ4 (Nat.le_of_ble_eq_true rfl) (sb_c cw488) rfl rfl rfl rfl (Nat.le_of_ble_eq_true rfl) (dd_at tdn_J5_init_d00df 10 rfl) (fun H locs hM => ?_)
  refine lv_goto (tgt := 38) C.1 C.2.1 (dd_at tdn_J5_init_d00df 11 rfl) (by decide) ?_
  refine W.widen (k := 1) (n := 16) (Nat.le_of_ble_eq_true rfl) (Nat.le_of_ble_eq_true rfl) ?_
  exact nn_vr C hM ⟨rfl, q0, rfl⟩ (dd_at tdn_J5_init_d00df 19 rfl)
theorem hnB_J5_init_d00df : yJ5_init_d00df.cls ≠ "java/lang/invoke/MethodHandle" ∧ yJ5_init_d00df.cls ≠ "java/lang/invoke/VarHandle" ∧ (parseMethodDescriptor yJ5_init_d00df.desc).map (fun d => d.parameters.length) = some 1 := by decide +kernel
def tbn_J4_init_da8c8 : List (Nat × Instr × Nat) := [(0, .aload_n 0, 1), (1, .bipush 16, 2), (3, .invokespecial 1, 3), (6, .return_, 1)]
theorem tdn_J4_init_da8c8 : tbn_J4_init_da8c8.all (fun q => decide (decode cJ4_init_da8c8 q.1 = .ok (q.2.1, q.2.2))) = true := by decide +kernel
set_option maxHeartbeats 4000000 in
set_option maxRecDepth 100000 in
theorem n_init (l : Launch) (D : va_G) (B : Nat) (z : pp_Z) (ct : Nat → ClassId) (a : Nat) : nn_M l D sb_W (nn_ts ct) B z yJ4_init_da8c8 cJ4_init_da8c8 1 none 3 61 1 16 [.ref a] [(a, .inr (1, [.null, .int 0, .int 0, .int 0]))] (fun r u => r = none ∧ ∃ b, u = [nn_bo a b 0 (nI 0), nn_by ct b 16 (fun _ => 0)]) := by
  refine nn_enter (own := RJ4) (by decide) rfl (Nat.le_of_ble_eq_true rfl) ?_
  intro p e s mi args below meth c ls A C hl hM
  have hl : lv_has ls 1 [(0, .ref a)] := hl
  have hM : nn_H D A s.heap [(a, .inr (1, [.null, .int (0 : Int32), .int (0 : Int32), .int (0 : Int32)]))] s.heap [] := hM
  refine lv_aload_n C.1 C.2.1 (dd_at tdn_J4_init_da8c8 0 rfl) rfl (lv_at hl 0 rfl) ?_
  refine lv_bipush (v := (16 : Int32)) C.1 C.2.1 (dd_at tdn_J4_init_da8c8 1 rfl) (by decide) ?_
  refine nn_cI (q := a) (ws := []) (wc := [(a, .inr (1, [.null, .int (0 : Int32), .int (0 : Int32), .int (0 : Int32)]))]) (n := 1) (As := [.int (16 : Int32)]) (rest := []) C hM (n_init5 l D B z ct a) (sb_gd1 (sb_c cw484)) (sb_c cw494) (sb_c cw492) (sb_c cw493) rfl hnB_J5_init_d00df ⟨(Nat.le_of_ble_eq_true rfl), (Nat.le_of_ble_eq_true rfl)⟩ rfl hl.1 rfl (Nat.le_of_ble_eq_true rfl) (dd_at tdn_J4_init_da8c8 2 rfl) ⟨(Nat.le_of_ble_eq_true rfl), (Nat.le_of_ble_eq_true rfl)⟩ (fun r u H locs hu hM => ?_)
  obtain ⟨rfl, b, rfl⟩ := hu
  have hM : nn_H D A s.heap ([(a, .inr (1, [.ref b, .int (0 : Int32), .int (0 : Int32), .int (nI 0)])), (b, .inl (ct 5, 16, .inl (fun _ => 0)))]) H _ := hM
  exact nn_vr C hM ⟨rfl, b, rfl⟩ (dd_at tdn_J4_init_da8c8 3 rfl)
