/-! an Archive made and asked; a Need made; feed -/
theorem sb_hW : ∀ w ∈ cc_W, w ∈ sb_W := fun _ h => sb_c h
theorem cc_hW : ∀ w ∈ cc_W, w ∈ cc_W := fun _ h => h
theorem sb_inX0 : ∀ w ∈ u_ws RX0 TX0 10, w ∈ sb_W := fun w h => sb_c (cc_inX0 w h)
theorem sb_inX7 : ∀ w ∈ u_ws RX7 TX7 17, w ∈ sb_W := fun w h => sb_c (cc_inX7 w h)
theorem sb_inX11 : ∀ w ∈ u_ws RX11 TX11 8, w ∈ sb_W := fun w h => sb_c (cc_inX11 w h)
section XR
variable {p : Program} {l : Launch} {e : Env} {R : Room} {s : State} {m : MethodId} {args : Array Value} {below : List Frame} {meth : Method} {c : Code} {H : Heap} {locs : List Loc} {cells slots : Nat} {Q : State → Prop}
variable {cc : ByteArray} {nL : Nat} {ret : Option FieldType} {own nm : String} {Wd : List Cond} {pc : Nat} {ls : Array Slot} {rest : List Value} {D : va_G} {tys : List (ClassId × FieldType)} {B : Nat} {z : pp_Z} {A : Nat → Prop} {ws ar : va_W} {o ci N : Nat} {F : Nat → Value}
variable {X : cc_X} {st : cc_S}
theorem nx_rcv (C : nn_C p s m args meth c cc nL ret own nm Wd D tys B z A) (hM : nn_H D A s.heap (cc_w X st ++ ws) H locs) {a q0 : Nat} {fs : List Value} {K : String} {T : u_T} (he : ws[q0]? = some (a, .inr (ci, fs))) (hc : vwCl[ci]? = some (K, T, N)) : ∃ cell : Cell, H[a]? = some cell ∧ cell.vm.isStatics = false ∧ s.vm.findClass K = some cell.cls :=
  nn_rcv C hM (ci := ci) (q0 := (cc_w X st).length + q0) (by rw [List.getElem?_append_right (Nat.le_add_right _ _), Nat.add_sub_cancel_left]; exact he) hc
end XR
theorem i2c_n : ∀ v, v < 128 → ((nI v).toUInt32 % 65536).toInt32 = nI v := by decide +kernel
theorem inw_01 (x m : Int32) : inw x m = 0 ∨ inw x m = 1 := by
  unfold inw
  split
  · exact Or.inl rfl
  · split
    · exact Or.inl rfl
    · exact Or.inr rfl
abbrev fe_post (X : cc_X) (st : cc_S) (ml : Int32) (b n m : Nat) (f : Nat → Int32) (v : Int32) : Option Value → va_W → Prop := fun r u => r = some (.int v) ∧ u = cc_w X st ++ [nn_bo (cx_a X 40) b ml (nI n), nn_by (cx_c X) b m f]
theorem hnB_X11_isWithin : yX11_isWithin.cls ≠ "java/lang/invoke/MethodHandle" ∧ yX11_isWithin.cls ≠ "java/lang/invoke/VarHandle" ∧ (parseMethodDescriptor yX11_isWithin.desc).map (fun d => d.parameters.length) = some 2 := by decide +kernel
def tbn_X11_feed : List (Nat × Instr × Nat) := [(0, .iload_n 1, 1), (1, .bipush 127, 2), (3, .invokestatic 54, 3), (6, .ifCond .ne 6, 3), (9, .bipush (-2), 2), (11, .ireturn, 1), (12, .aload_n 0, 1), (13, .getfield 37, 3), (16, .invokevirtual 109, 3), (19, .bipush 100, 2), (21, .if_icmp .lt 6, 3), (24, .bipush (-4), 2), (26, .ireturn, 1), (27, .aload_n 0, 1), (28, .getfield 37, 3), (31, .iload_n 1, 1), (32, .i2c, 1), (33, .invokevirtual 113, 3), (36, .pop, 1), (37, .aload_n 0, 1), (38, .getfield 37, 3), (41, .invokevirtual 109, 3), (44, .ireturn, 1)]
theorem tdn_X11_feed : tbn_X11_feed.all (fun q => decide (decode cX11_feed q.1 = .ok (q.2.1, q.2.2))) = true := by decide +kernel
set_option maxHeartbeats 4000000 in
set_option maxRecDepth 100000 in
theorem n_feedA (l : Launch) (D : va_G) (B : Nat) (z : pp_Z) (X : cc_X) (st : cc_S) (hok : cc_ok X) (h0 : 0 ∈ cx_o X ∧ cx_K X 0 = 13) (h1 : 1 ∈ cx_o X ∧ cx_K X 1 = 9) (b : Nat) (ml : Int32) (n m : Nat) (f : Nat → Int32) (x : Int32) (hb : inw x 127 = 0) : nn_M l D sb_W (nn_ts (cx_c X)) B z yX11_feed cX11_feed 2 (some .int) 8 324 1 700 [.ref (cx_a X 0), .int x] (cc_w X st ++ [nn_bo (cx_a X 40) b ml (nI n), nn_by (cx_c X) b m f]) (fe_post X st ml b n m f (-2)) := by
  refine nn_enter (own := RX11) (by decide) rfl (Nat.le_of_ble_eq_true rfl) ?_
  intro p e s mi args below meth c ls A C hl hM
  have hl : lv_has ls 2 [(0, .ref (cx_a X 0)), (1, .int x)] := hl
  have hM : nn_H D A s.heap (cc_w X st ++ [((cx_a X 40), .inr (1, [.ref b, .int (0 : Int32), .int ml, .int (nI n)])), (b, .inl (cx_c X 5, m, .inl f))]) s.heap [] := hM
  refine lv_iload_n C.1 C.2.1 (dd_at tdn_X11_feed 0 rfl) rfl (lv_at hl 1 rfl) ?_
  refine lv_bipush (v := (127 : Int32)) C.1 C.2.1 (dd_at tdn_X11_feed 1 rfl) (by decide) ?_
  refine nx_cS (ws := [((cx_a X 40), .inr (1, [.ref b, .int (0 : Int32), .int ml, .int (nI n)])), (b, .inl (cx_c X 5, m, .inl f))]) (n := 2) (As := [.int x, .int (127 : Int32)]) (rest := []) C hM sb_hW hok (c_X11_isWithin l D X 0 x 127 st) e_win (cc_gdS cw547 cw548 cw549 cw520) hnB_X11_isWithin ⟨(Nat.le_of_ble_eq_true rfl), (Nat.le_of_ble_eq_true rfl)⟩ rfl hl.1 rfl (Nat.le_of_ble_eq_true rfl) (dd_at tdn_X11_feed 2 rfl) ⟨(Nat.le_of_ble_eq_true rfl), (Nat.le_of_ble_eq_true rfl)⟩ (fun H locs hM => ?_)
  refine lv_if_ne (tgt := 12) C.1 C.2.1 (dd_at tdn_X11_feed 3 rfl) (by decide) (fun h => absurd h (fun q => q hb)) (fun _ => ?_)
  refine lv_bipush (v := (-2 : Int32)) C.1 C.2.1 (dd_at tdn_X11_feed 4 rfl) (by decide) ?_
  refine W.widen (k := 1) (n := 700) (Nat.le_of_ble_eq_true rfl) (Nat.le_of_ble_eq_true rfl) ?_
  exact nn_ir C hM ⟨rfl, rfl⟩ (dd_at tdn_X11_feed 5 rfl)
theorem hnV_J4_length_8abf5 : yJ4_length_8abf5.cls = RJ4 ∧ yJ4_length_8abf5.cls ≠ "java/lang/invoke/MethodHandle" ∧ yJ4_length_8abf5.cls ≠ "java/lang/invoke/VarHandle" ∧ (parseMethodDescriptor yJ4_length_8abf5.desc).map (fun d => d.parameters.length) = some 0 := by decide +kernel
set_option maxHeartbeats 4000000 in
set_option maxRecDepth 100000 in
theorem n_feedB (l : Launch) (D : va_G) (B : Nat) (z : pp_Z) (X : cc_X) (st : cc_S) (hok : cc_ok X) (h0 : 0 ∈ cx_o X ∧ cx_K X 0 = 13) (h1 : 1 ∈ cx_o X ∧ cx_K X 1 = 9) (b : Nat) (ml : Int32) (m : Nat) (f : Nat → Int32) (x : Int32) (hb : ¬ inw x 127 = 0) : nn_M l D sb_W (nn_ts (cx_c X)) B z yX11_feed cX11_feed 2 (some .int) 8 324 1 700 [.ref (cx_a X 0), .int x] (cc_w X st ++ [nn_bo (cx_a X 40) b ml (nI 100), nn_by (cx_c X) b m f]) (fe_post X st ml b 100 m f (-4)) := by
  refine nn_enter (own := RX11) (by decide) rfl (Nat.le_of_ble_eq_true rfl) ?_
  intro p e s mi args below meth c ls A C hl hM
  have hl : lv_has ls 2 [(0, .ref (cx_a X 0)), (1, .int x)] := hl
  have hM : nn_H D A s.heap (cc_w X st ++ [((cx_a X 40), .inr (1, [.ref b, .int (0 : Int32), .int ml, .int (nI 100)])), (b, .inl (cx_c X 5, m, .inl f))]) s.heap [] := hM
  refine lv_iload_n C.1 C.2.1 (dd_at tdn_X11_feed 0 rfl) rfl (lv_at hl 1 rfl) ?_
  refine lv_bipush (v := (127 : Int32)) C.1 C.2.1 (dd_at tdn_X11_feed 1 rfl) (by decide) ?_
  refine nx_cS (ws := [((cx_a X 40), .inr (1, [.ref b, .int (0 : Int32), .int ml, .int (nI 100)])), (b, .inl (cx_c X 5, m, .inl f))]) (n := 2) (As := [.int x, .int (127 : Int32)]) (rest := []) C hM sb_hW hok (c_X11_isWithin l D X 0 x 127 st) e_win (cc_gdS cw547 cw548 cw549 cw520) hnB_X11_isWithin ⟨(Nat.le_of_ble_eq_true rfl), (Nat.le_of_ble_eq_true rfl)⟩ rfl hl.1 rfl (Nat.le_of_ble_eq_true rfl) (dd_at tdn_X11_feed 2 rfl) ⟨(Nat.le_of_ble_eq_true rfl), (Nat.le_of_ble_eq_true rfl)⟩ (fun H locs hM => ?_)
  refine lv_if_ne (tgt := 12) C.1 C.2.1 (dd_at tdn_X11_feed 3 rfl) (by decide) (fun _ => ?_) (fun h => absurd h (hb))
  refine lv_aload_n C.1 C.2.1 (dd_at tdn_X11_feed 6 rfl) rfl (lv_at hl 0 rfl) ?_
  refine nx_get (ws := [((cx_a X 40), .inr (1, [.ref b, .int (0 : Int32), .int ml, .int (nI 100)])), (b, .inl (cx_c X 5, m, .inl f))]) C hM (i := 0) (ci := 13) (N := 8) (k := 4) (K := RX11) (T := TX11) (ref := "EclipsesKept") (v := .ref (cx_a X 40)) h0 rfl sb_inX11 rfl (Nat.le_of_ble_eq_true rfl) (sb_c cw508) rfl (fun X' hK ha hb => by unfold cc_val; rw [hK, ha]; rfl) (dd_at tdn_X11_feed 7 rfl) ?_
  refine nn_cV (Cl := RJ4) (ws := cc_w X st) (wc := [((cx_a X 40), .inr (1, [.ref b, .int (0 : Int32), .int ml, .int (nI 100)])), (b, .inl (cx_c X 5, m, .inl f))]) (n := 0) (As := []) (rest := []) C hM (nx_rcv C hM (q0 := 0) rfl rfl) (n_length l D B z (cx_c X) (cx_a X 40) b ml 100 m f) (sb_gdV (sb_c cw653) (sb_c cw654) (sb_c cw655) (sb_c cw507) (sb_c cw580)) hnV_J4_length_8abf5 ⟨(Nat.le_of_ble_eq_true rfl), (Nat.le_of_ble_eq_true rfl)⟩ rfl hl.1 rfl (Nat.le_of_ble_eq_true rfl) (dd_at tdn_X11_feed 8 rfl) ⟨(Nat.le_of_ble_eq_true rfl), (Nat.le_of_ble_eq_true rfl)⟩ (fun r u H locs hu hM => ?_)
  obtain ⟨rfl, rfl⟩ := hu
  have hM : nn_H D A s.heap (cc_w X st ++ [((cx_a X 40), .inr (1, [.ref b, .int (0 : Int32), .int ml, .int (nI 100)])), (b, .inl (cx_c X 5, m, .inl f))]) H _ := hM
  refine lv_bipush (v := (100 : Int32)) C.1 C.2.1 (dd_at tdn_X11_feed 9 rfl) (by decide) ?_
  refine lv_icmp_lt (tgt := 27) C.1 C.2.1 (dd_at tdn_X11_feed 10 rfl) (by decide) (fun h => absurd h (by decide)) (fun _ => ?_)
  refine lv_bipush (v := (-4 : Int32)) C.1 C.2.1 (dd_at tdn_X11_feed 11 rfl) (by decide) ?_
  refine W.widen (k := 1) (n := 700) (Nat.le_of_ble_eq_true rfl) (Nat.le_of_ble_eq_true rfl) ?_
  exact nn_ir C hM ⟨rfl, rfl⟩ (dd_at tdn_X11_feed 12 rfl)
theorem hnV_J4_append_cf468 : yJ4_append_cf468.cls = RJ4 ∧ yJ4_append_cf468.cls ≠ "java/lang/invoke/MethodHandle" ∧ yJ4_append_cf468.cls ≠ "java/lang/invoke/VarHandle" ∧ (parseMethodDescriptor yJ4_append_cf468.desc).map (fun d => d.parameters.length) = some 1 := by decide +kernel
set_option maxHeartbeats 4000000 in
set_option maxRecDepth 100000 in
theorem n_feedC (l : Launch) (D : va_G) (B : Nat) (z : pp_Z) (X : cc_X) (st : cc_S) (hok : cc_ok X) (h0 : 0 ∈ cx_o X ∧ cx_K X 0 = 13) (h1 : 1 ∈ cx_o X ∧ cx_K X 1 = 9) (b : Nat) (ml : Int32) (n m : Nat) (f : Nat → Int32) (x : Nat) (hx : x < 128) (hb : ¬ inw (nI x) 127 = 0) (hn : n < 100) (hn2 : n ≤ m) (hm : m ≤ 300) (hf : sb_Fit f) : nn_M l D sb_W (nn_ts (cx_c X)) B z yX11_feed cX11_feed 2 (some .int) 8 324 1 700 [.ref (cx_a X 0), .int (nI x)] (cc_w X st ++ [nn_bo (cx_a X 40) b ml (nI n), nn_by (cx_c X) b m f]) (fun r u => r = some (.int (nI (n + 1))) ∧ ∃ b2 m2 f2, u = cc_w X st ++ [nn_bo (cx_a X 40) b2 ml (nI (n + 1)), nn_by (cx_c X) b2 m2 f2] ∧ (m2 = m ∨ m2 = 2 * m + 2 ∧ m < n + 1) ∧ (∀ j, j < n → f2 j = f j) ∧ f2 n = sb_b x ∧ sb_Fit f2 ∧ n + 1 ≤ m2) := by
  refine nn_enter (own := RX11) (by decide) rfl (Nat.le_of_ble_eq_true rfl) ?_
  intro p e s mi args below meth c ls A C hl hM
  have hl : lv_has ls 2 [(0, .ref (cx_a X 0)), (1, .int (nI x))] := hl
  have hM : nn_H D A s.heap (cc_w X st ++ [((cx_a X 40), .inr (1, [.ref b, .int (0 : Int32), .int ml, .int (nI n)])), (b, .inl (cx_c X 5, m, .inl f))]) s.heap [] := hM
  refine lv_iload_n C.1 C.2.1 (dd_at tdn_X11_feed 0 rfl) rfl (lv_at hl 1 rfl) ?_
  refine lv_bipush (v := (127 : Int32)) C.1 C.2.1 (dd_at tdn_X11_feed 1 rfl) (by decide) ?_
  refine nx_cS (ws := [((cx_a X 40), .inr (1, [.ref b, .int (0 : Int32), .int ml, .int (nI n)])), (b, .inl (cx_c X 5, m, .inl f))]) (n := 2) (As := [.int (nI x), .int (127 : Int32)]) (rest := []) C hM sb_hW hok (c_X11_isWithin l D X 0 (nI x) 127 st) e_win (cc_gdS cw547 cw548 cw549 cw520) hnB_X11_isWithin ⟨(Nat.le_of_ble_eq_true rfl), (Nat.le_of_ble_eq_true rfl)⟩ rfl hl.1 rfl (Nat.le_of_ble_eq_true rfl) (dd_at tdn_X11_feed 2 rfl) ⟨(Nat.le_of_ble_eq_true rfl), (Nat.le_of_ble_eq_true rfl)⟩ (fun H locs hM => ?_)
  refine lv_if_ne (tgt := 12) C.1 C.2.1 (dd_at tdn_X11_feed 3 rfl) (by decide) (fun _ => ?_) (fun h => absurd h (hb))
  refine lv_aload_n C.1 C.2.1 (dd_at tdn_X11_feed 6 rfl) rfl (lv_at hl 0 rfl) ?_
  refine nx_get (ws := [((cx_a X 40), .inr (1, [.ref b, .int (0 : Int32), .int ml, .int (nI n)])), (b, .inl (cx_c X 5, m, .inl f))]) C hM (i := 0) (ci := 13) (N := 8) (k := 4) (K := RX11) (T := TX11) (ref := "EclipsesKept") (v := .ref (cx_a X 40)) h0 rfl sb_inX11 rfl (Nat.le_of_ble_eq_true rfl) (sb_c cw508) rfl (fun X' hK ha hb => by unfold cc_val; rw [hK, ha]; rfl) (dd_at tdn_X11_feed 7 rfl) ?_
  refine nn_cV (Cl := RJ4) (ws := cc_w X st) (wc := [((cx_a X 40), .inr (1, [.ref b, .int (0 : Int32), .int ml, .int (nI n)])), (b, .inl (cx_c X 5, m, .inl f))]) (n := 0) (As := []) (rest := []) C hM (nx_rcv C hM (q0 := 0) rfl rfl) (n_length l D B z (cx_c X) (cx_a X 40) b ml n m f) (sb_gdV (sb_c cw653) (sb_c cw654) (sb_c cw655) (sb_c cw507) (sb_c cw580)) hnV_J4_length_8abf5 ⟨(Nat.le_of_ble_eq_true rfl), (Nat.le_of_ble_eq_true rfl)⟩ rfl hl.1 rfl (Nat.le_of_ble_eq_true rfl) (dd_at tdn_X11_feed 8 rfl) ⟨(Nat.le_of_ble_eq_true rfl), (Nat.le_of_ble_eq_true rfl)⟩ (fun r u H locs hu hM => ?_)
  obtain ⟨rfl, rfl⟩ := hu
  have hM : nn_H D A s.heap (cc_w X st ++ [((cx_a X 40), .inr (1, [.ref b, .int (0 : Int32), .int ml, .int (nI n)])), (b, .inl (cx_c X 5, m, .inl f))]) H _ := hM
  refine lv_bipush (v := (100 : Int32)) C.1 C.2.1 (dd_at tdn_X11_feed 9 rfl) (by decide) ?_
  refine lv_icmp_lt (tgt := 27) C.1 C.2.1 (dd_at tdn_X11_feed 10 rfl) (by decide) (fun _ => ?_) (fun h => absurd (show nI n < nI 100 from nI_lt (by omega) (by decide)) h)
  refine lv_aload_n C.1 C.2.1 (dd_at tdn_X11_feed 13 rfl) rfl (lv_at hl 0 rfl) ?_
  refine nx_get (ws := [((cx_a X 40), .inr (1, [.ref b, .int (0 : Int32), .int ml, .int (nI n)])), (b, .inl (cx_c X 5, m, .inl f))]) C hM (i := 0) (ci := 13) (N := 8) (k := 4) (K := RX11) (T := TX11) (ref := "EclipsesKept") (v := .ref (cx_a X 40)) h0 rfl sb_inX11 rfl (Nat.le_of_ble_eq_true rfl) (sb_c cw508) rfl (fun X' hK ha hb => by unfold cc_val; rw [hK, ha]; rfl) (dd_at tdn_X11_feed 14 rfl) ?_
  refine lv_iload_n C.1 C.2.1 (dd_at tdn_X11_feed 15 rfl) rfl (lv_at hl 1 rfl) ?_
  refine lv_i2c (v := (nI x)) C.1 C.2.1 (dd_at tdn_X11_feed 16 rfl) (i2c_n x hx) ?_
  refine nn_cV (Cl := RJ4) (ws := cc_w X st) (wc := [((cx_a X 40), .inr (1, [.ref b, .int (0 : Int32), .int ml, .int (nI n)])), (b, .inl (cx_c X 5, m, .inl f))]) (n := 1) (As := [.int (nI x)]) (rest := []) C hM (nx_rcv C hM (q0 := 0) rfl rfl) (n_append l D B z (cx_c X) (cx_a X 40) b ml n m f x (by omega) hn2 (by omega) hf) (sb_gdV (sb_c cw656) (sb_c cw657) (sb_c cw658) (sb_c cw507) (sb_c cw652)) hnV_J4_append_cf468 ⟨(Nat.le_of_ble_eq_true rfl), (Nat.le_of_ble_eq_true rfl)⟩ rfl hl.1 rfl (Nat.le_of_ble_eq_true rfl) (dd_at tdn_X11_feed 17 rfl) ⟨(Nat.le_of_ble_eq_true rfl), (Nat.le_of_ble_eq_true rfl)⟩ (fun r u H locs hu hM => ?_)
  obtain ⟨rfl, b2, m2, f2, rfl, hm2, hk2, hx2, hf2, hn2⟩ := hu
  have hM : nn_H D A s.heap (cc_w X st ++ [((cx_a X 40), .inr (1, [.ref b2, .int (0 : Int32), .int ml, .int (nI (n + 1))])), (b2, .inl (cx_c X 5, m2, .inl f2))]) H _ := hM
  refine lv_pop C.1 C.2.1 (dd_at tdn_X11_feed 18 rfl) rfl ?_
  refine lv_aload_n C.1 C.2.1 (dd_at tdn_X11_feed 19 rfl) rfl (lv_at hl 0 rfl) ?_
  refine nx_get (ws := [((cx_a X 40), .inr (1, [.ref b2, .int (0 : Int32), .int ml, .int (nI (n + 1))])), (b2, .inl (cx_c X 5, m2, .inl f2))]) C hM (i := 0) (ci := 13) (N := 8) (k := 4) (K := RX11) (T := TX11) (ref := "EclipsesKept") (v := .ref (cx_a X 40)) h0 rfl sb_inX11 rfl (Nat.le_of_ble_eq_true rfl) (sb_c cw508) rfl (fun X' hK ha hb => by unfold cc_val; rw [hK, ha]; rfl) (dd_at tdn_X11_feed 20 rfl) ?_
  refine nn_cV (Cl := RJ4) (ws := cc_w X st) (wc := [((cx_a X 40), .inr (1, [.ref b2, .int (0 : Int32), .int ml, .int (nI (n + 1))])), (b2, .inl (cx_c X 5, m2, .inl f2))]) (n := 0) (As := []) (rest := []) C hM (nx_rcv C hM (q0 := 0) rfl rfl) (n_length l D B z (cx_c X) (cx_a X 40) b2 ml (n + 1) m2 f2) (sb_gdV (sb_c cw653) (sb_c cw654) (sb_c cw655) (sb_c cw507) (sb_c cw580)) hnV_J4_length_8abf5 ⟨(Nat.le_of_ble_eq_true rfl), (Nat.le_of_ble_eq_true rfl)⟩ rfl hl.1 rfl (Nat.le_of_ble_eq_true rfl) (dd_at tdn_X11_feed 21 rfl) ⟨(Nat.le_of_ble_eq_true rfl), (Nat.le_of_ble_eq_true rfl)⟩ (fun r u H locs hu hM => ?_)
  obtain ⟨rfl, rfl⟩ := hu
  have hM : nn_H D A s.heap (cc_w X st ++ [((cx_a X 40), .inr (1, [.ref b2, .int (0 : Int32), .int ml, .int (nI (n + 1))])), (b2, .inl (cx_c X 5, m2, .inl f2))]) H _ := hM
  exact nn_ir C hM ⟨rfl, b2, m2, f2, rfl, hm2, hk2, hx2, hf2, hn2⟩ (dd_at tdn_X11_feed 22 rfl)
def tbn_X11_made : List (Nat × Instr × Nat) := [(0, .iload_n 1, 1), (1, .tableswitch 129 1 6 #[39, 54, 69, 84, 99, 114], 39), (40, .new 283, 3), (43, .dup, 1), (44, .iload_n 1, 1), (45, .iload_n 2, 1), (46, .iload_n 3, 1), (47, .aload_n 0, 1), (48, .getfield 41, 3), (51, .invokespecial 285, 3), (54, .areturn, 1), (55, .new 288, 3), (58, .dup, 1), (59, .iload_n 1, 1), (60, .iload_n 2, 1), (61, .iload_n 3, 1), (62, .aload_n 0, 1), (63, .getfield 41, 3), (66, .invokespecial 290, 3), (69, .areturn, 1), (70, .new 291, 3), (73, .dup, 1), (74, .iload_n 1, 1), (75, .iload_n 2, 1), (76, .iload_n 3, 1), (77, .aload_n 0, 1), (78, .getfield 41, 3), (81, .invokespecial 293, 3), (84, .areturn, 1), (85, .new 294, 3), (88, .dup, 1), (89, .iload_n 1, 1), (90, .iload_n 2, 1), (91, .iload_n 3, 1), (92, .aload_n 0, 1), (93, .getfield 41, 3), (96, .invokespecial 296, 3), (99, .areturn, 1), (100, .new 297, 3), (103, .dup, 1), (104, .iload_n 1, 1), (105, .iload_n 2, 1), (106, .iload_n 3, 1), (107, .aload_n 0, 1), (108, .getfield 41, 3), (111, .invokespecial 299, 3), (114, .areturn, 1), (115, .new 104, 3), (118, .dup, 1), (119, .iload_n 1, 1), (120, .iload_n 2, 1), (121, .iload_n 3, 1), (122, .aload_n 0, 1), (123, .getfield 41, 3), (126, .invokespecial 300, 3), (129, .areturn, 1), (130, .new 74, 3), (133, .dup, 1), (134, .iconst 0, 1), (135, .iload_n 2, 1), (136, .iload_n 3, 1), (137, .aload_n 0, 1), (138, .getfield 41, 3), (141, .invokespecial 301, 3), (144, .areturn, 1)]
theorem tdn_X11_made : tbn_X11_made.all (fun q => decide (decode cX11_made q.1 = .ok (q.2.1, q.2.2))) = true := by decide +kernel
set_option maxHeartbeats 4000000 in
set_option maxRecDepth 100000 in
theorem n_made0 (l : Launch) (D : va_G) (B : Nat) (z : pp_Z) (X : cc_X) (st : cc_S) (hok : cc_ok X) (h0 : 0 ∈ cx_o X ∧ cx_K X 0 = 13) (x2 x3 : Int32) : nn_M l D cc_W (nn_ts (cx_c X)) B z yX11_made cX11_made 4 (some (.object "EclipsesKept$Need")) 4 84 1 4 [.ref (cx_a X 0), .int (nI 0), .int x2, .int x3] (cc_w X st) (fun r u => ∃ q, r = some (.ref q) ∧ u = cc_w X st ++ [(q, .inr (6, [.int (nI 0), .int x2, .int x3, .ref (cx_b X 0 5)]))]) := by
  refine nn_enter (own := RX11) (by decide) rfl (Nat.le_of_ble_eq_true rfl) ?_
  intro p e s mi args below meth c ls A C hl hM
  have hl : lv_has ls 4 [(0, .ref (cx_a X 0)), (1, .int (nI 0)), (2, .int x2), (3, .int x3)] := hl
  refine lv_iload_n C.1 C.2.1 (dd_at tdn_X11_made 0 rfl) rfl (lv_at hl 1 rfl) ?_
  refine lv_tableOut (tgt := 130) C.1 C.2.1 (dd_at tdn_X11_made 1 rfl) (by decide) (by decide) ?_
  refine nn_new C hM (K := RX4) (T := TX4) (ty0 := tyX4) (N1 := 4) (c1 := 6) (fun j => defaultValue (tyX4 j)) rfl cc_inX4 tyX4_ok cw533 cw534 cw194 (fun _ _ => rfl) (Nat.le_of_ble_eq_true rfl) (Nat.le_of_ble_eq_true rfl) (dd_at tdn_X11_made 56 rfl) (fun q H hM => ?_)
  have hM : nn_H D A s.heap (cc_w X st ++ nn_W q 6 4 (fun j => defaultValue (tyX4 j)) []) H _ := hM
  refine lv_dup C.1 C.2.1 (dd_at tdn_X11_made 57 rfl) rfl ?_
  refine lv_iconst (v := (0 : Int32)) C.1 C.2.1 (dd_at tdn_X11_made 58 rfl) (by decide) ?_
  refine lv_iload_n C.1 C.2.1 (dd_at tdn_X11_made 59 rfl) rfl (lv_at hl 2 rfl) ?_
  refine lv_iload_n C.1 C.2.1 (dd_at tdn_X11_made 60 rfl) rfl (lv_at hl 3 rfl) ?_
  refine lv_aload_n C.1 C.2.1 (dd_at tdn_X11_made 61 rfl) rfl (lv_at hl 0 rfl) ?_
  refine nx_get (ws := nn_W q _ 4 _ []) C hM (i := 0) (ci := 13) (N := 8) (k := 5) (K := RX11) (T := TX11) (ref := "EclipsesKept") (v := .ref (cx_b X 0 5)) h0 rfl cc_inX11 rfl (Nat.le_of_ble_eq_true rfl) cw509 rfl (fun X' hK ha hb => by unfold cc_val; rw [hK, hb]; rfl) (dd_at tdn_X11_made 62 rfl) ?_
  refine nn_cI (q := q) (ws := cc_w X st) (wc := nn_W q 6 4 (fun j => defaultValue (tyX4 j)) []) (n := 4) (As := [.int (nI 0), .int x2, .int x3, .ref (cx_b X 0 5)]) (rest := [.ref q]) C hM (c_X4_init_X4 l D B z (cx_c X) q (nI 0) x2 x3 (cx_b X 0 5)) (nn_ccg cw185) cw194 cw544 cw193 rfl hn_X4 ⟨(Nat.le_of_ble_eq_true rfl), (Nat.le_of_ble_eq_true rfl)⟩ rfl hl.1 rfl (Nat.le_of_ble_eq_true rfl) (dd_at tdn_X11_made 63 rfl) ⟨(Nat.le_of_ble_eq_true rfl), (Nat.le_of_ble_eq_true rfl)⟩ (fun r u H locs hu hM => ?_)
  obtain ⟨rfl, rfl⟩ := hu
  exact nn_ar (Or.inl ⟨_, rfl⟩) C hM ⟨q, rfl, rfl⟩ (dd_at tdn_X11_made 64 rfl)
set_option maxHeartbeats 4000000 in
set_option maxRecDepth 100000 in
theorem n_made1 (l : Launch) (D : va_G) (B : Nat) (z : pp_Z) (X : cc_X) (st : cc_S) (hok : cc_ok X) (h0 : 0 ∈ cx_o X ∧ cx_K X 0 = 13) (x2 x3 : Int32) : nn_M l D cc_W (nn_ts (cx_c X)) B z yX11_made cX11_made 4 (some (.object "EclipsesKept$Need")) 4 84 1 4 [.ref (cx_a X 0), .int (nI 1), .int x2, .int x3] (cc_w X st) (fun r u => ∃ q, r = some (.ref q) ∧ u = cc_w X st ++ [(q, .inr (8, [.int (nI 1), .int x2, .int x3, .ref (cx_b X 0 5)]))]) := by
  refine nn_enter (own := RX11) (by decide) rfl (Nat.le_of_ble_eq_true rfl) ?_
  intro p e s mi args below meth c ls A C hl hM
  have hl : lv_has ls 4 [(0, .ref (cx_a X 0)), (1, .int (nI 1)), (2, .int x2), (3, .int x3)] := hl
  refine lv_iload_n C.1 C.2.1 (dd_at tdn_X11_made 0 rfl) rfl (lv_at hl 1 rfl) ?_
  refine lv_tableIn (off := 39) (tgt := 40) C.1 C.2.1 (dd_at tdn_X11_made 1 rfl) (by decide) (by decide) (by decide) (by decide) ?_
  refine nn_new C hM (K := RX6) (T := TX6) (ty0 := tyX6) (N1 := 4) (c1 := 8) (fun j => defaultValue (tyX6 j)) rfl cc_inX6 tyX6_ok cw521 cw522 cw218 (fun _ _ => rfl) (Nat.le_of_ble_eq_true rfl) (Nat.le_of_ble_eq_true rfl) (dd_at tdn_X11_made 2 rfl) (fun q H hM => ?_)
  have hM : nn_H D A s.heap (cc_w X st ++ nn_W q 8 4 (fun j => defaultValue (tyX6 j)) []) H _ := hM
  refine lv_dup C.1 C.2.1 (dd_at tdn_X11_made 3 rfl) rfl ?_
  refine lv_iload_n C.1 C.2.1 (dd_at tdn_X11_made 4 rfl) rfl (lv_at hl 1 rfl) ?_
  refine lv_iload_n C.1 C.2.1 (dd_at tdn_X11_made 5 rfl) rfl (lv_at hl 2 rfl) ?_
  refine lv_iload_n C.1 C.2.1 (dd_at tdn_X11_made 6 rfl) rfl (lv_at hl 3 rfl) ?_
  refine lv_aload_n C.1 C.2.1 (dd_at tdn_X11_made 7 rfl) rfl (lv_at hl 0 rfl) ?_
  refine nx_get (ws := nn_W q _ 4 _ []) C hM (i := 0) (ci := 13) (N := 8) (k := 5) (K := RX11) (T := TX11) (ref := "EclipsesKept") (v := .ref (cx_b X 0 5)) h0 rfl cc_inX11 rfl (Nat.le_of_ble_eq_true rfl) cw509 rfl (fun X' hK ha hb => by unfold cc_val; rw [hK, hb]; rfl) (dd_at tdn_X11_made 8 rfl) ?_
  refine nn_cI (q := q) (ws := cc_w X st) (wc := nn_W q 8 4 (fun j => defaultValue (tyX6 j)) []) (n := 4) (As := [.int (nI 1), .int x2, .int x3, .ref (cx_b X 0 5)]) (rest := [.ref q]) C hM (c_X6_init_X6 l D B z (cx_c X) q (nI 1) x2 x3 (cx_b X 0 5)) (nn_ccg cw213) cw218 cw535 cw217 rfl hn_X6 ⟨(Nat.le_of_ble_eq_true rfl), (Nat.le_of_ble_eq_true rfl)⟩ rfl hl.1 rfl (Nat.le_of_ble_eq_true rfl) (dd_at tdn_X11_made 9 rfl) ⟨(Nat.le_of_ble_eq_true rfl), (Nat.le_of_ble_eq_true rfl)⟩ (fun r u H locs hu hM => ?_)
  obtain ⟨rfl, rfl⟩ := hu
  exact nn_ar (Or.inl ⟨_, rfl⟩) C hM ⟨q, rfl, rfl⟩ (dd_at tdn_X11_made 10 rfl)
set_option maxHeartbeats 4000000 in
set_option maxRecDepth 100000 in
theorem n_made2 (l : Launch) (D : va_G) (B : Nat) (z : pp_Z) (X : cc_X) (st : cc_S) (hok : cc_ok X) (h0 : 0 ∈ cx_o X ∧ cx_K X 0 = 13) (x2 x3 : Int32) : nn_M l D cc_W (nn_ts (cx_c X)) B z yX11_made cX11_made 4 (some (.object "EclipsesKept$Need")) 4 84 1 4 [.ref (cx_a X 0), .int (nI 2), .int x2, .int x3] (cc_w X st) (fun r u => ∃ q, r = some (.ref q) ∧ u = cc_w X st ++ [(q, .inr (5, [.int (nI 2), .int x2, .int x3, .ref (cx_b X 0 5)]))]) := by
  refine nn_enter (own := RX11) (by decide) rfl (Nat.le_of_ble_eq_true rfl) ?_
  intro p e s mi args below meth c ls A C hl hM
  have hl : lv_has ls 4 [(0, .ref (cx_a X 0)), (1, .int (nI 2)), (2, .int x2), (3, .int x3)] := hl
  refine lv_iload_n C.1 C.2.1 (dd_at tdn_X11_made 0 rfl) rfl (lv_at hl 1 rfl) ?_
  refine lv_tableIn (off := 54) (tgt := 55) C.1 C.2.1 (dd_at tdn_X11_made 1 rfl) (by decide) (by decide) (by decide) (by decide) ?_
  refine nn_new C hM (K := RX3) (T := TX3) (ty0 := tyX3) (N1 := 4) (c1 := 5) (fun j => defaultValue (tyX3 j)) rfl cc_inX3 tyX3_ok cw523 cw524 cw198 (fun _ _ => rfl) (Nat.le_of_ble_eq_true rfl) (Nat.le_of_ble_eq_true rfl) (dd_at tdn_X11_made 11 rfl) (fun q H hM => ?_)
  have hM : nn_H D A s.heap (cc_w X st ++ nn_W q 5 4 (fun j => defaultValue (tyX3 j)) []) H _ := hM
  refine lv_dup C.1 C.2.1 (dd_at tdn_X11_made 12 rfl) rfl ?_
  refine lv_iload_n C.1 C.2.1 (dd_at tdn_X11_made 13 rfl) rfl (lv_at hl 1 rfl) ?_
  refine lv_iload_n C.1 C.2.1 (dd_at tdn_X11_made 14 rfl) rfl (lv_at hl 2 rfl) ?_
  refine lv_iload_n C.1 C.2.1 (dd_at tdn_X11_made 15 rfl) rfl (lv_at hl 3 rfl) ?_
  refine lv_aload_n C.1 C.2.1 (dd_at tdn_X11_made 16 rfl) rfl (lv_at hl 0 rfl) ?_
  refine nx_get (ws := nn_W q _ 4 _ []) C hM (i := 0) (ci := 13) (N := 8) (k := 5) (K := RX11) (T := TX11) (ref := "EclipsesKept") (v := .ref (cx_b X 0 5)) h0 rfl cc_inX11 rfl (Nat.le_of_ble_eq_true rfl) cw509 rfl (fun X' hK ha hb => by unfold cc_val; rw [hK, hb]; rfl) (dd_at tdn_X11_made 17 rfl) ?_
  refine nn_cI (q := q) (ws := cc_w X st) (wc := nn_W q 5 4 (fun j => defaultValue (tyX3 j)) []) (n := 4) (As := [.int (nI 2), .int x2, .int x3, .ref (cx_b X 0 5)]) (rest := [.ref q]) C hM (c_X3_init_X3 l D B z (cx_c X) q (nI 2) x2 x3 (cx_b X 0 5)) (nn_ccg cw191) cw198 cw536 cw197 rfl hn_X3 ⟨(Nat.le_of_ble_eq_true rfl), (Nat.le_of_ble_eq_true rfl)⟩ rfl hl.1 rfl (Nat.le_of_ble_eq_true rfl) (dd_at tdn_X11_made 18 rfl) ⟨(Nat.le_of_ble_eq_true rfl), (Nat.le_of_ble_eq_true rfl)⟩ (fun r u H locs hu hM => ?_)
  obtain ⟨rfl, rfl⟩ := hu
  exact nn_ar (Or.inl ⟨_, rfl⟩) C hM ⟨q, rfl, rfl⟩ (dd_at tdn_X11_made 19 rfl)
set_option maxHeartbeats 4000000 in
set_option maxRecDepth 100000 in
theorem n_made3 (l : Launch) (D : va_G) (B : Nat) (z : pp_Z) (X : cc_X) (st : cc_S) (hok : cc_ok X) (h0 : 0 ∈ cx_o X ∧ cx_K X 0 = 13) (x2 x3 : Int32) : nn_M l D cc_W (nn_ts (cx_c X)) B z yX11_made cX11_made 4 (some (.object "EclipsesKept$Need")) 4 84 1 4 [.ref (cx_a X 0), .int (nI 3), .int x2, .int x3] (cc_w X st) (fun r u => ∃ q, r = some (.ref q) ∧ u = cc_w X st ++ [(q, .inr (7, [.int (nI 3), .int x2, .int x3, .ref (cx_b X 0 5)]))]) := by
  refine nn_enter (own := RX11) (by decide) rfl (Nat.le_of_ble_eq_true rfl) ?_
  intro p e s mi args below meth c ls A C hl hM
  have hl : lv_has ls 4 [(0, .ref (cx_a X 0)), (1, .int (nI 3)), (2, .int x2), (3, .int x3)] := hl
  refine lv_iload_n C.1 C.2.1 (dd_at tdn_X11_made 0 rfl) rfl (lv_at hl 1 rfl) ?_
  refine lv_tableIn (off := 69) (tgt := 70) C.1 C.2.1 (dd_at tdn_X11_made 1 rfl) (by decide) (by decide) (by decide) (by decide) ?_
  refine nn_new C hM (K := RX5) (T := TX5) (ty0 := tyX5) (N1 := 4) (c1 := 7) (fun j => defaultValue (tyX5 j)) rfl cc_inX5 tyX5_ok cw525 cw526 cw363 (fun _ _ => rfl) (Nat.le_of_ble_eq_true rfl) (Nat.le_of_ble_eq_true rfl) (dd_at tdn_X11_made 20 rfl) (fun q H hM => ?_)
  have hM : nn_H D A s.heap (cc_w X st ++ nn_W q 7 4 (fun j => defaultValue (tyX5 j)) []) H _ := hM
  refine lv_dup C.1 C.2.1 (dd_at tdn_X11_made 21 rfl) rfl ?_
  refine lv_iload_n C.1 C.2.1 (dd_at tdn_X11_made 22 rfl) rfl (lv_at hl 1 rfl) ?_
  refine lv_iload_n C.1 C.2.1 (dd_at tdn_X11_made 23 rfl) rfl (lv_at hl 2 rfl) ?_
  refine lv_iload_n C.1 C.2.1 (dd_at tdn_X11_made 24 rfl) rfl (lv_at hl 3 rfl) ?_
  refine lv_aload_n C.1 C.2.1 (dd_at tdn_X11_made 25 rfl) rfl (lv_at hl 0 rfl) ?_
  refine nx_get (ws := nn_W q _ 4 _ []) C hM (i := 0) (ci := 13) (N := 8) (k := 5) (K := RX11) (T := TX11) (ref := "EclipsesKept") (v := .ref (cx_b X 0 5)) h0 rfl cc_inX11 rfl (Nat.le_of_ble_eq_true rfl) cw509 rfl (fun X' hK ha hb => by unfold cc_val; rw [hK, hb]; rfl) (dd_at tdn_X11_made 26 rfl) ?_
  refine nn_cI (q := q) (ws := cc_w X st) (wc := nn_W q 7 4 (fun j => defaultValue (tyX5 j)) []) (n := 4) (As := [.int (nI 3), .int x2, .int x3, .ref (cx_b X 0 5)]) (rest := [.ref q]) C hM (c_X5_init_X5 l D B z (cx_c X) q (nI 3) x2 x3 (cx_b X 0 5)) (nn_ccg cw299) cw363 cw537 cw413 rfl hn_X5 ⟨(Nat.le_of_ble_eq_true rfl), (Nat.le_of_ble_eq_true rfl)⟩ rfl hl.1 rfl (Nat.le_of_ble_eq_true rfl) (dd_at tdn_X11_made 27 rfl) ⟨(Nat.le_of_ble_eq_true rfl), (Nat.le_of_ble_eq_true rfl)⟩ (fun r u H locs hu hM => ?_)
  obtain ⟨rfl, rfl⟩ := hu
  exact nn_ar (Or.inl ⟨_, rfl⟩) C hM ⟨q, rfl, rfl⟩ (dd_at tdn_X11_made 28 rfl)
set_option maxHeartbeats 4000000 in
set_option maxRecDepth 100000 in
theorem n_made4 (l : Launch) (D : va_G) (B : Nat) (z : pp_Z) (X : cc_X) (st : cc_S) (hok : cc_ok X) (h0 : 0 ∈ cx_o X ∧ cx_K X 0 = 13) (x2 x3 : Int32) : nn_M l D cc_W (nn_ts (cx_c X)) B z yX11_made cX11_made 4 (some (.object "EclipsesKept$Need")) 4 84 1 4 [.ref (cx_a X 0), .int (nI 4), .int x2, .int x3] (cc_w X st) (fun r u => ∃ q, r = some (.ref q) ∧ u = cc_w X st ++ [(q, .inr (4, [.int (nI 4), .int x2, .int x3, .ref (cx_b X 0 5)]))]) := by
  refine nn_enter (own := RX11) (by decide) rfl (Nat.le_of_ble_eq_true rfl) ?_
  intro p e s mi args below meth c ls A C hl hM
  have hl : lv_has ls 4 [(0, .ref (cx_a X 0)), (1, .int (nI 4)), (2, .int x2), (3, .int x3)] := hl
  refine lv_iload_n C.1 C.2.1 (dd_at tdn_X11_made 0 rfl) rfl (lv_at hl 1 rfl) ?_
  refine lv_tableIn (off := 84) (tgt := 85) C.1 C.2.1 (dd_at tdn_X11_made 1 rfl) (by decide) (by decide) (by decide) (by decide) ?_
  refine nn_new C hM (K := RX2) (T := TX2) (ty0 := tyX2) (N1 := 4) (c1 := 4) (fun j => defaultValue (tyX2 j)) rfl cc_inX2 tyX2_ok cw527 cw528 cw261 (fun _ _ => rfl) (Nat.le_of_ble_eq_true rfl) (Nat.le_of_ble_eq_true rfl) (dd_at tdn_X11_made 29 rfl) (fun q H hM => ?_)
  have hM : nn_H D A s.heap (cc_w X st ++ nn_W q 4 4 (fun j => defaultValue (tyX2 j)) []) H _ := hM
  refine lv_dup C.1 C.2.1 (dd_at tdn_X11_made 30 rfl) rfl ?_
  refine lv_iload_n C.1 C.2.1 (dd_at tdn_X11_made 31 rfl) rfl (lv_at hl 1 rfl) ?_
  refine lv_iload_n C.1 C.2.1 (dd_at tdn_X11_made 32 rfl) rfl (lv_at hl 2 rfl) ?_
  refine lv_iload_n C.1 C.2.1 (dd_at tdn_X11_made 33 rfl) rfl (lv_at hl 3 rfl) ?_
  refine lv_aload_n C.1 C.2.1 (dd_at tdn_X11_made 34 rfl) rfl (lv_at hl 0 rfl) ?_
  refine nx_get (ws := nn_W q _ 4 _ []) C hM (i := 0) (ci := 13) (N := 8) (k := 5) (K := RX11) (T := TX11) (ref := "EclipsesKept") (v := .ref (cx_b X 0 5)) h0 rfl cc_inX11 rfl (Nat.le_of_ble_eq_true rfl) cw509 rfl (fun X' hK ha hb => by unfold cc_val; rw [hK, hb]; rfl) (dd_at tdn_X11_made 35 rfl) ?_
  refine nn_cI (q := q) (ws := cc_w X st) (wc := nn_W q 4 4 (fun j => defaultValue (tyX2 j)) []) (n := 4) (As := [.int (nI 4), .int x2, .int x3, .ref (cx_b X 0 5)]) (rest := [.ref q]) C hM (c_X2_init_X2 l D B z (cx_c X) q (nI 4) x2 x3 (cx_b X 0 5)) (nn_ccg cw215) cw261 cw538 cw539 rfl hn_X2 ⟨(Nat.le_of_ble_eq_true rfl), (Nat.le_of_ble_eq_true rfl)⟩ rfl hl.1 rfl (Nat.le_of_ble_eq_true rfl) (dd_at tdn_X11_made 36 rfl) ⟨(Nat.le_of_ble_eq_true rfl), (Nat.le_of_ble_eq_true rfl)⟩ (fun r u H locs hu hM => ?_)
  obtain ⟨rfl, rfl⟩ := hu
  exact nn_ar (Or.inl ⟨_, rfl⟩) C hM ⟨q, rfl, rfl⟩ (dd_at tdn_X11_made 37 rfl)
set_option maxHeartbeats 4000000 in
set_option maxRecDepth 100000 in
theorem n_made5 (l : Launch) (D : va_G) (B : Nat) (z : pp_Z) (X : cc_X) (st : cc_S) (hok : cc_ok X) (h0 : 0 ∈ cx_o X ∧ cx_K X 0 = 13) (x2 x3 : Int32) : nn_M l D cc_W (nn_ts (cx_c X)) B z yX11_made cX11_made 4 (some (.object "EclipsesKept$Need")) 4 84 1 4 [.ref (cx_a X 0), .int (nI 5), .int x2, .int x3] (cc_w X st) (fun r u => ∃ q, r = some (.ref q) ∧ u = cc_w X st ++ [(q, .inr (3, [.int (nI 5), .int x2, .int x3, .ref (cx_b X 0 5)]))]) := by
  refine nn_enter (own := RX11) (by decide) rfl (Nat.le_of_ble_eq_true rfl) ?_
  intro p e s mi args below meth c ls A C hl hM
  have hl : lv_has ls 4 [(0, .ref (cx_a X 0)), (1, .int (nI 5)), (2, .int x2), (3, .int x3)] := hl
  refine lv_iload_n C.1 C.2.1 (dd_at tdn_X11_made 0 rfl) rfl (lv_at hl 1 rfl) ?_
  refine lv_tableIn (off := 99) (tgt := 100) C.1 C.2.1 (dd_at tdn_X11_made 1 rfl) (by decide) (by decide) (by decide) (by decide) ?_
  refine nn_new C hM (K := RX1) (T := TX1) (ty0 := tyX1) (N1 := 4) (c1 := 3) (fun j => defaultValue (tyX1 j)) rfl cc_inX1 tyX1_ok cw529 cw530 cw379 (fun _ _ => rfl) (Nat.le_of_ble_eq_true rfl) (Nat.le_of_ble_eq_true rfl) (dd_at tdn_X11_made 38 rfl) (fun q H hM => ?_)
  have hM : nn_H D A s.heap (cc_w X st ++ nn_W q 3 4 (fun j => defaultValue (tyX1 j)) []) H _ := hM
  refine lv_dup C.1 C.2.1 (dd_at tdn_X11_made 39 rfl) rfl ?_
  refine lv_iload_n C.1 C.2.1 (dd_at tdn_X11_made 40 rfl) rfl (lv_at hl 1 rfl) ?_
  refine lv_iload_n C.1 C.2.1 (dd_at tdn_X11_made 41 rfl) rfl (lv_at hl 2 rfl) ?_
  refine lv_iload_n C.1 C.2.1 (dd_at tdn_X11_made 42 rfl) rfl (lv_at hl 3 rfl) ?_
  refine lv_aload_n C.1 C.2.1 (dd_at tdn_X11_made 43 rfl) rfl (lv_at hl 0 rfl) ?_
  refine nx_get (ws := nn_W q _ 4 _ []) C hM (i := 0) (ci := 13) (N := 8) (k := 5) (K := RX11) (T := TX11) (ref := "EclipsesKept") (v := .ref (cx_b X 0 5)) h0 rfl cc_inX11 rfl (Nat.le_of_ble_eq_true rfl) cw509 rfl (fun X' hK ha hb => by unfold cc_val; rw [hK, hb]; rfl) (dd_at tdn_X11_made 44 rfl) ?_
  refine nn_cI (q := q) (ws := cc_w X st) (wc := nn_W q 3 4 (fun j => defaultValue (tyX1 j)) []) (n := 4) (As := [.int (nI 5), .int x2, .int x3, .ref (cx_b X 0 5)]) (rest := [.ref q]) C hM (c_X1_init_X1 l D B z (cx_c X) q (nI 5) x2 x3 (cx_b X 0 5)) (nn_ccg cw195) cw379 cw540 cw541 rfl hn_X1 ⟨(Nat.le_of_ble_eq_true rfl), (Nat.le_of_ble_eq_true rfl)⟩ rfl hl.1 rfl (Nat.le_of_ble_eq_true rfl) (dd_at tdn_X11_made 45 rfl) ⟨(Nat.le_of_ble_eq_true rfl), (Nat.le_of_ble_eq_true rfl)⟩ (fun r u H locs hu hM => ?_)
  obtain ⟨rfl, rfl⟩ := hu
  exact nn_ar (Or.inl ⟨_, rfl⟩) C hM ⟨q, rfl, rfl⟩ (dd_at tdn_X11_made 46 rfl)
set_option maxHeartbeats 4000000 in
set_option maxRecDepth 100000 in
theorem n_made6 (l : Launch) (D : va_G) (B : Nat) (z : pp_Z) (X : cc_X) (st : cc_S) (hok : cc_ok X) (h0 : 0 ∈ cx_o X ∧ cx_K X 0 = 13) (x2 x3 : Int32) : nn_M l D cc_W (nn_ts (cx_c X)) B z yX11_made cX11_made 4 (some (.object "EclipsesKept$Need")) 4 84 1 4 [.ref (cx_a X 0), .int (nI 6), .int x2, .int x3] (cc_w X st) (fun r u => ∃ q, r = some (.ref q) ∧ u = cc_w X st ++ [(q, .inr (11, [.int (nI 6), .int x2, .int x3, .ref (cx_b X 0 5)]))]) := by
  refine nn_enter (own := RX11) (by decide) rfl (Nat.le_of_ble_eq_true rfl) ?_
  intro p e s mi args below meth c ls A C hl hM
  have hl : lv_has ls 4 [(0, .ref (cx_a X 0)), (1, .int (nI 6)), (2, .int x2), (3, .int x3)] := hl
  refine lv_iload_n C.1 C.2.1 (dd_at tdn_X11_made 0 rfl) rfl (lv_at hl 1 rfl) ?_
  refine lv_tableIn (off := 114) (tgt := 115) C.1 C.2.1 (dd_at tdn_X11_made 1 rfl) (by decide) (by decide) (by decide) (by decide) ?_
  refine nn_new C hM (K := RX9) (T := TX9) (ty0 := tyX9) (N1 := 4) (c1 := 11) (fun j => defaultValue (tyX9 j)) rfl cc_inX9 tyX9_ok cw531 cw532 cw269 (fun _ _ => rfl) (Nat.le_of_ble_eq_true rfl) (Nat.le_of_ble_eq_true rfl) (dd_at tdn_X11_made 47 rfl) (fun q H hM => ?_)
  have hM : nn_H D A s.heap (cc_w X st ++ nn_W q 11 4 (fun j => defaultValue (tyX9 j)) []) H _ := hM
  refine lv_dup C.1 C.2.1 (dd_at tdn_X11_made 48 rfl) rfl ?_
  refine lv_iload_n C.1 C.2.1 (dd_at tdn_X11_made 49 rfl) rfl (lv_at hl 1 rfl) ?_
  refine lv_iload_n C.1 C.2.1 (dd_at tdn_X11_made 50 rfl) rfl (lv_at hl 2 rfl) ?_
  refine lv_iload_n C.1 C.2.1 (dd_at tdn_X11_made 51 rfl) rfl (lv_at hl 3 rfl) ?_
  refine lv_aload_n C.1 C.2.1 (dd_at tdn_X11_made 52 rfl) rfl (lv_at hl 0 rfl) ?_
  refine nx_get (ws := nn_W q _ 4 _ []) C hM (i := 0) (ci := 13) (N := 8) (k := 5) (K := RX11) (T := TX11) (ref := "EclipsesKept") (v := .ref (cx_b X 0 5)) h0 rfl cc_inX11 rfl (Nat.le_of_ble_eq_true rfl) cw509 rfl (fun X' hK ha hb => by unfold cc_val; rw [hK, hb]; rfl) (dd_at tdn_X11_made 53 rfl) ?_
  refine nn_cI (q := q) (ws := cc_w X st) (wc := nn_W q 11 4 (fun j => defaultValue (tyX9 j)) []) (n := 4) (As := [.int (nI 6), .int x2, .int x3, .ref (cx_b X 0 5)]) (rest := [.ref q]) C hM (c_X9_init_X9 l D B z (cx_c X) q (nI 6) x2 x3 (cx_b X 0 5)) (nn_ccg cw411) cw269 cw542 cw543 rfl hn_X9 ⟨(Nat.le_of_ble_eq_true rfl), (Nat.le_of_ble_eq_true rfl)⟩ rfl hl.1 rfl (Nat.le_of_ble_eq_true rfl) (dd_at tdn_X11_made 54 rfl) ⟨(Nat.le_of_ble_eq_true rfl), (Nat.le_of_ble_eq_true rfl)⟩ (fun r u H locs hu hM => ?_)
  obtain ⟨rfl, rfl⟩ := hu
  exact nn_ar (Or.inl ⟨_, rfl⟩) C hM ⟨q, rfl, rfl⟩ (dd_at tdn_X11_made 55 rfl)
theorem n_made (l : Launch) (D : va_G) (B : Nat) (z : pp_Z) (X : cc_X) (st : cc_S) (hok : cc_ok X) (h0 : 0 ∈ cx_o X ∧ cx_K X 0 = 13) (κ : Nat) (hκ : κ ≤ 6) (x2 x3 : Int32) : nn_M l D cc_W (nn_ts (cx_c X)) B z yX11_made cX11_made 4 (some (.object "EclipsesKept$Need")) 4 84 1 4 [.ref (cx_a X 0), .int (nI κ), .int x2, .int x3] (cc_w X st) (fun r u => ∃ q, r = some (.ref q) ∧ u = cc_w X st ++ [(q, .inr (kcl κ, [.int (nI κ), .int x2, .int x3, .ref (cx_b X 0 5)]))]) := by
  have h : κ = 0 ∨ κ = 1 ∨ κ = 2 ∨ κ = 3 ∨ κ = 4 ∨ κ = 5 ∨ κ = 6 := by omega
  rcases h with rfl | rfl | rfl | rfl | rfl | rfl | rfl
  · exact n_made0 l D B z X st hok h0 x2 x3
  · exact n_made1 l D B z X st hok h0 x2 x3
  · exact n_made2 l D B z X st hok h0 x2 x3
  · exact n_made3 l D B z X st hok h0 x2 x3
  · exact n_made4 l D B z X st hok h0 x2 x3
  · exact n_made5 l D B z X st hok h0 x2 x3
  · exact n_made6 l D B z X st hok h0 x2 x3
def tbn_X0_isOne : List (Nat × Instr × Nat) := [(0, .aload_n 0, 1), (1, .getfield 45, 3), (4, .ireturn, 1)]
theorem tdn_X0_isOne : tbn_X0_isOne.all (fun q => decide (decode cX0_isOne q.1 = .ok (q.2.1, q.2.2))) = true := by decide +kernel
set_option maxHeartbeats 4000000 in
set_option maxRecDepth 100000 in
theorem n_isOne (l : Launch) (D : va_G) (B : Nat) (z : pp_Z) (ct : Nat → ClassId) (o : Nat) (ad : Nat → Nat) (pst : mm_S) (hr : mm_I pst 1 = 0 ∨ mm_I pst 1 = 1) : nn_M l D sb_W (nn_ts ct) B z yX0_isOne cX0_isOne 1 (some .boolean) 1 12 0 0 [.ref o] (pp_w o ad (ct 0) pst) (fun r u => r = some (.int (mm_I pst 1)) ∧ u = pp_w o ad (ct 0) pst) := by
  refine nn_enter (own := RX0) (by decide) rfl (Nat.le_of_ble_eq_true rfl) ?_
  intro p e s mi args below meth c ls A C hl hM
  have hl : lv_has ls 1 [(0, .ref o)] := hl
  refine lv_aload_n C.1 C.2.1 (dd_at tdn_X0_isOne 0 rfl) rfl (lv_at hl 0 rfl) ?_
  refine nn_get C hM 0 (ci := 2) (fs := pp_fs ad pst) (K := RX0) (T := TX0) (N := 10) (k := 1) (ref := "EclipsesKept$Archive") (v := .int (mm_I pst 1)) pp_w_0 rfl sb_inX0 (Nat.le_of_ble_eq_true rfl) (sb_c cw170) rfl (pp_fs_get (by decide)) (dd_at tdn_X0_isOne 1 rfl) ?_
  exact nn_zr C hM (by rcases hr with h | h <;> rw [h] <;> rfl) ⟨rfl, rfl⟩ (dd_at tdn_X0_isOne 2 rfl)
def tbn_X0_place : List (Nat × Instr × Nat) := [(0, .aload_n 0, 1), (1, .getfield 9, 3), (4, .ireturn, 1)]
theorem tdn_X0_place : tbn_X0_place.all (fun q => decide (decode cX0_place q.1 = .ok (q.2.1, q.2.2))) = true := by decide +kernel
set_option maxHeartbeats 4000000 in
set_option maxRecDepth 100000 in
theorem n_place (l : Launch) (D : va_G) (B : Nat) (z : pp_Z) (ct : Nat → ClassId) (o : Nat) (ad : Nat → Nat) (pst : mm_S) : nn_M l D sb_W (nn_ts ct) B z yX0_place cX0_place 1 (some .int) 1 12 0 0 [.ref o] (pp_w o ad (ct 0) pst) (fun r u => r = some (.int (mm_I pst 2)) ∧ u = pp_w o ad (ct 0) pst) := by
  refine nn_enter (own := RX0) (by decide) rfl (Nat.le_of_ble_eq_true rfl) ?_
  intro p e s mi args below meth c ls A C hl hM
  have hl : lv_has ls 1 [(0, .ref o)] := hl
  refine lv_aload_n C.1 C.2.1 (dd_at tdn_X0_place 0 rfl) rfl (lv_at hl 0 rfl) ?_
  refine nn_get C hM 0 (ci := 2) (fs := pp_fs ad pst) (K := RX0) (T := TX0) (N := 10) (k := 2) (ref := "EclipsesKept$Archive") (v := .int (mm_I pst 2)) pp_w_0 rfl sb_inX0 (Nat.le_of_ble_eq_true rfl) (sb_c cw43) rfl (pp_fs_get (by decide)) (dd_at tdn_X0_place 1 rfl) ?_
  exact nn_ir C hM ⟨rfl, rfl⟩ (dd_at tdn_X0_place 2 rfl)
def ar_z (z : pp_Z) (t w n : Nat) (tx : Nat → Nat) : pp_Z := fun i => if i = 0 then (t, w, n, tx) else z i
def ar_st0 : mm_S := (fun k => if k = 9 then 1 else 0, fun _ _ => 0, fun _ _ => 0)
def ar_ad (t q0 q1 q2 q3 : Nat) : Nat → Nat := fun k => if k = 0 then t else if k = 3 then q0 else if k = 4 then q1 else if k = 5 then q2 else if k = 6 then q3 else 0
def tbn_X0_init : List (Nat × Instr × Nat) := [(0, .aload_n 0, 1), (1, .invokespecial 3, 3), (4, .aload_n 0, 1), (5, .iconst 0, 1), (6, .putfield 9, 3), (9, .aload_n 0, 1), (10, .bipush 10, 2), (12, .newarray .int, 2), (14, .putfield 15, 3), (17, .aload_n 0, 1), (18, .bipush 10, 2), (20, .newarray .int, 2), (22, .putfield 19, 3), (25, .aload_n 0, 1), (26, .bipush 11, 2), (28, .newarray .int, 2), (30, .putfield 22, 3), (33, .aload_n 0, 1), (34, .bipush 100, 2), (36, .newarray .int, 2), (38, .putfield 25, 3), (41, .aload_n 0, 1), (42, .iconst 0, 1), (43, .putfield 28, 3), (46, .aload_n 0, 1), (47, .iconst 0, 1), (48, .putfield 31, 3), (51, .aload_n 0, 1), (52, .iconst 1, 1), (53, .putfield 34, 3), (56, .aload_n 0, 1), (57, .aload_n 1, 1), (58, .putfield 37, 3), (61, .aload_n 0, 1), (62, .aload_n 0, 1), (63, .invokevirtual 41, 3), (66, .putfield 45, 3), (69, .return_, 1)]
theorem tdn_X0_init : tbn_X0_init.all (fun q => decide (decode cX0_init q.1 = .ok (q.2.1, q.2.2))) = true := by decide +kernel
set_option maxHeartbeats 4000000 in
set_option maxRecDepth 100000 in
theorem n_archInit (l : Launch) (D : va_G) (B : Nat) (z : pp_Z) (ct : Nat → ClassId) (o t w n fu : Nat) (f : Nat → Int32) (tx : Nat → Nat) (hn : n ≤ 100) (hfx : ∀ j, j < n → f j = sb_b (tx j)) (rr : Int32) (st1 : mm_S) (hr : rr = 0 ∨ rr = 1) (hP : P_X0_takesClauses (ar_z z t w n tx) fu ar_st0 = some (rr, st1)) : nn_M l D sb_W (nn_ts ct) B z yX0_init cX0_init 2 none 53 1866 4 131 [.ref o, .ref t] (nn_W o 2 10 (fun j => defaultValue (tyX0 j)) [nn_so t (.ref w), nn_by ct w n f]) (fun r u => r = none ∧ ∃ ad, u = [nn_so t (.ref w), nn_by ct w n f] ++ pp_w o ad (ct 0) (mm_sI st1 1 rr)) := by
  refine nn_enter (own := RX0) (by decide) rfl (Nat.le_of_ble_eq_true rfl) ?_
  intro p e s mi args below meth c ls A C hl hM
  have hl : lv_has ls 2 [(0, .ref o), (1, .ref t)] := hl
  refine lv_aload_n C.1 C.2.1 (dd_at tdn_X0_init 0 rfl) rfl (lv_at hl 0 rfl) ?_
  refine nn_obj C hl.1 (sb_c cw166) (sb_c cw167) (sb_c cw168) (dd_at tdn_X0_init 1 rfl) (Nat.le_of_ble_eq_true rfl) (Nat.le_of_ble_eq_true rfl) ?_
  refine lv_aload_n C.1 C.2.1 (dd_at tdn_X0_init 2 rfl) rfl (lv_at hl 0 rfl) ?_
  refine lv_iconst (v := (0 : Int32)) C.1 C.2.1 (dd_at tdn_X0_init 3 rfl) (by decide) ?_
  refine nn_put C hM (ref := RX0) (K := RX0) (T := TX0) (k := 2) (ty0 := tyX0) rfl sb_inX0 tyX0_ok nmX0 (Nat.le_of_ble_eq_true rfl) (sb_c cw43) rfl rfl rfl rfl (dd_at tdn_X0_init 4 rfl) (fun H locs hM => ?_)
  refine lv_aload_n C.1 C.2.1 (dd_at tdn_X0_init 5 rfl) rfl (lv_at hl 0 rfl) ?_
  refine lv_bipush (v := (10 : Int32)) C.1 C.2.1 (dd_at tdn_X0_init 6 rfl) (by decide) ?_
  refine nn_arrW (ty := .int) C hM (atype := .int) (t0 := 0) (c0 := (ct 0)) (N' := 10) (10, .inl (fun _ => 0)) (sb_c cw169) rfl rfl nn_uI (fun _ => rfl) (by decide) rfl (Nat.le_of_ble_eq_true rfl) (Nat.le_of_ble_eq_true rfl) (Nat.le_of_ble_eq_true rfl) (dd_at tdn_X0_init 7 rfl) (fun q0 H hM => ?_)
  refine nn_putF C hM (K := RX0) (T := TX0) (k := 3) (ty0 := tyX0) rfl sb_inX0 tyX0_ok nmX0 (Nat.le_of_ble_eq_true rfl) (sb_c cw154) rfl rfl rfl rfl rfl (dd_at tdn_X0_init 8 rfl) (fun H locs hM => ?_)
  refine lv_aload_n C.1 C.2.1 (dd_at tdn_X0_init 9 rfl) rfl (lv_at hl 0 rfl) ?_
  refine lv_bipush (v := (10 : Int32)) C.1 C.2.1 (dd_at tdn_X0_init 10 rfl) (by decide) ?_
  refine nn_arrW (ty := .int) C hM (atype := .int) (t0 := 0) (c0 := (ct 0)) (N' := 10) (10, .inl (fun _ => 0)) (sb_c cw169) rfl rfl nn_uI (fun _ => rfl) (by decide) rfl (Nat.le_of_ble_eq_true rfl) (Nat.le_of_ble_eq_true rfl) (Nat.le_of_ble_eq_true rfl) (dd_at tdn_X0_init 11 rfl) (fun q1 H hM => ?_)
  refine nn_putF C hM (K := RX0) (T := TX0) (k := 4) (ty0 := tyX0) rfl sb_inX0 tyX0_ok nmX0 (Nat.le_of_ble_eq_true rfl) (sb_c cw156) rfl rfl rfl rfl rfl (dd_at tdn_X0_init 12 rfl) (fun H locs hM => ?_)
  refine lv_aload_n C.1 C.2.1 (dd_at tdn_X0_init 13 rfl) rfl (lv_at hl 0 rfl) ?_
  refine lv_bipush (v := (11 : Int32)) C.1 C.2.1 (dd_at tdn_X0_init 14 rfl) (by decide) ?_
  refine nn_arrW (ty := .int) C hM (atype := .int) (t0 := 0) (c0 := (ct 0)) (N' := 11) (11, .inl (fun _ => 0)) (sb_c cw169) rfl rfl nn_uI (fun _ => rfl) (by decide) rfl (Nat.le_of_ble_eq_true rfl) (Nat.le_of_ble_eq_true rfl) (Nat.le_of_ble_eq_true rfl) (dd_at tdn_X0_init 15 rfl) (fun q2 H hM => ?_)
  refine nn_putF C hM (K := RX0) (T := TX0) (k := 5) (ty0 := tyX0) rfl sb_inX0 tyX0_ok nmX0 (Nat.le_of_ble_eq_true rfl) (sb_c cw157) rfl rfl rfl rfl rfl (dd_at tdn_X0_init 16 rfl) (fun H locs hM => ?_)
  refine lv_aload_n C.1 C.2.1 (dd_at tdn_X0_init 17 rfl) rfl (lv_at hl 0 rfl) ?_
  refine lv_bipush (v := (100 : Int32)) C.1 C.2.1 (dd_at tdn_X0_init 18 rfl) (by decide) ?_
  refine nn_arrW (ty := .int) C hM (atype := .int) (t0 := 0) (c0 := (ct 0)) (N' := 100) (100, .inl (fun _ => 0)) (sb_c cw169) rfl rfl nn_uI (fun _ => rfl) (by decide) rfl (Nat.le_of_ble_eq_true rfl) (Nat.le_of_ble_eq_true rfl) (Nat.le_of_ble_eq_true rfl) (dd_at tdn_X0_init 19 rfl) (fun q3 H hM => ?_)
  refine nn_putF C hM (K := RX0) (T := TX0) (k := 6) (ty0 := tyX0) rfl sb_inX0 tyX0_ok nmX0 (Nat.le_of_ble_eq_true rfl) (sb_c cw68) rfl rfl rfl rfl rfl (dd_at tdn_X0_init 20 rfl) (fun H locs hM => ?_)
  refine lv_aload_n C.1 C.2.1 (dd_at tdn_X0_init 21 rfl) rfl (lv_at hl 0 rfl) ?_
  refine lv_iconst (v := (0 : Int32)) C.1 C.2.1 (dd_at tdn_X0_init 22 rfl) (by decide) ?_
  refine nn_put C hM (ref := RX0) (K := RX0) (T := TX0) (k := 7) (ty0 := tyX0) rfl sb_inX0 tyX0_ok nmX0 (Nat.le_of_ble_eq_true rfl) (sb_c cw155) rfl rfl rfl rfl (dd_at tdn_X0_init 23 rfl) (fun H locs hM => ?_)
  refine lv_aload_n C.1 C.2.1 (dd_at tdn_X0_init 24 rfl) rfl (lv_at hl 0 rfl) ?_
  refine lv_iconst (v := (0 : Int32)) C.1 C.2.1 (dd_at tdn_X0_init 25 rfl) (by decide) ?_
  refine nn_put C hM (ref := RX0) (K := RX0) (T := TX0) (k := 8) (ty0 := tyX0) rfl sb_inX0 tyX0_ok nmX0 (Nat.le_of_ble_eq_true rfl) (sb_c cw67) rfl rfl rfl rfl (dd_at tdn_X0_init 26 rfl) (fun H locs hM => ?_)
  refine lv_aload_n C.1 C.2.1 (dd_at tdn_X0_init 27 rfl) rfl (lv_at hl 0 rfl) ?_
  refine lv_iconst (v := (1 : Int32)) C.1 C.2.1 (dd_at tdn_X0_init 28 rfl) (by decide) ?_
  refine nn_put C hM (ref := RX0) (K := RX0) (T := TX0) (k := 9) (ty0 := tyX0) rfl sb_inX0 tyX0_ok nmX0 (Nat.le_of_ble_eq_true rfl) (sb_c cw153) rfl rfl rfl rfl (dd_at tdn_X0_init 29 rfl) (fun H locs hM => ?_)
  refine lv_aload_n C.1 C.2.1 (dd_at tdn_X0_init 30 rfl) rfl (lv_at hl 0 rfl) ?_
  refine lv_aload_n C.1 C.2.1 (dd_at tdn_X0_init 31 rfl) rfl (lv_at hl 1 rfl) ?_
  refine nn_putF C hM (K := RX0) (T := TX0) (k := 0) (ty0 := tyX0) rfl sb_inX0 tyX0_ok nmX0 (Nat.le_of_ble_eq_true rfl) (sb_c cw44) rfl rfl rfl rfl rfl (dd_at tdn_X0_init 32 rfl) (fun H locs hM => ?_)
  have hM := nn_perm (List.perm_middle (a := _) (l₁ := [nn_so t (.ref w), nn_by ct w n f]) (l₂ := [(q0, .inl (ct 0, 10, .inl (fun _ => 0))), (q1, .inl (ct 0, 10, .inl (fun _ => 0))), (q2, .inl (ct 0, 11, .inl (fun _ => 0))), (q3, .inl (ct 0, 100, .inl (fun _ => 0)))])).symm hM
  have hM : nn_H D A s.heap ([nn_so t (.ref w), nn_by ct w n f] ++ pp_w o (ar_ad t q0 q1 q2 q3) (ct 0) ar_st0) H _ := hM
  refine lv_aload_n C.1 C.2.1 (dd_at tdn_X0_init 33 rfl) rfl (lv_at hl 0 rfl) ?_
  refine lv_aload_n C.1 C.2.1 (dd_at tdn_X0_init 34 rfl) rfl (lv_at hl 0 rfl) ?_
  have hap : ∀ q, pp_A o (ar_ad t q0 q1 q2 q3) q → q ≠ t ∧ q ≠ w := by
    intro q h
    have hn := (nn_dp.mp hM.2.1).1
    obtain ⟨y, hy, e⟩ := List.mem_map.mp (pp_A_ad (cs := ct 0) (st := ar_st0) h)
    rw [List.map_append] at hn
    have hd := (List.nodup_append.mp hn).2.2
    exact ⟨fun e2 => hd t List.mem_cons_self q (List.mem_map.mpr ⟨y, hy, e⟩) e2.symm, fun e2 => hd w (List.mem_cons_of_mem _ List.mem_cons_self) q (List.mem_map.mpr ⟨y, hy, e⟩) e2.symm⟩
  refine nn_ppV (z0 := ar_z z t w n tx) (n := 0) (r := rr) (pst1 := st1) C hM sb_hW (fun i hi => rfl) (nn_jS (t := t) (w := w) (n := n) (tx := tx) (q0 := 0) (q1 := 1) (f := f) C hM sb_inJ0 rfl rfl (by omega) hfx (fun h => (hap t h).1 rfl) (fun h => (hap w h).2 rfl)) rfl (c_X0_takesClauses l D o _ (ct 0) (ar_z z t w n tx) fu ar_st0) hP (cc_gdV cw171 cw172 cw173 cw55 cw165) hd_X0_takesClauses ⟨(Nat.le_of_ble_eq_true rfl), (Nat.le_of_ble_eq_true rfl)⟩ hl.1 rfl (Nat.le_of_ble_eq_true rfl) (dd_at tdn_X0_init 35 rfl) ⟨(Nat.le_of_ble_eq_true rfl), (Nat.le_of_ble_eq_true rfl)⟩ (fun H locs hM => ?_)
  refine nn_ptF (ws' := [nn_so t (.ref w), nn_by ct w n f] ++ pp_w o (ar_ad t q0 q1 q2 q3) (ct 0) (mm_sI st1 1 rr)) C hM 2 (ci := 2) (fs := pp_fs (ar_ad t q0 q1 q2 q3) st1) (K := RX0) (T := TX0) (N := 10) (k := 1) (ty0 := tyX0) rfl ?_ rfl sb_inX0 tyX0_ok nmX0 (Nat.le_of_ble_eq_true rfl) (sb_c cw170) rfl rfl rfl (by rcases hr with h | h <;> rw [h] <;> rfl) (by rcases hr with h | h <;> rw [h] <;> rfl) (by unfold pp_fs; rw [List.length_map, List.length_range]; decide) (dd_at tdn_X0_init 36 rfl) (fun H locs hM => ?_)
  · show _ :: _ :: (pp_w o (ar_ad t q0 q1 q2 q3) (ct 0) st1).set 0 _ = _
    rw [pp_w_sI (by decide) (by decide)]
    rfl
  refine W.widen (k := 4) (n := 131) (Nat.le_of_ble_eq_true rfl) (Nat.le_of_ble_eq_true rfl) ?_
  exact nn_vr C hM ⟨rfl, _, rfl⟩ (dd_at tdn_X0_init 37 rfl)
