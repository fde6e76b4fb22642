/-! the start of the law -/
theorem lw_stw : ∀ w ∈ [Cond.classLink R_law 7 RX11, Cond.instantiable RX11 8, Cond.initialized RX11, Cond.methodLink R_law 9 yX11_init, Cond.instanceMethod yX11_init, Cond.code yX11_init cX11_init 2 none, Cond.classLink R_law 10 RX12, Cond.instantiable RX12 63, Cond.initialized RX12, Cond.methodLink R_law 12 yX12_init, Cond.instanceMethod yX12_init, Cond.code yX12_init cX12_init 1 none], w ∈ lw_tbl := lw_in [95, 96, 70, 97, 98, 99, 1194, 1195, 78, 1196, 1197, 1198] (by decide +kernel)
theorem lw_Gnm : ∀ w ∈ nn_mW, goodWord w = true := List.all_eq_true.mp (by decide +kernel)
theorem lw_ns {P : Prop} {y : Nat} (h : (none : Option Nat) = some y) : P := by cases h
theorem lw_rel {ct : Nat → ClassId} {oa : List Nat} {ar : List (List Nat)} {q2 q3 u3 u3b : Nat} : Rel (x40 (lw_X0 ct oa ar q2 q3 u3 u3b)) (fun _ => 0) mm_st0 lw_sc0 := by
  have ho : ∀ q ∈ px_o, q.1 ∈ [40, 0, 1, 2, 3, 4, 5, 6, 7, 8, 9] ∧ [13, 9, 9, 12, 10, 10, 10, 10, 10, 10].getD q.1 1 = q.2 := by decide
  have hl : ∀ k, k < 13 → mm_G mm_st0 24 k = nI (lts.getD k 0) := by decide +kernel
  have hr : (0 : Int32) = nI 0 := rfl
  refine ⟨⟨ho, fun r hr => hr⟩, 0, ⟨⟨rfl, rfl, rfl, rfl, rfl, rfl, rfl⟩, ⟨fun _ _ => rfl, fun _ _ => rfl, fun _ _ => rfl, fun _ _ => rfl, fun _ _ => rfl, fun _ _ => rfl, fun _ _ => rfl, fun _ _ => rfl⟩, ⟨0, by omega, rfl, fun k h => absurd h (Nat.not_lt_zero k), fun k y _ h => lw_ns h⟩, ⟨Or.inl ⟨rfl, rfl⟩, Or.inl rfl⟩, ?_⟩, Or.inl rfl, ⟨⟨by omega, rfl, rfl⟩, ⟨0, by omega, rfl, ⟨rfl, rfl⟩, fun k h => absurd h (Nat.not_lt_zero k)⟩, rfl, ⟨0, by omega, rfl, rfl⟩, ?_, hl, fun _ _ => rfl⟩, fun t ht => ?_⟩
  · exact ⟨0, 3, 0, 0, 0, 0, ⟨by omega, rfl⟩, ⟨by omega, rfl⟩, ⟨by omega, rfl⟩, ⟨by omega, rfl⟩, ⟨by omega, rfl⟩, ⟨by omega, rfl⟩, fun k h => absurd h (Nat.not_lt_zero k), fun k h => absurd h (Nat.not_lt_zero k), fun k h => absurd h (Nat.not_lt_zero k), fun k _ => ⟨0, by omega, rfl, fun _ => rfl⟩, fun k _ => ⟨0, by omega, rfl, fun _ => rfl⟩⟩
  · exact fun _ _ => rfl
  · rcases (show t = 0 ∨ t = 1 ∨ t = 2 ∨ t = 3 ∨ t = 4 ∨ t = 5 by omega) with rfl | rfl | rfl | rfl | rfl | rfl <;> exact ⟨rfl, rfl, rfl, fun _ _ => rfl, 0, by omega, rfl, Or.inl ⟨rfl, rfl⟩⟩
set_option maxHeartbeats 8000000 in
set_option maxRecDepth 100000 in
theorem whole_start {p : Program} {e : Env} {s : State} {m : MethodId} {below : List Frame} {meth : Method} {c : Code} (l : Launch) (hflags : l.flags = flags0) {b L : Nat} {xs : Nat → Int32} (hL : L ≤ 3072) (C0 : lw_At p s m meth c b L xs) : W p l e room_1 s m #[Value.ref b] below meth c s.heap [] 0 0 (lw_Z below #[Value.ref b] s) (entryFrame m ([Value.ref b] : List Value).toArray 4) := by
  obtain ⟨hx, hb, hret, hml, hown, hts, hX, hbl, hlk, hg⟩ := C0
  obtain ⟨D, ct, cs, hK1, hK2⟩ := lw_K hts
  obtain ⟨z, hz, hE⟩ := lw_E hg hts
  have C1 : lw_N p s m meth c b D (nn_ts ct) z := ⟨hx, hb, hret, hml, hown, lw_hW hts, hlk, hK1, hE, rfl, fun q h => h, Nat.le_refl _⟩
  have C2 : lw_N p s m meth c b D (mm_tys cs) z := ⟨hx, hb, hret, hml, hown, lw_hW hts, hlk, hK2, hE, rfl, fun q h => h, Nat.le_refl _⟩
  have Cx : lw_C p s m meth c b L xs D ct cs z := ⟨C1, C2, hX, hbl, hL, hz⟩
  have hdx : lw_ok [(0, .new 7, 3), (3, .dup, 1), (4, .invokespecial 9, 3), (7, .astore_n 1, 1), (8, .new 10, 3), (11, .dup, 1), (12, .invokespecial 12, 3), (15, .astore_n 2, 1), (16, .iconst 0, 1), (17, .istore_n 3, 1)] = true := by decide +kernel
  have hw : ∀ (k : Nat) (w : Cond), [Cond.classLink R_law 7 RX11, Cond.instantiable RX11 8, Cond.initialized RX11, Cond.methodLink R_law 9 yX11_init, Cond.instanceMethod yX11_init, Cond.code yX11_init cX11_init 2 none, Cond.classLink R_law 10 RX12, Cond.instantiable RX12 63, Cond.initialized RX12, Cond.methodLink R_law 12 yX12_init, Cond.instanceMethod yX12_init, Cond.code yX12_init cX12_init 1 none][k]? = some w → w ∈ lw_W := fun k w h => lw_Wt (lw_stw w (List.mem_of_getElem? h))
  have hl := lv_entry ([.ref b]) (n := 4) (Nat.le_of_ble_eq_true rfl)
  rw [lg_entry_eq]
  generalize (lg_sl ([.ref b]) ++ List.replicate (4 - (lg_sl ([.ref b])).length) Slot.unset).toArray = ls at hl ⊢
  have hl : lv_has ls 4 [(0, .ref b)] := hl
  have hM : nn_H D (fun q => s.heap.size ≤ q) s.heap [] s.heap [] := ⟨fun k q h => by simp at h, ⟨fun i j p q h => by simp at h, fun k q h => by simp at h⟩, va_S.rf, fun q h => h⟩
  refine nn_new C1 hM (K := RX11) (T := TX11) (ty0 := tyX11) (N1 := 8) (c1 := 13) (fun j => defaultValue (tyX11 j)) rfl (fun w h => lw_Wt (lwuX11 w h)) tyX11_ok (hw 0 _ rfl) (hw 1 _ rfl) (hw 2 _ rfl) (fun _ _ => rfl) (Nat.le_of_ble_eq_true rfl) (Nat.le_of_ble_eq_true rfl) (lw_dc hdx 0 rfl) (fun x0 H hM => ?_)
  refine lv_dup C1.1 C1.2.1 (lw_dc hdx 1 rfl) rfl ?_
  refine ln_cI (n := 0) (q := x0) (ws := []) (wc := nn_W x0 13 8 (fun j => defaultValue (tyX11 j)) []) (As := []) (rest := [.ref x0]) C1 hM (n_kept l D s.heap.size z ct x0) (lw_gdI (lw_stw _ (List.mem_of_getElem? (i := 5) rfl)) lw_Wcc cc_Wgood) (hw 2 _ rfl) (hw 3 _ rfl) (hw 4 _ rfl) rfl (by decide +kernel) ⟨Nat.le_of_ble_eq_true rfl, Nat.le_of_ble_eq_true rfl⟩ rfl hl.1 rfl (Nat.le_of_ble_eq_true rfl) (lw_dc hdx 2 rfl) ⟨Nat.le_of_ble_eq_true rfl, Nat.le_of_ble_eq_true rfl⟩ (fun r u H locs hp hM => ?_)
  obtain ⟨rfl, u0, u1, u2, ta, u3, bo, u4, u5, u6, u7, u8, u9, u0_0, u0_1, u0_2, u0_3, u0_4, u0_5, u0_6, u0_7, u0_8, u1_0, u1_1, u1_2, u1_3, u1_4, u1_5, u1_6, u1_7, u1_8, u2_0, u2_1, u2_2, u2_3, u3b, u4_0, u5_0, u6_0, u7_0, u8_0, u9_0, rfl⟩ := hp
  have hM := lw_init hM
  refine lv_astore_n (lv' := [(1, .ref x0), (0, .ref b)]) C1.1 C1.2.1 (lw_dc hdx 3 rfl) rfl hl (by decide) rfl (fun ls hl => ?_)
  refine nn_new C2 hM (K := RX12) (T := TX12) (ty0 := tyX12) (N1 := 63) (c1 := 14) (fun j => defaultValue (tyX12 j)) rfl (fun w h => lw_Wt (lwuX12 w h)) tyX12_ok (hw 6 _ rfl) (hw 7 _ rfl) (hw 8 _ rfl) (fun _ _ => rfl) (Nat.le_of_ble_eq_true rfl) (Nat.le_of_ble_eq_true rfl) (lw_dc hdx 4 rfl) (fun xr H hM => ?_)
  refine lv_dup C1.1 C1.2.1 (lw_dc hdx 5 rfl) rfl ?_
  refine ln_cI (n := 0) (q := xr) (wc := nn_W xr 14 63 (fun j => defaultValue (tyX12 j)) []) (As := []) (rest := [.ref xr]) C2 hM (c_X12_init l D s.heap.size z cs xr) (lw_gdI (lw_stw _ (List.mem_of_getElem? (i := 11) rfl)) lw_Wnm lw_Gnm) (hw 8 _ rfl) (hw 9 _ rfl) (hw 10 _ rfl) rfl (by decide +kernel) ⟨Nat.le_of_ble_eq_true rfl, Nat.le_of_ble_eq_true rfl⟩ rfl hl.1 rfl (Nat.le_of_ble_eq_true rfl) (lw_dc hdx 6 rfl) ⟨Nat.le_of_ble_eq_true rfl, Nat.le_of_ble_eq_true rfl⟩ (fun r u H locs hp hM => ?_)
  obtain ⟨rfl, ad, rfl⟩ := hp
  rw [← List.append_cons] at hM
  refine lv_astore_n (lv' := [(2, .ref xr), (1, .ref x0), (0, .ref b)]) C1.1 C1.2.1 (lw_dc hdx 7 rfl) rfl hl (by decide) rfl (fun ls hl => ?_)
  refine lv_iconst (v := nI 0) C1.1 C1.2.1 (lw_dc hdx 8 rfl) (by decide) ?_
  refine lv_istore_n (lv' := [(3, .int (nI 0)), (2, .ref xr), (1, .ref x0), (0, .ref b)]) C1.1 C1.2.1 (lw_dc hdx 9 rfl) rfl hl (by decide) rfl (fun ls hl => ?_)
  refine lw_loop Cx 512 0 H locs _ _ ls (by omega) (by omega) ?_ hl (by omega) (by omega)
  exact ⟨(lw_X0 ct [x0, u0, u1, u2, u4, u5, u6, u7, u8, u9] [[0, 0, 0, ta, 0, bo], [u0_0, u0_1, u0_2, u0_3, u0_4, u0_5, u0_6, u0_7, u0_8], [u1_0, u1_1, u1_2, u1_3, u1_4, u1_5, u1_6, u1_7, u1_8], [u2_0, u2_1, u2_2, u2_3], [u4_0], [u5_0], [u6_0], [u7_0], [u8_0], [u9_0]] u2_2 u2_3 u3 u3b), fun _ => 0, mm_st0, lw_sc0, 16, 0, fun _ => 0, ad, (by decide : 40 ∉ [0, 1, 2, 3, 4, 5, 6, 7, 8, 9]), (by decide : ∀ r ∈ px_r, r.1 ≠ 40), ⟨(by decide : [40, 0, 1, 2, 3, 4, 5, 6, 7, 8, 9].Nodup), (by decide +kernel : px_r.Nodup)⟩, rfl, rfl, lw_rel, rfl, by omega, by omega, by omega, sb_fit0, fun j h => absurd h (Nat.not_lt_zero j), hM⟩
