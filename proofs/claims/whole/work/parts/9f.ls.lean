/-! the law's other cases: item, need, feed, archive -/
theorem x40_w {Xo : cc_X} {sc : cc_S} {n : Nat} (hK : cx_K Xo 40 = 1) (h1 : cc_I sc 40 1 = 0) (h3 : cc_I sc 40 3 = nI n) : cc_w (x40 Xo) sc = nn_bo (cx_a Xo 40) (cx_b Xo 40 0) (cc_I sc 40 2) (nI n) :: cc_w Xo sc := by
  have hf : cc_fs (x40 Xo) sc 40 = [.ref (cx_b Xo 40 0), .int 0, .int (cc_I sc 40 2), .int (nI n)] := by
    have hK' : cx_K (x40 Xo) 40 = 1 := hK
    unfold cc_fs
    rw [hK']
    show [cc_val (x40 Xo) sc 40 0, cc_val (x40 Xo) sc 40 1, cc_val (x40 Xo) sc 40 2, cc_val (x40 Xo) sc 40 3] = _
    unfold cc_val
    rw [hK', ← h1, ← h3]
    rfl
  show (cx_a Xo 40, (.inr (cx_K Xo 40, cc_fs (x40 Xo) sc 40) : va_E)) :: cc_w Xo sc = _
  rw [hf, hK]
  rfl
theorem w_cg {X X' : cc_X} {sc sc' : cc_S} (ho : cx_o X' = cx_o X) (hr : cx_r X' = cx_r X) (hK : cx_K X' = cx_K X) (ha : cx_a X' = cx_a X) (hc : cx_c X' = cx_c X) (hb : ∀ i k, i ≠ 40 → cx_b X' i k = cx_b X i k) (hI : ∀ i k, i ≠ 40 → cc_I sc' i k = cc_I sc i k) (h2 : sc'.2 = sc.2) (h40 : 40 ∉ cx_o X) (h40r : ∀ r ∈ cx_r X, r.1 ≠ 40) : cc_w X' sc' = cc_w X sc := by
  unfold cc_w
  rw [ho, hr]
  congr 1
  · refine List.map_congr_left (fun i hi => ?_)
    have hi40 : i ≠ 40 := fun e => h40 (e ▸ hi)
    have hv : ∀ k, cc_val X' sc' i k = cc_val X sc i k := fun k => by
      unfold cc_val
      rw [hK, hI i k hi40, hb i k hi40, ha, hb 0 5 (by decide), hb i 99 hi40, show cc_P sc' i k 0 = cc_P sc i k 0 from by unfold cc_P; rw [h2]]
    unfold cc_fs
    rw [ha, hK]
    refine congrArg (fun v => (cx_a X i, (Sum.inr (cx_K X i, v) : va_E))) (List.map_congr_left (fun k _ => hv k))
  · refine List.map_congr_left (fun r hr => ?_)
    have h := h40r r hr
    have e : cc_ent X' sc' r = cc_ent X sc r := by
      unfold cc_ent
      simp only [hK, hc, ha, h2, hb _ _ h]
    rw [e, hb _ _ h]
def lw_J (s : State) (D : va_G) (ct : Nat → ClassId) (cs : ClassId × ClassId × ClassId) (x0 xr : Nat) (fM : mm_S → Option (Int32 × mm_S)) (r : Int32) (H : Heap) (locs : List Loc) : Prop := ∃ (Xo : cc_X) (T : Nat → Nat) (sm sm' : mm_S) (sc : cc_S) (m n : Nat) (f : Nat → Int32) (ad : Nat → Nat), 40 ∉ cx_o Xo ∧ (∀ r ∈ cx_r Xo, r.1 ≠ 40) ∧ cc_ok (x40 Xo) ∧ cx_c Xo = ct ∧ cx_a Xo 0 = x0 ∧ fM sm = some (r, sm') ∧ Rel (x40 Xo) T sm' sc ∧ mm_I sm' 10 = nI n ∧ n ≤ m ∧ n ≤ 100 ∧ m ≤ 202 ∧ sb_Fit f ∧ (∀ j, j < n → f j = sb_b (T j)) ∧ nn_H D (fun q => s.heap.size ≤ q) s.heap (cc_w (x40 Xo) sc ++ (nn_by ct (cx_b Xo 40 0) m f :: mm_w xr ad cs sm)) H locs
theorem as_len (xs : Nat → Int32) (i : Nat) : ∀ k j, (lw_as xs i k j).length = k := by
  intro k
  induction k with
  | zero => exact fun _ => rfl
  | succ k ih => exact fun j => congrArg (· + 1) (ih (j + 1))
section LF
variable {p : Program} {l : Launch} {e : Env} {s : State} {m : MethodId} {below : List Frame} {meth : Method} {c : Code} {H : Heap} {locs : List Loc} {cells slots : Nat} {Q : State → Prop} {ls : Array Slot} {D : va_G} {ct : Nat → ClassId} {cs : ClassId × ClassId × ClassId} {z : pp_Z} {b L x0 xr i : Nat} {xs : Nat → Int32}
theorem lw_second {k pc iM : Nat} {off : Int} {yM : MethodName} {bM : ByteArray} {nM frM loM : Nat} {fM : mm_S → Option (Int32 × mm_S)} {r : Int32} (Cx : lw_C p s m meth c b L xs D ct cs z) (hI : lw_J s D ct cs x0 xr fM r H locs) (hl : lv_has ls 4 [(3, .int (nI i)), (2, .ref xr), (1, .ref x0), (0, .ref b)]) (hi : i + 6 ≤ L) (hk : k ≤ 5) (hd' : lw_ok (lw_ab k 0 (pc + 1)) = true) (hdx : lw_ok [(pc, .aload_n 2, 1), (pc + 1 + 5 * k, .invokevirtual iM, 3), (pc + 1 + 5 * k + 3, .if_icmp .eq off, 3)] = true) (ht : ((pc + 1 + 5 * k + 3 : Nat) : Int) + off = ((1343 : Nat) : Int)) (hM : ∀ (ad : Nat → Nat) (st : mm_S), mm_Mi l D xr ad cs yM bM nM (some .int) frM loM (lw_as xs i k 0) st (fM st)) (gM : ∀ w ∈ [Cond.methodLink R_law iM yM, Cond.instanceMethod yM, Cond.selects RX12 yM yM, Cond.initialized RX12, Cond.code yM bM nM (some .int)], w ∈ lw_tbl) (dM : yM.cls = RX12 ∧ yM.cls ≠ "java/lang/invoke/MethodHandle" ∧ yM.cls ≠ "java/lang/invoke/VarHandle" ∧ (parseMethodDescriptor yM.desc).map (fun d => d.parameters.length) = some k) (rM : frM + 1 ≤ room_1.frames ∧ 8 + (nM + 11) + loM ≤ room_1.locals) (hr : cells ≤ room_1.cells ∧ slots ≤ room_1.slots)
    (kk : ∀ (H : Heap) (locs : List Loc), lw_I s D ct cs x0 xr H locs → W p l e room_1 s m #[Value.ref b] below meth c H locs cells slots Q (F0 m 1343 ls [])) : W p l e room_1 s m #[Value.ref b] below meth c H locs cells slots Q (F0 m pc ls [.int r]) := by
  obtain ⟨Xo, T, sm, sm', sc, m', n, f, ad, h40, h40r, hok, rfl, rfl, e1, hR, h10, hnm, hn100, hm, hf, hfl, hH⟩ := hI
  obtain ⟨C1, C2, C3⟩ := Cx
  refine lv_aload_n C1.1 C1.2.1 (lw_dc hdx 0 rfl) rfl (lv_at hl 1 rfl) ?_
  refine lw_args ⟨C1, C2, C3⟩ hl hH.2.2.1 k 0 (pc + 1) _ (by omega) hd' ?_
  rw [List.append_cons] at hH
  refine lm_cV (o := xr) (ad := ad) (As := lw_as xs i k 0) (rest := [.int r]) C2 hH (hM ad sm) e1 (lw_gdV gM lw_Wmm lw_Gmm) dM rM (as_len xs i k 0) hl.1 rfl (Nat.le_of_ble_eq_true rfl) (lw_dc hdx 1 rfl) hr (fun H locs hH => ?_)
  rw [← List.append_cons] at hH
  refine lv_icmp_eq (tgt := 1343) C1.1 C1.2.1 (lw_dc hdx 2 rfl) ht (fun _ => ?_) (fun h => absurd rfl h)
  exact kk H locs ⟨Xo, T, sm', sc, m', n, f, ad, h40, h40r, hok, rfl, rfl, hR, h10, hnm, hn100, hm, hf, hfl, hH⟩
/-- the long that the law makes of two ints -/
def lw_lv (xs : Nat → Int32) (i : Nat) : Int64 := ((xs (i + 1 + 2)).toInt64 <<< ((32 : Int32).toInt64 &&& 63)) ||| ((xs (i + 1 + 3)).toInt64 &&& 4294967295)
theorem lw_long {pc : Nat} {rest : List Value} (Cx : lw_C p s m meth c b L xs D ct cs z) (hl : lv_has ls 4 [(3, .int (nI i)), (2, .ref xr), (1, .ref x0), (0, .ref b)]) (hi : i + 6 ≤ L) (hS : va_S (fun q => s.heap.size ≤ q) s.heap H locs) (hd1 : lw_ok (lw_ab 1 2 pc) = true) (hd2 : lw_ok (lw_ab 1 3 (pc + 9)) = true) (hdx : lw_ok [(pc + 5, .i2l, 1), (pc + 6, .bipush 32, 2), (pc + 8, .lshl, 1), (pc + 14, .i2l, 1), (pc + 15, .ldc2_w 155, 3), (pc + 18, .land, 1), (pc + 19, .lor, 1)] = true)
    (kk : W p l e room_1 s m #[Value.ref b] below meth c H locs cells slots Q (F0 m (pc + 20) ls (.long (lw_lv xs i) :: rest))) : W p l e room_1 s m #[Value.ref b] below meth c H locs cells slots Q (F0 m pc ls rest) := by
  have hC := Cx
  obtain ⟨C1, C2, C3⟩ := Cx
  refine lw_args hC hl hS 1 2 pc _ (by omega) hd1 ?_
  refine lv_i2l (v := (xs (i + 1 + 2)).toInt64) C1.1 C1.2.1 (lw_dc hdx 0 rfl) rfl ?_
  refine lv_bipush (v := (32 : Int32)) C1.1 C1.2.1 (lw_dc hdx 1 rfl) (by decide) ?_
  refine lv_lshl C1.1 C1.2.1 (lw_dc hdx 2 rfl) rfl ?_
  refine lw_args hC hl hS 1 3 (pc + 9) _ (by omega) hd2 ?_
  refine lv_i2l (v := (xs (i + 1 + 3)).toInt64) C1.1 C1.2.1 (lw_dc hdx 3 rfl) rfl ?_
  refine lv_ldc2 (v := (4294967295 : Int64)) C1.1 C1.2.1 (nn_own C1) (nn_w C1 (lw_Wt (List.mem_of_getElem? (i := 1740) (by decide +kernel)))) (lw_dc hdx 4 rfl) ?_
  refine lv_land C1.1 C1.2.1 (lw_dc hdx 5 rfl) ?_
  refine lv_lor C1.1 C1.2.1 (lw_dc hdx 6 rfl) ?_
  exact kk
theorem lk_item (Cx : lw_C p s m meth c b L xs D ct cs z) (hI : lw_I s D ct cs x0 xr H locs) (hl : lv_has ls 4 [(3, .int (nI i)), (2, .ref xr), (1, .ref x0), (0, .ref b)]) (hi : i + 6 ≤ L) (hr : cells ≤ room_1.cells ∧ slots ≤ room_1.slots) (kk : ∀ (H : Heap) (locs : List Loc), lw_I s D ct cs x0 xr H locs → W p l e room_1 s m #[Value.ref b] below meth c H locs cells slots Q (F0 m 1343 ls [])) : W p l e room_1 s m #[Value.ref b] below meth c H locs cells slots Q (F0 m 1173 ls []) := by
  have hdx : lw_ok [(1173, .aload_n 1, 1), (1204, .invokevirtual 157, 3), (1207, .aload_n 2, 1), (1238, .invokevirtual 161, 3), (1241, .if_icmp .eq 102, 3)] = true := by decide +kernel
  obtain ⟨Xo, T, sm, sc, m', n, f, ad, h40, h40r, hok, rfl, rfl, hR, h10, hnm, hn100, hm, hf, hfl, hH⟩ := hI
  obtain ⟨r, sm', sc', e1, e2, hR2⟩ := q_item (fu := 2000) (Rel_cut hR h10 hn100) (xs (i + 1 + 0)) (xs (i + 1 + 1)) (lw_lv xs i)
  obtain ⟨n', hn', hn'1, h10'⟩ := Rel_fed hR2
  have hC := Cx
  obtain ⟨C1, C2, C3⟩ := Cx
  refine lv_aload_n C1.1 C1.2.1 (lw_dc hdx 0 rfl) rfl (lv_at hl 2 rfl) ?_
  refine lw_args hC hl hH.2.2.1 2 0 1174 _ (by omega) (by decide +kernel) ?_
  refine lw_long (pc := 1184) hC hl hi hH.2.2.1 (by decide +kernel) (by decide +kernel) (by decide +kernel) ?_
  refine lx_cV (n := 3) (X := x40 Xo) (i := 0) (ci := 13) (K := RX11) (T := TX11) (N := 8) (As := [.int (xs (i + 1 + 0)), .int (xs (i + 1 + 1)), .long (lw_lv xs i)]) (rest := []) C1 hH hok ⟨(hR.1.1 (0, 13) List.mem_cons_self).1, (hR.1.1 (0, 13) List.mem_cons_self).2⟩ rfl (c_X11_item l D (x40 Xo) 2000 0 _ _ _ sc) e2 (lw_gdV lwlC_item lw_Wcc cc_Wgood) (by decide +kernel) ⟨Nat.le_of_ble_eq_true rfl, Nat.le_of_ble_eq_true rfl⟩ rfl hl.1 rfl (by decide) (lw_dc hdx 1 rfl) hr (fun H locs hH => ?_)
  refine lv_aload_n C1.1 C1.2.1 (lw_dc hdx 2 rfl) rfl (lv_at hl 1 rfl) ?_
  refine lw_args hC hl hH.2.2.1 2 0 1208 _ (by omega) (by decide +kernel) ?_
  refine lw_long (pc := 1218) hC hl hi hH.2.2.1 (by decide +kernel) (by decide +kernel) (by decide +kernel) ?_
  rw [List.append_cons] at hH
  refine lm_cV (n := 3) (o := xr) (ad := ad) (As := [.int (xs (i + 1 + 0)), .int (xs (i + 1 + 1)), .long (lw_lv xs i)]) (rest := [.int r]) C2 hH (c_item l D xr ad cs 2000 _ _ _ sm) e1 (lw_gdV lwlM_item lw_Wmm lw_Gmm) (by decide +kernel) ⟨Nat.le_of_ble_eq_true rfl, Nat.le_of_ble_eq_true rfl⟩ rfl hl.1 rfl (Nat.le_of_ble_eq_true rfl) (lw_dc hdx 3 rfl) hr (fun H locs hH => ?_)
  rw [← List.append_cons] at hH
  refine lv_icmp_eq (tgt := 1343) C1.1 C1.2.1 (lw_dc hdx 4 rfl) (by decide) (fun _ => ?_) (fun h => absurd rfl h)
  refine kk H locs ⟨Xo, _, sm', sc', m', n', f, ad, h40, h40r, hok, rfl, rfl, hR2, h10', by omega, hn'1, hm, hf, fun j hj => ?_, hH⟩
  rw [hfl j (by omega)]
  simp only [if_pos (show j < n by omega)]
theorem lw_rm {mc ms : Nat} (hr : cells + 16 ≤ room_1.cells ∧ slots + 1600 ≤ room_1.slots) (h1 : mc ≤ 16) (h2 : ms ≤ 1600) : cells + mc ≤ room_1.cells ∧ slots + ms ≤ room_1.slots := ⟨by omega, by omega⟩
theorem lk_need (Cx : lw_C p s m meth c b L xs D ct cs z) (hI : lw_I s D ct cs x0 xr H locs) (hl : lv_has ls 4 [(3, .int (nI i)), (2, .ref xr), (1, .ref x0), (0, .ref b)]) (hi : i + 6 ≤ L) (hr : cells + 16 ≤ room_1.cells ∧ slots + 1600 ≤ room_1.slots) (kk : ∀ (H : Heap) (locs : List Loc), lw_I s D ct cs x0 xr H locs → W p l e room_1 s m #[Value.ref b] below meth c H locs (cells + 16) (slots + 1600) Q (F0 m 1343 ls [])) : W p l e room_1 s m #[Value.ref b] below meth c H locs cells slots Q (F0 m 196 ls []) := by
  have hdx : lw_ok [(196, .aload_n 1, 1), (207, .invokevirtual 13, 3)] = true := by decide +kernel
  obtain ⟨Xo, T, sm, sc, m', n, f, ad, h40, h40r, hok, rfl, rfl, hR, h10, hnm, hn100, hm, hf, hfl, hH⟩ := hI
  have hC := Cx
  obtain ⟨C1, C2, C3⟩ := Cx
  have o0 : 0 ∈ cx_o (x40 Xo) ∧ cx_K (x40 Xo) 0 = 13 := ⟨(hR.1.1 (0, 13) List.mem_cons_self).1, (hR.1.1 (0, 13) List.mem_cons_self).2⟩
  have o1 : 1 ∈ cx_o (x40 Xo) ∧ cx_K (x40 Xo) 1 = 9 := ⟨(hR.1.1 (1, 9) (List.mem_cons_of_mem _ List.mem_cons_self)).1, (hR.1.1 (1, 9) (List.mem_cons_of_mem _ List.mem_cons_self)).2⟩
  refine lv_aload_n C1.1 C1.2.1 (lw_dc hdx 0 rfl) rfl (lv_at hl 2 rfl) ?_
  refine lw_args hC hl hH.2.2.1 2 0 197 _ (by omega) (by decide +kernel) ?_
  have hHp := nn_perm List.perm_append_comm hH
  have hcv := lx_rcv (X := x40 Xo) C1 hH o0 (ci := 13) (K := RX11) (T := TX11) (N := 8) rfl
  have sec : ∀ (H : Heap) (locs : List Loc) (r : Int32), lw_J s D (cx_c Xo) cs (cx_a Xo 0) xr (fun st => M_need 2000 (xs (i + 1 + 0)) (xs (i + 1 + 1)) st) r H locs → W p l e room_1 s m #[Value.ref b] below meth c H locs (cells + 1) (slots + 4) Q (F0 m 210 ls [.int r]) := fun H locs r hJ => by
    refine W.widen (k := cells + 16) (n := slots + 1600) (by omega) (by omega) ?_
    exact lw_second (k := 2) (pc := 210) (iM := 17) (off := 1119) hC hJ hl hi (by decide) (by decide +kernel) (by decide +kernel) (by decide) (fun ad st => c_need l D xr ad cs 2000 _ _ st) lwlM_need (by decide +kernel) ⟨Nat.le_of_ble_eq_true rfl, Nat.le_of_ble_eq_true rfl⟩ hr kk
  by_cases hb : inw (xs (i + 1 + 0)) 6 = 0
  · refine ln_cV (n := 2) (As := [.int (xs (i + 1 + 0)), .int (xs (i + 1 + 1))]) (rest := []) (Cl := RX11) C1 hHp hcv (n_needA l D s.heap.size z (x40 Xo) sc hok o0 o1 _ _ hb) (lw_gdV lwlC_need lw_Wcc cc_Wgood) (by decide +kernel) ⟨Nat.le_of_ble_eq_true rfl, Nat.le_of_ble_eq_true rfl⟩ rfl hl.1 rfl (by decide) (lw_dc hdx 1 rfl) (lw_rm hr (by decide) (by decide)) (fun r u H locs hp hH => ?_)
    obtain ⟨rfl, rfl⟩ := hp
    exact sec H locs _ ⟨Xo, T, sm, sm, sc, m', n, f, ad, h40, h40r, hok, rfl, rfl, q_needA hb, hR, h10, hnm, hn100, hm, hf, hfl, nn_perm List.perm_append_comm hH⟩
  by_cases hb2 : inw (xs (i + 1 + 1)) 9 = 0
  · refine ln_cV (n := 2) (As := [.int (xs (i + 1 + 0)), .int (xs (i + 1 + 1))]) (rest := []) (Cl := RX11) C1 hHp hcv (n_needB l D s.heap.size z (x40 Xo) sc hok o0 o1 _ _ hb hb2) (lw_gdV lwlC_need lw_Wcc cc_Wgood) (by decide +kernel) ⟨Nat.le_of_ble_eq_true rfl, Nat.le_of_ble_eq_true rfl⟩ rfl hl.1 rfl (by decide) (lw_dc hdx 1 rfl) (lw_rm hr (by decide) (by decide)) (fun r u H locs hp hH => ?_)
    obtain ⟨rfl, rfl⟩ := hp
    exact sec H locs _ ⟨Xo, T, sm, sm, sc, m', n, f, ad, h40, h40r, hok, rfl, rfl, q_needB hb hb2, hR, h10, hnm, hn100, hm, hf, hfl, nn_perm List.perm_append_comm hH⟩
  obtain ⟨N, hN6, hN⟩ : ∃ N, N ≤ 6 ∧ mm_I sm 0 = nI N := by
    obtain ⟨n', d, yy, c, s, b, ⟨r1, r1'⟩, -⟩ := Rel_R hR
    exact ⟨n', r1, r1'⟩
  have h19 : cc_I sc 1 9 = nI N := (Rel_I hR).1.trans hN
  by_cases h6 : N = 6
  · subst h6
    refine ln_cV (n := 2) (As := [.int (xs (i + 1 + 0)), .int (xs (i + 1 + 1))]) (rest := []) (Cl := RX11) C1 hHp hcv (n_needC l D s.heap.size z (x40 Xo) sc hok o0 o1 _ _ hb hb2 h19) (lw_gdV lwlC_need lw_Wcc cc_Wgood) (by decide +kernel) ⟨Nat.le_of_ble_eq_true rfl, Nat.le_of_ble_eq_true rfl⟩ rfl hl.1 rfl (by decide) (lw_dc hdx 1 rfl) (lw_rm hr (by decide) (by decide)) (fun r u H locs hp hH => ?_)
    obtain ⟨rfl, rfl⟩ := hp
    exact sec H locs _ ⟨Xo, T, sm, sm, sc, m', n, f, ad, h40, h40r, hok, rfl, rfl, q_needC hb hb2 hN, hR, h10, hnm, hn100, hm, hf, hfl, nn_perm List.perm_append_comm hH⟩
  obtain ⟨κ, hκ, ek⟩ : ∃ κ, κ ≤ 6 ∧ xs (i + 1 + 0) = nI κ := by
    rcases inw_c (xs (i + 1 + 0)) (m := 6) (by decide) with h | ⟨-, j, hj, e⟩
    · exact absurd h hb
    · exact ⟨j, hj, e⟩
  obtain ⟨ν, hν, en⟩ : ∃ ν, ν ≤ 9 ∧ xs (i + 1 + 1) = nI ν := by
    rcases inw_c (xs (i + 1 + 1)) (m := 9) (by decide) with h | ⟨-, j, hj, e⟩
    · exact absurd h hb2
    · exact ⟨j, hj, e⟩
  obtain ⟨y, hy⟩ := ex_fr (x40 Xo) sc
  rw [ek] at hb sec
  rw [en] at hb2 sec
  obtain ⟨rr, sm', sc', eM, hj, hR2⟩ := q_needD (fu := 2000) (by decide) (Rel_cut hR h10 hn100) hκ hν hb hb2 hN (by omega) hy
  refine ln_cV (n := 2) (As := [.int (nI κ), .int (nI ν)]) (rest := []) (Cl := RX11) C1 hHp hcv (n_needD l D s.heap.size z (x40 Xo) sc hok o0 o1 κ N y _ hκ hb hb2 h19 (by omega) hy rr sc' hj) (lw_gdV lwlC_need lw_Wcc cc_Wgood) (by decide +kernel) ⟨Nat.le_of_ble_eq_true rfl, Nat.le_of_ble_eq_true rfl⟩ rfl hl.1 ?_ (by decide) (lw_dc hdx 1 rfl) (lw_rm hr (by decide) (by decide)) (fun r u H locs hp hH => ?_)
  · show (lw_as xs i 2 0).reverse ++ [.ref (cx_a Xo 0)] = [.int (nI κ), .int (nI ν)].reverse ++ [.ref (cx_a (x40 Xo) 0)]
    rw [← ek, ← en]
    rfl
  obtain ⟨rfl, q, rfl⟩ := hp
  have h50 := hy.1
  obtain ⟨n', hn', hn'1, h10'⟩ := Rel_fed (hR2 q)
  refine sec H locs _ ⟨nd_X Xo y κ q, _, sm, sm', sc', m', n', f, ad, ?_, ?_, ex_ok hok hy List.nodup_nil, rfl, if_neg (by omega), eM, hR2 q, h10', by omega, hn'1, hm, hf, fun j hj => ?_, ?_⟩
  · intro h
    rcases List.mem_append.mp h with h | h
    · exact h40 h
    · have := List.mem_singleton.mp h
      omega
  · intro r h
    rcases List.mem_append.mp h with h | h
    · exact h40r r h
    · cases h
  · rw [hfl j (by omega)]
    simp only [if_pos (show j < n by omega)]
  · rw [show cx_b (nd_X Xo y κ q) 40 0 = cx_b Xo 40 0 from if_neg (by omega)]
    exact nn_perm List.perm_append_comm hH
end LF
