/-! a round of the law: both are asked, and both answer alike -/
def x40 (X : cc_X) : cc_X := (40 :: cx_o X, X.2)
def lw_z (z : pp_Z) : Prop := ∀ i, 1 ≤ i → i ≤ 5 → (z i).2.2.1 = (zl i).length ∧ ∀ j, j < (zl i).length → (z i).2.2.2 j = (zl i).getD j 0
def lw_N (p : Program) (s : State) (m : MethodId) (meth : Method) (c : Code) (b : Nat) (D : va_G) (tys : List (ClassId × FieldType)) (z : pp_Z) : Prop := nn_C p s m #[Value.ref b] meth c code 4 ret R_law meth.name lw_W D tys s.heap.size z (fun q => s.heap.size ≤ q)
def lw_C (p : Program) (s : State) (m : MethodId) (meth : Method) (c : Code) (b L : Nat) (xs : Nat → Int32) (D : va_G) (ct : Nat → ClassId) (cs : ClassId × ClassId × ClassId) (z : pp_Z) : Prop := lw_N p s m meth c b D (nn_ts ct) z ∧ lw_N p s m meth c b D (mm_tys cs) z ∧ va_X b L xs s s.heap ∧ b < s.heap.size ∧ L ≤ 3072 ∧ lw_z z
def lw_I (s : State) (D : va_G) (ct : Nat → ClassId) (cs : ClassId × ClassId × ClassId) (x0 xr : Nat) (H : Heap) (locs : List Loc) : Prop := ∃ (Xo : cc_X) (T : Nat → Nat) (sm : mm_S) (sc : cc_S) (m n : Nat) (f : Nat → Int32) (ad : Nat → Nat), 40 ∉ cx_o Xo ∧ (∀ r ∈ cx_r Xo, r.1 ≠ 40) ∧ cc_ok (x40 Xo) ∧ cx_c Xo = ct ∧ cx_a Xo 0 = x0 ∧ Rel (x40 Xo) T sm sc ∧ mm_I sm 10 = nI n ∧ n ≤ m ∧ n ≤ 100 ∧ m ≤ 202 ∧ sb_Fit f ∧ (∀ j, j < n → f j = sb_b (T j)) ∧ nn_H D (fun q => s.heap.size ≤ q) s.heap (cc_w (x40 Xo) sc ++ (nn_by ct (cx_b Xo 40 0) m f :: mm_w xr ad cs sm)) H locs
theorem Rel_cut {X : cc_X} {T : Nat → Nat} {sm : mm_S} {sc : cc_S} {n : Nat} (h : Rel X T sm sc) (h10 : mm_I sm 10 = nI n) (hn : n ≤ 100) : Rel X (fun k => if k < n then T k else 200) sm sc := by
  obtain ⟨hX, A', h1, h2, ⟨a, ⟨f, hf, b1, b2, b4⟩, c⟩, h4⟩ := h
  obtain rfl : f = n := (nI_eq_iff (by omega) (by omega)).mp (b1.symm.trans h10)
  refine ⟨hX, A', h1, h2, ⟨a, ⟨f, hf, b1, b2, fun k hk => ?_⟩, c⟩, h4⟩
  show mm_G sm 13 k = nI (if k < f then T k else 200) ∧ (if k < f then T k else 200) < 128
  simp only [if_pos hk]
  exact b4 k hk
theorem Rel_fed {X : cc_X} {T : Nat → Nat} {sm : mm_S} {sc : cc_S} {n : Nat} (h : Rel X (fun k => if k < n then T k else 200) sm sc) : ∃ f, f ≤ n ∧ f ≤ 100 ∧ mm_I sm 10 = nI f := by
  obtain ⟨hX, A', h1, h2, ⟨a, ⟨f, hf, b1, b2, b4⟩, c⟩, h4⟩ := h
  refine ⟨f, ?_, hf, b1⟩
  rcases Nat.lt_or_ge n f with h | h
  · have := (b4 n h).2
    simp only [if_neg (Nat.lt_irrefl n)] at this
    omega
  · exact h
def lw_as (xs : Nat → Int32) (i : Nat) : Nat → Nat → List Value
  | 0, _ => []
  | k + 1, j => .int (xs (i + 1 + j)) :: lw_as xs i k (j + 1)
def lw_ab : Nat → Nat → Nat → List (Nat × (Instr × Nat))
  | 0, _, _ => []
  | k + 1, j, pc => (pc, .aload_n 0, 1) :: (pc + 1, .iload_n 3, 1) :: (pc + 2, .iconst ((j + 1 : Nat) : Int), 1) :: (pc + 3, .iadd, 1) :: (pc + 4, .iaload, 1) :: lw_ab k (j + 1) (pc + 5)
def lw_ok (l : List (Nat × (Instr × Nat))) : Bool := l.all (fun q => decide (decode code q.1 = .ok q.2))
theorem lw_dc {l : List (Nat × (Instr × Nat))} (h : lw_ok l = true) (i : Nat) {pc n : Nat} {ins : Instr} (hi : l[i]? = some (pc, ins, n)) : decode code pc = .ok (ins, n) := of_decide_eq_true (List.all_eq_true.mp h (pc, ins, n) (List.mem_of_getElem? hi))
theorem lw_oka {l1 l2 : List (Nat × (Instr × Nat))} (h : lw_ok (l1 ++ l2) = true) : lw_ok l1 = true ∧ lw_ok l2 = true := by
  unfold lw_ok at h ⊢
  rw [List.all_append, Bool.and_eq_true] at h
  exact h
section LC
variable {p : Program} {l : Launch} {e : Env} {s : State} {m : MethodId} {below : List Frame} {meth : Method} {c : Code} {H : Heap} {locs : List Loc} {cells slots : Nat} {Q : State → Prop} {ls : Array Slot} {D : va_G} {ct : Nat → ClassId} {cs : ClassId × ClassId × ClassId} {z : pp_Z} {b L x0 xr i : Nat} {xs : Nat → Int32}
theorem lw_args (Cx : lw_C p s m meth c b L xs D ct cs z) (hl : lv_has ls 4 [(3, .int (nI i)), (2, .ref xr), (1, .ref x0), (0, .ref b)]) (hS : va_S (fun q => s.heap.size ≤ q) s.heap H locs) : ∀ (k j pc : Nat) (rest : List Value), i + 1 + j + k ≤ L → lw_ok (lw_ab k j pc) = true → W p l e room_1 s m #[Value.ref b] below meth c H locs cells slots Q (F0 m (pc + 5 * k) ls ((lw_as xs i k j).reverse ++ rest)) → W p l e room_1 s m #[Value.ref b] below meth c H locs cells slots Q (F0 m pc ls rest) := by
  intro k
  obtain ⟨C, -, hX, hb, hL, -⟩ := Cx
  induction k with
  | zero =>
    intro j pc rest _ _ kk
    have e : (lw_as xs i 0 j).reverse ++ rest = rest := rfl
    rw [e, Nat.mul_zero, Nat.add_zero] at kk
    exact kk
  | succ k ih =>
    intro j pc rest hi hd kk
    refine lv_aload_n C.1 C.2.1 (lw_dc hd 0 rfl) rfl (lv_at hl 3 rfl) ?_
    refine lv_iload_n C.1 C.2.1 (lw_dc hd 1 rfl) rfl (lv_at hl 0 rfl) ?_
    refine lv_iconst (v := nI (j + 1)) C.1 C.2.1 (lw_dc hd 2 rfl) (by first | exact Int32.ofInt_eq_ofNat | exact Int32.ofInt_natCast _ | rfl) ?_
    refine lv_iadd C.1 C.2.1 (lw_dc hd 3 rfl) ?_
    have e1 : nI i + nI (j + 1) = nI (i + 1 + j) := by rw [nI_add, show i + (j + 1) = i + 1 + j by omega]
    rw [e1]
    refine va_sld C.1 C.2.1 hX hb (fun h => by omega) hS (fc_of_ix (nI_ix (by omega) (by omega))) (lw_dc hd 4 rfl) ?_
    rw [nI_clamp (by omega)]
    refine ih (j + 1) (pc + 5) _ (by omega) (lw_oka (l1 := [_, _, _, _, _]) hd).2 ?_
    rw [show pc + 5 + 5 * k = pc + 5 * (k + 1) by omega]
    have e2 : (lw_as xs i k (j + 1)).reverse ++ (.int (xs (i + 1 + j)) :: rest) = (lw_as xs i (k + 1) j).reverse ++ rest := by simp [lw_as]
    rw [e2]
    exact kk
theorem lw_cmp (r : Int64) : lg_cmp r r = 0 := by
  unfold lg_cmp
  simp
theorem lw_caseI {k pc iC iM : Nat} {off : Int} {yC yM : MethodName} {bC bM : ByteArray} {nC nM frC frM loC loM : Nat} {fC : cc_X → cc_S → Option (Int32 × cc_S)} {fM : mm_S → Option (Int32 × mm_S)} (Cx : lw_C p s m meth c b L xs D ct cs z) (hI : lw_I s D ct cs x0 xr H locs) (hl : lv_has ls 4 [(3, .int (nI i)), (2, .ref xr), (1, .ref x0), (0, .ref b)]) (hi : i + 6 ≤ L) (hk : k ≤ 5) (hd : lw_ok (lw_ab k 0 (pc + 1)) = true) (hd' : lw_ok (lw_ab k 0 (pc + 1 + 5 * k + 3 + 1)) = true) (hdx : lw_ok [(pc, .aload_n 1, 1), (pc + 1 + 5 * k, .invokevirtual iC, 3), (pc + 1 + 5 * k + 3, .aload_n 2, 1), (pc + 1 + 5 * k + 3 + 1 + 5 * k, .invokevirtual iM, 3), (pc + 1 + 5 * k + 3 + 1 + 5 * k + 3, .if_icmp .eq off, 3)] = true) (ht : ((pc + 1 + 5 * k + 3 + 1 + 5 * k + 3 : Nat) : Int) + off = ((1343 : Nat) : Int)) (hC : ∀ (X : cc_X) (st : cc_S), cc_Mi l D X yC bC nC (some .int) frC loC (.ref (cx_a X 0) :: lw_as xs i k 0) st (fC X st)) (hM : ∀ (ad : Nat → Nat) (st : mm_S), mm_Mi l D xr ad cs yM bM nM (some .int) frM loM (lw_as xs i k 0) st (fM st)) (hE : ∀ (X : cc_X) (T : Nat → Nat) (sm : mm_S) (sc : cc_S), Rel X T sm sc → Eq2 X T (fM sm) (fC X sc)) (gC : ∀ w ∈ [Cond.methodLink R_law iC yC, Cond.instanceMethod yC, Cond.selects RX11 yC yC, Cond.initialized RX11, Cond.code yC bC nC (some .int)], w ∈ lw_tbl) (gM : ∀ w ∈ [Cond.methodLink R_law iM yM, Cond.instanceMethod yM, Cond.selects RX12 yM yM, Cond.initialized RX12, Cond.code yM bM nM (some .int)], w ∈ lw_tbl) (dC : yC.cls = RX11 ∧ yC.cls ≠ "java/lang/invoke/MethodHandle" ∧ yC.cls ≠ "java/lang/invoke/VarHandle" ∧ (parseMethodDescriptor yC.desc).map (fun d => d.parameters.length) = some k) (dM : yM.cls = RX12 ∧ yM.cls ≠ "java/lang/invoke/MethodHandle" ∧ yM.cls ≠ "java/lang/invoke/VarHandle" ∧ (parseMethodDescriptor yM.desc).map (fun d => d.parameters.length) = some k) (rC : frC + 1 ≤ room_1.frames ∧ 8 + (nC + 11) + loC ≤ room_1.locals) (rM : frM + 1 ≤ room_1.frames ∧ 8 + (nM + 11) + loM ≤ room_1.locals) (hr : cells ≤ room_1.cells ∧ slots ≤ room_1.slots)
    (kk : ∀ (H : Heap) (locs : List Loc), lw_I s D ct cs x0 xr H locs → W p l e room_1 s m #[Value.ref b] below meth c H locs cells slots Q (F0 m 1343 ls [])) : W p l e room_1 s m #[Value.ref b] below meth c H locs cells slots Q (F0 m pc ls []) := by
  have hlen : ∀ k j, (lw_as xs i k j).length = k := by
    intro k
    induction k with
    | zero => exact fun _ => rfl
    | succ k ih => exact fun j => congrArg (· + 1) (ih (j + 1))
  obtain ⟨Xo, T, sm, sc, m', n, f, ad, h40, h40r, hok, rfl, rfl, hR, h10, hnm, hn100, hm, hf, hfl, hH⟩ := hI
  obtain ⟨r, sm', sc', e1, e2, hR2⟩ := hE _ _ _ _ (Rel_cut hR h10 hn100)
  obtain ⟨n', hn', hn'1, h10'⟩ := Rel_fed hR2
  obtain ⟨C1, C2, C3⟩ := Cx
  refine lv_aload_n C1.1 C1.2.1 (lw_dc hdx 0 rfl) rfl (lv_at hl 2 rfl) ?_
  refine lw_args ⟨C1, C2, C3⟩ hl hH.2.2.1 k 0 (pc + 1) _ (by omega) hd ?_
  refine lx_cV (X := x40 Xo) (i := 0) (ci := 13) (K := RX11) (T := TX11) (N := 8) (As := lw_as xs i k 0) (rest := []) C1 hH hok ⟨(hR.1.1 (0, 13) List.mem_cons_self).1, (hR.1.1 (0, 13) List.mem_cons_self).2⟩ rfl (hC (x40 Xo) sc) e2 (lw_gdV gC lw_Wcc cc_Wgood) dC rC (hlen k 0) hl.1 rfl (by decide) (lw_dc hdx 1 rfl) hr (fun H locs hH => ?_)
  refine lv_aload_n C1.1 C1.2.1 (lw_dc hdx 2 rfl) rfl (lv_at hl 1 rfl) ?_
  refine lw_args ⟨C1, C2, C3⟩ hl hH.2.2.1 k 0 (pc + 1 + 5 * k + 3 + 1) _ (by omega) hd' ?_
  rw [List.append_cons] at hH
  refine lm_cV (o := xr) (ad := ad) (As := lw_as xs i k 0) (rest := [.int r]) C2 hH (hM ad sm) e1 (lw_gdV gM lw_Wmm lw_Gmm) dM rM (hlen k 0) hl.1 rfl (Nat.le_of_ble_eq_true rfl) (lw_dc hdx 3 rfl) hr (fun H locs hH => ?_)
  rw [← List.append_cons] at hH
  refine lv_icmp_eq (tgt := 1343) C1.1 C1.2.1 (lw_dc hdx 4 rfl) ht (fun _ => ?_) (fun h => absurd rfl h)
  refine (kk H locs ⟨Xo, _, sm', sc', m', n', f, ad, h40, h40r, hok, rfl, rfl, hR2, h10', by omega, hn'1, hm, hf, fun j hj => ?_, hH⟩)
  rw [hfl j (by omega)]
  simp only [if_pos (show j < n by omega)]
theorem lw_caseL {k pc iC iM : Nat} {off : Int} {yC yM : MethodName} {bC bM : ByteArray} {nC nM frC frM loC loM : Nat} {fC : cc_X → cc_S → Option (Int64 × cc_S)} {fM : mm_S → Option (Int64 × mm_S)} (Cx : lw_C p s m meth c b L xs D ct cs z) (hI : lw_I s D ct cs x0 xr H locs) (hl : lv_has ls 4 [(3, .int (nI i)), (2, .ref xr), (1, .ref x0), (0, .ref b)]) (hi : i + 6 ≤ L) (hk : k ≤ 5) (hd : lw_ok (lw_ab k 0 (pc + 1)) = true) (hd' : lw_ok (lw_ab k 0 (pc + 1 + 5 * k + 3 + 1)) = true) (hdx : lw_ok [(pc, .aload_n 1, 1), (pc + 1 + 5 * k, .invokevirtual iC, 3), (pc + 1 + 5 * k + 3, .aload_n 2, 1), (pc + 1 + 5 * k + 3 + 1 + 5 * k, .invokevirtual iM, 3), (pc + 1 + 5 * k + 3 + 1 + 5 * k + 3, .lcmp, 1), (pc + 1 + 5 * k + 3 + 1 + 5 * k + 3 + 1, .ifCond .eq off, 3)] = true) (ht : ((pc + 1 + 5 * k + 3 + 1 + 5 * k + 3 + 1 : Nat) : Int) + off = ((1343 : Nat) : Int)) (hC : ∀ (X : cc_X) (st : cc_S), cc_Ml l D X yC bC nC (some .long) frC loC (.ref (cx_a X 0) :: lw_as xs i k 0) st (fC X st)) (hM : ∀ (ad : Nat → Nat) (st : mm_S), mm_Ml l D xr ad cs yM bM nM (some .long) frM loM (lw_as xs i k 0) st (fM st)) (hE : ∀ (X : cc_X) (T : Nat → Nat) (sm : mm_S) (sc : cc_S), Rel X T sm sc → Eq2 X T (fM sm) (fC X sc)) (gC : ∀ w ∈ [Cond.methodLink R_law iC yC, Cond.instanceMethod yC, Cond.selects RX11 yC yC, Cond.initialized RX11, Cond.code yC bC nC (some .long)], w ∈ lw_tbl) (gM : ∀ w ∈ [Cond.methodLink R_law iM yM, Cond.instanceMethod yM, Cond.selects RX12 yM yM, Cond.initialized RX12, Cond.code yM bM nM (some .long)], w ∈ lw_tbl) (dC : yC.cls = RX11 ∧ yC.cls ≠ "java/lang/invoke/MethodHandle" ∧ yC.cls ≠ "java/lang/invoke/VarHandle" ∧ (parseMethodDescriptor yC.desc).map (fun d => d.parameters.length) = some k) (dM : yM.cls = RX12 ∧ yM.cls ≠ "java/lang/invoke/MethodHandle" ∧ yM.cls ≠ "java/lang/invoke/VarHandle" ∧ (parseMethodDescriptor yM.desc).map (fun d => d.parameters.length) = some k) (rC : frC + 1 ≤ room_1.frames ∧ 8 + (nC + 11) + loC ≤ room_1.locals) (rM : frM + 1 ≤ room_1.frames ∧ 8 + (nM + 11) + loM ≤ room_1.locals) (hr : cells ≤ room_1.cells ∧ slots ≤ room_1.slots)
    (kk : ∀ (H : Heap) (locs : List Loc), lw_I s D ct cs x0 xr H locs → W p l e room_1 s m #[Value.ref b] below meth c H locs cells slots Q (F0 m 1343 ls [])) : W p l e room_1 s m #[Value.ref b] below meth c H locs cells slots Q (F0 m pc ls []) := by
  have hlen : ∀ k j, (lw_as xs i k j).length = k := by
    intro k
    induction k with
    | zero => exact fun _ => rfl
    | succ k ih => exact fun j => congrArg (· + 1) (ih (j + 1))
  obtain ⟨Xo, T, sm, sc, m', n, f, ad, h40, h40r, hok, rfl, rfl, hR, h10, hnm, hn100, hm, hf, hfl, hH⟩ := hI
  obtain ⟨r, sm', sc', e1, e2, hR2⟩ := hE _ _ _ _ (Rel_cut hR h10 hn100)
  obtain ⟨n', hn', hn'1, h10'⟩ := Rel_fed hR2
  obtain ⟨C1, C2, C3⟩ := Cx
  refine lv_aload_n C1.1 C1.2.1 (lw_dc hdx 0 rfl) rfl (lv_at hl 2 rfl) ?_
  refine lw_args ⟨C1, C2, C3⟩ hl hH.2.2.1 k 0 (pc + 1) _ (by omega) hd ?_
  refine lx_cL (X := x40 Xo) (i := 0) (ci := 13) (K := RX11) (T := TX11) (N := 8) (As := lw_as xs i k 0) (rest := []) C1 hH hok ⟨(hR.1.1 (0, 13) List.mem_cons_self).1, (hR.1.1 (0, 13) List.mem_cons_self).2⟩ rfl (hC (x40 Xo) sc) e2 (lw_gdV gC lw_Wcc cc_Wgood) dC rC (hlen k 0) hl.1 rfl (by decide) (lw_dc hdx 1 rfl) hr (fun H locs hH => ?_)
  refine lv_aload_n C1.1 C1.2.1 (lw_dc hdx 2 rfl) rfl (lv_at hl 1 rfl) ?_
  refine lw_args ⟨C1, C2, C3⟩ hl hH.2.2.1 k 0 (pc + 1 + 5 * k + 3 + 1) _ (by omega) hd' ?_
  rw [List.append_cons] at hH
  refine lm_cL (o := xr) (ad := ad) (As := lw_as xs i k 0) (rest := [.long r]) C2 hH (hM ad sm) e1 (lw_gdV gM lw_Wmm lw_Gmm) dM rM (hlen k 0) hl.1 rfl (Nat.le_of_ble_eq_true rfl) (lw_dc hdx 3 rfl) hr (fun H locs hH => ?_)
  rw [← List.append_cons] at hH
  refine W.lcmp C1.1 C1.2.1 (lw_dc hdx 4 rfl) ?_
  refine lv_if_eq (tgt := 1343) C1.1 C1.2.1 (lw_dc hdx 5 rfl) ht (fun _ => ?_) (fun h => absurd (lw_cmp r) h)
  refine (kk H locs ⟨Xo, _, sm', sc', m', n', f, ad, h40, h40r, hok, rfl, rfl, hR2, h10', by omega, hn'1, hm, hf, fun j hj => ?_, hH⟩)
  rw [hfl j (by omega)]
  simp only [if_pos (show j < n by omega)]
end LC
