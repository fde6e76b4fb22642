/-! the law's rows: calls out of the law, whose words are more than the callee's -/
def lw_W : List Cond := Cond.selects RJ4 yJ5_ensureCapacityInternal_d00df yJ5_ensureCapacityInternal_d00df :: Cond.selects RJ4 yJ5_newCapacity_0f7a4 yJ5_newCapacity_0f7a4 :: lw_tbl
theorem lw_Wt {w : Cond} (h : w ∈ lw_tbl) : w ∈ lw_W := List.mem_cons_of_mem _ (List.mem_cons_of_mem _ h)
theorem lw_Wcc : ∀ w ∈ cc_W, w ∈ lw_W := fun w h => lw_Wt (lw_ccW w h)
theorem lw_Wmm : ∀ w ∈ mm_W, w ∈ lw_W := fun w h => lw_Wt (lw_mmW w h)
theorem lw_Wnm : ∀ w ∈ nn_mW, w ∈ lw_W := fun w h => lw_Wt (lw_nmW w h)
theorem lw_Wsb : ∀ w ∈ sb_W, w ∈ lw_W := by
  intro w h
  rcases List.mem_cons.mp h with rfl | h
  · exact List.mem_cons_self
  rcases List.mem_cons.mp h with rfl | h
  · exact List.mem_cons_of_mem _ List.mem_cons_self
  · exact lw_Wcc w h
theorem lw_Gmm : ∀ w ∈ mm_W, goodWord w = true := List.all_eq_true.mp mm_Wgood
theorem lw_selp {args : Array Value} {s : State} {C : String} {x' y' y : MethodName} (hy : y.cls ≠ "java/lang/invoke/MethodHandle" ∧ y.cls ≠ "java/lang/invoke/VarHandle") (ho : (Cond.selects C x' y').before args s = true) (he : y'.cls = y.cls) (hpriv : (Cond.privateMethod y).before args s = true) (hinst : (Cond.instanceMethod y).before args s = true) : (Cond.selects C y y).before args s = true := by
  obtain ⟨c, r, m', hc, -, hm', -, k, hk, hni⟩ := Cond.selects_spec ho
  obtain ⟨mk, methM, hnamed, hmethM, -, -⟩ := Cond.instanceMethod_spec hinst
  have hfound : s.methodFound? y.cls y.name y.desc = some mk := State.methodFound?_of_named hnamed hy
  have hcls : m'.cls = mk.cls := by
    have e1 := findClass_of_methodNamed hm'
    have e2 := findClass_of_methodNamed hnamed
    rw [he] at e1
    exact Option.some.inj (e1.symm.trans e2)
  have hsel : selectMethod {} s.vm c mk = .method mk := selectMethod_private hmethM (Cond.privateMethod_at hpriv mk methM hnamed hmethM)
  rw [hcls] at hk
  simp only [Cond.before, Cond.holds, Cond.value, hc, hfound, hnamed, hsel, hk]
  simp; exact hni
theorem lw_hW {args : Array Value} {s : State} (hts : ∀ w ∈ lw_tbl, w.before args s = true) : ∀ w ∈ lw_W, w.before args s = true := by
  have h0 : (Cond.selects RJ4 yJ5_isLatin1_aae02 yJ5_isLatin1_aae02).before args s = true := lw_tw hts 560 (by decide +kernel)
  intro w h
  rcases List.mem_cons.mp h with rfl | h
  · exact lw_selp (by decide +kernel) h0 rfl (lw_tw hts 527 (by decide +kernel)) (lw_tw hts 528 (by decide +kernel))
  rcases List.mem_cons.mp h with rfl | h
  · exact lw_selp (by decide +kernel) h0 rfl (lw_tw hts 531 (by decide +kernel)) (lw_tw hts 532 (by decide +kernel))
  · exact hts w h
theorem lw_gdV {own C : String} {i n : Nat} {y : MethodName} {b : ByteArray} {rt : Option FieldType} {W1 : List Cond} (h : ∀ w ∈ [Cond.methodLink own i y, Cond.instanceMethod y, Cond.selects C y y, Cond.initialized C, Cond.code y b n rt], w ∈ lw_tbl) (hW : ∀ w ∈ W1, w ∈ lw_W) (hg : ∀ w ∈ W1, goodWord w = true) : GoodIn lw_W (wsV own i C y (Cond.code y b n rt :: W1)) := by
  intro w hw
  simp only [wsV, List.mem_append, List.mem_cons, List.not_mem_nil, or_false] at hw
  rcases hw with (rfl | rfl | rfl | rfl) | (rfl | h1)
  · exact ⟨lw_Wt (h _ (List.mem_of_getElem? (i := 0) rfl)), Or.inl rfl⟩
  · exact ⟨lw_Wt (h _ (List.mem_of_getElem? (i := 1) rfl)), Or.inl rfl⟩
  · exact ⟨lw_Wt (h _ (List.mem_of_getElem? (i := 2) rfl)), Or.inl rfl⟩
  · exact ⟨lw_Wt (h _ (List.mem_of_getElem? (i := 3) rfl)), Or.inl rfl⟩
  · exact ⟨lw_Wt (h _ (List.mem_of_getElem? (i := 4) rfl)), Or.inl rfl⟩
  · exact ⟨hW w h1, good_of_word (hg w h1)⟩
theorem lw_gdI {n : Nat} {y : MethodName} {b : ByteArray} {rt : Option FieldType} {W1 : List Cond} (h : Cond.code y b n rt ∈ lw_tbl) (hW : ∀ w ∈ W1, w ∈ lw_W) (hg : ∀ w ∈ W1, goodWord w = true) : GoodIn lw_W (Cond.code y b n rt :: W1) := by
  intro w hw
  rcases List.mem_cons.mp hw with rfl | h1
  · exact ⟨lw_Wt h, Or.inl rfl⟩
  · exact ⟨hW w h1, good_of_word (hg w h1)⟩
theorem mm_w_ad {o : Nat} {ad : Nat → Nat} {cs : ClassId × ClassId × ClassId} {st st1 : mm_S} : (mm_w o ad cs st1).map (fun q => q.1) = (mm_w o ad cs st).map (fun q => q.1) := rfl
theorem mm_A_ad {o : Nat} {ad : Nat → Nat} {cs : ClassId × ClassId × ClassId} {st : mm_S} {q : Nat} (h : mm_A o ad q) : q ∈ (mm_w o ad cs st).map (fun q => q.1) := by
  rcases h with rfl | ⟨k, hk, rfl⟩
  · exact List.mem_map.mpr ⟨_, List.mem_cons_self, rfl⟩
  · exact List.mem_map.mpr ⟨_, List.mem_cons_of_mem _ (List.mem_map.mpr ⟨k, hk, rfl⟩), rfl⟩
section LW
variable {p : Program} {l : Launch} {e : Env} {R : Room} {s : State} {m : MethodId} {args : Array Value} {below : List Frame} {meth : Method} {c : Code} {H : Heap} {locs : List Loc} {cells slots : Nat} {Q : State → Prop}
variable {cc : ByteArray} {nL : Nat} {ret : Option FieldType} {own nm : String} {Wd W1 : List Cond} {pc : Nat} {ls : Array Slot} {rest : List Value} {D : va_G} {tys : List (ClassId × FieldType)} {B : Nat} {z : pp_Z} {A : Nat → Prop} {ws : va_W}
variable {X : cc_X} {st : cc_S} {o : Nat} {ad : Nat → Nat} {cs : ClassId × ClassId × ClassId} {mst : mm_S}
theorem lm_pc {av : List Value} (C : nn_C p s m args meth c cc nL ret own nm Wd D (mm_tys cs) B z A) (hM : nn_H D A s.heap (ws ++ mm_w o ad cs mst) H locs) (U : State) (hU : U.heap = H) (hW : s.WarmedH U.vm) : va_Pc av (mm_U D o ad cs mst) av.toArray U :=
  ⟨rfl, by rw [hU]; exact (nn_left (nn_perm List.perm_append_comm hM)).1, va_K.moved hW.alike (nn_K C), (nn_left (nn_perm List.perm_append_comm hM)).2.1.weaken (fun _ _ _ _ => trivial)⟩
theorem lm_blind {av : List Value} (a : Array Value) (U : State) (g : JFrame) (mk : MethodId) (q : va_Pc av (mm_U D o ad cs mst) a U) : va_Pc av (mm_U D o ad cs mst) a (U.calling g mk a) :=
  ⟨q.1, q.2.1, va_K.moved (u := U) (U := U.calling g mk a) (Vm.Alike.refl U.vm) q.2.2.1, q.2.2.2⟩
theorem lm_A (hM : nn_H D A s.heap (ws ++ mm_w o ad cs mst) H locs) {q : Nat} (h : mm_A o ad q) : A q := by
  obtain ⟨y, hy, e⟩ := List.mem_map.mp (mm_A_ad (cs := cs) (st := mst) h)
  rw [← e]
  exact (nn_dp.mp hM.2.1).2 y (List.mem_append_right _ hy)
theorem lm_cV {y : MethodName} {index n fr lo maxL : Nat} {bytes : ByteArray} {rt : Option FieldType} {As : List Value} {r : Int32} {st1 : mm_S} {stk : List Value} {x : Option (Int32 × mm_S)} (C : nn_C p s m args meth c cc nL ret own nm Wd D (mm_tys cs) B z A) (hM : nn_H D A s.heap (ws ++ mm_w o ad cs mst) H locs) (hMet : mm_Mi l D o ad cs y bytes maxL rt fr lo As mst x) (hx : x = some (r, st1)) (hg : GoodIn Wd (wsV own index RX12 y (Cond.code y bytes maxL rt :: mm_W))) (hd : y.cls = RX12 ∧ y.cls ≠ "java/lang/invoke/MethodHandle" ∧ y.cls ≠ "java/lang/invoke/VarHandle" ∧ (parseMethodDescriptor y.desc).map (fun d => d.parameters.length) = some n) (hR : fr + 1 ≤ R.frames ∧ 8 + (maxL + 11) + lo ≤ R.locals) (hn : As.length = n) (hsz : ls.size = nL) (hst : stk = As.reverse ++ .ref o :: rest) (hW : (rest.map fun v => v.category).sum ≤ 8) (hdg : decode cc pc = .ok (.invokevirtual index, 3)) (hR2 : cells ≤ R.cells ∧ slots ≤ R.slots)
    (kk : ∀ (H : Heap) (locs : List Loc), nn_H D A s.heap (ws ++ mm_w o ad cs st1) H locs → W p l e R s m args below meth c H locs cells slots Q (F0 m (pc + 3) ls (.int r :: rest))) : W p l e R s m args below meth c H locs cells slots Q (F0 m pc ls (stk)) := by
  refine va_calli (A1 := mm_A o ad) (mc := 0) (ms := 0) (va_runV (As := As) (rest := rest) (nn_fix C) (hMet r st1 hx) (cwV n (fun w hw => nn_w C hw) hg rfl rfl rfl hd hR) ⟨lm_blind, nn_rcv C (nn_perm List.perm_append_comm hM) (ci := 14) (q0 := 0) (K := RX12) (T := TX12) (N := 63) rfl rfl, lm_pc C hM⟩ rfl hn hsz hst (lv_room hW) hdg hR2) hM.2.2.1 (fun q _ h => lm_A hM h) (fun q h => lm_A hM h) (fun r' u t H1 locs1 ht hvm hw hB _ hk hS => ?_)
  obtain ⟨rfl, rfl⟩ := hw
  rw [mm_U, ht] at hB
  exact kk H1 locs1 (nn_keepx (Ax := mm_A o ad) hM mm_w_ad hB.1 hk (fun q h => mm_A_ad h) hS)
theorem lm_cL {y : MethodName} {index n fr lo maxL : Nat} {bytes : ByteArray} {rt : Option FieldType} {As : List Value} {r : Int64} {st1 : mm_S} {stk : List Value} {x : Option (Int64 × mm_S)} (C : nn_C p s m args meth c cc nL ret own nm Wd D (mm_tys cs) B z A) (hM : nn_H D A s.heap (ws ++ mm_w o ad cs mst) H locs) (hMet : mm_Ml l D o ad cs y bytes maxL rt fr lo As mst x) (hx : x = some (r, st1)) (hg : GoodIn Wd (wsV own index RX12 y (Cond.code y bytes maxL rt :: mm_W))) (hd : y.cls = RX12 ∧ y.cls ≠ "java/lang/invoke/MethodHandle" ∧ y.cls ≠ "java/lang/invoke/VarHandle" ∧ (parseMethodDescriptor y.desc).map (fun d => d.parameters.length) = some n) (hR : fr + 1 ≤ R.frames ∧ 8 + (maxL + 11) + lo ≤ R.locals) (hn : As.length = n) (hsz : ls.size = nL) (hst : stk = As.reverse ++ .ref o :: rest) (hW : (rest.map fun v => v.category).sum ≤ 8) (hdg : decode cc pc = .ok (.invokevirtual index, 3)) (hR2 : cells ≤ R.cells ∧ slots ≤ R.slots)
    (kk : ∀ (H : Heap) (locs : List Loc), nn_H D A s.heap (ws ++ mm_w o ad cs st1) H locs → W p l e R s m args below meth c H locs cells slots Q (F0 m (pc + 3) ls (.long r :: rest))) : W p l e R s m args below meth c H locs cells slots Q (F0 m pc ls (stk)) := by
  refine va_calll (A1 := mm_A o ad) (mc := 0) (ms := 0) (va_runV (As := As) (rest := rest) (nn_fix C) (hMet r st1 hx) (cwV n (fun w hw => nn_w C hw) hg rfl rfl rfl hd hR) ⟨lm_blind, nn_rcv C (nn_perm List.perm_append_comm hM) (ci := 14) (q0 := 0) (K := RX12) (T := TX12) (N := 63) rfl rfl, lm_pc C hM⟩ rfl hn hsz hst (lv_room hW) hdg hR2) hM.2.2.1 (fun q _ h => lm_A hM h) (fun q h => lm_A hM h) (fun r' u t H1 locs1 ht hvm hw hB _ hk hS => ?_)
  obtain ⟨rfl, rfl⟩ := hw
  rw [mm_U, ht] at hB
  exact kk H1 locs1 (nn_keepx (Ax := mm_A o ad) hM mm_w_ad hB.1 hk (fun q h => mm_A_ad h) hS)
theorem lx_rcv (C : nn_C p s m args meth c cc nL ret own nm Wd D (nn_ts (cx_c X)) B z A) (hM : nn_H D A s.heap (cc_w X st ++ ws) H locs) {i ci N : Nat} {K : String} {T : u_T} (ho : i ∈ cx_o X ∧ cx_K X i = ci) (hc : vwCl[ci]? = some (K, T, N)) : ∃ cell : Cell, H[cx_a X i]? = some cell ∧ cell.vm.isStatics = false ∧ s.vm.findClass K = some cell.cls := by
  obtain ⟨q, hq, he⟩ := cc_w_o st ho.1
  have hlt := (List.getElem?_eq_some_iff.mp he).1
  rw [ho.2] at he
  exact nn_rcv C hM (ci := ci) (q0 := q) (by rw [List.getElem?_append_left hlt]; exact he) hc
theorem lx_cV {y : MethodName} {ci i index n fr lo maxL N : Nat} {K : String} {T : u_T} {bytes : ByteArray} {rt : Option FieldType} {As : List Value} {r : Int32} {st1 : cc_S} {stk : List Value} {x : Option (Int32 × cc_S)} (C : nn_C p s m args meth c cc nL ret own nm Wd D (nn_ts (cx_c X)) B z A) (hM : nn_H D A s.heap (cc_w X st ++ ws) H locs) (hok : cc_ok X) (ho : i ∈ cx_o X ∧ cx_K X i = ci) (hc : vwCl[ci]? = some (K, T, N)) (hMet : cc_Mi l D X y bytes maxL rt fr lo (.ref (cx_a X i) :: As) st x) (hx : x = some (r, st1)) (hg : GoodIn Wd (wsV own index K y (Cond.code y bytes maxL rt :: cc_W))) (hd : y.cls = K ∧ y.cls ≠ "java/lang/invoke/MethodHandle" ∧ y.cls ≠ "java/lang/invoke/VarHandle" ∧ (parseMethodDescriptor y.desc).map (fun d => d.parameters.length) = some n) (hR : fr + 1 ≤ R.frames ∧ 8 + (maxL + 11) + lo ≤ R.locals) (hn : As.length = n) (hsz : ls.size = nL) (hst : stk = As.reverse ++ .ref (cx_a X i) :: rest) (hW : (rest.map fun v => v.category).sum ≤ 8) (hdg : decode cc pc = .ok (.invokevirtual index, 3)) (hR2 : cells ≤ R.cells ∧ slots ≤ R.slots)
    (kk : ∀ (H : Heap) (locs : List Loc), nn_H D A s.heap (cc_w X st1 ++ ws) H locs → W p l e R s m args below meth c H locs cells slots Q (F0 m (pc + 3) ls (.int r :: rest))) : W p l e R s m args below meth c H locs cells slots Q (F0 m pc ls (stk)) :=
  nx_ai hM (va_runV (As := As) (rest := rest) (nn_fix C) (hMet r st1 hx) (cwV n (fun w hw => nn_w C hw) hg rfl rfl rfl hd hR) ⟨nx_blind, lx_rcv C hM ho hc, nx_pc C hM hok⟩ rfl hn hsz hst (lv_room hW) hdg hR2) kk
theorem lx_cL {y : MethodName} {ci i index n fr lo maxL N : Nat} {K : String} {T : u_T} {bytes : ByteArray} {rt : Option FieldType} {As : List Value} {r : Int64} {st1 : cc_S} {stk : List Value} {x : Option (Int64 × cc_S)} (C : nn_C p s m args meth c cc nL ret own nm Wd D (nn_ts (cx_c X)) B z A) (hM : nn_H D A s.heap (cc_w X st ++ ws) H locs) (hok : cc_ok X) (ho : i ∈ cx_o X ∧ cx_K X i = ci) (hc : vwCl[ci]? = some (K, T, N)) (hMet : cc_Ml l D X y bytes maxL rt fr lo (.ref (cx_a X i) :: As) st x) (hx : x = some (r, st1)) (hg : GoodIn Wd (wsV own index K y (Cond.code y bytes maxL rt :: cc_W))) (hd : y.cls = K ∧ y.cls ≠ "java/lang/invoke/MethodHandle" ∧ y.cls ≠ "java/lang/invoke/VarHandle" ∧ (parseMethodDescriptor y.desc).map (fun d => d.parameters.length) = some n) (hR : fr + 1 ≤ R.frames ∧ 8 + (maxL + 11) + lo ≤ R.locals) (hn : As.length = n) (hsz : ls.size = nL) (hst : stk = As.reverse ++ .ref (cx_a X i) :: rest) (hW : (rest.map fun v => v.category).sum ≤ 8) (hdg : decode cc pc = .ok (.invokevirtual index, 3)) (hR2 : cells ≤ R.cells ∧ slots ≤ R.slots)
    (kk : ∀ (H : Heap) (locs : List Loc), nn_H D A s.heap (cc_w X st1 ++ ws) H locs → W p l e R s m args below meth c H locs cells slots Q (F0 m (pc + 3) ls (.long r :: rest))) : W p l e R s m args below meth c H locs cells slots Q (F0 m pc ls (stk)) := by
  refine va_calll (A1 := cc_A X) (mc := 0) (ms := 0) (va_runV (As := As) (rest := rest) (nn_fix C) (hMet r st1 hx) (cwV n (fun w hw => nn_w C hw) hg rfl rfl rfl hd hR) ⟨nx_blind, lx_rcv C hM ho hc, nx_pc C hM hok⟩ rfl hn hsz hst (lv_room hW) hdg hR2) hM.2.2.1 (fun q _ h => nx_A hM h) (fun q h => nx_A hM h) (fun r' u t H1 locs1 ht hvm hw hB _ hk hS => ?_)
  obtain ⟨rfl, rfl⟩ := hw
  rw [cc_U, ht] at hB
  exact kk H1 locs1 (nn_perm List.perm_append_comm (nn_keepx (Ax := cc_A X) (nn_perm List.perm_append_comm hM) (cc_w_ad X st u) hB.1 hk (fun q h => cc_A_ad h) hS))
theorem ln_cV {y : MethodName} {Cl : String} {wc : va_W} {index n fr lo maxL mc ms q : Nat} {bytes : ByteArray} {rt : Option FieldType} {As stk : List Value} {post : Option Value → va_W → Prop} (C : nn_C p s m args meth c cc nL ret own nm Wd D tys B z A) (hM : nn_H D A s.heap (ws ++ wc) H locs) (hcv : ∃ cell : Cell, H[q]? = some cell ∧ cell.vm.isStatics = false ∧ s.vm.findClass Cl = some cell.cls) (hMet : nn_M l D W1 tys B z y bytes maxL rt fr lo mc ms (.ref q :: As) wc post) (hg : GoodIn Wd (wsV own index Cl y (Cond.code y bytes maxL rt :: W1))) (hd : y.cls = Cl ∧ y.cls ≠ "java/lang/invoke/MethodHandle" ∧ y.cls ≠ "java/lang/invoke/VarHandle" ∧ (parseMethodDescriptor y.desc).map (fun d => d.parameters.length) = some n) (hR : fr + 1 ≤ R.frames ∧ 8 + (maxL + 11) + lo ≤ R.locals) (hn : As.length = n) (hsz : ls.size = nL) (hst : stk = As.reverse ++ .ref q :: rest) (hW : (rest.map fun v => v.category).sum ≤ 8) (hdg : decode cc pc = .ok (.invokevirtual index, 3)) (hf : cells + mc ≤ R.cells ∧ slots + ms ≤ R.slots)
    (kk : ∀ (r : Option Value) (u : va_W) (H : Heap) (locs : List Loc), post r u → nn_H D A s.heap (ws ++ u) H locs → W p l e R s m args below meth c H locs (cells + mc) (slots + ms) Q (F0 m (pc + 3) ls (r.toList ++ rest))) : W p l e R s m args below meth c H locs cells slots Q (F0 m pc ls (stk)) :=
  nn_aft C hM (va_runV (As := As) (rest := rest) (nn_fix C) (hMet H.size) (cwV n (fun w hw => nn_w C hw) hg rfl rfl rfl hd hR) ⟨nn_blind, hcv, nn_pc C hM⟩ rfl hn hsz hst (lv_room hW) hdg hf) kk
theorem ln_cI {y : MethodName} {wc : va_W} {index n fr lo maxL mc ms q : Nat} {bytes : ByteArray} {As stk : List Value} {post : Option Value → va_W → Prop} (C : nn_C p s m args meth c cc nL ret own nm Wd D tys B z A) (hM : nn_H D A s.heap (ws ++ wc) H locs) (hMet : nn_M l D W1 tys B z y bytes maxL none fr lo mc ms (.ref q :: As) wc post) (hg : GoodIn Wd (Cond.code y bytes maxL none :: W1)) (h1 : Cond.initialized y.cls ∈ Wd) (h2 : Cond.methodLink own index y ∈ Wd) (h3 : Cond.instanceMethod y ∈ Wd) (hy : y.name = "<init>") (hd : y.cls ≠ "java/lang/invoke/MethodHandle" ∧ y.cls ≠ "java/lang/invoke/VarHandle" ∧ (parseMethodDescriptor y.desc).map (fun d => d.parameters.length) = some n) (hR : fr + 1 ≤ R.frames ∧ 8 + (maxL + 11) + lo ≤ R.locals) (hn : As.length = n) (hsz : ls.size = nL) (hst : stk = As.reverse ++ .ref q :: rest) (hW : (rest.map fun v => v.category).sum ≤ 8) (hdg : decode cc pc = .ok (.invokespecial index, 3)) (hf : cells + mc ≤ R.cells ∧ slots + ms ≤ R.slots)
    (kk : ∀ (r : Option Value) (u : va_W) (H : Heap) (locs : List Loc), post r u → nn_H D A s.heap (ws ++ u) H locs → W p l e R s m args below meth c H locs (cells + mc) (slots + ms) Q (F0 m (pc + 3) ls (r.toList ++ rest))) : W p l e R s m args below meth c H locs cells slots Q (F0 m pc ls (stk)) :=
  nn_aft C hM (va_runI (As := As) (rest := rest) (nn_fix C) (hMet H.size) (cwI n (fun w hw => nn_w C hw) hg rfl rfl rfl (nn_w C h1) (nn_w C h2) (nn_w C h3) hy hd hR) ⟨nn_blind, nn_pc C hM⟩ rfl hn hsz hst (lv_room hW) hdg hf) kk
end LW
