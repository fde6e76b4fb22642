/-! the class's world with cells beside it -/
theorem nn_sw {α : Type} {A S T : List α} : (A ++ S ++ T).Perm (A ++ T ++ S) := by
  rw [List.append_assoc, List.append_assoc]
  exact List.perm_append_comm.append_left A
theorem nn_sw2 {α : Type} {A O S Z : List α} : ((A ++ O) ++ (S ++ Z)).Perm ((A ++ S) ++ (O ++ Z)) := by
  rw [List.append_assoc, List.append_assoc, ← List.append_assoc O, ← List.append_assoc S]
  exact (List.perm_append_comm.append_right Z).append_left A
theorem nn_sw3 {α : Type} {A U Z S : List α} : ((A ++ (U ++ Z)) ++ S).Perm (((A ++ Z) ++ S) ++ U) := by
  rw [List.append_assoc, List.append_assoc A Z S, List.append_assoc, List.append_assoc]
  exact (List.perm_append_comm (l₁ := U) (l₂ := Z ++ S)).append_left A
theorem nn_keepx {D : va_G} {A Ax : Nat → Prop} {H0 H H1 : Heap} {ws wc wc1 : va_W} {locs locs1 : List Loc} (hM : nn_H D A H0 (ws ++ wc) H locs) (he : wc1.map (fun q => q.1) = wc.map (fun q => q.1)) (hP1 : va_P D vwCl wc1 H1) (hk : ∀ q : Nat, q < H.size → ¬ Ax q → H1[q]? = H[q]?) (hAx : ∀ q, Ax q → q ∈ wc.map (fun q => q.1)) (hS : va_S A H0 H1 locs1) : nn_H D A H0 (ws ++ wc1) H1 locs1 := by
  obtain ⟨hn, hA⟩ := nn_dp.mp hM.2.1
  have hn1 := hn
  rw [List.map_append] at hn1
  refine ⟨nn_pp.mpr fun q hq => ?_, nn_dp.mpr ⟨by rw [List.map_append, he]; exact hn1, fun q hq => ?_⟩, hS, hM.2.2.2⟩
  · rcases List.mem_append.mp hq with h | h
    · obtain ⟨k, hk1⟩ := List.getElem?_of_mem (List.mem_append_left wc h)
      have hlt := (hM.1 k q hk1).lt
      have hP := (hM.1.sub (ws' := [q]) [k] (by rw [List.filterMap_cons, hk1]; rfl)).kept (H1 := H1) (fun j x hx => by
        obtain rfl : q = x := by
          cases j with
          | zero => exact Option.some.inj hx
          | succ j => cases hx
        refine hk q.1 hlt (fun e => ?_)
        obtain ⟨y, hy, e2⟩ := List.mem_map.mp (hAx q.1 e)
        exact (List.nodup_append.mp hn1).2.2 q.1 (List.mem_map.mpr ⟨q, h, rfl⟩) q.1 (List.mem_map.mpr ⟨y, hy, e2⟩) rfl)
      exact hP 0 q rfl
    · exact nn_pp.mp hP1 q h
  · rcases List.mem_append.mp hq with h | h
    · exact hA q (List.mem_append_left _ h)
    · have h1 : q.1 ∈ wc.map (fun q => q.1) := by
        rw [← he]
        exact List.mem_map.mpr ⟨q, h, rfl⟩
      obtain ⟨y, hy, e2⟩ := List.mem_map.mp h1
      rw [← e2]
      exact hA y (List.mem_append_right _ hy)
theorem cc_w_ad (X : cc_X) (st st1 : cc_S) : (cc_w X st1).map (fun q => q.1) = (cc_w X st).map (fun q => q.1) := by
  unfold cc_w
  simp only [List.map_append, List.map_map]
  rfl
theorem cc_A_ad {X : cc_X} {st : cc_S} {q : Nat} (h : cc_A X q) : q ∈ (cc_w X st).map (fun q => q.1) := by
  unfold cc_w
  rcases h with ⟨i, hi, rfl⟩ | ⟨r, hr, rfl⟩
  · exact List.mem_map.mpr ⟨_, List.mem_append_left _ (List.mem_map.mpr ⟨i, hi, rfl⟩), rfl⟩
  · exact List.mem_map.mpr ⟨_, List.mem_append_right _ (List.mem_map.mpr ⟨r, hr, rfl⟩), rfl⟩
section XW
variable {p : Program} {l : Launch} {e : Env} {R : Room} {s : State} {m : MethodId} {args : Array Value} {below : List Frame} {meth : Method} {c : Code} {H : Heap} {locs : List Loc} {cells slots : Nat} {Q : State → Prop}
variable {cc : ByteArray} {nL : Nat} {ret : Option FieldType} {own nm : String} {Wd : List Cond} {pc : Nat} {ls : Array Slot} {rest : List Value} {D : va_G} {tys : List (ClassId × FieldType)} {B : Nat} {z : pp_Z} {A : Nat → Prop} {ws ar : va_W} {o ci N : Nat} {F : Nat → Value}
variable {X : cc_X} {st : cc_S}
theorem nx_A (hM : nn_H D A s.heap (cc_w X st ++ ws) H locs) {q : Nat} (h : cc_A X q) : A q := by
  obtain ⟨y, hy, e⟩ := List.mem_map.mp (cc_A_ad (st := st) h)
  rw [← e]
  exact (nn_dp.mp hM.2.1).2 y (List.mem_append_left _ hy)
theorem nx_get (C : nn_C p s m args meth c cc nL ret own nm Wd D (nn_ts (cx_c X)) B z A) (hM : nn_H D A s.heap (cc_w X st ++ ws) H locs) {i ci N k index : Nat} {K ref : String} {T : u_T} {v : Value} (ho : i ∈ cx_o X ∧ cx_K X i = ci) (hc : vwCl[ci]? = some (K, T, N)) (hin : ∀ w ∈ u_ws K T N, w ∈ Wd) (hN : cc_nf ci = N) (hk : k < N) (hl : Cond.fieldLink own index ref (T k).2.1 (T k).2.2.1 ∈ Wd) (hr : (T k).1 = ref) (hv : ∀ X' : cc_X, cx_K X' i = ci → cx_a X' = cx_a X → cx_b X' = cx_b X → cc_val X' st i k = v) (hdg : decode cc pc = .ok (.getfield index, 3))
    (kk : W p l e R s m args below meth c H locs cells slots Q (F0 m (pc + 3) ls (v :: rest))) : W p l e R s m args below meth c H locs cells slots Q (F0 m pc ls (.ref (cx_a X i) :: rest)) := by
  obtain ⟨q, hq, he⟩ := cc_w_o st ho.1
  have hlt := (List.getElem?_eq_some_iff.mp he).1
  rw [ho.2] at he
  refine nn_get C hM q (ci := ci) (fs := cc_fs X st i) (by rw [List.getElem?_append_left hlt]; exact he) hc hin hk hl hr ?_ hdg kk
  rw [← hv X ho.2 rfl rfl]
  exact cc_fs_get (by rw [ho.2, hN]; exact hk)
theorem nx_putI (C : nn_C p s m args meth c cc nL ret own nm Wd D (nn_ts (cx_c X)) B z A) (hM : nn_H D A s.heap (cc_w X st ++ ws) H locs) {i ci N k index : Nat} {K ref : String} {T : u_T} {v : Int32} {ty0 : Nat → FieldType} (hok : cc_ok X) (ho : i ∈ cx_o X ∧ cx_K X i = ci) (hc : vwCl[ci]? = some (K, T, N)) (hin : ∀ w ∈ u_ws K T N, w ∈ Wd) (hty : ∀ k, k < N → parseFieldDescriptor (T k).2.2.1 = some (ty0 k)) (hnm : ∀ a, a < N → ∀ b, b < N → a ≠ b → (T a).2.1 ≠ (T b).2.1) (hN : cc_nf ci = N) (hk : k < N) (hl : Cond.fieldLink own index ref (T k).2.1 (T k).2.2.1 ∈ Wd) (hr : (T k).1 = ref) (hfin : (T k).2.2.2 = false) (hn : narrow (ty0 k) (.int v) = .int v) (hf : fits (ty0 k) (.int v) = true) (h0 : cc_fk ci k = 0) (hdg : decode cc pc = .ok (.putfield index, 3))
    (kk : ∀ (H : Heap) (locs : List Loc), nn_H D A s.heap (cc_w X (cc_sI st i k v) ++ ws) H locs → W p l e R s m args below meth c H locs cells slots Q (F0 m (pc + 3) ls (rest))) : W p l e R s m args below meth c H locs cells slots Q (F0 m pc ls (.int v :: .ref (cx_a X i) :: rest)) := by
  obtain ⟨q, hq, he⟩ := cc_w_o st ho.1
  have hlt := (List.getElem?_eq_some_iff.mp he).1
  have hset := cc_w_sI (st := st) (k := k) hok hq (by rw [ho.2]; exact h0) (by rw [ho.2, hN]; exact hk) v
  rw [ho.2] at he hset
  exact nn_pt (ws' := cc_w X (cc_sI st i k v) ++ ws) C hM q (ci := ci) (fs := cc_fs X st i) (by rw [List.getElem?_append_left hlt]; exact he) (by rw [List.set_append_left _ _ hlt, hset]) hc hin hty hnm hk hl hr hfin hn hf (by unfold cc_fs; rw [List.length_map, List.length_range, ho.2, hN]; exact hk) hdg kk
theorem nx_pc {av : List Value} (C : nn_C p s m args meth c cc nL ret own nm Wd D (nn_ts (cx_c X)) B z A) (hM : nn_H D A s.heap (cc_w X st ++ ws) H locs) (hok : cc_ok X) (U : State) (hU : U.heap = H) (hW : s.WarmedH U.vm) : va_Pc av (cc_U D X st) av.toArray U :=
  ⟨rfl, by rw [hU]; exact (nn_left hM).1, va_K.moved hW.alike (nn_K C), (nn_left hM).2.1.weaken (fun _ _ _ _ => trivial), cc_Nm hW.alike (nn_e C).2.1, hok⟩
theorem nx_blind {av : List Value} (a : Array Value) (U : State) (g : JFrame) (mk : MethodId) (q : va_Pc av (cc_U D X st) a U) : va_Pc av (cc_U D X st) a (U.calling g mk a) :=
  ⟨q.1, q.2.1, va_K.moved (u := U) (U := U.calling g mk a) (Vm.Alike.refl U.vm) q.2.2.1, q.2.2.2.1, cc_Nm (u := U) (U := U.calling g mk a) (Vm.Alike.refl U.vm) q.2.2.2.2.1, q.2.2.2.2.2⟩
theorem nx_ai {r : Int32} {st1 : cc_S} {stk : List Value} {av : Array Value} (hM : nn_H D A s.heap (cc_w X st ++ ws) H locs) (hr : va_Run p l e R s m args below meth c H locs cells slots 0 0 (F0 m pc ls stk) rest (cc_Qi D X r st1 av) (cc_A X))
    (kk : ∀ (H : Heap) (locs : List Loc), nn_H D A s.heap (cc_w X st1 ++ ws) H locs → W p l e R s m args below meth c H locs cells slots Q (F0 m (pc + 3) ls (.int r :: rest))) : W p l e R s m args below meth c H locs cells slots Q (F0 m pc ls (stk)) := by
  refine va_calli (A1 := cc_A X) (mc := 0) (ms := 0) hr hM.2.2.1 (fun q _ h => nx_A hM h) (fun q h => nx_A hM h) (fun r' u t H1 locs1 ht hvm hw hB _ hk hS => ?_)
  obtain ⟨rfl, rfl⟩ := hw
  rw [cc_U, ht] at hB
  exact kk H1 locs1 (nn_perm List.perm_append_comm (nn_keepx (Ax := cc_A X) (nn_perm List.perm_append_comm hM) (cc_w_ad X st u) hB.1 hk (fun q h => cc_A_ad h) hS))
theorem nx_cS {y : MethodName} {index n fr lo maxL : Nat} {bytes : ByteArray} {rt : Option FieldType} {As : List Value} {r : Int32} {st1 : cc_S} {stk : List Value} {x : Option (Int32 × cc_S)} (C : nn_C p s m args meth c cc nL ret own nm Wd D (nn_ts (cx_c X)) B z A) (hM : nn_H D A s.heap (cc_w X st ++ ws) H locs) (hWd : ∀ w ∈ cc_W, w ∈ Wd) (hok : cc_ok X) (hMet : cc_Mi l D X y bytes maxL rt fr lo As st x) (hx : x = some (r, st1)) (hg : GoodIn cc_W (va_wsS own index y (Cond.code y bytes maxL rt :: cc_W))) (hd : y.cls ≠ "java/lang/invoke/MethodHandle" ∧ y.cls ≠ "java/lang/invoke/VarHandle" ∧ (parseMethodDescriptor y.desc).map (fun d => d.parameters.length) = some n) (hR : fr + 1 ≤ R.frames ∧ 8 + (maxL + 11) + lo ≤ R.locals) (hn : As.length = n) (hsz : ls.size = nL) (hst : stk = As.reverse ++ rest) (hW : (rest.map fun v => v.category).sum ≤ 8) (hdg : decode cc pc = .ok (.invokestatic index, 3)) (hR2 : cells ≤ R.cells ∧ slots ≤ R.slots)
    (kk : ∀ (H : Heap) (locs : List Loc), nn_H D A s.heap (cc_w X st1 ++ ws) H locs → W p l e R s m args below meth c H locs cells slots Q (F0 m (pc + 3) ls (.int r :: rest))) : W p l e R s m args below meth c H locs cells slots Q (F0 m pc ls (stk)) :=
  nx_ai hM (va_runS (As := As) (rest := rest) ⟨C.1, C.2.1, C.2.2.2.1, nn_own C, fun w hw => nn_w C (hWd w hw)⟩ (hMet r st1 hx) (va_cwS n (fun w hw => nn_w C (hWd w hw)) hg rfl rfl rfl hd hR) ⟨nx_blind, nx_pc C hM hok⟩ rfl hn hsz hst (lv_room hW) hdg hR2) kk
theorem nx_cV {y : MethodName} {ci i index n fr lo maxL N : Nat} {K : String} {T : u_T} {bytes : ByteArray} {rt : Option FieldType} {As : List Value} {r : Int32} {st1 : cc_S} {stk : List Value} {x : Option (Int32 × cc_S)} (C : nn_C p s m args meth c cc nL ret own nm Wd D (nn_ts (cx_c X)) B z A) (hM : nn_H D A s.heap (cc_w X st ++ ws) H locs) (hWd : ∀ w ∈ cc_W, w ∈ Wd) (hok : cc_ok X) (ho : i ∈ cx_o X ∧ cx_K X i = ci) (hc : vwCl[ci]? = some (K, T, N)) (hMet : cc_Mi l D X y bytes maxL rt fr lo (.ref (cx_a X i) :: As) st x) (hx : x = some (r, st1)) (hg : GoodIn cc_W (wsV own index K y (Cond.code y bytes maxL rt :: cc_W))) (hd : y.cls = K ∧ y.cls ≠ "java/lang/invoke/MethodHandle" ∧ y.cls ≠ "java/lang/invoke/VarHandle" ∧ (parseMethodDescriptor y.desc).map (fun d => d.parameters.length) = some n) (hR : fr + 1 ≤ R.frames ∧ 8 + (maxL + 11) + lo ≤ R.locals) (hn : As.length = n) (hsz : ls.size = nL) (hst : stk = As.reverse ++ .ref (cx_a X i) :: rest) (hW : (rest.map fun v => v.category).sum ≤ 8) (hdg : decode cc pc = .ok (.invokevirtual index, 3)) (hR2 : cells ≤ R.cells ∧ slots ≤ R.slots)
    (kk : ∀ (H : Heap) (locs : List Loc), nn_H D A s.heap (cc_w X st1 ++ ws) H locs → W p l e R s m args below meth c H locs cells slots Q (F0 m (pc + 3) ls (.int r :: rest))) : W p l e R s m args below meth c H locs cells slots Q (F0 m pc ls (stk)) := by
  obtain ⟨q, hq, he⟩ := cc_w_o st ho.1
  have hlt := (List.getElem?_eq_some_iff.mp he).1
  rw [ho.2] at he
  exact nx_ai hM (va_runV (As := As) (rest := rest) ⟨C.1, C.2.1, C.2.2.2.1, nn_own C, fun w hw => nn_w C (hWd w hw)⟩ (hMet r st1 hx) (cwV n (fun w hw => nn_w C (hWd w hw)) hg rfl rfl rfl hd hR) ⟨nx_blind, nn_rcv C hM (ci := ci) (q0 := q) (by rw [List.getElem?_append_left hlt]; exact he) hc, nx_pc C hM hok⟩ rfl hn hsz hst (lv_room hW) hdg hR2) kk
/-! a made String as the parser reads it -/
theorem nn_jS {t w n q0 q1 : Nat} {f : Nat → Int32} {tx : Nat → Nat} {ct : Nat → ClassId} {Ax : Nat → Prop} (C : nn_C p s m args meth c cc nL ret own nm Wd D (nn_ts ct) B z A) (hM : nn_H D A s.heap ws H locs) (hJ : ∀ w ∈ u_ws RJ0 TJ0 4, w ∈ Wd) (h1 : ws[q0]? = some (t, .inr (0, [.ref w, .int 0, .int 0, .int 0]))) (h2 : ws[q1]? = some (w, .inl (ct 5, n, .inl f))) (hn : n < 2 ^ 31) (hf : ∀ j, j < n → f j = sb_b (tx j)) (ht : ¬ Ax t) (hw : ¬ Ax w) : jj_S t w n tx Ax s H := by
  obtain ⟨r, e1, cell, g1, g2, g3, g4⟩ := hM.1 q0 _ h1
  obtain rfl : r = (RJ0, TJ0, 4) := (Option.some.inj e1).symm
  obtain ⟨hS, hfc, kC, hkC, hkind⟩ := (nn_K C).1 0 _ rfl
  have fld : ∀ k v, k < 4 → ([.ref w, .int 0, .int 0, .int 0] : List Value)[k]? = some v → va_OF (TJ0 k).1 (TJ0 k).2.1 (TJ0 k).2.2.1 v t Ax s H := fun k v hk hv => by
    obtain ⟨cf, kf, fi, fd, hi, hsl⟩ := hS k hk
    refine ⟨cf, kf, fi, fd, cell, hi, (u_facts hfc hkC (u_lays (fun w hw => nn_w C hw) hJ hk) hi).1, g1, (by rw [g3]; exact fun h => VmData.noConfusion h), ?_, ht⟩
    rw [hsl, g4 k hk]
    simp [vp_V, hv]
  refine ⟨⟨cell, g1, by rw [g3]; rfl, by rw [g2]; exact hfc, ht⟩, fld 1 _ (by decide) rfl, fld 0 _ (by decide) rfl, ?_⟩
  have hb : H[w]? = some (vp_cell (ct 5) (n, .inl f)) := hM.1 q1 _ h2
  have hsz : (vp_cell (ct 5) (n, .inl f)).slots.size = n := arrV_size _ _ _
  refine ⟨_, hb, ((nn_K C).2 5 _ rfl).1 n (fun j => .int (f j)), fun h => VmData.noConfusion h, by rw [hsz]; exact Nat.le_refl n, by rw [hsz], fun j hj => ?_, hw⟩
  show (Array.ofFn (fun i : Fin n => Value.int (f i)))[j]? = _
  rw [Array.getElem?_ofFn, dif_pos hj, hf j hj]
/-! the parser's method on an Archive that is being made -/
theorem pp_w_ad {o : Nat} {ad : Nat → Nat} {cs : ClassId} {st st1 : mm_S} : (pp_w o ad cs st1).map (fun q => q.1) = (pp_w o ad cs st).map (fun q => q.1) := rfl
theorem pp_A_ad {o : Nat} {ad : Nat → Nat} {cs : ClassId} {st : mm_S} {q : Nat} (h : pp_A o ad q) : q ∈ (pp_w o ad cs st).map (fun q => q.1) := by
  rcases h with rfl | ⟨k, hk, rfl⟩
  · exact List.mem_map.mpr ⟨_, List.mem_cons_self, rfl⟩
  · exact List.mem_map.mpr ⟨_, List.mem_cons_of_mem _ (List.mem_map.mpr ⟨k, hk, rfl⟩), rfl⟩
theorem nn_ppV {y : MethodName} {index n fr lo maxL o : Nat} {ad : Nat → Nat} {ct : Nat → ClassId} {z0 : pp_Z} {pst pst1 : mm_S} {bytes : ByteArray} {rt : Option FieldType} {r : Int32} {stk : List Value} {x : Option (Int32 × mm_S)} (C : nn_C p s m args meth c cc nL ret own nm Wd D (nn_ts ct) B z A) (hM : nn_H D A s.heap (ws ++ pp_w o ad (ct 0) pst) H locs) (hWd : ∀ w ∈ cc_W, w ∈ Wd) (hz : ∀ i, i < 5 → z0 (i + 1) = z (i + 1)) (hz0 : jj_S (z0 0).1 (z0 0).2.1 (z0 0).2.2.1 (z0 0).2.2.2 (pp_A o ad) s H) (had : ad 0 = (z0 0).1) (hMet : pp_Mi l D o ad (ct 0) z0 y bytes maxL rt fr lo [] pst x) (hx : x = some (r, pst1)) (hg : GoodIn cc_W (wsV own index RX0 y (Cond.code y bytes maxL rt :: cc_W))) (hd : y.cls = RX0 ∧ y.cls ≠ "java/lang/invoke/MethodHandle" ∧ y.cls ≠ "java/lang/invoke/VarHandle" ∧ (parseMethodDescriptor y.desc).map (fun d => d.parameters.length) = some 0) (hR : fr + 1 ≤ R.frames ∧ 8 + (maxL + 11) + lo ≤ R.locals) (hsz : ls.size = nL) (hst : stk = .ref o :: rest) (hW : (rest.map fun v => v.category).sum ≤ 8) (hdg : decode cc pc = .ok (.invokevirtual index, 3)) (hR2 : cells ≤ R.cells ∧ slots ≤ R.slots)
    (kk : ∀ (H : Heap) (locs : List Loc), nn_H D A s.heap (ws ++ pp_w o ad (ct 0) pst1) H locs → W p l e R s m args below meth c H locs cells slots Q (F0 m (pc + 3) ls (.int r :: rest))) : W p l e R s m args below meth c H locs cells slots Q (F0 m pc ls (stk)) := by
  have hAA : ∀ q, pp_A o ad q → A q := fun q h => by
    obtain ⟨x, hx, e⟩ := List.mem_map.mp (pp_A_ad (cs := ct 0) (st := pst) h)
    rw [← e]
    exact (nn_dp.mp hM.2.1).2 x (List.mem_append_right _ hx)
  have hAB : ∀ q, pp_A o ad q → B ≤ q := fun q h => nn_ab C q (hAA q h)
  have hMr := nn_left (nn_perm List.perm_append_comm hM)
  have hpre : PreV s H RX0 o (va_Pc (.ref o :: []) (fun U => pp_U D o ad (ct 0) pst U ∧ pp_F o ad z0 U)) [] := by
    refine ⟨fun a U g mk q => ⟨q.1, ⟨q.2.1.1, va_K.moved (u := U) (U := U.calling g mk a) (Vm.Alike.refl U.vm) q.2.1.2.1, q.2.1.2.2⟩, ⟨fun i hi => jj_Sm (u := U) (U := U.calling g mk a) (Vm.Alike.refl U.vm) (q.2.2.1 i hi), jj_Zm (u := U) (U := U.calling g mk a) (Vm.Alike.refl U.vm) q.2.2.2.1, fun i hi w hw => vk_R.same (u := U) (U := U.calling g mk a) rfl (q.2.2.2.2.1 i hi w hw), q.2.2.2.2.2⟩⟩, va_recv (nn_K C) hMr.1 (q := (RX0, TX0, 10)) (ci := 2) (q0 := 0) rfl pp_w_0, fun U hU hW => ⟨rfl, ⟨by rw [hU]; exact hMr.1, va_K.moved hW.alike ((nn_K C).sub [0] rfl), hMr.2.1.weaken (fun _ _ _ _ => trivial)⟩, ⟨fun i hi => ?_, ?_, fun i hi q hq => ?_, had⟩⟩⟩
    · cases i with
      | zero =>
        rw [hU]
        exact jj_Sm hW.alike hz0
      | succ i =>
        rw [hU, hz i (by omega)]
        exact jj_Sm hW.alike (jj_Sn (jj_Sk ((nn_e C).2.2.2.2.2.1 i (by omega)) (nn_kept C hM)) hAB)
    · rw [hU]
      exact jj_Zm hW.alike (jj_Zn (jj_Zk (nn_e C).2.2.2.2.1 (nn_kept C hM)) hAB)
    · rw [hz i hi]
      exact vk_R.warm hW ((nn_e C).2.2.2.2.2.2 i hi q hq)
  refine va_calli (A1 := pp_A o ad) (mc := 0) (ms := 0) (va_runV (As := []) (rest := rest) ⟨C.1, C.2.1, C.2.2.2.1, nn_own C, fun w hw => nn_w C (hWd w hw)⟩ (hMet r pst1 hx) (cwV 0 (fun w hw => nn_w C (hWd w hw)) hg rfl rfl rfl hd hR) hpre rfl rfl hsz hst (lv_room hW) hdg hR2) hM.2.2.1 (fun q _ h => hAA q h) (fun q h => hAA q h) (fun r' u t H1 locs1 ht hvm hw hB _ hk hS => ?_)
  obtain ⟨rfl, rfl⟩ := hw
  rw [pp_U, ht] at hB
  exact kk H1 locs1 (nn_keepx (Ax := pp_A o ad) hM pp_w_ad hB.1 hk (fun q h => pp_A_ad h) hS)
end XW
