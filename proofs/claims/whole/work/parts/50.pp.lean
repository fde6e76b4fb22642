/-! an Archive that is being made -/
def pp_kds : List Nat := [9, 0, 0, 1, 1, 1, 1, 0, 0, 0]
def pp_lns : List Nat := [0, 0, 0, 10, 10, 11, 100, 0, 0, 0]
def pp_ar : List Nat := [3, 4, 5, 6]
def pp_kd (k : Nat) : Nat := pp_kds.getD k 0
def pp_ln (k : Nat) : Nat := pp_lns.getD k 0
abbrev pp_Z : Type := Nat → Nat × Nat × Nat × (Nat → Nat)
def pp_cs : List (Nat × String) := [(65, "shame "), (67, "keep "), (69, "fame "), (95, "ikvycd"), (101, "<=>")]
/-! cells -/
def pp_val (ad : Nat → Nat) (st : mm_S) (k : Nat) : Value := if pp_kd k = 0 then .int (st.1 k) else .ref (ad k)
def pp_cell (cs : ClassId) (st : mm_S) (k : Nat) : va_E := .inl (cs, pp_ln k, .inl (st.2.1 k))
def pp_fs (ad : Nat → Nat) (st : mm_S) : List Value := (List.range 10).map (pp_val ad st)
def pp_w (o : Nat) (ad : Nat → Nat) (cs : ClassId) (st : mm_S) : va_W := (o, .inr (2, pp_fs ad st)) :: pp_ar.map (fun k => (ad k, pp_cell cs st k))
def pp_tys (cs : ClassId) : List (ClassId × FieldType) := [(cs, .int)]
theorem pp_ar_nd : pp_ar.Nodup := by decide +kernel
theorem pp_fs_get {ad : Nat → Nat} {st : mm_S} {k : Nat} (hk : k < 10) : (pp_fs ad st)[k]? = some (pp_val ad st k) := by
  unfold pp_fs
  rw [List.getElem?_map, List.getElem?_range hk]
  rfl
theorem pp_fs_set {ad : Nat → Nat} {st : mm_S} {k : Nat} (hk : k < 10) (h0 : pp_kd k = 0) (v : Int32) : (pp_fs ad st).set k (.int v) = pp_fs ad (mm_sI st k v) := by
  have h := mm_mapset (f := pp_val ad st) (g := pp_val ad (mm_sI st k v)) (q := k) (k := k) (List.getElem?_range hk) List.nodup_range (fun j hj => by
    unfold pp_val mm_sI mm_up
    simp [hj])
  have e : pp_val ad (mm_sI st k v) k = .int v := by
    unfold pp_val mm_sI mm_up
    simp [h0]
  rw [e] at h
  exact h
theorem pp_w_0 {o : Nat} {ad : Nat → Nat} {cs : ClassId} {st : mm_S} : (pp_w o ad cs st)[0]? = some (o, .inr (2, pp_fs ad st)) := rfl
theorem pp_w_at {o : Nat} {ad : Nat → Nat} {cs : ClassId} (st : mm_S) {k : Nat} (hk : k ∈ pp_ar) : ∃ q, pp_ar[q]? = some k ∧ (pp_w o ad cs st)[q + 1]? = some (ad k, pp_cell cs st k) := by
  obtain ⟨q, hq⟩ := List.getElem?_of_mem hk
  refine ⟨q, hq, ?_⟩
  show (pp_ar.map (fun k => (ad k, pp_cell cs st k)))[q]? = _
  rw [List.getElem?_map, hq]
  rfl
theorem pp_w_sI {o : Nat} {ad : Nat → Nat} {cs : ClassId} {st : mm_S} {k : Nat} (hk : k < 10) (h0 : pp_kd k = 0) (v : Int32) : (pp_w o ad cs st).set 0 (o, .inr (2, (pp_fs ad st).set k (.int v))) = pp_w o ad cs (mm_sI st k v) := by
  rw [pp_fs_set hk h0]
  rfl
theorem pp_w_set {o : Nat} {ad : Nat → Nat} {cs : ClassId} {st st' : mm_S} {k q : Nat} (hq : pp_ar[q]? = some k) (h1 : st'.1 = st.1) (h : ∀ j, j ≠ k → pp_cell cs st' j = pp_cell cs st j) : (pp_w o ad cs st).set (q + 1) (ad k, pp_cell cs st' k) = pp_w o ad cs st' := by
  have e := mm_mapset (f := fun k => (ad k, pp_cell cs st k)) (g := fun k => (ad k, pp_cell cs st' k)) hq pp_ar_nd (fun j hj => by show (ad j, pp_cell cs st' j) = (ad j, pp_cell cs st j); rw [h j hj])
  have ef : pp_fs ad st' = pp_fs ad st := by
    unfold pp_fs
    refine List.map_congr_left fun k _ => ?_
    unfold pp_val
    rw [h1]
  show (o, _) :: (pp_ar.map (fun k => (ad k, pp_cell cs st k))).set q (ad k, pp_cell cs st' k) = pp_w o ad cs st'
  rw [e]
  unfold pp_w
  rw [ef]
theorem pp_cell_G {cs : ClassId} {st : mm_S} {k i : Nat} {v : Int32} (j : Nat) (h : j ≠ k) : pp_cell cs (mm_sG st k i v) j = pp_cell cs st j := by
  unfold pp_cell mm_sG mm_up
  simp [h]
theorem pp_cell_1 {cs : ClassId} {st : mm_S} {k : Nat} (h : pp_kd k = 1) : pp_cell cs st k = .inl (cs, pp_ln k, .inl (st.2.1 k)) := rfl
theorem pp_T1 : ∀ k, k < 10 → (TX0 k).1 = "EclipsesKept$Archive" := by decide +kernel
theorem pp_fin : ∀ k, k < 10 → pp_kd k = 0 → k ≠ 1 → (TX0 k).2.2.2 = false := by decide +kernel
/-! what holds within a method of it -/
def pp_A (o : Nat) (ad : Nat → Nat) : Nat → Prop := fun q => q = o ∨ ∃ k, k ∈ pp_ar ∧ q = ad k
def pp_F (o : Nat) (ad : Nat → Nat) (z : pp_Z) (U : State) : Prop := (∀ i, i < 6 → jj_S (z i).1 (z i).2.1 (z i).2.2.1 (z i).2.2.2 (pp_A o ad) U U.heap) ∧ jj_Z (pp_A o ad) U U.heap ∧ (∀ i, i < 5 → ∀ q, pp_cs[i]? = some q → vk_R RX0 q.1 q.2 (z (i + 1)).1 U) ∧ ad 0 = (z 0).1
def pp_C (p : Program) (s : State) (m : MethodId) (args : Array Value) (meth : Method) (c : Code) (cc : ByteArray) (nL : Nat) (ret : Option FieldType) (D : va_G) (o : Nat) (ad : Nat → Nat) (cs : ClassId) (z : pp_Z) : Prop :=
  p.tables.exec = Jvm.exec ∧ c.code = cc ∧ meth.sig.returnType = ret ∧ c.maxLocals = nL ∧ s.vm.findClass RX0 = some m.cls ∧ (∀ w ∈ cc_W, w.before args s = true) ∧ meth.locks = false ∧ va_K D vwCl (pp_tys cs) s ∧ pp_F o ad z s
def pp_H (D : va_G) (o : Nat) (ad : Nat → Nat) (cs : ClassId) (H0 : Heap) (st : mm_S) (H : Heap) (locs : List Loc) : Prop :=
  va_P D vwCl (pp_w o ad cs st) H ∧ va_D (pp_A o ad) (pp_w o ad cs st) ∧ va_S (pp_A o ad) H0 H locs
def pp_U (D : va_G) (o : Nat) (ad : Nat → Nat) (cs : ClassId) (st : mm_S) (U : State) : Prop :=
  va_P D vwCl (pp_w o ad cs st) U.heap ∧ va_K D vwCl (pp_tys cs) U ∧ va_D (fun _ => True) (pp_w o ad cs st)
abbrev pp_Qi (D : va_G) (o : Nat) (ad : Nat → Nat) (cs : ClassId) (r : Int32) (st : mm_S) : Array Value → State → Outcome → State → Prop := va_Qi (fun (r' : Int32) (u : mm_S) => r' = r ∧ u = st) (pp_U D o ad cs) (pp_A o ad)
abbrev pp_Qv (D : va_G) (o : Nat) (ad : Nat → Nat) (cs : ClassId) (st : mm_S) : Array Value → State → Outcome → State → Prop := va_Qv (fun (u : mm_S) => u = st) (pp_U D o ad cs) (pp_A o ad)
def pp_Mi (l : Launch) (D : va_G) (o : Nat) (ad : Nat → Nat) (cs : ClassId) (z : pp_Z) (y : MethodName) (bytes : ByteArray) (maxL : Nat) (rt : Option FieldType) (fr lo : Nat) (As : List Value) (st : mm_S) (x : Option (Int32 × mm_S)) : Prop :=
  ∀ r st', x = some (r, st') → Met l y (Cond.code y bytes maxL rt :: cc_W) (mm_R fr lo) (va_Pc (.ref o :: As) (fun U => pp_U D o ad cs st U ∧ pp_F o ad z U)) (pp_Qi D o ad cs r st') 0 0 (pp_A o ad)
def pp_Mv (l : Launch) (D : va_G) (o : Nat) (ad : Nat → Nat) (cs : ClassId) (z : pp_Z) (y : MethodName) (bytes : ByteArray) (maxL : Nat) (rt : Option FieldType) (fr lo : Nat) (As : List Value) (st : mm_S) (x : Option mm_S) : Prop :=
  ∀ st', x = some st' → Met l y (Cond.code y bytes maxL rt :: cc_W) (mm_R fr lo) (va_Pc (.ref o :: As) (fun U => pp_U D o ad cs st U ∧ pp_F o ad z U)) (pp_Qv D o ad cs st') 0 0 (pp_A o ad)
theorem pp_D_A {o : Nat} {ad : Nat → Nat} {cs : ClassId} {st : mm_S} {B : Nat → Prop} (h : va_D B (pp_w o ad cs st)) : va_D (pp_A o ad) (pp_w o ad cs st) := by
  refine ⟨h.1, fun k q hq => ?_⟩
  rcases List.mem_cons.mp (List.mem_of_getElem? hq) with e | e
  · rw [e]; exact Or.inl rfl
  · obtain ⟨k, hk, e⟩ := List.mem_map.mp e
    rw [← e]
    exact Or.inr ⟨k, hk, rfl⟩
section MM
variable {p : Program} {l : Launch} {e : Env} {R : Room} {s : State} {m : MethodId} {args : Array Value} {below : List Frame} {meth : Method} {c : Code} {H H0 : Heap} {locs : List Loc} {cells slots : Nat} {Q : State → Prop}
variable {cc : ByteArray} {nL : Nat} {ret : Option FieldType} {pc : Nat} {ls : Array Slot} {rest : List Value} {D : va_G} {o : Nat} {ad : Nat → Nat} {cs : ClassId} {st : mm_S} {z : pp_Z}
theorem pp_gI (C : pp_C p s m args meth c cc nL ret D o ad cs z) (hM : pp_H D o ad cs H0 st H locs) (k : Nat) {index : Nat} (hdg : decode cc pc = .ok (.getfield index, 3)) (hk : k < 10) (h0 : pp_kd k = 0) (hl : Cond.fieldLink RX0 index "EclipsesKept$Archive" (TX0 k).2.1 (TX0 k).2.2.1 ∈ cc_W)
    (kk : W p l e R s m args below meth c H locs cells slots Q (F0 m (pc + 3) ls (.int (mm_I st k) :: rest))) : W p l e R s m args below meth c H locs cells slots Q (F0 m pc ls (.ref o :: rest)) := by
  obtain ⟨hx, hb, -, -, hown, hts, -, hK, -⟩ := C
  have hv : (pp_fs ad st)[k]? = some (.int (mm_I st k)) := by
    rw [pp_fs_get hk]
    unfold pp_val mm_I
    rw [if_pos h0]
  exact va_get (C := RX0) (T := TX0) (N := 10) (ci := 2) hx hb hts cc_inX0 hown hK hM.1 0 pp_w_0 rfl k hk (hts _ hl) (fun x h => by rw [pp_T1 k hk] at h; exact h) hv hdg kk
theorem pp_gA (C : pp_C p s m args meth c cc nL ret D o ad cs z) (hM : pp_H D o ad cs H0 st H locs) (k : Nat) {index : Nat} (hdg : decode cc pc = .ok (.getfield index, 3)) (hk : k < 10) (h0 : ¬ pp_kd k = 0) (hl : Cond.fieldLink RX0 index "EclipsesKept$Archive" (TX0 k).2.1 (TX0 k).2.2.1 ∈ cc_W)
    (kk : W p l e R s m args below meth c H locs cells slots Q (F0 m (pc + 3) ls (.ref (ad k) :: rest))) : W p l e R s m args below meth c H locs cells slots Q (F0 m pc ls (.ref o :: rest)) := by
  obtain ⟨hx, hb, -, -, hown, hts, -, hK, -⟩ := C
  have hv : (pp_fs ad st)[k]? = some (.ref (ad k)) := by
    rw [pp_fs_get hk]
    unfold pp_val
    rw [if_neg h0]
  exact va_get (C := RX0) (T := TX0) (N := 10) (ci := 2) hx hb hts cc_inX0 hown hK hM.1 0 pp_w_0 rfl k hk (hts _ hl) (fun x h => by rw [pp_T1 k hk] at h; exact h) hv hdg kk
theorem pp_pI (C : pp_C p s m args meth c cc nL ret D o ad cs z) (hM : pp_H D o ad cs H0 st H locs) (k : Nat) {index : Nat} {v : Int32} (hdg : decode cc pc = .ok (.putfield index, 3)) (hk : k < 10) (h0 : pp_kd k = 0) (h01 : k ≠ 1) (hl : Cond.fieldLink RX0 index "EclipsesKept$Archive" (TX0 k).2.1 (TX0 k).2.2.1 ∈ cc_W) (hn : narrow (tyX0 k) (.int v) = .int v) (hf : fits (tyX0 k) (.int v) = true)
    (kk : ∀ (st1 : mm_S) (H1 : Heap) (locs1 : List Loc), st1 = mm_sI st k v → pp_H D o ad cs H0 st1 H1 locs1 → W p l e R s m args below meth c H1 locs1 cells slots Q (F0 m (pc + 3) ls rest)) : W p l e R s m args below meth c H locs cells slots Q (F0 m pc ls (.int v :: .ref o :: rest)) := by
  obtain ⟨hx, hb, -, -, hown, hts, -, hK, -⟩ := C
  refine va_put (C := RX0) (T := TX0) (N := 10) (ci := 2) hx hb hts cc_inX0 tyX0 tyX0_ok nmX0 hown hK hM.1 hM.2.1 hM.2.2 0 pp_w_0 rfl k hk (hts _ hl) (fun x h => by rw [pp_T1 k hk] at h; exact h) (pp_fin k hk h0 h01) (tyX0_ok k hk) hn hf (by unfold pp_fs; rw [List.length_map, List.length_range]; exact hk) hdg (fun H1 locs1 hP hD hS => ?_)
  rw [pp_w_sI hk h0] at hP hD
  exact kk _ H1 locs1 rfl ⟨hP, hD, hS⟩
theorem pp_iald (C : pp_C p s m args meth c cc nL ret D o ad cs z) (hM : pp_H D o ad cs H0 st H locs) (k : Nat) {i : Int32} (hdg : decode cc pc = .ok (.iaload, 1)) (hk : k ∈ pp_ar) (h1 : pp_kd k = 1) (hin : vp_in i (pp_ln k))
    (kk : W p l e R s m args below meth c H locs cells slots Q (F0 m (pc + 1) ls (.int (mm_G st k i.toNatClampNeg) :: rest))) : W p l e R s m args below meth c H locs cells slots Q (F0 m pc ls (.int i :: .ref (ad k) :: rest)) := by
  obtain ⟨q, hq, ha⟩ := pp_w_at (o := o) (ad := ad) (cs := cs) st hk
  rw [pp_cell_1 h1] at ha
  exact va_iald C.1 C.2.1 C.2.2.2.2.2.2.2.1 hM.1 (q + 1) 0 ha rfl hin hdg kk
theorem pp_iast (C : pp_C p s m args meth c cc nL ret D o ad cs z) (hM : pp_H D o ad cs H0 st H locs) (k : Nat) {i v : Int32} (hdg : decode cc pc = .ok (.iastore, 1)) (hk : k ∈ pp_ar) (h1 : pp_kd k = 1) (hin : vp_in i (pp_ln k))
    (kk : ∀ (st1 : mm_S) (H1 : Heap) (locs1 : List Loc), st1 = mm_sG st k i.toNatClampNeg v → pp_H D o ad cs H0 st1 H1 locs1 → W p l e R s m args below meth c H1 locs1 cells slots Q (F0 m (pc + 1) ls rest)) : W p l e R s m args below meth c H locs cells slots Q (F0 m pc ls (.int v :: .int i :: .ref (ad k) :: rest)) := by
  obtain ⟨q, hq, ha⟩ := pp_w_at (o := o) (ad := ad) (cs := cs) st hk
  rw [pp_cell_1 h1] at ha
  refine va_iast C.1 C.2.1 C.2.2.2.2.2.2.2.1 hM.1 hM.2.1 hM.2.2 (q + 1) 0 ha rfl hin hdg (fun H1 locs1 hP hD hS => ?_)
  have e : (pp_w o ad cs st).set (q + 1) (ad k, .inl (cs, pp_ln k, .inl (upd (st.2.1 k) i.toNatClampNeg v))) = pp_w o ad cs (mm_sG st k i.toNatClampNeg v) := by
    have h2 := pp_w_set (o := o) (ad := ad) (cs := cs) (st := st) (st' := mm_sG st k i.toNatClampNeg v) hq rfl (fun j hj => pp_cell_G j hj)
    rw [pp_cell_1 h1] at h2
    rw [← h2]
    unfold mm_sG mm_up
    simp
  rw [e] at hP hD
  exact kk _ H1 locs1 rfl ⟨hP, hD, hS⟩
/-! calls of its own methods -/
theorem pp_Fm {s U : State} {H : Heap} {locs : List Loc} {o : Nat} {ad : Nat → Nat} {z : pp_Z} (h : pp_F o ad z s) (hS : va_S (pp_A o ad) s.heap H locs) (hU : U.heap = H) (hW : s.WarmedH U.vm) : pp_F o ad z U := by
  refine ⟨fun i hi => ?_, ?_, fun i hi q hq => vk_R.warm hW (h.2.2.1 i hi q hq), h.2.2.2⟩
  · rw [hU]
    exact jj_Sm hW.alike (jj_Sk (h.1 i hi) hS.2.1)
  · rw [hU]
    exact jj_Zm hW.alike (jj_Zk h.2.1 hS.2.1)
theorem pp_pre (C : pp_C p s m args meth c cc nL ret D o ad cs z) (hM : pp_H D o ad cs s.heap st H locs) (As : List Value) : PreV s H RX0 o (va_Pc (.ref o :: As) (fun U => pp_U D o ad cs st U ∧ pp_F o ad z U)) As := by
  have hK := C.2.2.2.2.2.2.2.1
  have hF := C.2.2.2.2.2.2.2.2
  refine ⟨fun a U g mk q => ⟨q.1, ⟨q.2.1.1, va_K.moved (u := U) (U := U.calling g mk a) (Vm.Alike.refl U.vm) q.2.1.2.1, q.2.1.2.2⟩, ⟨fun i hi => jj_Sm (u := U) (U := U.calling g mk a) (Vm.Alike.refl U.vm) (q.2.2.1 i hi), jj_Zm (u := U) (U := U.calling g mk a) (Vm.Alike.refl U.vm) q.2.2.2.1, fun i hi w hw => vk_R.same (u := U) (U := U.calling g mk a) rfl (q.2.2.2.2.1 i hi w hw), q.2.2.2.2.2⟩⟩, va_recv hK hM.1 (q := (RX0, TX0, 10)) (ci := 2) (q0 := 0) rfl pp_w_0, fun U hU hW => ⟨rfl, ⟨by rw [hU]; exact hM.1, va_K.moved hW.alike hK, hM.2.1.weaken (fun _ _ _ _ => trivial)⟩, pp_Fm hF hM.2.2 hU hW⟩⟩
theorem pp_ci {y : MethodName} {fr lo : Nat} {As : List Value} {x : Option (Int32 × mm_S)} {bytes : ByteArray} {maxL index n : Nat} {rt : Option FieldType} {r : Int32} {st1 : mm_S} {stk : List Value} (C : pp_C p s m args meth c cc nL ret D o ad cs z) (hM : pp_H D o ad cs s.heap st H locs) (hc : pp_Mi l D o ad cs z y bytes maxL rt fr lo As st x) (hg : GoodIn cc_W (wsV RX0 index RX0 y (Cond.code y bytes maxL rt :: cc_W))) (hdg : decode cc pc = .ok (.invokevirtual index, 3)) (hx : x = some (r, st1)) (hsz : ls.size = nL)
    (hd : y.cls = RX0 ∧ y.cls ≠ "java/lang/invoke/MethodHandle" ∧ y.cls ≠ "java/lang/invoke/VarHandle" ∧ (parseMethodDescriptor y.desc).map (fun d => d.parameters.length) = some n) (hR : fr + 1 ≤ R.frames ∧ 8 + (maxL + 11) + lo ≤ R.locals) (hn : As.length = n) (hst : stk = As.reverse ++ .ref o :: rest) (hW : (rest.map fun v => v.category).sum ≤ 8) (hR2 : cells ≤ R.cells ∧ slots ≤ R.slots)
    (kk : ∀ (H1 : Heap) (locs1 : List Loc), pp_H D o ad cs s.heap st1 H1 locs1 → W p l e R s m args below meth c H1 locs1 cells slots Q (F0 m (pc + 3) ls (.int r :: rest))) : W p l e R s m args below meth c H locs cells slots Q (F0 m pc ls stk) := by
  obtain ⟨hx0, hb, -, hml, hown, hts, -, hK, -⟩ := id C
  refine va_calli (A1 := pp_A o ad) (mc := 0) (ms := 0) (va_runV (As := As) (rest := rest) ⟨hx0, hb, hml, hown, hts⟩ (hc r st1 hx) (cwV n hts hg rfl rfl rfl hd hR) (pp_pre C hM As) rfl hn hsz hst (lv_room hW) hdg hR2) hM.2.2 (fun _ _ h => h) (fun _ h => h) (fun r' u t H1 locs1 ht hvm hw hB _ _ hS => ?_)
  obtain ⟨rfl, rfl⟩ := hw
  rw [pp_U, ht] at hB
  exact kk H1 locs1 ⟨hB.1, pp_D_A hB.2.2, hS⟩
theorem pp_cv {y : MethodName} {fr lo : Nat} {As : List Value} {x : Option mm_S} {bytes : ByteArray} {maxL index n : Nat} {rt : Option FieldType} {st1 : mm_S} {stk : List Value} (C : pp_C p s m args meth c cc nL ret D o ad cs z) (hM : pp_H D o ad cs s.heap st H locs) (hc : pp_Mv l D o ad cs z y bytes maxL rt fr lo As st x) (hg : GoodIn cc_W (wsV RX0 index RX0 y (Cond.code y bytes maxL rt :: cc_W))) (hdg : decode cc pc = .ok (.invokevirtual index, 3)) (hx : x = some st1) (hsz : ls.size = nL)
    (hd : y.cls = RX0 ∧ y.cls ≠ "java/lang/invoke/MethodHandle" ∧ y.cls ≠ "java/lang/invoke/VarHandle" ∧ (parseMethodDescriptor y.desc).map (fun d => d.parameters.length) = some n) (hR : fr + 1 ≤ R.frames ∧ 8 + (maxL + 11) + lo ≤ R.locals) (hn : As.length = n) (hst : stk = As.reverse ++ .ref o :: rest) (hW : (rest.map fun v => v.category).sum ≤ 8) (hR2 : cells ≤ R.cells ∧ slots ≤ R.slots)
    (kk : ∀ (H1 : Heap) (locs1 : List Loc), pp_H D o ad cs s.heap st1 H1 locs1 → W p l e R s m args below meth c H1 locs1 cells slots Q (F0 m (pc + 3) ls rest)) : W p l e R s m args below meth c H locs cells slots Q (F0 m pc ls stk) := by
  obtain ⟨hx0, hb, -, hml, hown, hts, -, hK, -⟩ := id C
  refine va_callv (A1 := pp_A o ad) (mc := 0) (ms := 0) (va_runV (As := As) (rest := rest) ⟨hx0, hb, hml, hown, hts⟩ (hc st1 hx) (cwV n hts hg rfl rfl rfl hd hR) (pp_pre C hM As) rfl hn hsz hst (lv_room hW) hdg hR2) hM.2.2 (fun _ _ h => h) (fun _ h => h) (fun u t H1 locs1 ht hvm hw hB _ _ hS => ?_)
  obtain rfl := hw
  rw [pp_U, ht] at hB
  exact kk H1 locs1 ⟨hB.1, pp_D_A hB.2.2, hS⟩
/-! ends -/
theorem pp_ri {v r : Int32} {st' : mm_S} (C : pp_C p s m args meth c cc nL (some .int) D o ad cs z) (hM : pp_H D o ad cs s.heap st H locs) (hdg : decode cc pc = .ok (.ireturn, 1)) (hf : some (v, st) = some (r, st')) : W p l e R s m args below meth c H locs cells slots (MQ below (pp_Qi D o ad cs r st') args s cells slots (pp_A o ad)) (F0 m pc ls [.int v]) := by
  obtain ⟨rfl, rfl⟩ := fc_of_r hf
  obtain ⟨hx0, hb, hr, hml, hown, hts, hlk, hK, -⟩ := C
  exact W.iret (v := v) hx0 hb hr (fun t ht hW => ⟨⟨v, st, rfl, ⟨rfl, rfl⟩, by rw [pp_U, ht]; exact ⟨hM.1, va_K.moved hW.alike hK, hM.2.1.weaken (fun _ _ _ _ => trivial)⟩⟩, hM.2.2.F ht⟩) hM.2.2.2.2 hdg hlk
theorem pp_rz {v r : Int32} {st' : mm_S} {ty : FieldType} (C : pp_C p s m args meth c cc nL (some ty) D o ad cs z) (hM : pp_H D o ad cs s.heap st H locs) (hdg : decode cc pc = .ok (.ireturn, 1)) (hn : narrow ty (.int v) = .int v) (hf : some (v, st) = some (r, st')) : W p l e R s m args below meth c H locs cells slots (MQ below (pp_Qi D o ad cs r st') args s cells slots (pp_A o ad)) (F0 m pc ls [.int v]) := by
  obtain ⟨rfl, rfl⟩ := fc_of_r hf
  obtain ⟨hx0, hb, hr, hml, hown, hts, hlk, hK, -⟩ := C
  exact W.zret (v := v) hx0 hb hr hn (fun t ht hW => ⟨⟨v, st, rfl, ⟨rfl, rfl⟩, by rw [pp_U, ht]; exact ⟨hM.1, va_K.moved hW.alike hK, hM.2.1.weaken (fun _ _ _ _ => trivial)⟩⟩, hM.2.2.F ht⟩) hM.2.2.2.2 hdg hlk
theorem pp_rv {st' : mm_S} (C : pp_C p s m args meth c cc nL none D o ad cs z) (hM : pp_H D o ad cs s.heap st H locs) (hdg : decode cc pc = .ok (.return_, 1)) (hf : some st = some st') : W p l e R s m args below meth c H locs cells slots (MQ below (pp_Qv D o ad cs st') args s cells slots (pp_A o ad)) (F0 m pc ls []) := by
  obtain rfl := fc_of_v hf
  obtain ⟨hx0, hb, hr, hml, hown, hts, hlk, hK, -⟩ := C
  exact W.vret hx0 hb hr (fun t ht hW => ⟨⟨st, rfl, rfl, by rw [pp_U, ht]; exact ⟨hM.1, va_K.moved hW.alike hK, hM.2.1.weaken (fun _ _ _ _ => trivial)⟩⟩, hM.2.2.F ht⟩) hM.2.2.2.2 hdg hlk
end MM
/-! starts -/
theorem pp_enter {l : Launch} {D : va_G} {o : Nat} {ad : Nat → Nat} {cs : ClassId} {z : pp_Z} {y : MethodName} {fr lo : Nat} {As : List Value} {st : mm_S} {cc : ByteArray} {nL : Nat} {ret : Option FieldType} {Qc : Array Value → State → Outcome → State → Prop} (hy : plainName y.cls = true) (hcl : y.cls = RX0) (hn : (lg_sl (.ref o :: As)).length ≤ nL)
    (body : ∀ p e s m args below meth c ls, pp_C p s m args meth c cc nL ret D o ad cs z → lv_has ls nL (lv_args 0 (.ref o :: As)) → pp_H D o ad cs s.heap st s.heap [] → W p l e (mm_R fr lo) s m args below meth c s.heap [] 0 0 (MQ below Qc args s 0 0 (pp_A o ad)) (F0 m 0 ls [])) : Met l y (Cond.code y cc nL ret :: cc_W) (mm_R fr lo) (va_Pc (.ref o :: As) (fun U => pp_U D o ad cs st U ∧ pp_F o ad z U)) Qc 0 0 (pp_A o ad) := by
  refine Met.ofW (cc := cc) (maxL := nL) (ret := ret) hy rfl ?_
  intro p e s m args below meth c s₁ B hml hv
  obtain ⟨rfl, ⟨hP, hK, hD⟩, hF⟩ := hv
  have hl := lv_entry (.ref o :: As) hn
  rw [lg_entry_eq]
  generalize (lg_sl (.ref o :: As) ++ List.replicate (nL - (lg_sl (.ref o :: As)).length) Slot.unset).toArray = ls at hl ⊢
  exact body p e s m _ below meth c ls ⟨B.exec, B.bytes, B.returns, hml, by rw [← hcl]; exact findClass_of_methodNamed B.named, fun w hw => atoms_spec (ws := Cond.code y cc nL ret :: cc_W) B.pre w (List.mem_cons_of_mem _ hw), B.notSynchronized, hK, hF⟩ hl ⟨hP, pp_D_A hD, va_S.rf⟩
/-! its strings -/
section PPS
variable {p : Program} {l : Launch} {e : Env} {R : Room} {s : State} {m : MethodId} {args : Array Value} {below : List Frame} {meth : Method} {c : Code} {H : Heap} {locs : List Loc} {cells slots : Nat} {Q : State → Prop}
variable {cc : ByteArray} {nL : Nat} {ret : Option FieldType} {pc : Nat} {ls : Array Slot} {rest : List Value} {D : va_G} {o : Nat} {ad : Nat → Nat} {cs : ClassId} {st : mm_S} {z : pp_Z}
theorem pp_gT (C : pp_C p s m args meth c cc nL ret D o ad cs z) (hM : pp_H D o ad cs s.heap st H locs) {index : Nat} (hdg : decode cc pc = .ok (.getfield index, 3)) (hl : Cond.fieldLink RX0 index "EclipsesKept$Archive" "text" "Ljava/lang/String;" ∈ cc_W) (kk : W p l e R s m args below meth c H locs cells slots Q (F0 m (pc + 3) ls (.ref (z 0).1 :: rest))) : W p l e R s m args below meth c H locs cells slots Q (F0 m pc ls (.ref o :: rest)) :=
  pp_gA C hM 0 hdg (by decide) (by decide) hl (by rw [C.2.2.2.2.2.2.2.2.2.2.2]; exact kk)
theorem pp_ldc (C : pp_C p s m args meth c cc nL ret D o ad cs z) (i : Nat) {index : Nat} {tx : String} (hq : pp_cs[i]? = some (index, tx)) (hi : i < 5) (hdg : decode cc pc = .ok (.ldc index, 2)) (kk : W p l e R s m args below meth c H locs cells slots Q (F0 m (pc + 2) ls (.ref (z (i + 1)).1 :: rest))) : W p l e R s m args below meth c H locs cells slots Q (F0 m pc ls rest) :=
  va_ldcS C.1 C.2.1 C.2.2.2.2.1 (C.2.2.2.2.2.2.2.2.2.2.1 i hi _ hq) hdg kk
theorem pp_js {y : MethodName} {i index k fr lo maxL : Nat} {bytes : ByteArray} {rt : Option FieldType} {As : List Value} {r : Int32} {stk : List Value} (C : pp_C p s m args meth c cc nL ret D o ad cs z) (hM : pp_H D o ad cs s.heap st H locs) (hi : i < 6) (hMet : Met l y (Cond.code y bytes maxL rt :: cc_W) (mm_R fr lo) (va_Pc (.ref (z i).1 :: As) (jj_E (z i).1 (z i).2.1 (z i).2.2.1 (z i).2.2.2)) (jj_Qi r) 0 0 jj_N) (hg : GoodIn cc_W (wsV RX0 index "java/lang/String" y (Cond.code y bytes maxL rt :: cc_W))) (hd : y.cls = "java/lang/String" ∧ y.cls ≠ "java/lang/invoke/MethodHandle" ∧ y.cls ≠ "java/lang/invoke/VarHandle" ∧ (parseMethodDescriptor y.desc).map (fun d => d.parameters.length) = some k) (hR : fr + 1 ≤ R.frames ∧ 8 + (maxL + 11) + lo ≤ R.locals) (hn : As.length = k) (hsz : ls.size = nL) (hst : stk = As.reverse ++ .ref (z i).1 :: rest) (hW : (rest.map fun v => v.category).sum ≤ 8) (hdg : decode cc pc = .ok (.invokevirtual index, 3)) (hR2 : cells ≤ R.cells ∧ slots ≤ R.slots)
    (kk : W p l e R s m args below meth c H locs cells slots Q (F0 m (pc + 3) ls (.int r :: rest))) : W p l e R s m args below meth c H locs cells slots Q (F0 m pc ls stk) := by
  have hF := C.2.2.2.2.2.2.2.2
  refine jj_ai (va_runV (As := As) (rest := rest) ⟨C.1, C.2.1, C.2.2.2.1, C.2.2.2.2.1, C.2.2.2.2.2.1⟩ hMet (cwV k C.2.2.2.2.2.1 hg rfl rfl rfl hd hR) ⟨jj_blind, ?_, fun U hU hW => ⟨rfl, ?_⟩⟩ rfl hn hsz hst (lv_room hW) hdg hR2) kk
  · obtain ⟨cell, h1, h2, h3, h4⟩ := (hF.1 i hi).1
    exact ⟨cell, by rw [hM.2.2.2.1 _ (Array.getElem?_eq_some_iff.mp h1).1 h4]; exact h1, h2, h3⟩
  · have hF2 := pp_Fm hF hM.2.2 hU hW
    exact ⟨jj_Sn (hF2.1 i hi) (fun _ h => h.elim), jj_Zn hF2.2.1 (fun _ h => h.elim)⟩
end PPS
theorem hd_X0_takesPart : yX0_takesPart.cls = RX0 ∧ yX0_takesPart.cls ≠ "java/lang/invoke/MethodHandle" ∧ yX0_takesPart.cls ≠ "java/lang/invoke/VarHandle" ∧ (parseMethodDescriptor yX0_takesPart.desc).map (fun d => d.parameters.length) = some 1 := by decide +kernel
theorem hd_X0_takesBoth : yX0_takesBoth.cls = RX0 ∧ yX0_takesBoth.cls ≠ "java/lang/invoke/MethodHandle" ∧ yX0_takesBoth.cls ≠ "java/lang/invoke/VarHandle" ∧ (parseMethodDescriptor yX0_takesBoth.desc).map (fun d => d.parameters.length) = some 1 := by decide +kernel
theorem hd_X0_takesEither : yX0_takesEither.cls = RX0 ∧ yX0_takesEither.cls ≠ "java/lang/invoke/MethodHandle" ∧ yX0_takesEither.cls ≠ "java/lang/invoke/VarHandle" ∧ (parseMethodDescriptor yX0_takesEither.desc).map (fun d => d.parameters.length) = some 1 := by decide +kernel
def pp_fr (d : Nat) : Nat := d + 30
def pp_lo (d : Nat) : Nat := 40 * d + 1000
/-! which method is which of those that call one another -/
def pp_Mr (l : Launch) (D : va_G) (o : Nat) (ad : Nat → Nat) (cs : ClassId) (z : pp_Z) (w d : Nat) (x : Int32) (st : mm_S) (r : Option (Int32 × mm_S)) : Prop := match w with
  | 0 => pp_Mi l D o ad cs z yX0_takesEither cX0_takesEither 3 (some .boolean) (pp_fr d) (pp_lo d) [.int x] st r
  | 1 => pp_Mi l D o ad cs z yX0_takesBoth cX0_takesBoth 3 (some .boolean) (pp_fr d) (pp_lo d) [.int x] st r
  | _ => pp_Mi l D o ad cs z yX0_takesPart cX0_takesPart 2 (some .boolean) (pp_fr d) (pp_lo d) [.int x] st r
