/-! rows for constructors: the object under the making stands first, what it has made behind it -/
def nn_R (fr lo mc ms : Nat) : Room := { frames := fr, cells := mc, slots := ms, locals := lo }
def nn_W (o ci N : Nat) (F : Nat → Value) (ar : va_W) : va_W := (o, .inr (ci, (List.range N).map F)) :: ar
def nn_AA (U : State) : Prop := (Cond.arrayOver (.array .long)).before #[] U = true
theorem nn_AA.moved {u U : State} (hvm : u.vm.Alike U.vm) (h : nn_AA u) : nn_AA U := by
  unfold nn_AA Cond.before at h
  simp only [Cond.holds, Cond.value, beq_iff_eq] at h
  cases hc : u.vm.findClass (FieldType.array .long).toString with
  | none => simp [hc] at h
  | some comp =>
    simp only [hc, Option.bind_some, Option.bind_eq_some_iff, Option.map_eq_some_iff] at h
    obtain ⟨c, hi, k, hk, hb⟩ := h
    obtain ⟨k', hk', he⟩ := hvm.2.2 _ _ hk
    have hi' : (U.vm.classes.findIdx? fun (x : Class) => match x.kind with | .array component _ => component == comp | _ => false) = some c := by
      have e1 := va_idx_bare U.vm comp
      have e2 := va_idx_bare u.vm comp
      have e3 : U.vm.bare = u.vm.bare := by first | exact hvm.bare_eq | exact hvm.bare_eq.symm
      rw [e3] at e1
      exact e1.symm.trans (e2.trans hi)
    have f1 : U.vm.findClass (FieldType.array .long).toString = some comp := by rw [hvm.findClass]; exact hc
    have hkind : k'.kind = k.kind := by rw [he]
    unfold nn_AA Cond.before Cond.holds
    simp only [Cond.value]
    rw [f1, Option.bind_some]
    refine (congrArg (fun o : Option Nat => (o.bind (fun c => (U.vm.classes[c]?).map fun (k : Class) => match k.kind with | .array _ ty => decide (ty = FieldType.array .long) && decide (U.vm.findClass ("[" ++ (FieldType.array .long).toString) = some c) | _ => false) == some true)) hi').trans ?_
    rw [hvm.findClass]
    simp only [Option.bind_some, hk', Option.map_some, hkind]
    exact (congrArg (fun b : Bool => (some b == some true)) hb).trans rfl
def nn_N (U : State) : Prop := va_AO "EclipsesKept$Need" U ∧ va_AO "EclipsesKept$Tape" U ∧ nn_AA U
theorem nn_N.moved {u U : State} (hvm : u.vm.Alike U.vm) (h : nn_N u) : nn_N U := ⟨h.1.moved hvm, h.2.1.moved hvm, h.2.2.moved hvm⟩
def nn_C (p : Program) (s : State) (m : MethodId) (args : Array Value) (meth : Method) (c : Code) (cc : ByteArray) (nL : Nat) (ret : Option FieldType) (own nm : String) (Wd : List Cond) (D : va_G) (tys : List (ClassId × FieldType)) : Prop :=
  p.tables.exec = Jvm.exec ∧ c.code = cc ∧ meth.sig.returnType = ret ∧ c.maxLocals = nL ∧ s.vm.findClass own = some m.cls ∧ (∀ w ∈ Wd, w.before args s = true) ∧ meth.locks = false ∧ va_K D vwCl tys s ∧ nn_N s ∧ meth.name = nm
def nn_H (D : va_G) (A : Nat → Prop) (H0 : Heap) (ws : va_W) (H : Heap) (locs : List Loc) : Prop := va_P D vwCl ws H ∧ va_D A ws ∧ va_S A H0 H locs ∧ ∀ q, H0.size ≤ q → A q
def nn_U (D : va_G) (tys : List (ClassId × FieldType)) (A : Nat → Prop) (ws : va_W) (U : State) : Prop := va_P D vwCl ws U.heap ∧ va_K D vwCl tys U ∧ va_D A ws ∧ nn_N U
def nn_M (l : Launch) (D : va_G) (Wd : List Cond) (tys : List (ClassId × FieldType)) (y : MethodName) (bytes : ByteArray) (maxL fr lo mc ms : Nat) (av : List Value) (E : State → Prop) (ws : va_W) (post : va_W → Prop) : Prop :=
  ∀ sz : Nat, Met l y (Cond.code y bytes maxL none :: Wd) (nn_R fr lo mc ms) (va_Pc av (fun U => U.heap.size = sz ∧ nn_U D tys (fun _ => True) ws U ∧ E U)) (va_Qv post (nn_U D tys (va_A ws sz)) (va_A ws sz)) mc ms (va_A ws sz)
theorem nn_set {N k : Nat} {F : Nat → Value} {v : Value} (hk : k < N) : ((List.range N).map F).set k v = (List.range N).map (mm_up F k v) := by
  have h := mm_mapset (f := F) (g := mm_up F k v) (q := k) (k := k) (List.getElem?_range hk) List.nodup_range (fun j hj => if_neg hj)
  have e : mm_up F k v k = v := if_pos rfl
  rw [e] at h
  exact h
theorem nn_nd : ∀ l : List Nat, l.Nodup → va_nd l = true
  | [], _ => rfl
  | a :: l, h => by
    obtain ⟨h1, h2⟩ := List.nodup_cons.mp h
    show (decide (a ∉ l) && va_nd l) = true
    rw [nn_nd l h2, decide_eq_true h1]
    rfl
theorem nn_take {α : Type} (ws : List α) (x : List α) : (List.range ws.length).map (fun i => (ws ++ x)[i]?) = ws.map some := by
  apply List.ext_getElem?
  intro i
  by_cases h : i < ws.length
  · rw [List.getElem?_map, List.getElem?_range h, List.getElem?_map]
    show some ((ws ++ x)[i]?) = _
    rw [List.getElem?_append_left h, List.getElem?_eq_getElem h]
    rfl
  · rw [List.getElem?_eq_none (by rw [List.length_map, List.length_range]; omega), List.getElem?_eq_none (by rw [List.length_map]; omega)]
theorem nn_arrc {c : ClassId} {N : Nat} {f g : Nat → Value} (h : ∀ j, j < N → f j = g j) : arrV c N f = arrV c N g := by
  unfold arrV
  congr 1
  apply Array.ext'
  rw [Array.toList_ofFn, Array.toList_ofFn]
  exact congrArg List.ofFn (funext fun j => h j.val j.isLt)
theorem nn_outer (c : ClassId) (N h0 : Nat) : ∀ i : Nat, Jvm.Free.Multi.outerC c N h0 i = arrV c N (fun j => if j < i then .ref (h0 + 1 + j) else .null)
  | 0 => by
    show ({ cls := c, slots := Array.replicate N .null, vm := .none } : Cell) = _
    rw [arrV_new]
    exact nn_arrc (fun j _ => by rw [if_neg (Nat.not_lt_zero j)])
  | i + 1 => by
    show (Jvm.Free.Multi.outerC c N h0 i).setSlot i (.ref (h0 + 1 + i)) = _
    rw [nn_outer c N h0 i, arrV_store]
    refine nn_arrc (fun j _ => ?_)
    show (if j = i then _ else _) = _
    by_cases e : j = i
    · subst e
      rw [if_pos rfl, if_pos (Nat.lt_succ_self _)]
    · rw [if_neg e]
      show (if j < i then Value.ref (h0 + 1 + j) else Value.null) = _
      by_cases h : j < i
      · rw [if_pos h, if_pos (Nat.lt_succ_of_lt h)]
      · rw [if_neg h, if_neg (by omega)]
theorem nn_pushD {A : Nat → Prop} {ws w2 : va_W} {n : Nat} (hD : va_D A ws) (hlt : ∀ (k : Nat) (q : Nat × va_E), ws[k]? = some q → q.1 < n) (h2 : ∀ (k : Nat) (q : Nat × va_E), w2[k]? = some q → q.1 = n + k) (hA : ∀ q, n ≤ q → A q) : va_D A (ws ++ w2) :=
  va_D.app hD ⟨fun i j p q hp hq e => by
    have e1 := h2 i p hp
    have e2 := h2 j q hq
    omega, fun k q hq => hA _ (by rw [h2 k q hq]; omega)⟩ (fun i j p q hp hq e => by
    have e1 := hlt i p hp
    have e2 := h2 j q hq
    omega)
theorem nn_uI {U : State} {a b : ClassId} (h1 : va_RA U a .int) (h2 : va_RA U b .int) : a = b := Option.some.inj ((va_nm_int h1).symm.trans (va_nm_int h2))
theorem nn_uJ {U : State} {a b : ClassId} (h1 : va_RA U a .long) (h2 : va_RA U b .long) : a = b := Option.some.inj ((va_nm_long h1).symm.trans (va_nm_long h2))
theorem nn_uZ {U : State} {a b : ClassId} (h1 : va_RA U a .boolean) (h2 : va_RA U b .boolean) : a = b := Option.some.inj ((va_nm_boolean h1).symm.trans (va_nm_boolean h2))
theorem nn_uB {U : State} {a b : ClassId} (h1 : va_RA U a .byte) (h2 : va_RA U b .byte) : a = b := Option.some.inj ((va_nm_byte h1).symm.trans (va_nm_byte h2))
theorem nn_uO {U : State} {a b : ClassId} {C : String} (h1 : va_RA U a (.object C)) (h2 : va_RA U b (.object C)) : a = b := by
  obtain ⟨_, _, _, _, _, f1⟩ := h1
  obtain ⟨_, _, _, _, _, f2⟩ := h2
  exact Option.some.inj (f1.symm.trans f2)
section NN
variable {p : Program} {l : Launch} {e : Env} {R : Room} {s : State} {m : MethodId} {args : Array Value} {below : List Frame} {meth : Method} {c : Code} {H : Heap} {locs : List Loc} {cells slots : Nat} {Q : State → Prop}
variable {cc : ByteArray} {nL : Nat} {ret : Option FieldType} {own nm : String} {Wd : List Cond} {pc : Nat} {ls : Array Slot} {rest : List Value} {D : va_G} {tys : List (ClassId × FieldType)} {A : Nat → Prop} {ws ar : va_W} {o ci N : Nat} {F : Nat → Value}

theorem nn_own (C : nn_C p s m args meth c cc nL ret own nm Wd D tys) : s.vm.findClass own = some m.cls := C.2.2.2.2.1
theorem nn_w (C : nn_C p s m args meth c cc nL ret own nm Wd D tys) {w : Cond} (h : w ∈ Wd) : w.before args s = true := C.2.2.2.2.2.1 w h
theorem nn_K (C : nn_C p s m args meth c cc nL ret own nm Wd D tys) : va_K D vwCl tys s := C.2.2.2.2.2.2.2.1
theorem nn_nm (C : nn_C p s m args meth c cc nL ret own nm Wd D tys) : meth.name = nm := C.2.2.2.2.2.2.2.2.2
theorem nn_obj (C : nn_C p s m args meth c cc nL ret own nm Wd D tys) {a idx : Nat} (hsz : ls.size = nL) (h1 : Cond.methodLink own idx Lib.objectInit ∈ Wd) (h2 : Cond.instanceMethod Lib.objectInit ∈ Wd) (h3 : Cond.code Lib.objectInit ⟨#[0xb1]⟩ 1 none ∈ Wd) (hdg : decode cc pc = .ok (.invokespecial idx, 3)) (hf : 1 ≤ R.frames) (hlo : 0 + 12 ≤ R.locals)
    (kk : W p l e R s m args below meth c H locs cells slots Q (F0 m (pc + 3) ls [])) : W p l e R s m args below meth c H locs cells slots Q (F0 m pc ls [.ref a]) :=
  W.objInit C.1 C.2.1 (nn_own C) (nn_w C h1) (nn_w C h2) (nn_w C h3) rfl (by rw [C.2.2.2.1]; exact hsz) rfl hdg hf hlo kk
theorem nn_put (C : nn_C p s m args meth c cc nL ret own nm Wd D tys) (hM : nn_H D A s.heap (nn_W o ci N F ar) H locs) {ref K : String} {T : u_T} {k index : Nat} {ty0 : Nat → FieldType} {v : Value} (hc : vwCl[ci]? = some (K, T, N)) (hin : ∀ w ∈ u_ws K T N, w ∈ Wd) (hty : ∀ k, k < N → parseFieldDescriptor (T k).2.2.1 = some (ty0 k)) (hnm : ∀ a, a < N → ∀ b, b < N → a ≠ b → (T a).2.1 ≠ (T b).2.1) (hk : k < N) (hl : Cond.fieldLink own index ref (T k).2.1 (T k).2.2.1 ∈ Wd) (hr : (T k).1 = ref) (hfin : (T k).2.2.2 = false) (hn : narrow (ty0 k) v = v) (hf : fits (ty0 k) v = true) (hdg : decode cc pc = .ok (.putfield index, 3))
    (kk : ∀ (H : Heap) (locs : List Loc), nn_H D A s.heap (nn_W o ci N (mm_up F k v) ar) H locs → W p l e R s m args below meth c H locs cells slots Q (F0 m (pc + 3) ls rest)) : W p l e R s m args below meth c H locs cells slots Q (F0 m pc ls (v :: .ref o :: rest)) := by
  refine va_put (D := D) (ci := ci) (v := v) (ty := ty0 k) (C := K) (T := T) (N := N) C.1 C.2.1 (fun w hw => nn_w C hw) hin ty0 hty hnm (nn_own C) (nn_K C) hM.1 hM.2.1 hM.2.2.1 0 (fs := (List.range N).map F) rfl hc k hk (nn_w C hl) (fun _ h => by rw [hr] at h; exact h) hfin (hty k hk) hn hf (by rw [List.length_map, List.length_range]; exact hk) hdg (fun H locs hP hD hS => ?_)
  rw [nn_set hk] at hP hD
  exact kk H locs ⟨hP, hD, hS, hM.2.2.2⟩
theorem nn_putF (C : nn_C p s m args meth c cc nL ret own nm Wd D tys) (hM : nn_H D A s.heap (nn_W o ci N F ar) H locs) {K : String} {T : u_T} {k index : Nat} {ty0 : Nat → FieldType} {v : Value} (hc : vwCl[ci]? = some (K, T, N)) (hin : ∀ w ∈ u_ws K T N, w ∈ Wd) (hty : ∀ k, k < N → parseFieldDescriptor (T k).2.2.1 = some (ty0 k)) (hnm : ∀ a, a < N → ∀ b, b < N → a ≠ b → (T a).2.1 ≠ (T b).2.1) (hk : k < N) (hl : Cond.fieldLink own index own (T k).2.1 (T k).2.2.1 ∈ Wd) (hr : (T k).1 = own) (hin2 : nm = "<init>") (hfin : (T k).2.2.2 = true) (hn : narrow (ty0 k) v = v) (hf : fits (ty0 k) v = true) (hdg : decode cc pc = .ok (.putfield index, 3))
    (kk : ∀ (H : Heap) (locs : List Loc), nn_H D A s.heap (nn_W o ci N (mm_up F k v) ar) H locs → W p l e R s m args below meth c H locs cells slots Q (F0 m (pc + 3) ls rest)) : W p l e R s m args below meth c H locs cells slots Q (F0 m pc ls (v :: .ref o :: rest)) := by
  refine va_putF (D := D) (ci := ci) (v := v) (ty := ty0 k) (C := K) (T := T) (N := N) C.1 C.2.1 (fun w hw => nn_w C hw) hin ty0 hty hnm (nn_own C) (nn_K C) hM.1 hM.2.1 hM.2.2.1 0 (fs := (List.range N).map F) rfl hc k hk (nn_w C hl) (fun _ h => by rw [hr] at h; exact h) hfin ((nn_nm C).trans hin2) hr (hty k hk) hn hf (by rw [List.length_map, List.length_range]; exact hk) hdg (fun H locs hP hD hS => ?_)
  rw [nn_set hk] at hP hD
  exact kk H locs ⟨hP, hD, hS, hM.2.2.2⟩
theorem nn_arr (C : nn_C p s m args meth c cc nL ret own nm Wd D tys) (hM : nn_H D A s.heap (nn_W o ci N F ar) H locs) {atype : ArrayType} {ty : FieldType} {t0 N' : Nat} {c0 : ClassId} {n : Int32} (a0 : vp_A) (harr : Cond.arrayClass (newarray.typeOf atype) ∈ Wd) (hty : newarray.typeOf atype = ty) (ht : tys[t0]? = some (c0, ty)) (hu : ∀ {U : State} {a b : ClassId}, va_RA U a ty → va_RA U b ty → a = b) (ha : ∀ cA : ClassId, vp_cell cA a0 = arrV cA N' (fun _ => defaultValue ty)) (hn : ¬ n < 0) (hN : n.toNatClampNeg = N') (hbytes : N' * componentBytes ty ≤ 536870912) (hcells : cells + 1 ≤ R.cells) (hslots : slots + N' ≤ R.slots) (hdg : decode cc pc = .ok (.newarray atype, 2))
    (kk : ∀ (q : Nat) (H : Heap), nn_H D A s.heap (nn_W o ci N F (ar ++ [(q, .inl (c0, a0))])) H locs → W p l e R s m args below meth c H locs (cells + 1) (slots + N') Q (F0 m (pc + 2) ls (.ref q :: rest))) : W p l e R s m args below meth c H locs cells slots Q (F0 m pc ls (.int n :: rest)) := by
  refine va_newa (atype := atype) C.1 C.2.1 (nn_w C harr) hty (nn_K C) hM.1 hM.2.1 hM.2.2.1 hM.2.2.2 ha hn hN hbytes hcells hslots hdg (fun q cA H1 hK hP hD hS => ?_)
  have e : cA = c0 := hu (hK.2 tys.length (cA, ty) (by simp)).2 ((nn_K C).2 t0 _ ht).2
  subst e
  exact kk q H1 ⟨hP, hD, hS, hM.2.2.2⟩
theorem nn_multi (C : nn_C p s m args meth c cc nL ret own nm Wd D tys) (hM : nn_H D A s.heap (nn_W o ci N F ar) H locs) {t1 t0 N' K' index : Nat} {c1 c0 : ClassId} {n k : Int32} (hcl : Cond.classLink own index "[[J" ∈ Wd) (harr : Cond.arrayClass .long ∈ Wd) (ht1 : tys[t1]? = some (c1, .array .long)) (ht0 : tys[t0]? = some (c0, .long)) (hn : ¬ n < 0) (hk : ¬ k < 0) (hN : n.toNatClampNeg = N') (hK' : k.toNatClampNeg = K') (hb1 : N' * 4 ≤ 536870912) (hb2 : K' * 8 ≤ 536870912) (hb3 : K' ≤ 536870912) (hcells : cells + (1 + N') ≤ R.cells) (hslots : slots + (N' + N' * K') ≤ R.slots) (hdg : decode cc pc = .ok (.multianewarray index 2, 4))
    (kk : ∀ (q : Nat) (H : Heap), nn_H D A s.heap (nn_W o ci N F (ar ++ ((q, .inl (c1, N', .inr (.inr (.inr (.inr (fun j => some (q + 1 + j))))))) :: (List.range N').map (fun j => (q + 1 + j, .inl (c0, K', .inr (.inl (fun _ => 0)))))))) H locs → W p l e R s m args below meth c H locs (cells + 1 + N') (slots + N' + N' * K') Q (F0 m (pc + 4) ls (.ref q :: rest))) : W p l e R s m args below meth c H locs cells slots Q (F0 m pc ls (.int k :: .int n :: rest)) := by
  subst hN
  subst hK'
  have en : "[" ++ (FieldType.array .long).toString = "[[J" := by decide +kernel
  have ej : (FieldType.array .long).toString = "[J" := by decide +kernel
  intro T hT Xs
  obtain ⟨vm₁, cA, comp, -, fA, fC, -, -, X', step⟩ := Xs.multianewarray2F (ty := .long) C.1 (nn_own C) (by rw [en]; exact nn_w C hcl) C.2.2.2.2.2.2.2.2.1.2.2 (nn_w C harr) (g := F0 m pc ls (.int k :: .int n :: rest)) rfl (by rw [C.2.1]; exact hdg) rfl hn hk hb1 hb2 hb3 rfl rfl hcells hslots
  have ea : c1 = cA := Option.some.inj ((((nn_K C).2 t1 _ ht1).2 : s.vm.findClass ("[" ++ (FieldType.array .long).toString) = some c1).symm.trans fA)
  have ec : c0 = comp := Option.some.inj ((va_nm_long ((nn_K C).2 t0 _ ht0).2).symm.trans (by rw [← ej]; exact fC))
  subst ea
  subst ec
  generalize hF : Jvm.Free.Multi.fill (T.setVm vm₁) c1 c0 n.toNatClampNeg k.toNatClampNeg (defaultValue .long) n.toNatClampNeg = Fs at X' step
  have hTh : (T.setVm vm₁).heap = H := hT
  obtain ⟨f1, f2, -, -⟩ := Jvm.Free.Multi.fill_facts (T.setVm vm₁) c1 c0 n.toNatClampNeg k.toNatClampNeg (defaultValue .long) n.toNatClampNeg
  rw [hF, hTh] at f1 f2
  have hold : ∀ x : Nat, x < H.size → Fs.heap[x]? = H[x]? := fun x hx => by
    have h := Jvm.Free.Multi.fill_old (T.setVm vm₁) c1 c0 n.toNatClampNeg k.toNatClampNeg (defaultValue .long) (a := x) (by rw [hTh]; exact hx) n.toNatClampNeg
    rw [hF, hTh] at h
    exact h
  have hrow : ∀ j : Nat, j < n.toNatClampNeg → Fs.heap[H.size + 1 + j]? = some (vp_cell c0 (k.toNatClampNeg, .inr (.inl (fun _ => 0)))) := fun j hj => by
    have h := Jvm.Free.Multi.fill_inner (T.setVm vm₁) c1 c0 n.toNatClampNeg k.toNatClampNeg (defaultValue .long) n.toNatClampNeg j hj
    rw [hF, hTh] at h
    rw [h]
    exact congrArg some (arrV_new c0 k.toNatClampNeg (.long 0))
  rw [nn_outer] at f2
  have f2 : Fs.heap[H.size]? = some (vp_cell c1 (n.toNatClampNeg, .inr (.inr (.inr (.inr (fun j => some (H.size + 1 + j))))))) := by
    rw [f2]
    exact congrArg some (nn_arrc (f := fun j => if j < n.toNatClampNeg then .ref (H.size + 1 + j) else .null) (g := fun j => va_rf (some (H.size + 1 + j))) (fun j hj => if_pos hj))
  have hlt : ∀ (k : Nat) (q : Nat × va_E), (nn_W o ci N F ar)[k]? = some q → q.1 < H.size := fun k q hq => (hM.1 k q hq).lt
  have hP1 : va_P D vwCl ((H.size, .inl (c1, n.toNatClampNeg, .inr (.inr (.inr (.inr (fun j => some (H.size + 1 + j))))))) :: (List.range n.toNatClampNeg).map (fun j => (H.size + 1 + j, .inl (c0, k.toNatClampNeg, .inr (.inl (fun _ => 0)))))) Fs.heap := fun i q hq => by
    cases i with
    | zero =>
      cases hq
      exact f2
    | succ i =>
      rw [List.getElem?_cons_succ, List.getElem?_map] at hq
      obtain ⟨j, hj, rfl⟩ := Option.map_eq_some_iff.mp hq
      obtain ⟨hl, e⟩ := List.getElem?_eq_some_iff.mp hj
      rw [List.getElem_range] at e
      subst e
      rw [List.length_range] at hl
      exact hrow i hl
  have hD1 : va_D A (nn_W o ci N F ar ++ ((H.size, .inl (c1, n.toNatClampNeg, .inr (.inr (.inr (.inr (fun j => some (H.size + 1 + j))))))) :: (List.range n.toNatClampNeg).map (fun j => (H.size + 1 + j, .inl (c0, k.toNatClampNeg, .inr (.inl (fun _ => 0))))))) := nn_pushD hM.2.1 hlt (fun i q hq => by
    cases i with
    | zero =>
      cases hq
      rfl
    | succ i =>
      rw [List.getElem?_cons_succ, List.getElem?_map] at hq
      obtain ⟨j, hj, rfl⟩ := Option.map_eq_some_iff.mp hq
      obtain ⟨hl, e⟩ := List.getElem?_eq_some_iff.mp hj
      rw [List.getElem_range] at e
      subst e
      show H.size + 1 + i = H.size + (i + 1)
      omega) (fun q hq => hM.2.2.2 q (Nat.le_trans hM.2.2.1.1 hq))
  obtain ⟨t, h1, h2⟩ := kk H.size Fs.heap ⟨(hM.1.kept (fun k q hq => hold q.1 (hlt k q hq))).app hP1, hD1, ⟨by rw [f1]; have := hM.2.2.1.1; omega, fun q h1 h2 => (hold q (Nat.lt_of_lt_of_le h1 hM.2.2.1.1)).trans (hM.2.2.1.2.1 q h1 h2), hM.2.2.1.2.2⟩, hM.2.2.2⟩ Fs rfl X'
  refine ⟨t, step t ?_, h2⟩
  rw [hT]
  exact h1
theorem nn_anew (C : nn_C p s m args meth c cc nL ret own nm Wd D tys) (hM : nn_H D A s.heap (nn_W o ci N F ar) H locs) {t0 N' index : Nat} {K : String} {c0 : ClassId} {n : Int32} (hcl : Cond.classLink own index K ∈ Wd) (hover : va_AO K s) (ht : tys[t0]? = some (c0, .object K)) (hn : ¬ n < 0) (hN : n.toNatClampNeg = N') (hbytes : N' * 4 ≤ 536870912) (hcells : cells + 1 ≤ R.cells) (hslots : slots + N' ≤ R.slots) (hdg : decode cc pc = .ok (.anewarray index, 3))
    (kk : ∀ (q : Nat) (H : Heap), nn_H D A s.heap (nn_W o ci N F (ar ++ [(q, .inl (c0, N', .inr (.inr (.inr (.inr (fun _ => none))))))])) H locs → W p l e R s m args below meth c H locs (cells + 1) (slots + N') Q (F0 m (pc + 3) ls (.ref q :: rest))) : W p l e R s m args below meth c H locs cells slots Q (F0 m pc ls (.int n :: rest)) := by
  refine va_newq C.1 C.2.1 (nn_own C) (nn_w C hcl) hover (nn_K C) hM.1 hM.2.1 hM.2.2.1 hM.2.2.2 hn hN hbytes hcells hslots hdg (fun q cA H1 hK hP hD hS => ?_)
  have e : cA = c0 := nn_uO (hK.2 tys.length (cA, .object K) (by simp)).2 ((nn_K C).2 t0 _ ht).2
  subst e
  exact kk q H1 ⟨hP, hD, hS, hM.2.2.2⟩
theorem nn_new (C : nn_C p s m args meth c cc nL ret own nm Wd D tys) (hM : nn_H D A s.heap (nn_W o ci N F ar) H locs) {c1 N1 index : Nat} {K : String} {T : u_T} {ty0 : Nat → FieldType} (F1 : Nat → Value) (hc : vwCl[c1]? = some (K, T, N1)) (hin : ∀ w ∈ u_ws K T N1, w ∈ Wd) (hty : ∀ k, k < N1 → parseFieldDescriptor (T k).2.2.1 = some (ty0 k)) (hcl : Cond.classLink own index K ∈ Wd) (hi : Cond.instantiable K N1 ∈ Wd) (hini : Cond.initialized K ∈ Wd) (hf : ∀ j, j < N1 → defaultValue (ty0 j) = F1 j) (hcells : cells + 1 ≤ R.cells) (hslots : slots + N1 ≤ R.slots) (hdg : decode cc pc = .ok (.new index, 3))
    (kk : ∀ (q : Nat) (H : Heap), nn_H D A s.heap (nn_W o ci N F (ar ++ [(q, .inr (c1, (List.range N1).map F1))])) H locs → W p l e R s m args below meth c H locs (cells + 1) (slots + N1) Q (F0 m (pc + 3) ls (.ref q :: rest))) : W p l e R s m args below meth c H locs cells slots Q (F0 m pc ls rest) := by
  refine va_new (ci := c1) (fs := (List.range N1).map F1) (C := K) (T := T) (N := N1) C.1 C.2.1 (fun w hw => nn_w C hw) hin ty0 hty (nn_own C) (nn_w C hcl) (nn_w C hi) (nn_w C hini) (nn_K C) hM.1 hM.2.1 hM.2.2.1 hM.2.2.2 hc (fun j hj => ?_) hcells hslots hdg (fun q H1 hP hD hS => kk q H1 ⟨hP, hD, hS, hM.2.2.2⟩)
  rw [hf j hj]
  unfold vp_V
  rw [List.getD_eq_getElem?_getD, List.getElem?_map, List.getElem?_range hj]
  rfl
theorem nn_ast (C : nn_C p s m args meth c cc nL ret own nm Wd D tys) {q t0 n : Nat} {c0 : ClassId} {f : Nat → Int32} {i x : Int32} (hM : nn_H D A s.heap (nn_W o ci N F (ar ++ [(q, .inl (c0, n, .inl f))])) H locs) (ht : tys[t0]? = some (c0, .int)) (hin : vp_in i n) (hdg : decode cc pc = .ok (.iastore, 1))
    (kk : ∀ (H : Heap) (locs : List Loc), nn_H D A s.heap (nn_W o ci N F (ar ++ [(q, .inl (c0, n, .inl (upd f i.toNatClampNeg x)))])) H locs → W p l e R s m args below meth c H locs cells slots Q (F0 m (pc + 1) ls rest)) : W p l e R s m args below meth c H locs cells slots Q (F0 m pc ls (.int x :: .int i :: .ref q :: rest)) := by
  have e : ∀ y : Nat × va_E, (nn_W o ci N F (ar ++ [(q, .inl (c0, n, .inl f))])).set (ar.length + 1) y = nn_W o ci N F (ar ++ [y]) := fun y => by
    unfold nn_W
    rw [List.set_cons_succ, List.set_append_right _ _ (Nat.le_refl _), Nat.sub_self]
    rfl
  refine va_iast C.1 C.2.1 (nn_K C) hM.1 hM.2.1 hM.2.2.1 (ar.length + 1) t0 (cA := c0) (n := n) (f := f) ?_ ht hin hdg (fun H locs hP hD hS => ?_)
  · unfold nn_W
    rw [List.getElem?_cons_succ, List.getElem?_append_right (Nat.le_refl _), Nat.sub_self]
    rfl
  · rw [e] at hP hD
    exact kk H locs ⟨hP, hD, hS, hM.2.2.2⟩
theorem nn_vr {post : va_W → Prop} (C : nn_C p s m args meth c cc nL none own nm Wd D tys) (hM : nn_H D A s.heap ws H locs) (hp : post ws) (hdg : decode cc pc = .ok (.return_, 1)) : W p l e R s m args below meth c H locs cells slots (MQ below (va_Qv post (nn_U D tys A) A) args s cells slots A) (F0 m pc ls []) :=
  W.vret C.1 C.2.1 C.2.2.1 (fun t ht hW => ⟨⟨ws, rfl, hp, by rw [ht]; exact hM.1, va_K.moved hW.alike (nn_K C), hM.2.1, C.2.2.2.2.2.2.2.2.1.moved hW.alike⟩, hM.2.2.1.F ht⟩) hM.2.2.1.2.2 hdg C.2.2.2.2.2.2.1
theorem nn_after {q : Nat} {x : va_E} {E : State → Prop} {y : MethodName} {bytes : ByteArray} {maxL fr lo mc ms : Nat} {As : List Value} {post : va_W → Prop} {stk : List Value} {free : Nat → Prop} (C : nn_C p s m args meth c cc nL ret own nm Wd D tys) (hM : nn_H D A s.heap (ws ++ [(q, x)]) H locs)
    (hrun : va_Run p l e R s m args below meth c H locs cells slots mc ms (F0 m pc ls stk) rest (va_Qv post (nn_U D tys (va_A [(q, x)] H.size)) (va_A [(q, x)] H.size) (Value.ref q :: As).toArray) (va_A [(q, x)] H.size))
    (kk : ∀ (u : va_W) (H : Heap) (locs : List Loc), post u → nn_H D A s.heap (ws ++ u) H locs → W p l e R s m args below meth c H locs (cells + mc) (slots + ms) Q (F0 m (pc + 3) ls rest)) : W p l e R s m args below meth c H locs cells slots Q (F0 m pc ls stk) := by
  have hC : ([ws.length] : List Nat).map (fun i => (ws ++ [(q, x)])[i]?) = [(q, x)].map some := by
    show [(ws ++ [(q, x)])[ws.length]?] = [some (q, x)]
    rw [List.getElem?_append_right (Nat.le_refl _), Nat.sub_self]
    rfl
  have hFc := va_free (wc := [(q, x)]) hM.2.1 hM.2.2.1 hM.2.2.2 [ws.length] hC
  refine va_callv hrun hM.2.2.1 (fun q _ h => hFc q h) hFc (fun u t H1 locs1 ht hvm hw hB hz1 hk1 hS => ?_)
  have hP1 := hB.1
  rw [ht] at hP1
  obtain ⟨hP2, hD2⟩ := va_join (wr := ws) (w1 := u) hM.1 hM.2.1 [ws.length] (List.range ws.length) hC (nn_take ws _) (nn_nd _ List.nodup_range) (fun i hi h => by
    have h1 := List.mem_range.mp hi
    rw [List.mem_singleton] at h
    omega) hk1 hFc hP1 hB.2.2.1
  exact kk u H1 locs1 hw ⟨hP2, hD2, hS, hM.2.2.2⟩
theorem nn_pre {q : Nat} {x : va_E} {E : State → Prop} {As : List Value} (C : nn_C p s m args meth c cc nL ret own nm Wd D tys) (hM : nn_H D A s.heap (ws ++ [(q, x)]) H locs) (hE : ∀ U : State, s.WarmedH U.vm → E U) (hmv : ∀ (u U : State), u.vm = U.vm → E u → E U) : PreS s H (va_Pc (.ref q :: As) (fun U => U.heap.size = H.size ∧ nn_U D tys (fun _ => True) [(q, x)] U ∧ E U)) (.ref q :: As) := by
  have hC : ([ws.length] : List Nat).map (fun i => (ws ++ [(q, x)])[i]?) = [(q, x)].map some := by
    show [(ws ++ [(q, x)])[ws.length]?] = [some (q, x)]
    rw [List.getElem?_append_right (Nat.le_refl _), Nat.sub_self]
    rfl
  have hP1 := hM.1.sub (ws' := [(q, x)]) [ws.length] (by
    show List.filterMap _ [ws.length] = _
    rw [List.filterMap_cons, List.getElem?_append_right (Nat.le_refl _), Nat.sub_self]
    rfl)
  have hD1 := hM.2.1.sub (ws' := [(q, x)]) [ws.length] rfl hC
  refine ⟨fun a U g mk h => ?_, fun U hU hW => ⟨rfl, by rw [hU], ⟨by rw [hU]; exact hP1, va_K.moved hW.alike (nn_K C), hD1.weaken (fun _ _ _ _ => trivial), C.2.2.2.2.2.2.2.2.1.moved hW.alike⟩, hE U hW⟩⟩
  obtain ⟨q0, q1, ⟨qP, qK, qD, qN⟩, qE⟩ := h
  exact ⟨q0, q1, ⟨qP, va_K.moved (u := U) (U := U.calling g mk a) (Vm.Alike.refl U.vm) qK, qD, qN.moved (Vm.Alike.refl U.vm)⟩, hmv U _ rfl qE⟩
theorem nn_call {q : Nat} {x : va_E} {y : MethodName} {bytes : ByteArray} {maxL fr lo mc ms n index : Nat} {As : List Value} {post : va_W → Prop} {stk : List Value} (C : nn_C p s m args meth c cc nL ret own nm Wd D tys) (hM : nn_H D A s.heap (ws ++ [(q, x)]) H locs) (hMet : nn_M l D Wd tys y bytes maxL fr lo mc ms (.ref q :: As) (fun _ => True) [(q, x)] post) (hg : GoodIn Wd (Cond.code y bytes maxL none :: Wd)) (h1 : Cond.initialized y.cls ∈ Wd) (h2 : Cond.methodLink own index y ∈ Wd) (h3 : Cond.instanceMethod y ∈ Wd) (hy : y.name = "<init>") (hd : y.cls ≠ "java/lang/invoke/MethodHandle" ∧ y.cls ≠ "java/lang/invoke/VarHandle" ∧ (parseMethodDescriptor y.desc).map (fun d => d.parameters.length) = some n) (hR : fr + 1 ≤ R.frames ∧ 8 + (maxL + 11) + lo ≤ R.locals) (hn : As.length = n) (hsz : ls.size = nL) (hst : stk = As.reverse ++ .ref q :: rest) (hW : (rest.map fun v => v.category).sum ≤ 8) (hdg : decode cc pc = .ok (.invokespecial index, 3)) (hf : cells + mc ≤ R.cells ∧ slots + ms ≤ R.slots)
    (kk : ∀ (u : va_W) (H : Heap) (locs : List Loc), post u → nn_H D A s.heap (ws ++ u) H locs → W p l e R s m args below meth c H locs (cells + mc) (slots + ms) Q (F0 m (pc + 3) ls rest)) : W p l e R s m args below meth c H locs cells slots Q (F0 m pc ls stk) := by
  refine nn_after (E := fun _ => True) (y := y) (bytes := bytes) (maxL := maxL) (fr := fr) (lo := lo) (As := As) (free := fun _ => True) C hM (va_runI (As := As) (rest := rest) ⟨C.1, C.2.1, C.2.2.2.1, nn_own C, fun w hw => nn_w C hw⟩ (hMet H.size) (cwI n (fun w hw => nn_w C hw) hg rfl rfl rfl (nn_w C h1) (nn_w C h2) (nn_w C h3) hy hd hR) (nn_pre C hM (fun _ _ => trivial) (fun _ _ _ _ => trivial)) rfl hn hsz hst ?_ hdg hf) kk
  show 2 * 0 + _ ≤ 8
  omega
theorem nn_callN {q : Nat} {x : va_E} {y : MethodName} {host : String} {bytes : ByteArray} {maxL fr lo mc ms n index : Nat} {As : List Value} {post : va_W → Prop} {stk : List Value} (C : nn_C p s m args meth c cc nL ret own nm Wd D tys) (hM : nn_H D A s.heap (ws ++ [(q, x)]) H locs) (hMet : nn_M l D Wd tys y bytes maxL fr lo mc ms (.ref q :: As) (fun _ => True) [(q, x)] post) (hg : GoodIn Wd (Cond.code y bytes maxL none :: Wd)) (h1 : Cond.initialized y.cls ∈ Wd) (h2 : va_Nw (.methodLinkNest own index y host) s) (h3 : Cond.instanceMethod y ∈ Wd) (hy : y.name = "<init>") (hd : y.cls ≠ "java/lang/invoke/MethodHandle" ∧ y.cls ≠ "java/lang/invoke/VarHandle" ∧ (parseMethodDescriptor y.desc).map (fun d => d.parameters.length) = some n) (hR : fr + 1 ≤ R.frames ∧ 8 + (maxL + 11) + lo ≤ R.locals) (hn : As.length = n) (hsz : ls.size = nL) (hst : stk = As.reverse ++ .ref q :: rest) (hW : (rest.map fun v => v.category).sum ≤ 8) (hdg : decode cc pc = .ok (.invokespecial index, 3)) (hf : cells + mc ≤ R.cells ∧ slots + ms ≤ R.slots)
    (kk : ∀ (u : va_W) (H : Heap) (locs : List Loc), post u → nn_H D A s.heap (ws ++ u) H locs → W p l e R s m args below meth c H locs (cells + mc) (slots + ms) Q (F0 m (pc + 3) ls rest)) : W p l e R s m args below meth c H locs cells slots Q (F0 m pc ls stk) := by
  refine nn_after (E := fun _ => True) (y := y) (bytes := bytes) (maxL := maxL) (fr := fr) (lo := lo) (As := As) (free := fun _ => True) C hM (va_runIN (As := As) (rest := rest) ⟨C.1, C.2.1, C.2.2.2.1, nn_own C, fun w hw => nn_w C hw⟩ (hMet H.size) ⟨va_cnB n (fun w hw => nn_w C hw) hg rfl rfl rfl h2 (nn_w C h1) hd hR, hy, nn_w C h3⟩ (nn_pre C hM (fun _ _ => trivial) (fun _ _ _ _ => trivial)) rfl hn hsz hst ?_ hdg hf) kk
  show 2 * 0 + _ ≤ 8
  omega
end NN
theorem nn_enter {l : Launch} {D : va_G} {Wd : List Cond} {tys : List (ClassId × FieldType)} {y : MethodName} {own : String} {fr lo mc ms : Nat} {av : List Value} {cc : ByteArray} {nL : Nat} {E : State → Prop} {ws : va_W} {post : va_W → Prop} (hy : plainFor y = true) (hcl : y.cls = own) (hn : (lg_sl av).length ≤ nL)
    (body : ∀ p e s m args below meth c ls A, nn_C p s m args meth c cc nL none own y.name Wd D tys → E s → lv_has ls nL (lv_args 0 av) → nn_H D A s.heap ws s.heap [] → W p l e (nn_R fr lo mc ms) s m args below meth c s.heap [] 0 0 (MQ below (va_Qv post (nn_U D tys A) A) args s mc ms A) (F0 m 0 ls [])) : nn_M l D Wd tys y cc nL fr lo mc ms av E ws post := by
  intro sz
  refine cc_ofW (cc := cc) (maxL := nL) (ret := none) hy rfl ?_
  intro p e s m args below meth c s₁ B hml hv
  obtain ⟨rfl, hsz, ⟨hP, hK, hD, hN⟩, hE⟩ := hv
  subst hsz
  have hl := lv_entry av hn
  rw [lg_entry_eq]
  generalize (lg_sl av ++ List.replicate (nL - (lg_sl av).length) Slot.unset).toArray = ls at hl ⊢
  exact body p e s m _ below meth c ls _ ⟨B.exec, B.bytes, B.returns, hml, by rw [← hcl]; exact findClass_of_methodNamed B.named, fun w hw => atoms_spec (ws := Cond.code y cc nL none :: Wd) B.pre w (List.mem_cons_of_mem _ hw), B.notSynchronized, hK, hN, (name_of_methodNamed B.named B.method).1⟩ hE hl ⟨hP, hD.self, va_S.rf, fun q h => Or.inr h⟩
