/-! methods that make cells: their worlds are lists of cells -/
def nn_R (fr lo mc ms : Nat) : Room := { frames := fr, cells := mc, slots := ms, locals := lo }
def nn_W (o ci N : Nat) (F : Nat → Value) (ar : va_W) : va_W := (o, .inr (ci, (List.range N).map F)) :: ar
def nn_AA (U : State) : Prop := (Cond.arrayOver (.array .long)).before #[] U = true
theorem nn_AA.moved {u U : State} (hvm : u.vm.Alike U.vm) (h : nn_AA u) : nn_AA U := by
  unfold nn_AA Cond.before at h
  simp only [Cond.holds, Cond.value, beq_iff_eq] at h
  cases hc : u.vm.findClass (FieldType.array .long).toString with
  | none => simp [hc] at h
  | some comp =>
    simp only [hc, Option.bind_some, Option.bind_eq_some_iff, Option.map_eq_some_iff] at h
    obtain ⟨c, hi, k, hk, hb⟩ := h
    obtain ⟨k', hk', he⟩ := hvm.2.2 _ _ hk
    have hi' : (U.vm.classes.findIdx? fun (x : Class) => match x.kind with | .array component _ => component == comp | _ => false) = some c := by
      have e1 := va_idx_bare U.vm comp
      have e2 := va_idx_bare u.vm comp
      have e3 : U.vm.bare = u.vm.bare := by first | exact hvm.bare_eq | exact hvm.bare_eq.symm
      rw [e3] at e1
      exact e1.symm.trans (e2.trans hi)
    have f1 : U.vm.findClass (FieldType.array .long).toString = some comp := by rw [hvm.findClass]; exact hc
    have hkind : k'.kind = k.kind := by rw [he]
    unfold nn_AA Cond.before Cond.holds
    simp only [Cond.value]
    rw [f1, Option.bind_some]
    refine (congrArg (fun o : Option Nat => (o.bind (fun c => (U.vm.classes[c]?).map fun (k : Class) => match k.kind with | .array _ ty => decide (ty = FieldType.array .long) && decide (U.vm.findClass ("[" ++ (FieldType.array .long).toString) = some c) | _ => false) == some true)) hi').trans ?_
    rw [hvm.findClass]
    simp only [Option.bind_some, hk', Option.map_some, hkind]
    exact (congrArg (fun b : Bool => (some b == some true)) hb).trans rfl
def nn_nest : List (Nat × MethodName) := [(11, yX7_init), (23, yX10_init), (53, yX8_init)]
/-- what holds all the time: tables' words, statics, the class's constant texts (z 1 .. z 5); B: cells from B on may be the method's -/
def nn_E (B : Nat) (z : pp_Z) (U : State) : Prop := (va_AO "EclipsesKept$Need" U ∧ va_AO "EclipsesKept$Tape" U ∧ nn_AA U) ∧ cc_N U ∧ (∀ q ∈ nn_nest, va_Nw (.methodLinkNest "EclipsesKept" q.1 q.2 "EclipsesKept") U) ∧ va_Nw (.castable "[B" "java/lang/Cloneable") U ∧ jj_Z (fun q => B ≤ q) U U.heap ∧ (∀ i, i < 5 → jj_S (z (i + 1)).1 (z (i + 1)).2.1 (z (i + 1)).2.2.1 (z (i + 1)).2.2.2 (fun q => B ≤ q) U U.heap) ∧ ∀ i, i < 5 → ∀ q, pp_cs[i]? = some q → vk_R RX0 q.1 q.2 (z (i + 1)).1 U
theorem nn_E.warm {B : Nat} {z : pp_Z} {s U : State} (hW : s.WarmedH U.vm) (hh : ∀ a : Nat, a < s.heap.size → ¬ B ≤ a → U.heap[a]? = s.heap[a]?) (h : nn_E B z s) : nn_E B z U := by
  obtain ⟨⟨a1, a2, a3⟩, a4, a5, a6, a7, a8, a9⟩ := h
  exact ⟨⟨a1.moved hW.alike, a2.moved hW.alike, a3.moved hW.alike⟩, cc_Nm hW.alike a4, fun q hq => va_Nw.warmM hW (a5 q hq), va_Nw.warmC hW a6, jj_Zk (jj_Zm hW.alike a7) hh, fun i hi => jj_Sk (jj_Sm hW.alike (a8 i hi)) hh, fun i hi q hq => vk_R.warm hW (a9 i hi q hq)⟩
theorem nn_E.same {B : Nat} {z : pp_Z} {u U : State} (hv : u.vm = U.vm) (hh : U.heap = u.heap) (h : nn_E B z u) : nn_E B z U := by
  obtain ⟨⟨a1, a2, a3⟩, a4, a5, a6, a7, a8, a9⟩ := h
  have al : u.vm.Alike U.vm := by
    rw [← hv]
    exact Vm.Alike.refl u.vm
  exact ⟨⟨a1.moved al, a2.moved al, a3.moved al⟩, cc_Nm al a4, fun q hq => va_Nw.same rfl hv (a5 q hq), va_Nw.same rfl hv a6, by rw [hh]; exact jj_Zm al a7, fun i hi => by rw [hh]; exact jj_Sm al (a8 i hi), fun i hi q hq => vk_R.same hv.symm (a9 i hi q hq)⟩
def nn_C (p : Program) (s : State) (m : MethodId) (args : Array Value) (meth : Method) (c : Code) (cc : ByteArray) (nL : Nat) (ret : Option FieldType) (own nm : String) (Wd : List Cond) (D : va_G) (tys : List (ClassId × FieldType)) (B : Nat) (z : pp_Z) (A : Nat → Prop) : Prop :=
  p.tables.exec = Jvm.exec ∧ c.code = cc ∧ meth.sig.returnType = ret ∧ c.maxLocals = nL ∧ s.vm.findClass own = some m.cls ∧ (∀ w ∈ Wd, w.before args s = true) ∧ meth.locks = false ∧ va_K D vwCl tys s ∧ nn_E B z s ∧ meth.name = nm ∧ ((∀ q, A q → B ≤ q) ∧ B ≤ s.heap.size)
def nn_H (D : va_G) (A : Nat → Prop) (H0 : Heap) (ws : va_W) (H : Heap) (locs : List Loc) : Prop := va_P D vwCl ws H ∧ va_D A ws ∧ va_S A H0 H locs ∧ ∀ q, H0.size ≤ q → A q
def nn_U (D : va_G) (tys : List (ClassId × FieldType)) (A : Nat → Prop) (ws : va_W) (U : State) : Prop := va_P D vwCl ws U.heap ∧ va_K D vwCl tys U ∧ va_D A ws
def nn_P (D : va_G) (tys : List (ClassId × FieldType)) (B : Nat) (z : pp_Z) (ws : va_W) (sz : Nat) (U : State) : Prop := U.heap.size = sz ∧ B ≤ sz ∧ nn_U D tys (fun q => B ≤ q) ws U ∧ nn_E B z U
def nn_Q {S : Type} (post : Option Value → S → Prop) (Bf : S → State → Prop) (A : Nat → Prop) : Array Value → State → Outcome → State → Prop := fun _ st oc t => (∃ (r : Option Value) (u : S), oc = .returned r ∧ post r u ∧ Bf u t) ∧ va_F A st t
def nn_M (l : Launch) (D : va_G) (Wd : List Cond) (tys : List (ClassId × FieldType)) (B : Nat) (z : pp_Z) (y : MethodName) (bytes : ByteArray) (maxL : Nat) (rt : Option FieldType) (fr lo mc ms : Nat) (av : List Value) (ws : va_W) (post : Option Value → va_W → Prop) : Prop :=
  ∀ sz : Nat, Met l y (Cond.code y bytes maxL rt :: Wd) (nn_R fr lo mc ms) (va_Pc av (nn_P D tys B z ws sz)) (nn_Q post (nn_U D tys (va_A ws sz)) (va_A ws sz)) mc ms (va_A ws sz)
theorem nn_set {N k : Nat} {F : Nat → Value} {v : Value} (hk : k < N) : ((List.range N).map F).set k v = (List.range N).map (mm_up F k v) := by
  have h := mm_mapset (f := F) (g := mm_up F k v) (q := k) (k := k) (List.getElem?_range hk) List.nodup_range (fun j hj => if_neg hj)
  have e : mm_up F k v k = v := if_pos rfl
  rw [e] at h
  exact h
theorem nn_nd : ∀ l : List Nat, l.Nodup → va_nd l = true
  | [], _ => rfl
  | a :: l, h => by
    obtain ⟨h1, h2⟩ := List.nodup_cons.mp h
    show (decide (a ∉ l) && va_nd l) = true
    rw [nn_nd l h2, decide_eq_true h1]
    rfl
theorem nn_take {α : Type} (ws : List α) (x : List α) : (List.range ws.length).map (fun i => (ws ++ x)[i]?) = ws.map some := by
  apply List.ext_getElem?
  intro i
  by_cases h : i < ws.length
  · rw [List.getElem?_map, List.getElem?_range h, List.getElem?_map]
    show some ((ws ++ x)[i]?) = _
    rw [List.getElem?_append_left h, List.getElem?_eq_getElem h]
    rfl
  · rw [List.getElem?_eq_none (by rw [List.length_map, List.length_range]; omega), List.getElem?_eq_none (by rw [List.length_map]; omega)]
theorem nn_drop {α : Type} (ws : List α) (x : List α) : ((List.range x.length).map (fun i => ws.length + i)).map (fun i => (ws ++ x)[i]?) = x.map some := by
  apply List.ext_getElem?
  intro i
  by_cases h : i < x.length
  · rw [List.getElem?_map, List.getElem?_map, List.getElem?_range h, List.getElem?_map]
    show some ((ws ++ x)[ws.length + i]?) = _
    rw [List.getElem?_append_right (by omega), Nat.add_sub_cancel_left, List.getElem?_eq_getElem h]
    rfl
  · rw [List.getElem?_eq_none (by rw [List.length_map, List.length_map, List.length_range]; omega), List.getElem?_eq_none (by rw [List.length_map]; omega)]
theorem nn_fm {α : Type} {l x : List α} {is : List Nat} (h : is.map (fun i => l[i]?) = x.map some) : is.filterMap (fun i => l[i]?) = x := by
  have e : is.filterMap (fun i => l[i]?) = (is.map (fun i => l[i]?)).filterMap id := by
    rw [List.filterMap_map]
    rfl
  rw [e, h, List.filterMap_map]
  have e2 : (id ∘ some : α → Option α) = some := rfl
  rw [e2, List.filterMap_some]
theorem nn_ndr (n k : Nat) : va_nd ((List.range n).map (fun i => k + i)) = true := nn_nd _ (by
  rw [List.Nodup, List.pairwise_map]
  exact List.nodup_range.imp (fun h e => h (Nat.add_left_cancel e)))
theorem nn_dp {A : Nat → Prop} {ws : va_W} : va_D A ws ↔ (ws.map (fun q => q.1)).Nodup ∧ ∀ q ∈ ws, A q.1 := by
  constructor
  · intro h
    refine ⟨?_, fun q hq => ?_⟩
    · rw [List.Nodup, List.pairwise_map, List.pairwise_iff_getElem]
      intro i j hi hj hij e
      have := h.1 i j _ _ (List.getElem?_eq_getElem hi) (List.getElem?_eq_getElem hj) e
      omega
    · obtain ⟨i, hi⟩ := List.getElem?_of_mem hq
      exact h.2 i q hi
  · intro h
    refine ⟨fun i j p q hp hq e => ?_, fun k q hk => h.2 q (List.mem_of_getElem? hk)⟩
    obtain ⟨hi, e1⟩ := List.getElem?_eq_some_iff.mp hp
    obtain ⟨hj, e2⟩ := List.getElem?_eq_some_iff.mp hq
    have hn := h.1
    rw [List.Nodup, List.pairwise_map, List.pairwise_iff_getElem] at hn
    rcases Nat.lt_trichotomy i j with hlt | he | hlt
    · exact absurd (by rw [e1, e2]; exact e) (hn i j hi hj hlt)
    · exact he
    · exact absurd (by rw [e1, e2]; exact e.symm) (hn j i hj hi hlt)
theorem nn_pp {D : va_G} {cl : List vw_C} {ws : va_W} {H : Heap} : va_P D cl ws H ↔ ∀ q ∈ ws, va_at D cl q H := ⟨fun h q hq => by
  obtain ⟨i, hi⟩ := List.getElem?_of_mem hq
  exact h i q hi, fun h k q hk => h q (List.mem_of_getElem? hk)⟩
theorem nn_permP {D : va_G} {cl : List vw_C} {ws ws' : va_W} {H : Heap} (h : ws.Perm ws') (hP : va_P D cl ws H) : va_P D cl ws' H := nn_pp.mpr fun q hq => nn_pp.mp hP q (h.mem_iff.mpr hq)
theorem nn_permD {A : Nat → Prop} {ws ws' : va_W} (h : ws.Perm ws') (hD : va_D A ws) : va_D A ws' := nn_dp.mpr ⟨((h.map (fun q => q.1)).nodup_iff).mp (nn_dp.mp hD).1, fun q hq => (nn_dp.mp hD).2 q (h.mem_iff.mpr hq)⟩
theorem nn_perm {D : va_G} {A : Nat → Prop} {H0 H : Heap} {ws ws' : va_W} {locs : List Loc} (h : ws.Perm ws') (hM : nn_H D A H0 ws H locs) : nn_H D A H0 ws' H locs := ⟨nn_permP h hM.1, nn_permD h hM.2.1, hM.2.2⟩
theorem nn_left {D : va_G} {A : Nat → Prop} {H0 H : Heap} {ws x : va_W} {locs : List Loc} (hM : nn_H D A H0 (ws ++ x) H locs) : nn_H D A H0 ws H locs := ⟨nn_pp.mpr fun q hq => nn_pp.mp hM.1 q (List.mem_append_left _ hq), by
  have h := nn_dp.mp hM.2.1
  refine nn_dp.mpr ⟨?_, fun q hq => h.2 q (List.mem_append_left _ hq)⟩
  have h1 := h.1
  rw [List.map_append] at h1
  exact (List.nodup_append.mp h1).1, hM.2.2⟩
theorem nn_pushD {A : Nat → Prop} {ws w2 : va_W} {n : Nat} (hD : va_D A ws) (hlt : ∀ (k : Nat) (q : Nat × va_E), ws[k]? = some q → q.1 < n) (h2 : ∀ (k : Nat) (q : Nat × va_E), w2[k]? = some q → q.1 = n + k) (hA : ∀ q, n ≤ q → A q) : va_D A (ws ++ w2) :=
  va_D.app hD ⟨fun i j p q hp hq e => by
    have e1 := h2 i p hp
    have e2 := h2 j q hq
    omega, fun k q hq => hA _ (by rw [h2 k q hq]; omega)⟩ (fun i j p q hp hq e => by
    have e1 := hlt i p hp
    have e2 := h2 j q hq
    omega)
theorem nn_uI {U : State} {a b : ClassId} (h1 : va_RA U a .int) (h2 : va_RA U b .int) : a = b := Option.some.inj ((va_nm_int h1).symm.trans (va_nm_int h2))
theorem nn_uJ {U : State} {a b : ClassId} (h1 : va_RA U a .long) (h2 : va_RA U b .long) : a = b := Option.some.inj ((va_nm_long h1).symm.trans (va_nm_long h2))
theorem nn_uZ {U : State} {a b : ClassId} (h1 : va_RA U a .boolean) (h2 : va_RA U b .boolean) : a = b := Option.some.inj ((va_nm_boolean h1).symm.trans (va_nm_boolean h2))
theorem nn_uB {U : State} {a b : ClassId} (h1 : va_RA U a .byte) (h2 : va_RA U b .byte) : a = b := Option.some.inj ((va_nm_byte h1).symm.trans (va_nm_byte h2))
theorem nn_uO {U : State} {a b : ClassId} {C : String} (h1 : va_RA U a (.object C)) (h2 : va_RA U b (.object C)) : a = b := by
  obtain ⟨_, _, _, _, _, f1⟩ := h1
  obtain ⟨_, _, _, _, _, f2⟩ := h2
  exact Option.some.inj (f1.symm.trans f2)
section NN
variable {p : Program} {l : Launch} {e : Env} {R : Room} {s : State} {m : MethodId} {args : Array Value} {below : List Frame} {meth : Method} {c : Code} {H : Heap} {locs : List Loc} {cells slots : Nat} {Q : State → Prop}
variable {cc : ByteArray} {nL : Nat} {ret : Option FieldType} {own nm : String} {Wd : List Cond} {pc : Nat} {ls : Array Slot} {rest : List Value} {D : va_G} {tys : List (ClassId × FieldType)} {B : Nat} {z : pp_Z} {A : Nat → Prop} {ws ar : va_W} {o ci N : Nat} {F : Nat → Value}

theorem nn_own (C : nn_C p s m args meth c cc nL ret own nm Wd D tys B z A) : s.vm.findClass own = some m.cls := C.2.2.2.2.1
theorem nn_w (C : nn_C p s m args meth c cc nL ret own nm Wd D tys B z A) {w : Cond} (h : w ∈ Wd) : w.before args s = true := C.2.2.2.2.2.1 w h
theorem nn_K (C : nn_C p s m args meth c cc nL ret own nm Wd D tys B z A) : va_K D vwCl tys s := C.2.2.2.2.2.2.2.1
theorem nn_e (C : nn_C p s m args meth c cc nL ret own nm Wd D tys B z A) : nn_E B z s := C.2.2.2.2.2.2.2.2.1
theorem nn_nm (C : nn_C p s m args meth c cc nL ret own nm Wd D tys B z A) : meth.name = nm := C.2.2.2.2.2.2.2.2.2.1
theorem nn_ab (C : nn_C p s m args meth c cc nL ret own nm Wd D tys B z A) : ∀ q, A q → B ≤ q := C.2.2.2.2.2.2.2.2.2.2.1
theorem nn_bs (C : nn_C p s m args meth c cc nL ret own nm Wd D tys B z A) : B ≤ s.heap.size := C.2.2.2.2.2.2.2.2.2.2.2
theorem nn_kept (C : nn_C p s m args meth c cc nL ret own nm Wd D tys B z A) (hM : nn_H D A s.heap ws H locs) : ∀ a : Nat, a < s.heap.size → ¬ B ≤ a → H[a]? = s.heap[a]? := fun a h1 h2 => hM.2.2.1.2.1 a h1 (fun q => h2 (nn_ab C a q))
theorem nn_obj (C : nn_C p s m args meth c cc nL ret own nm Wd D tys B z A) {a idx : Nat} (hsz : ls.size = nL) (h1 : Cond.methodLink own idx Lib.objectInit ∈ Wd) (h2 : Cond.instanceMethod Lib.objectInit ∈ Wd) (h3 : Cond.code Lib.objectInit ⟨#[0xb1]⟩ 1 none ∈ Wd) (hdg : decode cc pc = .ok (.invokespecial idx, 3)) (hf : 1 ≤ R.frames) (hlo : 0 + 12 ≤ R.locals)
    (kk : W p l e R s m args below meth c H locs cells slots Q (F0 m (pc + 3) ls [])) : W p l e R s m args below meth c H locs cells slots Q (F0 m pc ls ([.ref a])) :=
  W.objInit C.1 C.2.1 (nn_own C) (nn_w C h1) (nn_w C h2) (nn_w C h3) rfl (by rw [C.2.2.2.1]; exact hsz) rfl hdg hf hlo kk
/-! fields -/
theorem nn_get (C : nn_C p s m args meth c cc nL ret own nm Wd D tys B z A) (hM : nn_H D A s.heap ws H locs) (q0 : Nat) {a k index : Nat} {fs : List Value} {ref K : String} {T : u_T} {v : Value} (he : ws[q0]? = some (a, .inr (ci, fs))) (hc : vwCl[ci]? = some (K, T, N)) (hin : ∀ w ∈ u_ws K T N, w ∈ Wd) (hk : k < N) (hl : Cond.fieldLink own index ref (T k).2.1 (T k).2.2.1 ∈ Wd) (hr : (T k).1 = ref) (hv : fs[k]? = some v) (hdg : decode cc pc = .ok (.getfield index, 3))
    (kk : W p l e R s m args below meth c H locs cells slots Q (F0 m (pc + 3) ls (v :: rest))) : W p l e R s m args below meth c H locs cells slots Q (F0 m pc ls (.ref a :: rest)) :=
  va_get (D := D) (ci := ci) (C := K) (T := T) (N := N) C.1 C.2.1 (fun w hw => nn_w C hw) hin (nn_own C) (nn_K C) hM.1 q0 he hc k hk (nn_w C hl) (fun _ h => by rw [hr] at h; exact h) hv hdg kk
theorem nn_pt (C : nn_C p s m args meth c cc nL ret own nm Wd D tys B z A) (hM : nn_H D A s.heap ws H locs) (q0 : Nat) {a k index : Nat} {fs : List Value} {ws' : va_W} {ref K : String} {T : u_T} {v : Value} {ty0 : Nat → FieldType} (he : ws[q0]? = some (a, .inr (ci, fs))) (hset : ws.set q0 (a, .inr (ci, fs.set k v)) = ws') (hc : vwCl[ci]? = some (K, T, N)) (hin : ∀ w ∈ u_ws K T N, w ∈ Wd) (hty : ∀ k, k < N → parseFieldDescriptor (T k).2.2.1 = some (ty0 k)) (hnm : ∀ a, a < N → ∀ b, b < N → a ≠ b → (T a).2.1 ≠ (T b).2.1) (hk : k < N) (hl : Cond.fieldLink own index ref (T k).2.1 (T k).2.2.1 ∈ Wd) (hr : (T k).1 = ref) (hfin : (T k).2.2.2 = false) (hn : narrow (ty0 k) v = v) (hf : fits (ty0 k) v = true) (hlen : k < fs.length) (hdg : decode cc pc = .ok (.putfield index, 3))
    (kk : ∀ (H : Heap) (locs : List Loc), nn_H D A s.heap ws' H locs → W p l e R s m args below meth c H locs cells slots Q (F0 m (pc + 3) ls (rest))) : W p l e R s m args below meth c H locs cells slots Q (F0 m pc ls (v :: .ref a :: rest)) := by
  refine va_put (D := D) (ci := ci) (v := v) (ty := ty0 k) (C := K) (T := T) (N := N) C.1 C.2.1 (fun w hw => nn_w C hw) hin ty0 hty hnm (nn_own C) (nn_K C) hM.1 hM.2.1 hM.2.2.1 q0 he hc k hk (nn_w C hl) (fun _ h => by rw [hr] at h; exact h) hfin (hty k hk) hn hf hlen hdg (fun H locs hP hD hS => ?_)
  rw [hset] at hP hD
  exact kk H locs ⟨hP, hD, hS, hM.2.2.2⟩
theorem nn_ptF (C : nn_C p s m args meth c cc nL ret own nm Wd D tys B z A) (hM : nn_H D A s.heap ws H locs) (q0 : Nat) {a k index : Nat} {fs : List Value} {ws' : va_W} {K : String} {T : u_T} {v : Value} {ty0 : Nat → FieldType} (he : ws[q0]? = some (a, .inr (ci, fs))) (hset : ws.set q0 (a, .inr (ci, fs.set k v)) = ws') (hc : vwCl[ci]? = some (K, T, N)) (hin : ∀ w ∈ u_ws K T N, w ∈ Wd) (hty : ∀ k, k < N → parseFieldDescriptor (T k).2.2.1 = some (ty0 k)) (hnm : ∀ a, a < N → ∀ b, b < N → a ≠ b → (T a).2.1 ≠ (T b).2.1) (hk : k < N) (hl : Cond.fieldLink own index own (T k).2.1 (T k).2.2.1 ∈ Wd) (hr : (T k).1 = own) (hin2 : nm = "<init>") (hfin : (T k).2.2.2 = true) (hn : narrow (ty0 k) v = v) (hf : fits (ty0 k) v = true) (hlen : k < fs.length) (hdg : decode cc pc = .ok (.putfield index, 3))
    (kk : ∀ (H : Heap) (locs : List Loc), nn_H D A s.heap ws' H locs → W p l e R s m args below meth c H locs cells slots Q (F0 m (pc + 3) ls (rest))) : W p l e R s m args below meth c H locs cells slots Q (F0 m pc ls (v :: .ref a :: rest)) := by
  refine va_putF (D := D) (ci := ci) (v := v) (ty := ty0 k) (C := K) (T := T) (N := N) C.1 C.2.1 (fun w hw => nn_w C hw) hin ty0 hty hnm (nn_own C) (nn_K C) hM.1 hM.2.1 hM.2.2.1 q0 he hc k hk (nn_w C hl) (fun _ h => by rw [hr] at h; exact h) hfin ((nn_nm C).trans hin2) hr (hty k hk) hn hf hlen hdg (fun H locs hP hD hS => ?_)
  rw [hset] at hP hD
  exact kk H locs ⟨hP, hD, hS, hM.2.2.2⟩
theorem nn_put (C : nn_C p s m args meth c cc nL ret own nm Wd D tys B z A) (hM : nn_H D A s.heap (nn_W o ci N F ar) H locs) {ref K : String} {T : u_T} {k index : Nat} {ty0 : Nat → FieldType} {v : Value} (hc : vwCl[ci]? = some (K, T, N)) (hin : ∀ w ∈ u_ws K T N, w ∈ Wd) (hty : ∀ k, k < N → parseFieldDescriptor (T k).2.2.1 = some (ty0 k)) (hnm : ∀ a, a < N → ∀ b, b < N → a ≠ b → (T a).2.1 ≠ (T b).2.1) (hk : k < N) (hl : Cond.fieldLink own index ref (T k).2.1 (T k).2.2.1 ∈ Wd) (hr : (T k).1 = ref) (hfin : (T k).2.2.2 = false) (hn : narrow (ty0 k) v = v) (hf : fits (ty0 k) v = true) (hdg : decode cc pc = .ok (.putfield index, 3))
    (kk : ∀ (H : Heap) (locs : List Loc), nn_H D A s.heap (nn_W o ci N (mm_up F k v) ar) H locs → W p l e R s m args below meth c H locs cells slots Q (F0 m (pc + 3) ls (rest))) : W p l e R s m args below meth c H locs cells slots Q (F0 m pc ls (v :: .ref o :: rest)) :=
  nn_pt C hM 0 (fs := (List.range N).map F) rfl (by rw [nn_set hk]; rfl) hc hin hty hnm hk hl hr hfin hn hf (by rw [List.length_map, List.length_range]; exact hk) hdg kk
theorem nn_putF (C : nn_C p s m args meth c cc nL ret own nm Wd D tys B z A) (hM : nn_H D A s.heap (nn_W o ci N F ar) H locs) {K : String} {T : u_T} {k index : Nat} {ty0 : Nat → FieldType} {v : Value} (hc : vwCl[ci]? = some (K, T, N)) (hin : ∀ w ∈ u_ws K T N, w ∈ Wd) (hty : ∀ k, k < N → parseFieldDescriptor (T k).2.2.1 = some (ty0 k)) (hnm : ∀ a, a < N → ∀ b, b < N → a ≠ b → (T a).2.1 ≠ (T b).2.1) (hk : k < N) (hl : Cond.fieldLink own index own (T k).2.1 (T k).2.2.1 ∈ Wd) (hr : (T k).1 = own) (hin2 : nm = "<init>") (hfin : (T k).2.2.2 = true) (hn : narrow (ty0 k) v = v) (hf : fits (ty0 k) v = true) (hdg : decode cc pc = .ok (.putfield index, 3))
    (kk : ∀ (H : Heap) (locs : List Loc), nn_H D A s.heap (nn_W o ci N (mm_up F k v) ar) H locs → W p l e R s m args below meth c H locs cells slots Q (F0 m (pc + 3) ls (rest))) : W p l e R s m args below meth c H locs cells slots Q (F0 m pc ls (v :: .ref o :: rest)) :=
  nn_ptF C hM 0 (fs := (List.range N).map F) rfl (by rw [nn_set hk]; rfl) hc hin hty hnm hk hl hr hin2 hfin hn hf (by rw [List.length_map, List.length_range]; exact hk) hdg kk
theorem nn_gets (C : nn_C p s m args meth c cc nL ret own nm Wd D tys B z A) (hM : nn_H D A s.heap ws H locs) {Cs n d ref : String} {v : Value} {index : Nat} (hZ : va_Z Cs n d v (fun q => B ≤ q) s s.heap) (hl : Cond.fieldLink own index ref n d ∈ Wd) (hr : Cs = ref) (hdg : decode cc pc = .ok (.getstatic index, 3))
    (kk : W p l e R s m args below meth c H locs cells slots Q (F0 m (pc + 3) ls (v :: rest))) : W p l e R s m args below meth c H locs cells slots Q (F0 m pc ls (rest)) :=
  va_gets C.1 C.2.1 (va_Z.narrow hZ (nn_ab C)) hM.2.2.1 (nn_own C) (nn_w C hl) (fun _ h => by rw [hr] at h; exact h) hdg kk
/-! arrays -/
theorem nn_arr (C : nn_C p s m args meth c cc nL ret own nm Wd D tys B z A) (hM : nn_H D A s.heap ws H locs) {atype : ArrayType} {ty : FieldType} {t0 N' : Nat} {c0 : ClassId} {n : Int32} (a0 : vp_A) (harr : Cond.arrayClass (newarray.typeOf atype) ∈ Wd) (hty : newarray.typeOf atype = ty) (ht : tys[t0]? = some (c0, ty)) (hu : ∀ {U : State} {a b : ClassId}, va_RA U a ty → va_RA U b ty → a = b) (ha : ∀ cA : ClassId, vp_cell cA a0 = arrV cA N' (fun _ => defaultValue ty)) (hn : ¬ n < 0) (hN : n.toNatClampNeg = N') (hbytes : N' * componentBytes ty ≤ 536870912) (hcells : cells + 1 ≤ R.cells) (hslots : slots + N' ≤ R.slots) (hdg : decode cc pc = .ok (.newarray atype, 2))
    (kk : ∀ (q : Nat) (H : Heap), nn_H D A s.heap (ws ++ [(q, .inl (c0, a0))]) H locs → W p l e R s m args below meth c H locs (cells + 1) (slots + N') Q (F0 m (pc + 2) ls (.ref q :: rest))) : W p l e R s m args below meth c H locs cells slots Q (F0 m pc ls (.int n :: rest)) := by
  refine va_newa (atype := atype) C.1 C.2.1 (nn_w C harr) hty (nn_K C) hM.1 hM.2.1 hM.2.2.1 hM.2.2.2 ha hn hN hbytes hcells hslots hdg (fun q cA H1 hK hP hD hS => ?_)
  have e : cA = c0 := hu (hK.2 tys.length (cA, ty) (by simp)).2 ((nn_K C).2 t0 _ ht).2
  subst e
  exact kk q H1 ⟨hP, hD, hS, hM.2.2.2⟩
theorem nn_multi (C : nn_C p s m args meth c cc nL ret own nm Wd D tys B z A) (hM : nn_H D A s.heap (nn_W o ci N F ar) H locs) {t1 t0 N' K' index : Nat} {c1 c0 : ClassId} {n k : Int32} (hcl : Cond.classLink own index "[[J" ∈ Wd) (harr : Cond.arrayClass .long ∈ Wd) (ht1 : tys[t1]? = some (c1, .array .long)) (ht0 : tys[t0]? = some (c0, .long)) (hn : ¬ n < 0) (hk : ¬ k < 0) (hN : n.toNatClampNeg = N') (hK' : k.toNatClampNeg = K') (hb1 : N' * 4 ≤ 536870912) (hb2 : K' * 8 ≤ 536870912) (hb3 : K' ≤ 536870912) (hcells : cells + (1 + N') ≤ R.cells) (hslots : slots + (N' + N' * K') ≤ R.slots) (hdg : decode cc pc = .ok (.multianewarray index 2, 4))
    (kk : ∀ (q : Nat) (H : Heap), nn_H D A s.heap (nn_W o ci N F (ar ++ ((q, .inl (c1, N', .inr (.inr (.inr (.inr (fun j => some (q + 1 + j))))))) :: (List.range N').map (fun j => (q + 1 + j, .inl (c0, K', .inr (.inl (fun _ => 0)))))))) H locs → W p l e R s m args below meth c H locs (cells + 1 + N') (slots + N' + N' * K') Q (F0 m (pc + 4) ls (.ref q :: rest))) : W p l e R s m args below meth c H locs cells slots Q (F0 m pc ls (.int k :: .int n :: rest)) := by
  subst hN
  subst hK'
  have en : "[" ++ (FieldType.array .long).toString = "[[J" := by decide +kernel
  have ej : (FieldType.array .long).toString = "[J" := by decide +kernel
  intro T hT Xs
  obtain ⟨vm₁, cA, comp, -, fA, fC, -, -, X', step⟩ := Xs.multianewarray2F (ty := .long) C.1 (nn_own C) (by rw [en]; exact nn_w C hcl) (nn_e C).1.2.2 (nn_w C harr) (g := F0 m pc ls (.int k :: .int n :: rest)) rfl (by rw [C.2.1]; exact hdg) rfl hn hk hb1 hb2 hb3 rfl rfl hcells hslots
  have ea : c1 = cA := Option.some.inj ((((nn_K C).2 t1 _ ht1).2 : s.vm.findClass ("[" ++ (FieldType.array .long).toString) = some c1).symm.trans fA)
  have ec : c0 = comp := Option.some.inj ((va_nm_long ((nn_K C).2 t0 _ ht0).2).symm.trans (by rw [← ej]; exact fC))
  subst ea
  subst ec
  generalize hF : Jvm.Free.Multi.fill (T.setVm vm₁) c1 c0 n.toNatClampNeg k.toNatClampNeg (defaultValue .long) n.toNatClampNeg = Fs at X' step
  have hTh : (T.setVm vm₁).heap = H := hT
  obtain ⟨f1, f2, -, -⟩ := Jvm.Free.Multi.fill_facts (T.setVm vm₁) c1 c0 n.toNatClampNeg k.toNatClampNeg (defaultValue .long) n.toNatClampNeg
  rw [hF, hTh] at f1 f2
  have hold : ∀ x : Nat, x < H.size → Fs.heap[x]? = H[x]? := fun x hx => by
    have h := Jvm.Free.Multi.fill_old (T.setVm vm₁) c1 c0 n.toNatClampNeg k.toNatClampNeg (defaultValue .long) (a := x) (by rw [hTh]; exact hx) n.toNatClampNeg
    rw [hF, hTh] at h
    exact h
  have hrow : ∀ j : Nat, j < n.toNatClampNeg → Fs.heap[H.size + 1 + j]? = some (vp_cell c0 (k.toNatClampNeg, .inr (.inl (fun _ => 0)))) := fun j hj => by
    have h := Jvm.Free.Multi.fill_inner (T.setVm vm₁) c1 c0 n.toNatClampNeg k.toNatClampNeg (defaultValue .long) n.toNatClampNeg j hj
    rw [hF, hTh] at h
    rw [h]
    exact congrArg some (arrV_new c0 k.toNatClampNeg (.long 0))
  rw [nn_outer] at f2
  have f2 : Fs.heap[H.size]? = some (vp_cell c1 (n.toNatClampNeg, .inr (.inr (.inr (.inr (fun j => some (H.size + 1 + j))))))) := by
    rw [f2]
    exact congrArg some (nn_arrc (f := fun j => if j < n.toNatClampNeg then .ref (H.size + 1 + j) else .null) (g := fun j => va_rf (some (H.size + 1 + j))) (fun j hj => if_pos hj))
  have hlt : ∀ (k : Nat) (q : Nat × va_E), (nn_W o ci N F ar)[k]? = some q → q.1 < H.size := fun k q hq => (hM.1 k q hq).lt
  have hP1 : va_P D vwCl ((H.size, .inl (c1, n.toNatClampNeg, .inr (.inr (.inr (.inr (fun j => some (H.size + 1 + j))))))) :: (List.range n.toNatClampNeg).map (fun j => (H.size + 1 + j, .inl (c0, k.toNatClampNeg, .inr (.inl (fun _ => 0)))))) Fs.heap := fun i q hq => by
    cases i with
    | zero =>
      cases hq
      exact f2
    | succ i =>
      rw [List.getElem?_cons_succ, List.getElem?_map] at hq
      obtain ⟨j, hj, rfl⟩ := Option.map_eq_some_iff.mp hq
      obtain ⟨hl, e⟩ := List.getElem?_eq_some_iff.mp hj
      rw [List.getElem_range] at e
      subst e
      rw [List.length_range] at hl
      exact hrow i hl
  have hD1 : va_D A (nn_W o ci N F ar ++ ((H.size, .inl (c1, n.toNatClampNeg, .inr (.inr (.inr (.inr (fun j => some (H.size + 1 + j))))))) :: (List.range n.toNatClampNeg).map (fun j => (H.size + 1 + j, .inl (c0, k.toNatClampNeg, .inr (.inl (fun _ => 0))))))) := nn_pushD hM.2.1 hlt (fun i q hq => by
    cases i with
    | zero =>
      cases hq
      rfl
    | succ i =>
      rw [List.getElem?_cons_succ, List.getElem?_map] at hq
      obtain ⟨j, hj, rfl⟩ := Option.map_eq_some_iff.mp hq
      obtain ⟨hl, e⟩ := List.getElem?_eq_some_iff.mp hj
      rw [List.getElem_range] at e
      subst e
      show H.size + 1 + i = H.size + (i + 1)
      omega) (fun q hq => hM.2.2.2 q (Nat.le_trans hM.2.2.1.1 hq))
  obtain ⟨t, h1, h2⟩ := kk H.size Fs.heap ⟨(hM.1.kept (fun k q hq => hold q.1 (hlt k q hq))).app hP1, hD1, ⟨by rw [f1]; have := hM.2.2.1.1; omega, fun q h1 h2 => (hold q (Nat.lt_of_lt_of_le h1 hM.2.2.1.1)).trans (hM.2.2.1.2.1 q h1 h2), hM.2.2.1.2.2⟩, hM.2.2.2⟩ Fs rfl X'
  refine ⟨t, step t ?_, h2⟩
  rw [hT]
  exact h1
theorem nn_anew (C : nn_C p s m args meth c cc nL ret own nm Wd D tys B z A) (hM : nn_H D A s.heap ws H locs) {t0 N' index : Nat} {K : String} {c0 : ClassId} {n : Int32} (hcl : Cond.classLink own index K ∈ Wd) (hover : va_AO K s) (ht : tys[t0]? = some (c0, .object K)) (hn : ¬ n < 0) (hN : n.toNatClampNeg = N') (hbytes : N' * 4 ≤ 536870912) (hcells : cells + 1 ≤ R.cells) (hslots : slots + N' ≤ R.slots) (hdg : decode cc pc = .ok (.anewarray index, 3))
    (kk : ∀ (q : Nat) (H : Heap), nn_H D A s.heap (ws ++ [(q, .inl (c0, N', .inr (.inr (.inr (.inr (fun _ => none))))))]) H locs → W p l e R s m args below meth c H locs (cells + 1) (slots + N') Q (F0 m (pc + 3) ls (.ref q :: rest))) : W p l e R s m args below meth c H locs cells slots Q (F0 m pc ls (.int n :: rest)) := by
  refine va_newq C.1 C.2.1 (nn_own C) (nn_w C hcl) hover (nn_K C) hM.1 hM.2.1 hM.2.2.1 hM.2.2.2 hn hN hbytes hcells hslots hdg (fun q cA H1 hK hP hD hS => ?_)
  have e : cA = c0 := nn_uO (hK.2 tys.length (cA, .object K) (by simp)).2 ((nn_K C).2 t0 _ ht).2
  subst e
  exact kk q H1 ⟨hP, hD, hS, hM.2.2.2⟩
theorem nn_new (C : nn_C p s m args meth c cc nL ret own nm Wd D tys B z A) (hM : nn_H D A s.heap ws H locs) {c1 N1 index : Nat} {K : String} {T : u_T} {ty0 : Nat → FieldType} (F1 : Nat → Value) (hc : vwCl[c1]? = some (K, T, N1)) (hin : ∀ w ∈ u_ws K T N1, w ∈ Wd) (hty : ∀ k, k < N1 → parseFieldDescriptor (T k).2.2.1 = some (ty0 k)) (hcl : Cond.classLink own index K ∈ Wd) (hi : Cond.instantiable K N1 ∈ Wd) (hini : Cond.initialized K ∈ Wd) (hf : ∀ j, j < N1 → defaultValue (ty0 j) = F1 j) (hcells : cells + 1 ≤ R.cells) (hslots : slots + N1 ≤ R.slots) (hdg : decode cc pc = .ok (.new index, 3))
    (kk : ∀ (q : Nat) (H : Heap), nn_H D A s.heap (ws ++ [(q, .inr (c1, (List.range N1).map F1))]) H locs → W p l e R s m args below meth c H locs (cells + 1) (slots + N1) Q (F0 m (pc + 3) ls (.ref q :: rest))) : W p l e R s m args below meth c H locs cells slots Q (F0 m pc ls (rest)) := by
  refine va_new (ci := c1) (fs := (List.range N1).map F1) (C := K) (T := T) (N := N1) C.1 C.2.1 (fun w hw => nn_w C hw) hin ty0 hty (nn_own C) (nn_w C hcl) (nn_w C hi) (nn_w C hini) (nn_K C) hM.1 hM.2.1 hM.2.2.1 hM.2.2.2 hc (fun j hj => ?_) hcells hslots hdg (fun q H1 hP hD hS => kk q H1 ⟨hP, hD, hS, hM.2.2.2⟩)
  rw [hf j hj]
  unfold vp_V
  rw [List.getD_eq_getElem?_getD, List.getElem?_map, List.getElem?_range hj]
  rfl
theorem nn_ias (C : nn_C p s m args meth c cc nL ret own nm Wd D tys B z A) (hM : nn_H D A s.heap ws H locs) (q0 : Nat) {a t0 n : Nat} {c0 : ClassId} {f : Nat → Int32} {i x : Int32} {ws' : va_W} (ha : ws[q0]? = some (a, .inl (c0, n, .inl f))) (hset : ws.set q0 (a, .inl (c0, n, .inl (upd f i.toNatClampNeg x))) = ws') (ht : tys[t0]? = some (c0, .int)) (hin : vp_in i n) (hdg : decode cc pc = .ok (.iastore, 1))
    (kk : ∀ (H : Heap) (locs : List Loc), nn_H D A s.heap ws' H locs → W p l e R s m args below meth c H locs cells slots Q (F0 m (pc + 1) ls (rest))) : W p l e R s m args below meth c H locs cells slots Q (F0 m pc ls (.int x :: .int i :: .ref a :: rest)) := by
  refine va_iast C.1 C.2.1 (nn_K C) hM.1 hM.2.1 hM.2.2.1 q0 t0 (cA := c0) (n := n) (f := f) ha ht hin hdg (fun H locs hP hD hS => ?_)
  rw [hset] at hP hD
  exact kk H locs ⟨hP, hD, hS, hM.2.2.2⟩
theorem nn_bas (C : nn_C p s m args meth c cc nL ret own nm Wd D tys B z A) (hM : nn_H D A s.heap ws H locs) (q0 : Nat) {a t0 n : Nat} {c0 : ClassId} {f : Nat → Int32} {i x : Int32} {ws' : va_W} (ha : ws[q0]? = some (a, .inl (c0, n, .inl f))) (hset : ws.set q0 (a, .inl (c0, n, .inl (upd f i.toNatClampNeg (vp_nar .byte x)))) = ws') (ht : tys[t0]? = some (c0, .byte)) (hin : vp_in i n) (hdg : decode cc pc = .ok (.bastore, 1))
    (kk : ∀ (H : Heap) (locs : List Loc), nn_H D A s.heap ws' H locs → W p l e R s m args below meth c H locs cells slots Q (F0 m (pc + 1) ls (rest))) : W p l e R s m args below meth c H locs cells slots Q (F0 m pc ls (.int x :: .int i :: .ref a :: rest)) := by
  refine va_bast C.1 C.2.1 (nn_K C) hM.1 hM.2.1 hM.2.2.1 q0 t0 (cA := c0) (n := n) (f := f) ha ht hin hdg (fun H locs hP hD hS => ?_)
  rw [hset] at hP hD
  exact kk H locs ⟨hP, hD, hS, hM.2.2.2⟩
theorem nn_aas (C : nn_C p s m args meth c cc nL ret own nm Wd D tys B z A) (hM : nn_H D A s.heap ws H locs) (q0 qk : Nat) {a t0 n c1 v : Nat} {r : vw_C} {c0 : ClassId} {vs : List Value} {f : Nat → Option Nat} {i : Int32} {ws' : va_W} (ha : ws[q0]? = some (a, .inl (c0, n, .inr (.inr (.inr (.inr f)))))) (hv : ws[qk]? = some (v, .inr (c1, vs))) (hc : vwCl[c1]? = some r) (hset : ws.set q0 (a, .inl (c0, n, .inr (.inr (.inr (.inr (va_up f i.toNatClampNeg (some v))))))) = ws') (ht : tys[t0]? = some (c0, .object r.1)) (hin : vp_in i n) (hdg : decode cc pc = .ok (.aastore, 1))
    (kk : ∀ (H : Heap) (locs : List Loc), nn_H D A s.heap ws' H locs → W p l e R s m args below meth c H locs cells slots Q (F0 m (pc + 1) ls (rest))) : W p l e R s m args below meth c H locs cells slots Q (F0 m pc ls (.ref v :: .int i :: .ref a :: rest)) := by
  refine va_astq C.1 C.2.1 (nn_K C) hM.1 hM.2.1 hM.2.2.1 q0 t0 qk c1 (cA := c0) (n := n) (f := f) ha ht hv hc hin hdg (fun H locs hP hD hS => ?_)
  rw [hset] at hP hD
  exact kk H locs ⟨hP, hD, hS, hM.2.2.2⟩
theorem nn_aln (C : nn_C p s m args meth c cc nL ret own nm Wd D tys B z A) (hM : nn_H D A s.heap ws H locs) (q0 : Nat) {a t0 : Nat} {c0 : ClassId} {x : vp_A} {ty : FieldType} {v : Int32} (ha : ws[q0]? = some (a, .inl (c0, x))) (ht : tys[t0]? = some (c0, ty)) (hv : Int32.ofNat x.1 = v) (hdg : decode cc pc = .ok (.arraylength, 1))
    (kk : W p l e R s m args below meth c H locs cells slots Q (F0 m (pc + 1) ls (.int v :: rest))) : W p l e R s m args below meth c H locs cells slots Q (F0 m pc ls (.ref a :: rest)) :=
  va_alen C.1 C.2.1 (nn_K C) hM.1 q0 t0 ha ht hv hdg kk
theorem nn_cpy (C : nn_C p s m args meth c cc nL ret own nm Wd D tys B z A) (hM : nn_H D A s.heap ws H locs) (q0 q1 : Nat) {a a0 t0 n0 n1 index : Nat} {c0 : ClassId} {f g : Nat → Int32} {ws' : va_W} {sp dp n : Int32} (hsz : ls.size = nL) (hl : Cond.methodLink own index arraycopyName ∈ Wd) (hnat : Cond.native arraycopyName ∈ Wd) (hst : Cond.static arraycopyName ∈ Wd) (hini : Cond.initialized "java/lang/System" ∈ Wd) (ha0 : ws[q0]? = some (a0, .inl (c0, n0, .inl f))) (ha1 : ws[q1]? = some (a, .inl (c0, n1, .inl g))) (hset : ws.set q1 (a, .inl (c0, n1, .inl (va_cpy f g sp.toNatClampNeg dp.toNatClampNeg n.toNatClampNeg))) = ws') (ht : tys[t0]? = some (c0, .byte)) (h1 : ¬ sp < 0) (h2 : ¬ dp < 0) (h3 : ¬ n < 0) (h4 : sp.toNatClampNeg + n.toNatClampNeg ≤ n0) (h5 : dp.toNatClampNeg + n.toNatClampNeg ≤ n1) (hfit : sb_Fit f) (hfr : 1 ≤ R.frames) (hlo : (rest.map fun v => v.category).sum + (nativeFrameWords "java/lang/System" "arraycopy" 5 + 11) ≤ R.locals) (hdg : decode cc pc = .ok (.invokestatic index, 3))
    (kk : ∀ (H : Heap) (locs : List Loc), nn_H D A s.heap ws' H locs → W p l e R s m args below meth c H locs cells slots Q (F0 m (pc + 3) ls (rest))) : W p l e R s m args below meth c H locs cells slots Q (F0 m pc ls (.int n :: .int dp :: .ref a :: .int sp :: .ref a0 :: rest)) := by
  refine va_copyi C.1 C.2.1 (by rw [C.2.2.2.1, hsz]) (nn_own C) (nn_w C hl) (nn_w C hnat) (nn_w C hst) (nn_w C hini) (nn_K C) hM.1 hM.2.1 hM.2.2.1 q0 q1 t0 t0 ha0 ha1 ht ht rfl h1 h2 h3 h4 h5 (fun i _ => hfit _) hfr hlo hdg (fun H locs hP hD hS => ?_)
  rw [hset] at hP hD
  exact kk H locs ⟨hP, hD, hS, hM.2.2.2⟩
theorem nn_cln (C : nn_C p s m args meth c cc nL ret own nm Wd D tys B z A) (hM : nn_H D A s.heap ws H locs) (q0 : Nat) {a t0 n0 index : Nat} {c0 : ClassId} {f : Nat → Int32} (hsz : ls.size = nL) (hl : Cond.methodLink own index ⟨"[B", "clone", "()Ljava/lang/Object;"⟩ ∈ Wd) (h2 : Cond.sameMethod "[B" "java/lang/Object" "clone" "()Ljava/lang/Object;" ∈ Wd) (h3 : Cond.native ⟨"java/lang/Object", "clone", "()Ljava/lang/Object;"⟩ ∈ Wd) (h4 : Cond.instanceMethod ⟨"java/lang/Object", "clone", "()Ljava/lang/Object;"⟩ ∈ Wd) (h5 : Cond.selects "[B" ⟨"[B", "clone", "()Ljava/lang/Object;"⟩ ⟨"java/lang/Object", "clone", "()Ljava/lang/Object;"⟩ ∈ Wd) (ha : ws[q0]? = some (a, .inl (c0, n0, .inl f))) (ht : tys[t0]? = some (c0, .byte)) (hfit : sb_Fit f) (hfr : 1 ≤ R.frames) (hlo : (rest.map fun v => v.category).sum + 14 ≤ R.locals) (hcells : cells + 1 ≤ R.cells) (hslots : slots + n0 ≤ R.slots) (hdg : decode cc pc = .ok (.invokevirtual index, 3))
    (kk : ∀ (q : Nat) (H : Heap), nn_H D A s.heap (ws ++ [(q, .inl (c0, n0, .inl f))]) H locs → W p l e R s m args below meth c H locs (cells + 1) (slots + n0) Q (F0 m (pc + 3) ls (.ref q :: rest))) : W p l e R s m args below meth c H locs cells slots Q (F0 m pc ls (.ref a :: rest)) := by
  refine va_clone (x := (n0, .inl f)) (ty := .byte) C.1 C.2.1 (by rw [C.2.2.2.1, hsz]) (nn_own C) (nn_w C hl) (nn_w C h2) (nn_w C h3) (nn_w C h4) (nn_w C h5) (nn_e C).2.2.2.1 (nn_K C) hM.1 hM.2.1 hM.2.2.1 hM.2.2.2 q0 t0 ha ht (va_nm_byte ((nn_K C).2 t0 _ ht).2) (fun i v hv => ?_) hfr hlo hcells hslots hdg (fun q H1 hK hP hD hS => kk q H1 ⟨hP, hD, hS, hM.2.2.2⟩)
  have hv : (Array.ofFn (fun j : Fin n0 => Value.int (f j)))[i]? = some v := hv
  rw [Array.getElem?_ofFn] at hv
  split at hv
  · cases hv
    exact hfit i
  · cases hv
theorem nn_cst (C : nn_C p s m args meth c cc nL ret own nm Wd D tys B z A) (hM : nn_H D A s.heap ws H locs) (q0 : Nat) {a t0 index : Nat} {c0 : ClassId} {x : vp_A} (hl : Cond.classLink own index "[B" ∈ Wd) (ha : ws[q0]? = some (a, .inl (c0, x))) (ht : tys[t0]? = some (c0, .byte)) (hdg : decode cc pc = .ok (.checkcast index, 3))
    (kk : W p l e R s m args below meth c H locs cells slots Q (F0 m (pc + 3) ls (.ref a :: rest))) : W p l e R s m args below meth c H locs cells slots Q (F0 m pc ls (.ref a :: rest)) :=
  va_castA C.1 C.2.1 (nn_own C) (nn_w C hl) hM.1 q0 ha (va_nm_byte ((nn_K C).2 t0 _ ht).2) hdg kk
/-! ends -/
theorem nn_ex (C : nn_C p s m args meth c cc nL ret own nm Wd D tys B z A) (hM : nn_H D A s.heap ws H locs) {t : State} (ht : t.heap = H) (hW : s.WarmedH t.vm) : nn_U D tys A ws t := ⟨by rw [ht]; exact hM.1, va_K.moved hW.alike (nn_K C), hM.2.1⟩
theorem nn_vr {post : Option Value → va_W → Prop} (C : nn_C p s m args meth c cc nL none own nm Wd D tys B z A) (hM : nn_H D A s.heap ws H locs) (hp : post none ws) (hdg : decode cc pc = .ok (.return_, 1)) : W p l e R s m args below meth c H locs cells slots (MQ below (nn_Q post (nn_U D tys A) A) args s cells slots A) (F0 m pc ls []) :=
  W.vret C.1 C.2.1 C.2.2.1 (fun t ht hW => ⟨⟨none, ws, rfl, hp, nn_ex C hM ht hW⟩, hM.2.2.1.F ht⟩) hM.2.2.1.2.2 hdg C.2.2.2.2.2.2.1
theorem nn_ir {post : Option Value → va_W → Prop} {v : Int32} (C : nn_C p s m args meth c cc nL (some .int) own nm Wd D tys B z A) (hM : nn_H D A s.heap ws H locs) (hp : post (some (.int v)) ws) (hdg : decode cc pc = .ok (.ireturn, 1)) : W p l e R s m args below meth c H locs cells slots (MQ below (nn_Q post (nn_U D tys A) A) args s cells slots A) (F0 m pc ls [.int v]) :=
  W.iret (v := v) C.1 C.2.1 C.2.2.1 (fun t ht hW => ⟨⟨some (.int v), ws, rfl, hp, nn_ex C hM ht hW⟩, hM.2.2.1.F ht⟩) hM.2.2.1.2.2 hdg C.2.2.2.2.2.2.1
theorem nn_zr {post : Option Value → va_W → Prop} {v : Int32} {ty : FieldType} (C : nn_C p s m args meth c cc nL (some ty) own nm Wd D tys B z A) (hM : nn_H D A s.heap ws H locs) (hn : narrow ty (.int v) = .int v) (hp : post (some (.int v)) ws) (hdg : decode cc pc = .ok (.ireturn, 1)) : W p l e R s m args below meth c H locs cells slots (MQ below (nn_Q post (nn_U D tys A) A) args s cells slots A) (F0 m pc ls [.int v]) :=
  W.zret (v := v) C.1 C.2.1 C.2.2.1 hn (fun t ht hW => ⟨⟨some (.int v), ws, rfl, hp, nn_ex C hM ht hW⟩, hM.2.2.1.F ht⟩) hM.2.2.1.2.2 hdg C.2.2.2.2.2.2.1
theorem nn_ar {post : Option Value → va_W → Prop} {q : Nat} {ty : FieldType} (hty : (∃ n, ty = .object n) ∨ ∃ t, ty = .array t) (C : nn_C p s m args meth c cc nL (some ty) own nm Wd D tys B z A) (hM : nn_H D A s.heap ws H locs) (hp : post (some (.ref q)) ws) (hdg : decode cc pc = .ok (.areturn, 1)) : W p l e R s m args below meth c H locs cells slots (MQ below (nn_Q post (nn_U D tys A) A) args s cells slots A) (F0 m pc ls [.ref q]) :=
  W.aret (v := .ref q) C.1 C.2.1 C.2.2.1 hty (Or.inr ⟨q, rfl⟩) (fun t ht hW => ⟨⟨some (.ref q), ws, rfl, hp, nn_ex C hM ht hW⟩, hM.2.2.1.F ht⟩) hM.2.2.1.2.2 hdg C.2.2.2.2.2.2.1
/-! calls: the callee's cells stand last -/
variable {wc : va_W} {y x : MethodName} {host Cl owner : String} {bytes : ByteArray} {maxL fr lo mc ms n index : Nat} {rt : Option FieldType} {As : List Value} {post : Option Value → va_W → Prop} {stk : List Value}
theorem nn_fr (C : nn_C p s m args meth c cc nL ret own nm Wd D tys B z A) (hM : nn_H D A s.heap (ws ++ wc) H locs) : ∀ q, va_A wc H.size q → A q := va_free (wc := wc) hM.2.1 hM.2.2.1 hM.2.2.2 _ (nn_drop ws wc)
theorem nn_callx {S : Type} {post : Option Value → S → Prop} {Bf : S → State → Prop} {free A1 : Nat → Prop} {av : Array Value} (hr : va_Run p l e R s m args below meth c H locs cells slots mc ms (F0 m pc ls stk) rest (nn_Q post Bf A1 av) free) (hS : va_S A s.heap H locs) (hA : ∀ q, q < H.size → A1 q → A q) (hf : ∀ q, free q → A q)
    (kk : ∀ (r : Option Value) (u : S) (t : State) (H1 : Heap) (locs1 : List Loc), t.heap = H1 → post r u → Bf u t → (∀ q : Nat, q < H.size → ¬ A1 q → H1[q]? = H[q]?) → va_S A s.heap H1 locs1 → W p l e R s m args below meth c H1 locs1 (cells + mc) (slots + ms) Q (F0 m (pc + 3) ls (r.toList ++ rest))) : W p l e R s m args below meth c H locs cells slots Q (F0 m pc ls (stk)) := by
  intro T hT X
  obtain ⟨v, st₀, t, T', L, h0, X', hL, e1, e2, ⟨⟨r, u, hv, hp, hb⟩, hz, hk⟩, st⟩ := hr T hT X
  cases hv
  rw [h0] at hz hk
  obtain ⟨t2, a1, b1⟩ := kk _ u t T'.heap (locs ++ L) e1.symm hp hb (fun q h1 h2 => by rw [e1]; exact hk q h1 h2)
    ⟨Nat.le_trans hS.1 (by rw [e1]; exact hz), fun q h1 h2 => by rw [e1, hk q (Nat.lt_of_lt_of_le h1 hS.1) (fun z => h2 (hA q (Nat.lt_of_lt_of_le h1 hS.1) z))]; exact hS.2.1 q h1 h2, fun q hq => by
      rcases List.mem_append.mp hq with h | h
      · exact hS.2.2 q h
      · exact hf _ (hL q h)⟩ T' rfl X'
  exact ⟨t2, st t2 a1, b1⟩
theorem nn_aft {av : Array Value} (C : nn_C p s m args meth c cc nL ret own nm Wd D tys B z A) (hM : nn_H D A s.heap (ws ++ wc) H locs)
    (hrun : va_Run p l e R s m args below meth c H locs cells slots mc ms (F0 m pc ls stk) rest (nn_Q post (nn_U D tys (va_A wc H.size)) (va_A wc H.size) av) (va_A wc H.size))
    (kk : ∀ (r : Option Value) (u : va_W) (H : Heap) (locs : List Loc), post r u → nn_H D A s.heap (ws ++ u) H locs → W p l e R s m args below meth c H locs (cells + mc) (slots + ms) Q (F0 m (pc + 3) ls (r.toList ++ rest))) : W p l e R s m args below meth c H locs cells slots Q (F0 m pc ls (stk)) := by
  refine nn_callx hrun hM.2.2.1 (fun q _ h => nn_fr C hM q h) (nn_fr C hM) (fun r u t H1 locs1 ht hw hB hk1 hS => ?_)
  have hP1 := hB.1
  rw [ht] at hP1
  obtain ⟨hP2, hD2⟩ := va_join (wr := ws) (w1 := u) hM.1 hM.2.1 _ (List.range ws.length) (nn_drop ws wc) (nn_take ws _) (nn_nd _ List.nodup_range) (fun i hi h => by
    have h1 := List.mem_range.mp hi
    obtain ⟨j, -, e⟩ := List.mem_map.mp h
    omega) hk1 (nn_fr C hM) hP1 hB.2.2
  exact kk r u H1 locs1 hw ⟨hP2, hD2, hS, hM.2.2.2⟩
theorem nn_blind {av : List Value} {sz : Nat} (a : Array Value) (U : State) (g : JFrame) (mk : MethodId) (h : va_Pc av (nn_P D tys B z wc sz) a U) : va_Pc av (nn_P D tys B z wc sz) a (U.calling g mk a) := by
  obtain ⟨q0, q1, q2, ⟨qP, qK, qD⟩, qE⟩ := h
  exact ⟨q0, q1, q2, ⟨qP, va_K.moved (u := U) (U := U.calling g mk a) (Vm.Alike.refl U.vm) qK, qD⟩, nn_E.same rfl rfl qE⟩
theorem nn_pc {av : List Value} (C : nn_C p s m args meth c cc nL ret own nm Wd D tys B z A) (hM : nn_H D A s.heap (ws ++ wc) H locs) (U : State) (hU : U.heap = H) (hW : s.WarmedH U.vm) : va_Pc av (nn_P D tys B z wc H.size) av.toArray U :=
  ⟨rfl, by rw [hU], Nat.le_trans (nn_bs C) hM.2.2.1.1, ⟨by rw [hU]; exact hM.1.sub _ (nn_fm (nn_drop ws wc)), va_K.moved hW.alike (nn_K C), (hM.2.1.sub _ (nn_ndr _ _) (nn_drop ws wc)).weaken (fun _ q _ h => nn_ab C q.1 h)⟩, nn_E.warm hW (fun a h1 h2 => by rw [hU]; exact nn_kept C hM a h1 h2) (nn_e C)⟩
theorem nn_fix (C : nn_C p s m args meth c cc nL ret own nm Wd D tys B z A) : CallFix p m c cc nL s args Wd own := ⟨C.1, C.2.1, C.2.2.2.1, nn_own C, fun w hw => nn_w C hw⟩
theorem nn_rcv (C : nn_C p s m args meth c cc nL ret own nm Wd D tys B z A) (hM : nn_H D A s.heap ws H locs) {a q0 : Nat} {fs : List Value} {K : String} {T : u_T} (he : ws[q0]? = some (a, .inr (ci, fs))) (hc : vwCl[ci]? = some (K, T, N)) : ∃ cell : Cell, H[a]? = some cell ∧ cell.vm.isStatics = false ∧ s.vm.findClass K = some cell.cls := va_recv (q := (K, T, N)) (nn_K C) hM.1 hc he
variable {q : Nat}
theorem nn_cI (C : nn_C p s m args meth c cc nL ret own nm Wd D tys B z A) (hM : nn_H D A s.heap (ws ++ wc) H locs) (hMet : nn_M l D Wd tys B z y bytes maxL none fr lo mc ms (.ref q :: As) wc post) (hg : GoodIn Wd (Cond.code y bytes maxL none :: Wd)) (h1 : Cond.initialized y.cls ∈ Wd) (h2 : Cond.methodLink own index y ∈ Wd) (h3 : Cond.instanceMethod y ∈ Wd) (hy : y.name = "<init>") (hd : y.cls ≠ "java/lang/invoke/MethodHandle" ∧ y.cls ≠ "java/lang/invoke/VarHandle" ∧ (parseMethodDescriptor y.desc).map (fun d => d.parameters.length) = some n) (hR : fr + 1 ≤ R.frames ∧ 8 + (maxL + 11) + lo ≤ R.locals) (hn : As.length = n) (hsz : ls.size = nL) (hst : stk = As.reverse ++ .ref q :: rest) (hW : (rest.map fun v => v.category).sum ≤ 8) (hdg : decode cc pc = .ok (.invokespecial index, 3)) (hf : cells + mc ≤ R.cells ∧ slots + ms ≤ R.slots)
    (kk : ∀ (r : Option Value) (u : va_W) (H : Heap) (locs : List Loc), post r u → nn_H D A s.heap (ws ++ u) H locs → W p l e R s m args below meth c H locs (cells + mc) (slots + ms) Q (F0 m (pc + 3) ls (r.toList ++ rest))) : W p l e R s m args below meth c H locs cells slots Q (F0 m pc ls (stk)) :=
  nn_aft C hM (va_runI (As := As) (rest := rest) (nn_fix C) (hMet H.size) (cwI n (fun w hw => nn_w C hw) hg rfl rfl rfl (nn_w C h1) (nn_w C h2) (nn_w C h3) hy hd hR) ⟨nn_blind, nn_pc C hM⟩ rfl hn hsz hst (lv_room hW) hdg hf) kk
theorem nn_cIN (C : nn_C p s m args meth c cc nL ret own nm Wd D tys B z A) (hM : nn_H D A s.heap (ws ++ wc) H locs) (hMet : nn_M l D Wd tys B z y bytes maxL none fr lo mc ms (.ref q :: As) wc post) (hg : GoodIn Wd (Cond.code y bytes maxL none :: Wd)) (h1 : Cond.initialized y.cls ∈ Wd) (h2 : va_Nw (.methodLinkNest own index y host) s) (h3 : Cond.instanceMethod y ∈ Wd) (hy : y.name = "<init>") (hd : y.cls ≠ "java/lang/invoke/MethodHandle" ∧ y.cls ≠ "java/lang/invoke/VarHandle" ∧ (parseMethodDescriptor y.desc).map (fun d => d.parameters.length) = some n) (hR : fr + 1 ≤ R.frames ∧ 8 + (maxL + 11) + lo ≤ R.locals) (hn : As.length = n) (hsz : ls.size = nL) (hst : stk = As.reverse ++ .ref q :: rest) (hW : (rest.map fun v => v.category).sum ≤ 8) (hdg : decode cc pc = .ok (.invokespecial index, 3)) (hf : cells + mc ≤ R.cells ∧ slots + ms ≤ R.slots)
    (kk : ∀ (r : Option Value) (u : va_W) (H : Heap) (locs : List Loc), post r u → nn_H D A s.heap (ws ++ u) H locs → W p l e R s m args below meth c H locs (cells + mc) (slots + ms) Q (F0 m (pc + 3) ls (r.toList ++ rest))) : W p l e R s m args below meth c H locs cells slots Q (F0 m pc ls (stk)) :=
  nn_aft C hM (va_runIN (As := As) (rest := rest) (nn_fix C) (hMet H.size) ⟨va_cnB n (fun w hw => nn_w C hw) hg rfl rfl rfl h2 (nn_w C h1) hd hR, hy, nn_w C h3⟩ ⟨nn_blind, nn_pc C hM⟩ rfl hn hsz hst (lv_room hW) hdg hf) kk
theorem nn_cV (C : nn_C p s m args meth c cc nL ret own nm Wd D tys B z A) (hM : nn_H D A s.heap (ws ++ wc) H locs) (hcv : ∃ cell : Cell, H[q]? = some cell ∧ cell.vm.isStatics = false ∧ s.vm.findClass Cl = some cell.cls) (hMet : nn_M l D Wd tys B z y bytes maxL rt fr lo mc ms (.ref q :: As) wc post) (hg : GoodIn Wd (wsV own index Cl y (Cond.code y bytes maxL rt :: Wd))) (hd : y.cls = Cl ∧ y.cls ≠ "java/lang/invoke/MethodHandle" ∧ y.cls ≠ "java/lang/invoke/VarHandle" ∧ (parseMethodDescriptor y.desc).map (fun d => d.parameters.length) = some n) (hR : fr + 1 ≤ R.frames ∧ 8 + (maxL + 11) + lo ≤ R.locals) (hn : As.length = n) (hsz : ls.size = nL) (hst : stk = As.reverse ++ .ref q :: rest) (hW : (rest.map fun v => v.category).sum ≤ 8) (hdg : decode cc pc = .ok (.invokevirtual index, 3)) (hf : cells + mc ≤ R.cells ∧ slots + ms ≤ R.slots)
    (kk : ∀ (r : Option Value) (u : va_W) (H : Heap) (locs : List Loc), post r u → nn_H D A s.heap (ws ++ u) H locs → W p l e R s m args below meth c H locs (cells + mc) (slots + ms) Q (F0 m (pc + 3) ls (r.toList ++ rest))) : W p l e R s m args below meth c H locs cells slots Q (F0 m pc ls (stk)) :=
  nn_aft C hM (va_runV (As := As) (rest := rest) (nn_fix C) (hMet H.size) (cwV n (fun w hw => nn_w C hw) hg rfl rfl rfl hd hR) ⟨nn_blind, hcv, nn_pc C hM⟩ rfl hn hsz hst (lv_room hW) hdg hf) kk
theorem nn_cU (C : nn_C p s m args meth c cc nL ret own nm Wd D tys B z A) (hM : nn_H D A s.heap (ws ++ wc) H locs) (hcv : ∃ cell : Cell, H[q]? = some cell ∧ cell.vm.isStatics = false ∧ s.vm.findClass Cl = some cell.cls) (hMet : nn_M l D Wd tys B z y bytes maxL rt fr lo mc ms (.ref q :: As) wc post) (hg : GoodIn Wd (va_wsU own index Cl owner x y (Cond.code y bytes maxL rt :: Wd))) (hyx : y = ⟨owner, x.name, x.desc⟩) (hd : owner ≠ "java/lang/invoke/MethodHandle" ∧ owner ≠ "java/lang/invoke/VarHandle" ∧ (parseMethodDescriptor x.desc).map (fun d => d.parameters.length) = some n) (hR : fr + 1 ≤ R.frames ∧ 8 + (maxL + 11) + lo ≤ R.locals) (hn : As.length = n) (hsz : ls.size = nL) (hst : stk = As.reverse ++ .ref q :: rest) (hW : (rest.map fun v => v.category).sum ≤ 8) (hdg : decode cc pc = .ok (.invokevirtual index, 3)) (hf : cells + mc ≤ R.cells ∧ slots + ms ≤ R.slots)
    (kk : ∀ (r : Option Value) (u : va_W) (H : Heap) (locs : List Loc), post r u → nn_H D A s.heap (ws ++ u) H locs → W p l e R s m args below meth c H locs (cells + mc) (slots + ms) Q (F0 m (pc + 3) ls (r.toList ++ rest))) : W p l e R s m args below meth c H locs cells slots Q (F0 m pc ls (stk)) :=
  nn_aft C hM (va_runU (As := As) (rest := rest) (nn_fix C) (hMet H.size) (va_cwU n (fun w hw => nn_w C hw) hg rfl rfl rfl hyx hd hR) ⟨nn_blind, hcv, nn_pc C hM⟩ rfl hn hsz hst (lv_room hW) hdg hf) kk
theorem nn_cSU (C : nn_C p s m args meth c cc nL ret own nm Wd D tys B z A) (hM : nn_H D A s.heap (ws ++ wc) H locs) (hcv : ∃ cell : Cell, H[q]? = some cell ∧ cell.vm.isStatics = false ∧ s.vm.findClass Cl = some cell.cls) (hat : ∃ cC, ClassAt s Cl cC) (hMet : nn_M l D Wd tys B z y bytes maxL rt fr lo mc ms (.ref q :: As) wc post) (hg : GoodIn Wd (va_wsSU own index y (Cond.code y bytes maxL rt :: Wd))) (hd : y.name ≠ "<init>" ∧ (parseMethodDescriptor y.desc).map (fun d => d.parameters.length) = some n) (hR : fr + 1 ≤ R.frames ∧ 8 + (maxL + 11) + lo ≤ R.locals) (hn : As.length = n) (hsz : ls.size = nL) (hst : stk = As.reverse ++ .ref q :: rest) (hW : (rest.map fun v => v.category).sum ≤ 8) (hdg : decode cc pc = .ok (.invokespecial index, 3)) (hf : cells + mc ≤ R.cells ∧ slots + ms ≤ R.slots)
    (kk : ∀ (r : Option Value) (u : va_W) (H : Heap) (locs : List Loc), post r u → nn_H D A s.heap (ws ++ u) H locs → W p l e R s m args below meth c H locs (cells + mc) (slots + ms) Q (F0 m (pc + 3) ls (r.toList ++ rest))) : W p l e R s m args below meth c H locs cells slots Q (F0 m pc ls (stk)) :=
  nn_aft C hM (va_runSU (C := Cl) (As := As) (rest := rest) hat.choose_spec (nn_fix C) (hMet H.size) (va_cwSU n (fun w hw => nn_w C hw) hg rfl rfl rfl hd hR) ⟨nn_blind, hcv, nn_pc C hM⟩ rfl hn hsz hst (lv_room hW) hdg hf) kk
theorem nn_cS (C : nn_C p s m args meth c cc nL ret own nm Wd D tys B z A) (hM : nn_H D A s.heap (ws ++ wc) H locs) (hMet : nn_M l D Wd tys B z y bytes maxL rt fr lo mc ms (As) wc post) (hg : GoodIn Wd (va_wsS own index y (Cond.code y bytes maxL rt :: Wd))) (hd : y.cls ≠ "java/lang/invoke/MethodHandle" ∧ y.cls ≠ "java/lang/invoke/VarHandle" ∧ (parseMethodDescriptor y.desc).map (fun d => d.parameters.length) = some n) (hR : fr + 1 ≤ R.frames ∧ 8 + (maxL + 11) + lo ≤ R.locals) (hn : As.length = n) (hsz : ls.size = nL) (hst : stk = As.reverse ++ rest) (hW : (rest.map fun v => v.category).sum ≤ 8) (hdg : decode cc pc = .ok (.invokestatic index, 3)) (hf : cells + mc ≤ R.cells ∧ slots + ms ≤ R.slots)
    (kk : ∀ (r : Option Value) (u : va_W) (H : Heap) (locs : List Loc), post r u → nn_H D A s.heap (ws ++ u) H locs → W p l e R s m args below meth c H locs (cells + mc) (slots + ms) Q (F0 m (pc + 3) ls (r.toList ++ rest))) : W p l e R s m args below meth c H locs cells slots Q (F0 m pc ls (stk)) :=
  nn_aft C hM (va_runS (As := As) (rest := rest) (nn_fix C) (hMet H.size) (va_cwS n (fun w hw => nn_w C hw) hg rfl rfl rfl hd hR) ⟨nn_blind, nn_pc C hM⟩ rfl hn hsz hst (lv_room hW) hdg hf) kk
end NN
theorem nn_enter {l : Launch} {D : va_G} {Wd : List Cond} {tys : List (ClassId × FieldType)} {B : Nat} {z : pp_Z} {y : MethodName} {own : String} {fr lo mc ms : Nat} {av : List Value} {cc : ByteArray} {nL : Nat} {rt : Option FieldType} {ws : va_W} {post : Option Value → va_W → Prop} (hy : plainFor y = true) (hcl : y.cls = own) (hn : (lg_sl av).length ≤ nL)
    (body : ∀ p e s m args below meth c ls A, nn_C p s m args meth c cc nL rt own y.name Wd D tys B z A → lv_has ls nL (lv_args 0 av) → nn_H D A s.heap ws s.heap [] → W p l e (nn_R fr lo mc ms) s m args below meth c s.heap [] 0 0 (MQ below (nn_Q post (nn_U D tys A) A) args s mc ms A) (F0 m 0 ls [])) : nn_M l D Wd tys B z y cc nL rt fr lo mc ms av ws post := by
  intro sz
  refine cc_ofW (cc := cc) (maxL := nL) (ret := rt) hy rfl ?_
  intro p e s m args below meth c s₁ Bd hml hv
  obtain ⟨rfl, hsz, hB, ⟨hP, hK, hD⟩, hE⟩ := hv
  subst hsz
  have hl := lv_entry av hn
  rw [lg_entry_eq]
  generalize (lg_sl av ++ List.replicate (nL - (lg_sl av).length) Slot.unset).toArray = ls at hl ⊢
  refine body p e s m _ below meth c ls _ ⟨Bd.exec, Bd.bytes, Bd.returns, hml, by rw [← hcl]; exact findClass_of_methodNamed Bd.named, fun w hw => atoms_spec (ws := Cond.code y cc nL rt :: Wd) Bd.pre w (List.mem_cons_of_mem _ hw), Bd.notSynchronized, hK, hE, (name_of_methodNamed Bd.named Bd.method).1, fun q hq => ?_, hB⟩ hl ⟨hP, hD.self, va_S.rf, fun q h => Or.inr h⟩
  rcases hq with ⟨k, e, hk⟩ | hq
  · exact hD.2 k _ hk
  · exact Nat.le_trans hB hq
