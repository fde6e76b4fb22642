/-! the class's objects, each by a number of its own; X: which there are, of which class, where they lie (arrays by object and slot), the array classes; state: int fields, int arrays, long arrays, references -/
abbrev cc_X : Type := List Nat × List (Nat × Nat) × (Nat → Nat) × (Nat → Nat) × (Nat → Nat → Nat) × (Nat → ClassId)
def cx_o (X : cc_X) : List Nat := X.1
def cx_r (X : cc_X) : List (Nat × Nat) := X.2.1
def cx_K (X : cc_X) (i : Nat) : Nat := X.2.2.1 i
def cx_a (X : cc_X) (i : Nat) : Nat := X.2.2.2.1 i
def cx_b (X : cc_X) (i k : Nat) : Nat := X.2.2.2.2.1 i k
def cx_c (X : cc_X) (i : Nat) : ClassId := X.2.2.2.2.2 i
abbrev cc_S : Type := (Nat → Nat → Int32) × (Nat → Nat → Nat → Int32) × (Nat → Nat → Nat → Int64) × (Nat → Nat → Nat → Option Nat)
def cc_I (st : cc_S) (i k : Nat) : Int32 := st.1 i k
def cc_G (st : cc_S) (i k j : Nat) : Int32 := st.2.1 i k j
def cc_J (st : cc_S) (i k j : Nat) : Int64 := st.2.2.1 i k j
def cc_P (st : cc_S) (i k j : Nat) : Option Nat := st.2.2.2 i k j
def cc_sI (st : cc_S) (i k : Nat) (v : Int32) : cc_S := (fun a b => if a = i ∧ b = k then v else st.1 a b, st.2)
def cc_sG (st : cc_S) (i k j : Nat) (v : Int32) : cc_S := (st.1, fun a b => if a = i ∧ b = k then upd (st.2.1 a b) j v else st.2.1 a b, st.2.2)
def cc_sJ (st : cc_S) (i k j : Nat) (v : Int64) : cc_S := (st.1, st.2.1, fun a b => if a = i ∧ b = k then vp_updL (st.2.2.1 a b) j v else st.2.2.1 a b, st.2.2.2)
def cc_sP (st : cc_S) (i k j : Nat) (v : Option Nat) : cc_S := (st.1, st.2.1, st.2.2.1, fun a b => if a = i ∧ b = k then va_up (st.2.2.2 a b) j v else st.2.2.2 a b)
def cc_fks : List (List Nat) := [[1, 0, 0, 0], [1, 0, 0, 0], [5, 0, 0, 1, 1, 1, 1, 0, 0, 0], [0, 0, 0, 4], [0, 0, 0, 4], [0, 0, 0, 4], [0, 0, 0, 4], [0, 0, 0, 4], [0, 0, 0, 4], [1, 1, 1, 1, 1, 1, 1, 1, 1, 0, 0, 0, 0, 0, 0, 0, 3], [1, 0, 0], [0, 0, 0, 4], [1, 1, 1, 1, 0, 0, 0, 0], [2, 2, 2, 1, 2, 1, 0, 0]]
def cc_aks : List (List Nat) := [[6], [6], [0, 0, 0, 1, 1, 1, 1], [], [], [], [], [], [], [3, 1, 1, 1, 1, 1, 1, 1, 1], [2], [], [1, 2, 5, 5], [0, 0, 0, 4, 0, 1]]
def cc_als : List (List Nat) := [[0], [0], [0, 0, 0, 10, 10, 11, 100], [], [], [], [], [], [], [6, 6, 24, 8, 5, 5, 5, 8, 8], [60], [], [432, 9, 9, 9], [0, 0, 0, 6, 0, 21]]
def cc_nfs : List Nat := [4, 4, 10, 4, 4, 4, 4, 4, 4, 17, 3, 4, 8, 8]
def cc_fk (c k : Nat) : Nat := (cc_fks.getD c []).getD k 9
def cc_ak (c k : Nat) : Nat := if c = 12 ∧ 200 ≤ k then 2 else (cc_aks.getD c []).getD k 0
def cc_al (c k : Nat) : Nat := if c = 12 ∧ 200 ≤ k then 9 else (cc_als.getD c []).getD k 0
def cc_nf (c : Nat) : Nat := cc_nfs.getD c 0
def cc_cr (k : Nat) : Nat := if k = 0 then 1 else if k = 1 then 2 else if k = 2 then 3 else 40
def cc_val (X : cc_X) (st : cc_S) (i k : Nat) : Value := match cc_fk (cx_K X i) k with
  | 0 => .int (cc_I st i k)
  | 1 => .ref (cx_b X i k)
  | 2 => .ref (cx_a X (cc_cr k))
  | 3 => va_rf ((cc_P st i k 0).map (cx_a X))
  | 4 => .ref (cx_b X 0 5)
  | _ => .ref (cx_b X i 99)
def cc_ent (X : cc_X) (st : cc_S) (r : Nat × Nat) : va_E := match cc_ak (cx_K X r.1) r.2 with
  | 1 => .inl (cx_c X 0, cc_al (cx_K X r.1) r.2, .inl (st.2.1 r.1 r.2))
  | 2 => .inl (cx_c X 1, cc_al (cx_K X r.1) r.2, .inr (.inl (st.2.2.1 r.1 r.2)))
  | 3 => .inl (cx_c X 2, cc_al (cx_K X r.1) r.2, .inr (.inr (.inr (.inr (fun j => (st.2.2.2 r.1 r.2 j).map (cx_a X))))))
  | 4 => .inl (cx_c X 3, cc_al (cx_K X r.1) r.2, .inr (.inr (.inr (.inr (fun j => (st.2.2.2 r.1 r.2 j).map (cx_a X))))))
  | 5 => .inl (cx_c X 4, cc_al (cx_K X r.1) r.2, .inr (.inr (.inr (.inr (fun j => some (cx_b X r.1 (100 * r.2 + j)))))))
  | _ => .inl (cx_c X 5, cc_al (cx_K X r.1) r.2, .inl (st.2.1 r.1 r.2))
def cc_fs (X : cc_X) (st : cc_S) (i : Nat) : List Value := (List.range (cc_nf (cx_K X i))).map (cc_val X st i)
def cc_w (X : cc_X) (st : cc_S) : va_W := (cx_o X).map (fun i => (cx_a X i, .inr (cx_K X i, cc_fs X st i))) ++ (cx_r X).map (fun r => (cx_b X r.1 r.2, cc_ent X st r))
def cc_tys (X : cc_X) : List (ClassId × FieldType) := [(cx_c X 0, .int), (cx_c X 1, .long), (cx_c X 2, .object "EclipsesKept$Need"), (cx_c X 3, .object "EclipsesKept$Tape"), (cx_c X 4, .array .long), (cx_c X 5, .byte)]
def cc_go (X : cc_X) (i : Nat) (cs : List Nat) : Bool := decide (i ∈ cx_o X ∧ cx_K X i ∈ cs)
def cc_ga (X : cc_X) (i k t : Nat) (j : Int32) : Bool := decide ((i, k) ∈ cx_r X ∧ cc_ak (cx_K X i) k = t ∧ 0 ≤ j.toInt ∧ j.toInt < cc_al (cx_K X i) k)
def cc_ok (X : cc_X) : Prop := (cx_o X).Nodup ∧ (cx_r X).Nodup
def fc_mt {γ : Type} (r : Option Nat) (a : γ) (b : Nat → γ) : γ := match r with
  | none => a
  | some y => b y
theorem fc_of_mn {γ : Type} {r : Option Nat} {a : γ} {b : Nat → γ} {v : γ} (h : fc_mt r a b = v) (hr : r = none) : a = v := by subst hr; exact h
theorem fc_of_ms {γ : Type} {r : Option Nat} {a : γ} {b : Nat → γ} {v : γ} {y : Nat} (h : fc_mt r a b = v) (hr : r = some y) : b y = v := by subst hr; exact h
theorem cc_mapset {α β : Type} {l : List β} {f g : β → α} {q : Nat} {k : β} (hq : l[q]? = some k) (hn : l.Nodup) (h : ∀ j, j ≠ k → g j = f j) : (l.map f).set q (g k) = l.map g := by
  apply List.ext_getElem?
  intro i
  have hl := (List.getElem?_eq_some_iff.mp hq).1
  by_cases hi : i = q
  · subst hi
    rw [List.getElem?_set_self (by rw [List.length_map]; exact hl), List.getElem?_map, hq]
    rfl
  · rw [List.getElem?_set_ne (Ne.symm hi), List.getElem?_map, List.getElem?_map]
    cases hj : l[i]? with
    | none => rfl
    | some j =>
      have hne : j ≠ k := by
        intro e
        subst e
        exact hi ((List.getElem_inj hn).mp ((List.getElem?_eq_some_iff.mp hj).2.trans (List.getElem?_eq_some_iff.mp hq).2.symm))
      show some (f j) = some (g j)
      rw [h j hne]
theorem cc_go_o {X : cc_X} {i : Nat} {cs : List Nat} (h : cc_go X i cs = true) : i ∈ cx_o X := (of_decide_eq_true h).1
theorem cc_go_K {X : cc_X} {i c : Nat} (h : cc_go X i [c] = true) : cx_K X i = c := List.mem_singleton.mp (of_decide_eq_true h).2
theorem cc_go_c {X : cc_X} {i : Nat} {cs : List Nat} (h : cc_go X i cs = true) : cx_K X i ∈ cs := (of_decide_eq_true h).2
theorem cc_go_1 {X : cc_X} {i c : Nat} {cs : List Nat} (h : cc_go X i cs = true) (hc : cx_K X i = c) : cc_go X i [c] = true := decide_eq_true ⟨(of_decide_eq_true h).1, List.mem_singleton.mpr hc⟩
theorem cc_w_o {X : cc_X} (st : cc_S) {i : Nat} (h : i ∈ cx_o X) : ∃ q : Nat, (cx_o X)[q]? = some i ∧ (cc_w X st)[q]? = some (cx_a X i, (Sum.inr (cx_K X i, cc_fs X st i) : va_E)) := by
  obtain ⟨q, hq⟩ := List.getElem?_of_mem h
  refine ⟨q, hq, ?_⟩
  unfold cc_w
  rw [List.getElem?_append_left (by rw [List.length_map]; exact (List.getElem?_eq_some_iff.mp hq).1), List.getElem?_map, hq]
  rfl
theorem cc_w_r {X : cc_X} (st : cc_S) {r : Nat × Nat} (h : r ∈ cx_r X) : ∃ q : Nat, (cx_r X)[q]? = some r ∧ (cc_w X st)[(cx_o X).length + q]? = some (cx_b X r.1 r.2, cc_ent X st r) := by
  obtain ⟨q, hq⟩ := List.getElem?_of_mem h
  refine ⟨q, hq, ?_⟩
  unfold cc_w
  rw [List.getElem?_append_right (by rw [List.length_map]; omega), List.length_map, Nat.add_sub_cancel_left, List.getElem?_map, hq]
  rfl
theorem cc_fs_get {X : cc_X} {st : cc_S} {i k : Nat} (hk : k < cc_nf (cx_K X i)) : (cc_fs X st i)[k]? = some (cc_val X st i k) := by
  unfold cc_fs
  rw [List.getElem?_map, List.getElem?_range hk]
  rfl
theorem cc_val_sI {X : cc_X} {st : cc_S} {i k j b : Nat} {v : Int32} (h : ¬ (j = i ∧ b = k)) : cc_val X (cc_sI st i k v) j b = cc_val X st j b := by
  have e : cc_I (cc_sI st i k v) j b = cc_I st j b := if_neg h
  unfold cc_val
  rw [e]
  rfl
theorem cc_w_sI {X : cc_X} {st : cc_S} {i k q : Nat} (hok : cc_ok X) (hq : (cx_o X)[q]? = some i) (h0 : cc_fk (cx_K X i) k = 0) (hk : k < cc_nf (cx_K X i)) (v : Int32) : (cc_w X st).set q (cx_a X i, .inr (cx_K X i, (cc_fs X st i).set k (.int v))) = cc_w X (cc_sI st i k v) := by
  have hl := (List.getElem?_eq_some_iff.mp hq).1
  have e1 : (cc_fs X st i).set k (.int v) = cc_fs X (cc_sI st i k v) i := by
    have h := cc_mapset (f := cc_val X st i) (g := cc_val X (cc_sI st i k v) i) (q := k) (k := k) (List.getElem?_range hk) List.nodup_range (fun j hj => cc_val_sI (fun h => hj h.2))
    have e : cc_val X (cc_sI st i k v) i k = .int v := by
      have e2 : cc_I (cc_sI st i k v) i k = v := if_pos ⟨rfl, rfl⟩
      unfold cc_val
      rw [h0, e2]
      rfl
    rw [e] at h
    exact h
  rw [e1]
  unfold cc_w
  rw [List.set_append_left _ _ (by rw [List.length_map]; exact hl)]
  have e3 := cc_mapset (f := fun i => (cx_a X i, (Sum.inr (cx_K X i, cc_fs X st i) : va_E))) (g := fun j => (cx_a X j, (Sum.inr (cx_K X j, cc_fs X (cc_sI st i k v) j) : va_E))) hq hok.1 (fun j hj => by
    have e4 : cc_fs X (cc_sI st i k v) j = cc_fs X st j := List.map_congr_left (fun b _ => cc_val_sI (fun h => hj h.1))
    show (cx_a X j, (Sum.inr (cx_K X j, cc_fs X (cc_sI st i k v) j) : va_E)) = (cx_a X j, (Sum.inr (cx_K X j, cc_fs X st j) : va_E))
    rw [e4])
  rw [e3]
  rfl
theorem cc_w_set {X : cc_X} {st st' : cc_S} {r : Nat × Nat} {q : Nat} (hok : cc_ok X) (hq : (cx_r X)[q]? = some r) (h1 : ∀ i, cc_fs X st' i = cc_fs X st i) (h : ∀ j, j ≠ r → cc_ent X st' j = cc_ent X st j) : (cc_w X st).set ((cx_o X).length + q) (cx_b X r.1 r.2, cc_ent X st' r) = cc_w X st' := by
  unfold cc_w
  rw [List.set_append_right _ _ (by rw [List.length_map]; omega), List.length_map, Nat.add_sub_cancel_left]
  have e := cc_mapset (f := fun r => (cx_b X r.1 r.2, cc_ent X st r)) (g := fun r => (cx_b X r.1 r.2, cc_ent X st' r)) hq hok.2 (fun j hj => by show (cx_b X j.1 j.2, cc_ent X st' j) = (cx_b X j.1 j.2, cc_ent X st j); rw [h j hj])
  rw [e]
  congr 1
  exact List.map_congr_left (fun i _ => by rw [h1 i])
theorem cc_fs_G {X : cc_X} {st : cc_S} {i k j : Nat} {v : Int32} (a : Nat) : cc_fs X (cc_sG st i k j v) a = cc_fs X st a := rfl
theorem cc_fs_J {X : cc_X} {st : cc_S} {i k j : Nat} {v : Int64} (a : Nat) : cc_fs X (cc_sJ st i k j v) a = cc_fs X st a := rfl
theorem cc_ent_G {X : cc_X} {st : cc_S} {i k j : Nat} {v : Int32} (r : Nat × Nat) (h : r ≠ (i, k)) : cc_ent X (cc_sG st i k j v) r = cc_ent X st r := by
  have e : (cc_sG st i k j v).2.1 r.1 r.2 = st.2.1 r.1 r.2 := if_neg (fun q => h (Prod.ext q.1 q.2))
  unfold cc_ent
  rw [e]
  rfl
theorem cc_ent_J {X : cc_X} {st : cc_S} {i k j : Nat} {v : Int64} (r : Nat × Nat) (h : r ≠ (i, k)) : cc_ent X (cc_sJ st i k j v) r = cc_ent X st r := by
  have e : (cc_sJ st i k j v).2.2.1 r.1 r.2 = st.2.2.1 r.1 r.2 := if_neg (fun q => h (Prod.ext q.1 q.2))
  unfold cc_ent
  rw [e]
  rfl
theorem cc_ga_r {X : cc_X} {i k t : Nat} {j : Int32} (h : cc_ga X i k t j = true) : (i, k) ∈ cx_r X ∧ cc_ak (cx_K X i) k = t ∧ vp_in j (cc_al (cx_K X i) k) := by
  have h1 := of_decide_eq_true h
  exact ⟨h1.1, h1.2.1, vp_in_iff.mpr h1.2.2⟩
/-! what holds within a method -/
def cc_A (X : cc_X) : Nat → Prop := fun q => (∃ i, i ∈ cx_o X ∧ q = cx_a X i) ∨ ∃ r, r ∈ cx_r X ∧ q = cx_b X r.1 r.2
def cc_N (U : State) : Prop := (∀ q ∈ cc_nc, va_Nc q.1 q.2 U) ∧ ∀ q ∈ cc_ys, va_Nw (.castable q.1 q.2) U
theorem cc_Nm {u U : State} (hal : u.vm.Alike U.vm) (h : cc_N u) : cc_N U := ⟨fun q hq => va_Nc.moved hal (h.1 q hq), fun q hq => va_tabs rfl (rfl : (u.setVm U.vm).vm = U.vm) (by rw [Cond.castable_setVm hal]; exact h.2 q hq)⟩
def cc_C (p : Program) (s : State) (m : MethodId) (args : Array Value) (meth : Method) (c : Code) (cc : ByteArray) (nL : Nat) (ret : Option FieldType) (own : String) (D : va_G) (X : cc_X) : Prop :=
  p.tables.exec = Jvm.exec ∧ c.code = cc ∧ meth.sig.returnType = ret ∧ c.maxLocals = nL ∧ s.vm.findClass own = some m.cls ∧ (∀ w ∈ cc_W, w.before args s = true) ∧ meth.locks = false ∧ va_K D vwCl (cc_tys X) s ∧ cc_N s ∧ cc_ok X
def cc_H (D : va_G) (X : cc_X) (H0 : Heap) (st : cc_S) (H : Heap) (locs : List Loc) : Prop :=
  va_P D vwCl (cc_w X st) H ∧ va_D (cc_A X) (cc_w X st) ∧ va_S (cc_A X) H0 H locs
def cc_U (D : va_G) (X : cc_X) (st : cc_S) (U : State) : Prop :=
  va_P D vwCl (cc_w X st) U.heap ∧ va_K D vwCl (cc_tys X) U ∧ va_D (fun _ => True) (cc_w X st) ∧ cc_N U ∧ cc_ok X
abbrev cc_Qi (D : va_G) (X : cc_X) (r : Int32) (st : cc_S) : Array Value → State → Outcome → State → Prop := va_Qi (fun (r' : Int32) (u : cc_S) => r' = r ∧ u = st) (cc_U D X) (cc_A X)
abbrev cc_Ql (D : va_G) (X : cc_X) (r : Int64) (st : cc_S) : Array Value → State → Outcome → State → Prop := va_Ql (fun (r' : Int64) (u : cc_S) => r' = r ∧ u = st) (cc_U D X) (cc_A X)
abbrev cc_Qv (D : va_G) (X : cc_X) (st : cc_S) : Array Value → State → Outcome → State → Prop := va_Qv (fun (u : cc_S) => u = st) (cc_U D X) (cc_A X)
abbrev cc_Qq (D : va_G) (X : cc_X) (r : Option Nat) (st : cc_S) : Array Value → State → Outcome → State → Prop := va_Qq (fun (r' : Option Nat) (u : cc_S) => r' = r.map (cx_a X) ∧ u = st) (cc_U D X) (cc_A X)
def cc_Mi (l : Launch) (D : va_G) (X : cc_X) (y : MethodName) (bytes : ByteArray) (maxL : Nat) (rt : Option FieldType) (fr lo : Nat) (av : List Value) (st : cc_S) (x : Option (Int32 × cc_S)) : Prop :=
  ∀ r st', x = some (r, st') → Met l y (Cond.code y bytes maxL rt :: cc_W) (mm_R fr lo) (va_Pc av (cc_U D X st)) (cc_Qi D X r st') 0 0 (cc_A X)
def cc_Ml (l : Launch) (D : va_G) (X : cc_X) (y : MethodName) (bytes : ByteArray) (maxL : Nat) (rt : Option FieldType) (fr lo : Nat) (av : List Value) (st : cc_S) (x : Option (Int64 × cc_S)) : Prop :=
  ∀ r st', x = some (r, st') → Met l y (Cond.code y bytes maxL rt :: cc_W) (mm_R fr lo) (va_Pc av (cc_U D X st)) (cc_Ql D X r st') 0 0 (cc_A X)
def cc_Mv (l : Launch) (D : va_G) (X : cc_X) (y : MethodName) (bytes : ByteArray) (maxL : Nat) (rt : Option FieldType) (fr lo : Nat) (av : List Value) (st : cc_S) (x : Option cc_S) : Prop :=
  ∀ st', x = some st' → Met l y (Cond.code y bytes maxL rt :: cc_W) (mm_R fr lo) (va_Pc av (cc_U D X st)) (cc_Qv D X st') 0 0 (cc_A X)
def cc_Mq (l : Launch) (D : va_G) (X : cc_X) (y : MethodName) (bytes : ByteArray) (maxL : Nat) (rt : Option FieldType) (fr lo : Nat) (av : List Value) (st : cc_S) (x : Option (Option Nat × cc_S)) : Prop :=
  ∀ r st', x = some (r, st') → Met l y (Cond.code y bytes maxL rt :: cc_W) (mm_R fr lo) (va_Pc av (cc_U D X st)) (cc_Qq D X r st') 0 0 (cc_A X)
theorem cc_D_A {X : cc_X} {st : cc_S} {B : Nat → Prop} (h : va_D B (cc_w X st)) : va_D (cc_A X) (cc_w X st) := by
  refine ⟨h.1, fun k q hq => ?_⟩
  rcases List.mem_append.mp (List.mem_of_getElem? hq) with e | e
  · obtain ⟨i, hi, e⟩ := List.mem_map.mp e
    rw [← e]
    exact Or.inl ⟨i, hi, rfl⟩
  · obtain ⟨r, hr, e⟩ := List.mem_map.mp e
    rw [← e]
    exact Or.inr ⟨r, hr, rfl⟩
section CC
variable {p : Program} {l : Launch} {e : Env} {R : Room} {s : State} {m : MethodId} {args : Array Value} {below : List Frame} {meth : Method} {c : Code} {H H0 : Heap} {locs : List Loc} {cells slots : Nat} {Q : State → Prop}
variable {cc : ByteArray} {nL : Nat} {ret : Option FieldType} {own : String} {pc : Nat} {ls : Array Slot} {rest : List Value} {D : va_G} {X : cc_X} {st : cc_S}
/-- a field of any sort -/
theorem cc_gV {ci i k index : Nat} {C ref : String} {T : u_T} {N : Nat} {v : Value} (Cx : cc_C p s m args meth c cc nL ret own D X) (hM : cc_H D X H0 st H locs) (hid : cc_go X i [ci] = true) (hc : vwCl[ci]? = some (C, T, N)) (hin : ∀ w ∈ u_ws C T N, w ∈ cc_W) (hN : cc_nf ci = N) (hk : k < N) (hl : Cond.fieldLink own index ref (T k).2.1 (T k).2.2.1 ∈ cc_W) (hs : ∀ x, s.fieldFound? (T k).1 (T k).2.1 (T k).2.2.1 = some x → s.fieldFound? ref (T k).2.1 (T k).2.2.1 = some x) (hdg : decode cc pc = .ok (.getfield index, 3)) (hv : cc_val X st i k = v)
    (kk : W p l e R s m args below meth c H locs cells slots Q (F0 m (pc + 3) ls (v :: rest))) : W p l e R s m args below meth c H locs cells slots Q (F0 m pc ls (.ref (cx_a X i) :: rest)) := by
  obtain ⟨hx, hb, -, -, hown, hts, -, hK, -, -⟩ := Cx
  obtain ⟨q, hq, he⟩ := cc_w_o st (cc_go_o hid)
  have hKi := cc_go_K hid
  have hv2 : (cc_fs X st i)[k]? = some v := by
    rw [cc_fs_get (by rw [hKi, hN]; exact hk), hv]
  rw [hKi] at he
  exact va_get (C := C) (T := T) (N := N) (ci := ci) hx hb hts hin hown hK hM.1 q he hc k hk (hts _ hl) hs hv2 hdg kk
theorem cc_gI {ci i k index : Nat} {C ref : String} {T : u_T} {N : Nat} (Cx : cc_C p s m args meth c cc nL ret own D X) (hM : cc_H D X H0 st H locs) (hid : cc_go X i [ci] = true) (hc : vwCl[ci]? = some (C, T, N)) (hin : ∀ w ∈ u_ws C T N, w ∈ cc_W) (hN : cc_nf ci = N) (hk : k < N) (hl : Cond.fieldLink own index ref (T k).2.1 (T k).2.2.1 ∈ cc_W) (hs : ∀ x, s.fieldFound? (T k).1 (T k).2.1 (T k).2.2.1 = some x → s.fieldFound? ref (T k).2.1 (T k).2.2.1 = some x) (hdg : decode cc pc = .ok (.getfield index, 3)) (h0 : cc_fk ci k = 0)
    (kk : W p l e R s m args below meth c H locs cells slots Q (F0 m (pc + 3) ls (.int (cc_I st i k) :: rest))) : W p l e R s m args below meth c H locs cells slots Q (F0 m pc ls (.ref (cx_a X i) :: rest)) :=
  cc_gV Cx hM hid hc hin hN hk hl hs hdg (by unfold cc_val; rw [cc_go_K hid, h0]; rfl) kk
theorem cc_gA {ci i k index : Nat} {C ref : String} {T : u_T} {N : Nat} (Cx : cc_C p s m args meth c cc nL ret own D X) (hM : cc_H D X H0 st H locs) (hid : cc_go X i [ci] = true) (hc : vwCl[ci]? = some (C, T, N)) (hin : ∀ w ∈ u_ws C T N, w ∈ cc_W) (hN : cc_nf ci = N) (hk : k < N) (hl : Cond.fieldLink own index ref (T k).2.1 (T k).2.2.1 ∈ cc_W) (hs : ∀ x, s.fieldFound? (T k).1 (T k).2.1 (T k).2.2.1 = some x → s.fieldFound? ref (T k).2.1 (T k).2.2.1 = some x) (hdg : decode cc pc = .ok (.getfield index, 3)) (h0 : cc_fk ci k = 1)
    (kk : W p l e R s m args below meth c H locs cells slots Q (F0 m (pc + 3) ls (.ref (cx_b X i k) :: rest))) : W p l e R s m args below meth c H locs cells slots Q (F0 m pc ls (.ref (cx_a X i) :: rest)) :=
  cc_gV Cx hM hid hc hin hN hk hl hs hdg (by unfold cc_val; rw [cc_go_K hid, h0]; rfl) kk
theorem cc_gO {ci i k index : Nat} {C ref : String} {T : u_T} {N : Nat} (Cx : cc_C p s m args meth c cc nL ret own D X) (hM : cc_H D X H0 st H locs) (hid : cc_go X i [ci] = true) (hc : vwCl[ci]? = some (C, T, N)) (hin : ∀ w ∈ u_ws C T N, w ∈ cc_W) (hN : cc_nf ci = N) (hk : k < N) (hl : Cond.fieldLink own index ref (T k).2.1 (T k).2.2.1 ∈ cc_W) (hs : ∀ x, s.fieldFound? (T k).1 (T k).2.1 (T k).2.2.1 = some x → s.fieldFound? ref (T k).2.1 (T k).2.2.1 = some x) (hdg : decode cc pc = .ok (.getfield index, 3)) (h0 : cc_fk ci k = 2)
    (kk : W p l e R s m args below meth c H locs cells slots Q (F0 m (pc + 3) ls (.ref (cx_a X (cc_cr k)) :: rest))) : W p l e R s m args below meth c H locs cells slots Q (F0 m pc ls (.ref (cx_a X i) :: rest)) :=
  cc_gV Cx hM hid hc hin hN hk hl hs hdg (by unfold cc_val; rw [cc_go_K hid, h0]; rfl) kk
theorem cc_gB {ci i k index : Nat} {C ref : String} {T : u_T} {N : Nat} (Cx : cc_C p s m args meth c cc nL ret own D X) (hM : cc_H D X H0 st H locs) (hid : cc_go X i [ci] = true) (hc : vwCl[ci]? = some (C, T, N)) (hin : ∀ w ∈ u_ws C T N, w ∈ cc_W) (hN : cc_nf ci = N) (hk : k < N) (hl : Cond.fieldLink own index ref (T k).2.1 (T k).2.2.1 ∈ cc_W) (hs : ∀ x, s.fieldFound? (T k).1 (T k).2.1 (T k).2.2.1 = some x → s.fieldFound? ref (T k).2.1 (T k).2.2.1 = some x) (hdg : decode cc pc = .ok (.getfield index, 3)) (h0 : cc_fk ci k = 4)
    (kk : W p l e R s m args below meth c H locs cells slots Q (F0 m (pc + 3) ls (.ref (cx_b X 0 5) :: rest))) : W p l e R s m args below meth c H locs cells slots Q (F0 m pc ls (.ref (cx_a X i) :: rest)) :=
  cc_gV Cx hM hid hc hin hN hk hl hs hdg (by unfold cc_val; rw [cc_go_K hid, h0]; rfl) kk
theorem cc_gP {ci i k index : Nat} {C ref : String} {T : u_T} {N : Nat} (Cx : cc_C p s m args meth c cc nL ret own D X) (hM : cc_H D X H0 st H locs) (hid : cc_go X i [ci] = true) (hc : vwCl[ci]? = some (C, T, N)) (hin : ∀ w ∈ u_ws C T N, w ∈ cc_W) (hN : cc_nf ci = N) (hk : k < N) (hl : Cond.fieldLink own index ref (T k).2.1 (T k).2.2.1 ∈ cc_W) (hs : ∀ x, s.fieldFound? (T k).1 (T k).2.1 (T k).2.2.1 = some x → s.fieldFound? ref (T k).2.1 (T k).2.2.1 = some x) (hdg : decode cc pc = .ok (.getfield index, 3)) (h0 : cc_fk ci k = 3)
    (kn : cc_P st i k 0 = none → W p l e R s m args below meth c H locs cells slots Q (F0 m (pc + 3) ls (.null :: rest))) (ks : ∀ y, cc_P st i k 0 = some y → W p l e R s m args below meth c H locs cells slots Q (F0 m (pc + 3) ls (.ref (cx_a X y) :: rest))) : W p l e R s m args below meth c H locs cells slots Q (F0 m pc ls (.ref (cx_a X i) :: rest)) := by
  cases hP : cc_P st i k 0 with
  | none => exact cc_gV Cx hM hid hc hin hN hk hl hs hdg (by unfold cc_val; rw [cc_go_K hid, h0]; show va_rf ((cc_P st i k 0).map (cx_a X)) = _; rw [hP]; rfl) (kn hP)
  | some y => exact cc_gV Cx hM hid hc hin hN hk hl hs hdg (by unfold cc_val; rw [cc_go_K hid, h0]; show va_rf ((cc_P st i k 0).map (cx_a X)) = _; rw [hP]; rfl) (ks y hP)
theorem cc_pI {ci i k index : Nat} {C ref : String} {T : u_T} {N : Nat} {ty0 : Nat → FieldType} {v : Int32} (Cx : cc_C p s m args meth c cc nL ret own D X) (hM : cc_H D X H0 st H locs) (hid : cc_go X i [ci] = true) (hc : vwCl[ci]? = some (C, T, N)) (hin : ∀ w ∈ u_ws C T N, w ∈ cc_W) (hN : cc_nf ci = N) (hk : k < N) (hl : Cond.fieldLink own index ref (T k).2.1 (T k).2.2.1 ∈ cc_W) (hs : ∀ x, s.fieldFound? (T k).1 (T k).2.1 (T k).2.2.1 = some x → s.fieldFound? ref (T k).2.1 (T k).2.2.1 = some x) (hty : ∀ k, k < N → parseFieldDescriptor (T k).2.2.1 = some (ty0 k)) (hnm : ∀ a, a < N → ∀ b, b < N → a ≠ b → (T a).2.1 ≠ (T b).2.1) (hfin : (T k).2.2.2 = false) (hn : narrow (ty0 k) (.int v) = .int v) (hf : fits (ty0 k) (.int v) = true) (hdg : decode cc pc = .ok (.putfield index, 3)) (h0 : cc_fk ci k = 0)
    (kk : ∀ (st1 : cc_S) (H1 : Heap) (locs1 : List Loc), st1 = cc_sI st i k v → cc_H D X H0 st1 H1 locs1 → W p l e R s m args below meth c H1 locs1 cells slots Q (F0 m (pc + 3) ls rest)) : W p l e R s m args below meth c H locs cells slots Q (F0 m pc ls (.int v :: .ref (cx_a X i) :: rest)) := by
  obtain ⟨hx, hb, -, -, hown, hts, -, hK, -, hok⟩ := Cx
  obtain ⟨q, hq, he⟩ := cc_w_o st (cc_go_o hid)
  have hKi := cc_go_K hid
  have hset := cc_w_sI (st := st) (k := k) hok hq (by rw [hKi]; exact h0) (by rw [hKi, hN]; exact hk) v
  rw [hKi] at he hset
  refine va_put (C := C) (T := T) (N := N) (ci := ci) hx hb hts hin ty0 hty hnm hown hK hM.1 hM.2.1 hM.2.2 q he hc k hk (hts _ hl) hs hfin (hty k hk) hn hf (by unfold cc_fs; rw [List.length_map, List.length_range, hKi, hN]; exact hk) hdg (fun H1 locs1 hP hD hS => ?_)
  rw [hset] at hP hD
  exact kk _ H1 locs1 rfl ⟨hP, hD, hS⟩
theorem cc_iald {i k : Nat} {j : Int32} (Cx : cc_C p s m args meth c cc nL ret own D X) (hM : cc_H D X H0 st H locs) (hg : cc_ga X i k 1 j = true) (hdg : decode cc pc = .ok (.iaload, 1))
    (kk : W p l e R s m args below meth c H locs cells slots Q (F0 m (pc + 1) ls (.int (cc_G st i k j.toNatClampNeg) :: rest))) : W p l e R s m args below meth c H locs cells slots Q (F0 m pc ls (.int j :: .ref (cx_b X i k) :: rest)) := by
  obtain ⟨hr, ht, hin⟩ := cc_ga_r hg
  obtain ⟨q, hq, ha⟩ := cc_w_r st hr
  rw [show cc_ent X st (i, k) = .inl (cx_c X 0, cc_al (cx_K X i) k, .inl (st.2.1 i k)) by unfold cc_ent; rw [ht]; rfl] at ha
  exact va_iald Cx.1 Cx.2.1 Cx.2.2.2.2.2.2.2.1 hM.1 _ 0 ha rfl hin hdg kk
theorem cc_lald {i k : Nat} {j : Int32} (Cx : cc_C p s m args meth c cc nL ret own D X) (hM : cc_H D X H0 st H locs) (hg : cc_ga X i k 2 j = true) (hdg : decode cc pc = .ok (.laload, 1))
    (kk : W p l e R s m args below meth c H locs cells slots Q (F0 m (pc + 1) ls (.long (cc_J st i k j.toNatClampNeg) :: rest))) : W p l e R s m args below meth c H locs cells slots Q (F0 m pc ls (.int j :: .ref (cx_b X i k) :: rest)) := by
  obtain ⟨hr, ht, hin⟩ := cc_ga_r hg
  obtain ⟨q, hq, ha⟩ := cc_w_r st hr
  rw [show cc_ent X st (i, k) = .inl (cx_c X 1, cc_al (cx_K X i) k, .inr (.inl (st.2.2.1 i k))) by unfold cc_ent; rw [ht]; rfl] at ha
  exact va_lald Cx.1 Cx.2.1 Cx.2.2.2.2.2.2.2.1 hM.1 _ 1 ha rfl hin hdg kk
theorem cc_bald {i k : Nat} {j : Int32} (Cx : cc_C p s m args meth c cc nL ret own D X) (hM : cc_H D X H0 st H locs) (hg : cc_ga X i k 6 j = true) (hdg : decode cc pc = .ok (.baload, 1))
    (kk : W p l e R s m args below meth c H locs cells slots Q (F0 m (pc + 1) ls (.int (cc_G st i k j.toNatClampNeg) :: rest))) : W p l e R s m args below meth c H locs cells slots Q (F0 m pc ls (.int j :: .ref (cx_b X i k) :: rest)) := by
  obtain ⟨hr, ht, hin⟩ := cc_ga_r hg
  obtain ⟨q, hq, ha⟩ := cc_w_r st hr
  rw [show cc_ent X st (i, k) = .inl (cx_c X 5, cc_al (cx_K X i) k, .inl (st.2.1 i k)) by unfold cc_ent; rw [ht]; rfl] at ha
  exact va_bald Cx.1 Cx.2.1 Cx.2.2.2.2.2.2.2.1 hM.1 _ 5 ha rfl hin hdg kk
/-- a row of rows -/
theorem cc_aldg {i k : Nat} {j : Int32} (Cx : cc_C p s m args meth c cc nL ret own D X) (hM : cc_H D X H0 st H locs) (hg : cc_ga X i k 5 j = true) (hdg : decode cc pc = .ok (.aaload, 1))
    (kk : W p l e R s m args below meth c H locs cells slots Q (F0 m (pc + 1) ls (.ref (cx_b X i (100 * k + j.toNatClampNeg)) :: rest))) : W p l e R s m args below meth c H locs cells slots Q (F0 m pc ls (.int j :: .ref (cx_b X i k) :: rest)) := by
  obtain ⟨hr, ht, hin⟩ := cc_ga_r hg
  obtain ⟨q, hq, ha⟩ := cc_w_r st hr
  rw [show cc_ent X st (i, k) = .inl (cx_c X 4, cc_al (cx_K X i) k, .inr (.inr (.inr (.inr (fun j => some (cx_b X i (100 * k + j))))))) by unfold cc_ent; rw [ht]; rfl] at ha
  have hlt : j.toNatClampNeg < cc_al (cx_K X i) k := Nat.not_le.mp fun q => hin (Or.inr q)
  exact W.aald (v := va_rf (some (cx_b X i (100 * k + j.toNatClampNeg)))) (ty := .array .long) Cx.1 Cx.2.1 (hM.1 _ _ ha) ((Cx.2.2.2.2.2.2.2.1.2 4 _ rfl).1 _ (fun j => va_rf (some (cx_b X i (100 * k + j))))) rfl (fun q => by cases q) (by show ¬ (j < 0 ∨ (arrV _ _ _).slots.size ≤ _); rw [arrV_size]; exact hin) (by show (arrV _ _ _).slots[_]? = _; rw [arrV_read _ _ hlt]) rfl rfl hdg kk
/-- a row of objects: t 3 needs, 4 tapes -/
theorem cc_aldq {i k t : Nat} {j : Int32} (Cx : cc_C p s m args meth c cc nL ret own D X) (hM : cc_H D X H0 st H locs) (hg : cc_ga X i k t j = true) (ht2 : t = 3 ∨ t = 4) (hdg : decode cc pc = .ok (.aaload, 1))
    (kn : cc_P st i k j.toNatClampNeg = none → W p l e R s m args below meth c H locs cells slots Q (F0 m (pc + 1) ls (.null :: rest))) (ks : ∀ y, cc_P st i k j.toNatClampNeg = some y → W p l e R s m args below meth c H locs cells slots Q (F0 m (pc + 1) ls (.ref (cx_a X y) :: rest))) : W p l e R s m args below meth c H locs cells slots Q (F0 m pc ls (.int j :: .ref (cx_b X i k) :: rest)) := by
  obtain ⟨hr, ht, hin⟩ := cc_ga_r hg
  obtain ⟨q, hq, ha⟩ := cc_w_r st hr
  have key : W p l e R s m args below meth c H locs cells slots Q (F0 m (pc + 1) ls (va_rf ((cc_P st i k j.toNatClampNeg).map (cx_a X)) :: rest)) := by
    cases hP : cc_P st i k j.toNatClampNeg with
    | none => exact kn hP
    | some y => exact ks y hP
  rcases ht2 with rfl | rfl
  · rw [show cc_ent X st (i, k) = .inl (cx_c X 2, cc_al (cx_K X i) k, .inr (.inr (.inr (.inr (fun j => (st.2.2.2 i k j).map (cx_a X)))))) by unfold cc_ent; rw [ht]; rfl] at ha
    exact va_aldq Cx.1 Cx.2.1 Cx.2.2.2.2.2.2.2.1 hM.1 _ 2 ha rfl hin hdg key
  · rw [show cc_ent X st (i, k) = .inl (cx_c X 3, cc_al (cx_K X i) k, .inr (.inr (.inr (.inr (fun j => (st.2.2.2 i k j).map (cx_a X)))))) by unfold cc_ent; rw [ht]; rfl] at ha
    exact va_aldq Cx.1 Cx.2.1 Cx.2.2.2.2.2.2.2.1 hM.1 _ 3 ha rfl hin hdg key
theorem cc_iast {i k : Nat} {j v : Int32} (Cx : cc_C p s m args meth c cc nL ret own D X) (hM : cc_H D X H0 st H locs) (hg : cc_ga X i k 1 j = true) (hdg : decode cc pc = .ok (.iastore, 1))
    (kk : ∀ (st1 : cc_S) (H1 : Heap) (locs1 : List Loc), st1 = cc_sG st i k j.toNatClampNeg v → cc_H D X H0 st1 H1 locs1 → W p l e R s m args below meth c H1 locs1 cells slots Q (F0 m (pc + 1) ls rest)) : W p l e R s m args below meth c H locs cells slots Q (F0 m pc ls (.int v :: .int j :: .ref (cx_b X i k) :: rest)) := by
  obtain ⟨hr, ht, hin⟩ := cc_ga_r hg
  obtain ⟨q, hq, ha⟩ := cc_w_r st hr
  have hok := Cx.2.2.2.2.2.2.2.2.2
  rw [show cc_ent X st (i, k) = .inl (cx_c X 0, cc_al (cx_K X i) k, .inl (st.2.1 i k)) by unfold cc_ent; rw [ht]; rfl] at ha
  refine va_iast Cx.1 Cx.2.1 Cx.2.2.2.2.2.2.2.1 hM.1 hM.2.1 hM.2.2 _ 0 ha rfl hin hdg (fun H1 locs1 hP hD hS => ?_)
  have h2 := cc_w_set (st := st) (st' := cc_sG st i k j.toNatClampNeg v) hok hq cc_fs_G (fun r hr => cc_ent_G r hr)
  rw [show cc_ent X (cc_sG st i k j.toNatClampNeg v) (i, k) = .inl (cx_c X 0, cc_al (cx_K X i) k, .inl (upd (st.2.1 i k) j.toNatClampNeg v)) by
    unfold cc_ent
    rw [ht]
    show Sum.inl (cx_c X 0, cc_al (cx_K X i) k, Sum.inl ((cc_sG st i k j.toNatClampNeg v).2.1 i k)) = _
    rw [show (cc_sG st i k j.toNatClampNeg v).2.1 i k = upd (st.2.1 i k) j.toNatClampNeg v from if_pos ⟨rfl, rfl⟩]] at h2
  rw [h2] at hP hD
  exact kk _ H1 locs1 rfl ⟨hP, hD, hS⟩
theorem cc_last {i k : Nat} {j : Int32} {v : Int64} (Cx : cc_C p s m args meth c cc nL ret own D X) (hM : cc_H D X H0 st H locs) (hg : cc_ga X i k 2 j = true) (hdg : decode cc pc = .ok (.lastore, 1))
    (kk : ∀ (st1 : cc_S) (H1 : Heap) (locs1 : List Loc), st1 = cc_sJ st i k j.toNatClampNeg v → cc_H D X H0 st1 H1 locs1 → W p l e R s m args below meth c H1 locs1 cells slots Q (F0 m (pc + 1) ls rest)) : W p l e R s m args below meth c H locs cells slots Q (F0 m pc ls (.long v :: .int j :: .ref (cx_b X i k) :: rest)) := by
  obtain ⟨hr, ht, hin⟩ := cc_ga_r hg
  obtain ⟨q, hq, ha⟩ := cc_w_r st hr
  have hok := Cx.2.2.2.2.2.2.2.2.2
  rw [show cc_ent X st (i, k) = .inl (cx_c X 1, cc_al (cx_K X i) k, .inr (.inl (st.2.2.1 i k))) by unfold cc_ent; rw [ht]; rfl] at ha
  refine va_last Cx.1 Cx.2.1 Cx.2.2.2.2.2.2.2.1 hM.1 hM.2.1 hM.2.2 _ 1 ha rfl hin hdg (fun H1 locs1 hP hD hS => ?_)
  have h2 := cc_w_set (st := st) (st' := cc_sJ st i k j.toNatClampNeg v) hok hq cc_fs_J (fun r hr => cc_ent_J r hr)
  rw [show cc_ent X (cc_sJ st i k j.toNatClampNeg v) (i, k) = .inl (cx_c X 1, cc_al (cx_K X i) k, .inr (.inl (vp_updL (st.2.2.1 i k) j.toNatClampNeg v))) by
    unfold cc_ent
    rw [ht]
    show Sum.inl (cx_c X 1, cc_al (cx_K X i) k, Sum.inr (Sum.inl ((cc_sJ st i k j.toNatClampNeg v).2.2.1 i k))) = _
    rw [show (cc_sJ st i k j.toNatClampNeg v).2.2.1 i k = vp_updL (st.2.2.1 i k) j.toNatClampNeg v from if_pos ⟨rfl, rfl⟩]] at h2
  rw [h2] at hP hD
  exact kk _ H1 locs1 rfl ⟨hP, hD, hS⟩
theorem cc_al_ {i k t : Nat} {j v : Int32} (Cx : cc_C p s m args meth c cc nL ret own D X) (hM : cc_H D X H0 st H locs) (hg : cc_ga X i k 1 j = true) (hv : Int32.ofNat (cc_al (cx_K X i) k) = v) (hdg : decode cc pc = .ok (.arraylength, 1))
    (kk : W p l e R s m args below meth c H locs cells slots Q (F0 m (pc + 1) ls (.int v :: rest))) : W p l e R s m args below meth c H locs cells slots Q (F0 m pc ls (.ref (cx_b X i k) :: rest)) := by
  obtain ⟨hr, ht, hin⟩ := cc_ga_r hg
  obtain ⟨q, hq, ha⟩ := cc_w_r st hr
  rw [show cc_ent X st (i, k) = .inl (cx_c X 0, cc_al (cx_K X i) k, .inl (st.2.1 i k)) by unfold cc_ent; rw [ht]; rfl] at ha
  exact va_alen Cx.1 Cx.2.1 Cx.2.2.2.2.2.2.2.1 hM.1 _ 0 ha rfl hv hdg kk
/-! calls: how they run -/
theorem cc_blind {av : List Value} (a : Array Value) (U : State) (g : JFrame) (mk : MethodId) (q : va_Pc av (cc_U D X st) a U) : va_Pc av (cc_U D X st) a (U.calling g mk a) :=
  ⟨q.1, q.2.1, va_K.moved (u := U) (U := U.calling g mk a) (Vm.Alike.refl U.vm) q.2.2.1, q.2.2.2.1, cc_Nm (u := U) (U := U.calling g mk a) (Vm.Alike.refl U.vm) q.2.2.2.2.1, q.2.2.2.2.2⟩
theorem cc_pc {av : List Value} (Cx : cc_C p s m args meth c cc nL ret own D X) (hM : cc_H D X H0 st H locs) (U : State) (hU : U.heap = H) (hW : s.WarmedH U.vm) : va_Pc av (cc_U D X st) av.toArray U :=
  ⟨rfl, by rw [hU]; exact hM.1, va_K.moved hW.alike Cx.2.2.2.2.2.2.2.1, hM.2.1.weaken (fun _ _ _ _ => trivial), cc_Nm hW.alike Cx.2.2.2.2.2.2.2.2.1, Cx.2.2.2.2.2.2.2.2.2⟩
theorem cc_rcv {ci i : Nat} {C : String} {T : u_T} {N : Nat} (Cx : cc_C p s m args meth c cc nL ret own D X) (hM : cc_H D X H0 st H locs) (hid : cc_go X i [ci] = true) (hc : vwCl[ci]? = some (C, T, N)) : ∃ cell : Cell, H[cx_a X i]? = some cell ∧ cell.vm.isStatics = false ∧ s.vm.findClass C = some cell.cls := by
  obtain ⟨q, hq, he⟩ := cc_w_o st (cc_go_o hid)
  rw [cc_go_K hid] at he
  exact va_recv Cx.2.2.2.2.2.2.2.1 hM.1 (q := (C, T, N)) hc he
theorem cc_rV {y : MethodName} {ci i index n fr lo maxL : Nat} {C : String} {T : u_T} {N : Nat} {bytes : ByteArray} {rt : Option FieldType} {As : List Value} {Qc : Array Value → State → Outcome → State → Prop} {stk : List Value} (Cx : cc_C p s m args meth c cc nL ret own D X) (hM : cc_H D X H0 st H locs) (hid : cc_go X i [ci] = true) (hc : vwCl[ci]? = some (C, T, N)) (hMet : Met l y (Cond.code y bytes maxL rt :: cc_W) (mm_R fr lo) (va_Pc (.ref (cx_a X i) :: As) (cc_U D X st)) Qc 0 0 (cc_A X)) (hg : GoodIn cc_W (wsV own index C y (Cond.code y bytes maxL rt :: cc_W))) (hd : y.cls = C ∧ y.cls ≠ "java/lang/invoke/MethodHandle" ∧ y.cls ≠ "java/lang/invoke/VarHandle" ∧ (parseMethodDescriptor y.desc).map (fun d => d.parameters.length) = some n) (hR : fr + 1 ≤ R.frames ∧ 8 + (maxL + 11) + lo ≤ R.locals) (hn : As.length = n) (hsz : ls.size = nL) (hst : stk = As.reverse ++ .ref (cx_a X i) :: rest) (hW : (rest.map fun v => v.category).sum ≤ 8) (hdg : decode cc pc = .ok (.invokevirtual index, 3)) (hR2 : cells ≤ R.cells ∧ slots ≤ R.slots) :
    va_Run p l e R s m args below meth c H locs cells slots 0 0 (F0 m pc ls stk) rest (Qc (Value.ref (cx_a X i) :: As).toArray) (cc_A X) :=
  va_runV (As := As) (rest := rest) ⟨Cx.1, Cx.2.1, Cx.2.2.2.1, Cx.2.2.2.2.1, Cx.2.2.2.2.2.1⟩ hMet (cwV n Cx.2.2.2.2.2.1 hg rfl rfl rfl hd hR) ⟨cc_blind, cc_rcv Cx hM hid hc, cc_pc Cx hM⟩ rfl hn hsz hst (lv_room hW) hdg hR2
theorem cc_rU {x y : MethodName} {ci i index n fr lo maxL : Nat} {C owner : String} {T : u_T} {N : Nat} {bytes : ByteArray} {rt : Option FieldType} {As : List Value} {Qc : Array Value → State → Outcome → State → Prop} {stk : List Value} (Cx : cc_C p s m args meth c cc nL ret own D X) (hM : cc_H D X H0 st H locs) (hid : cc_go X i [ci] = true) (hc : vwCl[ci]? = some (C, T, N)) (hMet : Met l y (Cond.code y bytes maxL rt :: cc_W) (mm_R fr lo) (va_Pc (.ref (cx_a X i) :: As) (cc_U D X st)) Qc 0 0 (cc_A X)) (hg : GoodIn cc_W (va_wsU own index C owner x y (Cond.code y bytes maxL rt :: cc_W))) (hyx : y = ⟨owner, x.name, x.desc⟩) (hd : owner ≠ "java/lang/invoke/MethodHandle" ∧ owner ≠ "java/lang/invoke/VarHandle" ∧ (parseMethodDescriptor x.desc).map (fun d => d.parameters.length) = some n) (hR : fr + 1 ≤ R.frames ∧ 8 + (maxL + 11) + lo ≤ R.locals) (hn : As.length = n) (hsz : ls.size = nL) (hst : stk = As.reverse ++ .ref (cx_a X i) :: rest) (hW : (rest.map fun v => v.category).sum ≤ 8) (hdg : decode cc pc = .ok (.invokevirtual index, 3)) (hR2 : cells ≤ R.cells ∧ slots ≤ R.slots) :
    va_Run p l e R s m args below meth c H locs cells slots 0 0 (F0 m pc ls stk) rest (Qc (Value.ref (cx_a X i) :: As).toArray) (cc_A X) :=
  va_runU (As := As) (rest := rest) ⟨Cx.1, Cx.2.1, Cx.2.2.2.1, Cx.2.2.2.2.1, Cx.2.2.2.2.2.1⟩ hMet (va_cwU n Cx.2.2.2.2.2.1 hg rfl rfl rfl hyx hd hR) ⟨cc_blind, cc_rcv Cx hM hid hc, cc_pc Cx hM⟩ rfl hn hsz hst (lv_room hW) hdg hR2
theorem cc_rO {x y : MethodName} {ci i index n fr lo maxL : Nat} {C owner : String} {T : u_T} {N : Nat} {bytes b0 : ByteArray} {m0 : Nat} {rt r0 : Option FieldType} {As : List Value} {Qc : Array Value → State → Outcome → State → Prop} {stk : List Value} (Cx : cc_C p s m args meth c cc nL ret own D X) (hM : cc_H D X H0 st H locs) (hid : cc_go X i [ci] = true) (hc : vwCl[ci]? = some (C, T, N)) (hMet : Met l y (Cond.code y bytes maxL rt :: cc_W) (mm_R fr lo) (va_Pc (.ref (cx_a X i) :: As) (cc_U D X st)) Qc 0 0 (cc_A X)) (hg : GoodIn cc_W (va_wsO own index C owner x y (Cond.code y bytes maxL rt :: cc_W))) (h0 : Cond.code ⟨owner, x.name, x.desc⟩ b0 m0 r0 ∈ cc_W) (hd : owner ≠ "java/lang/invoke/MethodHandle" ∧ owner ≠ "java/lang/invoke/VarHandle" ∧ (parseMethodDescriptor x.desc).map (fun d => d.parameters.length) = some n) (hR : fr + 1 ≤ R.frames ∧ 8 + (maxL + 11) + lo ≤ R.locals) (hn : As.length = n) (hsz : ls.size = nL) (hst : stk = As.reverse ++ .ref (cx_a X i) :: rest) (hW : (rest.map fun v => v.category).sum ≤ 8) (hdg : decode cc pc = .ok (.invokevirtual index, 3)) (hR2 : cells ≤ R.cells ∧ slots ≤ R.slots) :
    va_Run p l e R s m args below meth c H locs cells slots 0 0 (F0 m pc ls stk) rest (Qc (Value.ref (cx_a X i) :: As).toArray) (cc_A X) :=
  va_runU (As := As) (rest := rest) ⟨Cx.1, Cx.2.1, Cx.2.2.2.1, Cx.2.2.2.2.1, Cx.2.2.2.2.2.1⟩ hMet (va_cwO n Cx.2.2.2.2.2.1 hg rfl rfl rfl h0 hd hR) ⟨cc_blind, cc_rcv Cx hM hid hc, cc_pc Cx hM⟩ rfl hn hsz hst (lv_room hW) hdg hR2
theorem cc_rSU {y : MethodName} {ci i index n fr lo maxL : Nat} {C : String} {T : u_T} {N : Nat} {bytes : ByteArray} {rt : Option FieldType} {As : List Value} {Qc : Array Value → State → Outcome → State → Prop} {stk : List Value} (Cx : cc_C p s m args meth c cc nL ret own D X) (hM : cc_H D X H0 st H locs) (hid : cc_go X i [ci] = true) (hc : vwCl[ci]? = some (C, T, N)) (hMet : Met l y (Cond.code y bytes maxL rt :: cc_W) (mm_R fr lo) (va_Pc (.ref (cx_a X i) :: As) (cc_U D X st)) Qc 0 0 (cc_A X)) (hg : GoodIn cc_W (va_wsSU own index y (Cond.code y bytes maxL rt :: cc_W))) (hd : y.name ≠ "<init>" ∧ (parseMethodDescriptor y.desc).map (fun d => d.parameters.length) = some n) (hR : fr + 1 ≤ R.frames ∧ 8 + (maxL + 11) + lo ≤ R.locals) (hn : As.length = n) (hsz : ls.size = nL) (hst : stk = As.reverse ++ .ref (cx_a X i) :: rest) (hW : (rest.map fun v => v.category).sum ≤ 8) (hdg : decode cc pc = .ok (.invokespecial index, 3)) (hR2 : cells ≤ R.cells ∧ slots ≤ R.slots) :
    va_Run p l e R s m args below meth c H locs cells slots 0 0 (F0 m pc ls stk) rest (Qc (Value.ref (cx_a X i) :: As).toArray) (cc_A X) :=
  va_runSU (C := C) (As := As) (rest := rest) ((Cx.2.2.2.2.2.2.2.1.1 ci _ hc).2) ⟨Cx.1, Cx.2.1, Cx.2.2.2.1, Cx.2.2.2.2.1, Cx.2.2.2.2.2.1⟩ hMet (va_cwSU n Cx.2.2.2.2.2.1 hg rfl rfl rfl hd hR) ⟨cc_blind, cc_rcv Cx hM hid hc, cc_pc Cx hM⟩ rfl hn hsz hst (lv_room hW) hdg hR2
theorem cc_callSW {T : State} {locs : List Loc} {cells slots : Nat} (Xs : Stand p l e R s m args below meth c T locs cells slots) (hexec : p.tables.exec = Jvm.exec) {own : String} {index : Nat} {x y : MethodName} {bytes : ByteArray} {maxL : Nat} {ret : Option FieldType}
    (hown : s.vm.findClass own = some m.cls) (hlink : (Cond.methodLink own index x).before args s = true) (hsame : (Cond.sameMethod x.cls y.cls x.name x.desc).before args s = true) (hsup : (Cond.superclass own x.cls).before args s = true) (hsup2 : (Cond.superclass x.cls y.cls).before args s = true) (hyx : y = ⟨y.cls, x.name, x.desc⟩)
    (hinst : (Cond.instanceMethod y).before args s = true) (hcode : (Cond.code y bytes maxL ret).before args s = true) (hno : y.name ≠ "<init>")
    {W : Nat} {Pre : Pt → Array Value → Prop} {Post : Pt → Array Value → Option Value → Pt → Prop} (hK : Back l R p e below s args y 3 W Pre Post)
    {b : Addr} {cellB : Cell} {kB : Class} (hcell : T.heap[b]? = some cellB) (hobj : cellB.vm.isStatics = false) (hkB : s.vm.classes[cellB.cls]? = some kB)
    {g : JFrame} (hg : g.method = m) (hsize : g.locals.size = c.maxLocals) {argsL rest : List Value} (hlen : ∀ sig, parseMethodDescriptor y.desc = some sig → argsL.length = sig.parameters.length)
    (hstack : g.stack = argsL.reverse ++ .ref b :: rest) (hW : 2 * g.monitorRoom + (rest.map fun v => v.category).sum ≤ W) (hdg : decode c.code g.pc = .ok (.invokespecial index, 3))
    (hpre : ∀ vm₁, s.WarmedH vm₁ → Pre ⟨T.setVm vm₁, locs, cells, slots⟩ (Value.ref b :: argsL).toArray) :
    ∃ (v : Option Value) (vm₁ : Vm) (B : Pt), s.WarmedH vm₁ ∧ Stand p l e R s m args below meth c B.U B.locs B.cells B.slots ∧ Post ⟨T.setVm vm₁, locs, cells, slots⟩ (Value.ref b :: argsL).toArray v B ∧
      ∀ target, Steps p.tables e below (B.U.setTop { g with pc := g.pc + 3, stack := v.toList ++ rest }) target → Steps p.tables e below (T.setTop g) target := by
  obtain ⟨mk, methM, hnamed, hmethM, hstM, habM⟩ := Cond.instanceMethod_spec hinst
  obtain ⟨methM', cM, hmethM', -, -, -, -, -, -, hsigM⟩ := Cond.code_spec hnamed hcode
  cases hmethM.symm.trans hmethM'
  obtain ⟨ps, dk, kp, hps, hdk, hkp, hsuper, -, -, hnid⟩ := Cond.superclass_spec hown hsup
  obtain ⟨ps2, dk2, kp2, hps2, hdk2, hkp2, hsuper2, -, -, -⟩ := Cond.superclass_spec hps hsup2
  have hn : s.methodNamed? ⟨y.cls, x.name, x.desc⟩ = some mk := by rw [← hyx]; exact hnamed
  have hpm : ps2 = mk.cls := Option.some.inj (hps2.symm.trans (findClass_of_methodNamed hnamed))
  have hsz : 0 < s.vm.classes.size := Nat.lt_of_le_of_lt (Nat.zero_le _) (Array.getElem?_eq_some_iff.mp hdk2).1
  have hsub : s.vm.isSubclass ps mk.cls = true := by
    obtain ⟨k, hk⟩ : ∃ k, s.vm.classes.size = k + 1 := ⟨s.vm.classes.size - 1, by omega⟩
    rw [← hpm]
    simp [Vm.isSubclass, Vm.isSubclassAux, hdk2, hsuper2, hk]
  have hnx : x.name ≠ "<init>" := by rw [hyx] at hno; exact hno
  obtain ⟨vm₁, X₁, hstep₁⟩ := Xs.invokespecialUp hexec hown hlink hsame hn hmethM hstM habM hnx hdk hnid hps hsuper hsub (a := b) (cell := cellB) hcell
    (fun z h => by rw [h] at hobj; cases hobj) hkB (g := g) hg (argsL := argsL) (rest := rest) (hlen _ hsigM) hstack hdg
  obtain ⟨v, B, X', hpost, hsteps⟩ := hK m meth c ⟨T.setVm vm₁, locs, cells, slots⟩ { g with stack := rest } (.invokespecial index) mk (Value.ref b :: argsL).toArray X₁ hg hsize hdg hW (X₁.named hnamed) (hpre vm₁ X₁.warmed)
  exact ⟨v, vm₁, B, X₁.warmed, X', hpost, fun target h => hstep₁ _ (by rw [doInvoke_state]; exact hsteps.trans h)⟩
def cc_wsSW (own : String) (idx : Nat) (x y : MethodName) (ws : List Cond) : List Cond := ([.methodLink own idx x, .sameMethod x.cls y.cls x.name x.desc, .superclass own x.cls, .superclass x.cls y.cls, .instanceMethod y, .initialized y.cls] : List Cond) ++ ws
theorem cc_rSW {x y : MethodName} {ci i index n fr lo maxL : Nat} {C : String} {T : u_T} {N : Nat} {bytes : ByteArray} {rt : Option FieldType} {As : List Value} {Qc : Array Value → State → Outcome → State → Prop} {stk : List Value} (Cx : cc_C p s m args meth c cc nL ret own D X) (hM : cc_H D X H0 st H locs) (hid : cc_go X i [ci] = true) (hc : vwCl[ci]? = some (C, T, N)) (hMet : Met l y (Cond.code y bytes maxL rt :: cc_W) (mm_R fr lo) (va_Pc (.ref (cx_a X i) :: As) (cc_U D X st)) Qc 0 0 (cc_A X)) (hg : GoodIn cc_W (cc_wsSW own index x y (Cond.code y bytes maxL rt :: cc_W))) (hyx : y = ⟨y.cls, x.name, x.desc⟩) (hd : y.name ≠ "<init>" ∧ (parseMethodDescriptor y.desc).map (fun d => d.parameters.length) = some n) (hR : fr + 1 ≤ R.frames ∧ 8 + (maxL + 11) + lo ≤ R.locals) (hn : As.length = n) (hsz : ls.size = nL) (hst : stk = As.reverse ++ .ref (cx_a X i) :: rest) (hW : (rest.map fun v => v.category).sum ≤ 8) (hdg : decode cc pc = .ok (.invokespecial index, 3)) (hf : cells ≤ R.cells ∧ slots ≤ R.slots) :
    va_Run p l e R s m args below meth c H locs cells slots 0 0 (F0 m pc ls stk) rest (Qc (Value.ref (cx_a X i) :: As).toArray) (cc_A X) := by
  have hts := Cx.2.2.2.2.2.1
  have ok : ∀ w ∈ cc_wsSW own index x y (Cond.code y bytes maxL rt :: cc_W), w.before args s = true := fun w h => hts w (hg w h).1
  have hG : GoodIn cc_W (Cond.code y bytes maxL rt :: cc_W) := fun w h => hg w (by unfold cc_wsSW; exact List.mem_append_right _ h)
  have hini : (Cond.initialized y.cls).before args s = true := ok _ (by simp [cc_wsSW])
  have hK : Back l R p e below s args y 3 8 (PreOf R 0 0 (va_Pc (.ref (cx_a X i) :: As) (cc_U D X st))) (PostOf Qc 0 0 (cc_A X)) := back_of (bytes := bytes) (maxL := maxL) (ret := rt) hMet cc_blind rfl rfl hR.1 hR.2 (pay_in hts hG) List.mem_cons_self (fun a' U hW => word_at hW (Or.inl (by first | rfl | simp [Cond.onTables, Cond.keeps, Cond.steady])) hini)
  obtain ⟨cellB, hcB, hoB, hclB⟩ := cc_rcv Cx hM hid hc
  have hat := (Cx.2.2.2.2.2.2.2.1.1 ci _ hc).2
  obtain ⟨hfc, kB, hkB, -⟩ := hat
  rw [show D.1 ci = cellB.cls from Option.some.inj (hfc.symm.trans hclB)] at hkB
  intro T hT Xs
  have hlen : ∀ sig, parseMethodDescriptor y.desc = some sig → As.length = sig.parameters.length := fun sig h => by
    have h2 := hd.2
    rw [h] at h2
    rw [hn]
    exact (Option.some.inj h2).symm
  obtain ⟨v, vm₁, ⟨U', l2, c2, s2⟩, hW₁, X', ⟨g', mk, t, L, e1, e2, hq, h1, hL, h2, h3⟩, st2⟩ := cc_callSW Xs Cx.1 (index := index) (x := x) (bytes := bytes) (maxL := maxL) (ret := rt) Cx.2.2.2.2.1 (ok _ (by simp [cc_wsSW])) (ok _ (by simp [cc_wsSW])) (ok _ (by simp [cc_wsSW])) (ok _ (by simp [cc_wsSW])) hyx (ok _ (by simp [cc_wsSW])) (ok _ (by simp [cc_wsSW])) hd.1 hK (by rw [hT]; exact hcB) hoB hkB (g := F0 m pc ls stk) rfl (hsz.trans Cx.2.2.2.1.symm) (argsL := As) (rest := rest) hlen hst (lv_room hW) (by rw [Cx.2.1]; exact hdg)
    (fun vm₁ hW₁ => ⟨hf.1, hf.2, cc_pc Cx hM (T.setVm vm₁) hT hW₁⟩)
  dsimp only [Pt.U, Pt.locs, Pt.cells, Pt.slots] at X' e1 e2 h1 h2 h3 st2
  subst h1; subst h2; subst h3
  exact ⟨v, (T.setVm vm₁).calling g' mk (Value.ref (cx_a X i) :: As).toArray, t, U', L, hT, X', hL, e1, e2, hq, st2⟩
theorem cc_rS {y : MethodName} {index n fr lo maxL : Nat} {bytes : ByteArray} {rt : Option FieldType} {As : List Value} {Qc : Array Value → State → Outcome → State → Prop} {stk : List Value} (Cx : cc_C p s m args meth c cc nL ret own D X) (hM : cc_H D X H0 st H locs) (hMet : Met l y (Cond.code y bytes maxL rt :: cc_W) (mm_R fr lo) (va_Pc As (cc_U D X st)) Qc 0 0 (cc_A X)) (hg : GoodIn cc_W (va_wsS own index y (Cond.code y bytes maxL rt :: cc_W))) (hd : y.cls ≠ "java/lang/invoke/MethodHandle" ∧ y.cls ≠ "java/lang/invoke/VarHandle" ∧ (parseMethodDescriptor y.desc).map (fun d => d.parameters.length) = some n) (hR : fr + 1 ≤ R.frames ∧ 8 + (maxL + 11) + lo ≤ R.locals) (hn : As.length = n) (hsz : ls.size = nL) (hst : stk = As.reverse ++ rest) (hW : (rest.map fun v => v.category).sum ≤ 8) (hdg : decode cc pc = .ok (.invokestatic index, 3)) (hR2 : cells ≤ R.cells ∧ slots ≤ R.slots) :
    va_Run p l e R s m args below meth c H locs cells slots 0 0 (F0 m pc ls stk) rest (Qc As.toArray) (cc_A X) :=
  va_runS (As := As) (rest := rest) ⟨Cx.1, Cx.2.1, Cx.2.2.2.1, Cx.2.2.2.2.1, Cx.2.2.2.2.2.1⟩ hMet (va_cwS n Cx.2.2.2.2.2.1 hg rfl rfl rfl hd hR) ⟨cc_blind, cc_pc Cx hM⟩ rfl hn hsz hst (lv_room hW) hdg hR2
/-! calls: what comes behind them -/
theorem cc_ai {r : Int32} {st1 : cc_S} {stk : List Value} {av : Array Value} (hM : cc_H D X H0 st H locs) (hr : va_Run p l e R s m args below meth c H locs cells slots 0 0 (F0 m pc ls stk) rest (cc_Qi D X r st1 av) (cc_A X))
    (kk : ∀ (H1 : Heap) (locs1 : List Loc), cc_H D X H0 st1 H1 locs1 → W p l e R s m args below meth c H1 locs1 cells slots Q (F0 m (pc + 3) ls (.int r :: rest))) : W p l e R s m args below meth c H locs cells slots Q (F0 m pc ls stk) := by
  refine va_calli (A1 := cc_A X) (mc := 0) (ms := 0) hr hM.2.2 (fun _ _ h => h) (fun _ h => h) (fun r' u t H1 locs1 ht hvm hw hB _ _ hS => ?_)
  obtain ⟨rfl, rfl⟩ := hw
  rw [cc_U, ht] at hB
  exact kk H1 locs1 ⟨hB.1, cc_D_A hB.2.2.1, hS⟩
theorem cc_all {r : Int64} {st1 : cc_S} {stk : List Value} {av : Array Value} (hM : cc_H D X H0 st H locs) (hr : va_Run p l e R s m args below meth c H locs cells slots 0 0 (F0 m pc ls stk) rest (cc_Ql D X r st1 av) (cc_A X))
    (kk : ∀ (H1 : Heap) (locs1 : List Loc), cc_H D X H0 st1 H1 locs1 → W p l e R s m args below meth c H1 locs1 cells slots Q (F0 m (pc + 3) ls (.long r :: rest))) : W p l e R s m args below meth c H locs cells slots Q (F0 m pc ls stk) := by
  refine va_calll (A1 := cc_A X) (mc := 0) (ms := 0) hr hM.2.2 (fun _ _ h => h) (fun _ h => h) (fun r' u t H1 locs1 ht hvm hw hB _ _ hS => ?_)
  obtain ⟨rfl, rfl⟩ := hw
  rw [cc_U, ht] at hB
  exact kk H1 locs1 ⟨hB.1, cc_D_A hB.2.2.1, hS⟩
theorem cc_av {st1 : cc_S} {stk : List Value} {av : Array Value} (hM : cc_H D X H0 st H locs) (hr : va_Run p l e R s m args below meth c H locs cells slots 0 0 (F0 m pc ls stk) rest (cc_Qv D X st1 av) (cc_A X))
    (kk : ∀ (H1 : Heap) (locs1 : List Loc), cc_H D X H0 st1 H1 locs1 → W p l e R s m args below meth c H1 locs1 cells slots Q (F0 m (pc + 3) ls rest)) : W p l e R s m args below meth c H locs cells slots Q (F0 m pc ls stk) := by
  refine va_callv (A1 := cc_A X) (mc := 0) (ms := 0) hr hM.2.2 (fun _ _ h => h) (fun _ h => h) (fun u t H1 locs1 ht hvm hw hB _ _ hS => ?_)
  obtain rfl := hw
  rw [cc_U, ht] at hB
  exact kk H1 locs1 ⟨hB.1, cc_D_A hB.2.2.1, hS⟩
theorem cc_aq {r : Option Nat} {st1 : cc_S} {stk : List Value} {av : Array Value} (hM : cc_H D X H0 st H locs) (hr : va_Run p l e R s m args below meth c H locs cells slots 0 0 (F0 m pc ls stk) rest (cc_Qq D X r st1 av) (cc_A X))
    (kn : ∀ (H1 : Heap) (locs1 : List Loc), r = none → cc_H D X H0 st1 H1 locs1 → W p l e R s m args below meth c H1 locs1 cells slots Q (F0 m (pc + 3) ls (.null :: rest))) (ks : ∀ (y : Nat) (H1 : Heap) (locs1 : List Loc), r = some y → cc_H D X H0 st1 H1 locs1 → W p l e R s m args below meth c H1 locs1 cells slots Q (F0 m (pc + 3) ls (.ref (cx_a X y) :: rest))) : W p l e R s m args below meth c H locs cells slots Q (F0 m pc ls stk) := by
  refine va_callq (A1 := cc_A X) (mc := 0) (ms := 0) hr hM.2.2 (fun _ _ h => h) (fun _ h => h) (fun r' u t H1 locs1 ht hvm hw hB _ _ hS => ?_)
  obtain ⟨rfl, rfl⟩ := hw
  rw [cc_U, ht] at hB
  cases r with
  | none => exact kn H1 locs1 rfl ⟨hB.1, cc_D_A hB.2.2.1, hS⟩
  | some y => exact ks y H1 locs1 rfl ⟨hB.1, cc_D_A hB.2.2.1, hS⟩
/-! ends -/
theorem cc_ex {t : State} (Cx : cc_C p s m args meth c cc nL ret own D X) (hM : cc_H D X s.heap st H locs) (ht : t.heap = H) (hW : s.WarmedH t.vm) : cc_U D X st t := by
  rw [cc_U, ht]
  exact ⟨hM.1, va_K.moved hW.alike Cx.2.2.2.2.2.2.2.1, hM.2.1.weaken (fun _ _ _ _ => trivial), cc_Nm hW.alike Cx.2.2.2.2.2.2.2.2.1, Cx.2.2.2.2.2.2.2.2.2⟩
theorem cc_ri {v r : Int32} {st' : cc_S} (Cx : cc_C p s m args meth c cc nL (some .int) own D X) (hM : cc_H D X s.heap st H locs) (hdg : decode cc pc = .ok (.ireturn, 1)) (hf : some (v, st) = some (r, st')) : W p l e R s m args below meth c H locs cells slots (MQ below (cc_Qi D X r st') args s cells slots (cc_A X)) (F0 m pc ls [.int v]) := by
  obtain ⟨rfl, rfl⟩ := fc_of_r hf
  exact W.iret (v := v) Cx.1 Cx.2.1 Cx.2.2.1 (fun t ht hW => ⟨⟨v, st, rfl, ⟨rfl, rfl⟩, cc_ex Cx hM ht hW⟩, hM.2.2.F ht⟩) hM.2.2.2.2 hdg Cx.2.2.2.2.2.2.1
theorem cc_rz {v r : Int32} {st' : cc_S} {ty : FieldType} (Cx : cc_C p s m args meth c cc nL (some ty) own D X) (hM : cc_H D X s.heap st H locs) (hdg : decode cc pc = .ok (.ireturn, 1)) (hn : narrow ty (.int v) = .int v) (hf : some (v, st) = some (r, st')) : W p l e R s m args below meth c H locs cells slots (MQ below (cc_Qi D X r st') args s cells slots (cc_A X)) (F0 m pc ls [.int v]) := by
  obtain ⟨rfl, rfl⟩ := fc_of_r hf
  exact W.zret (v := v) Cx.1 Cx.2.1 Cx.2.2.1 hn (fun t ht hW => ⟨⟨v, st, rfl, ⟨rfl, rfl⟩, cc_ex Cx hM ht hW⟩, hM.2.2.F ht⟩) hM.2.2.2.2 hdg Cx.2.2.2.2.2.2.1
theorem cc_rl {v r : Int64} {st' : cc_S} (Cx : cc_C p s m args meth c cc nL (some .long) own D X) (hM : cc_H D X s.heap st H locs) (hdg : decode cc pc = .ok (.lreturn, 1)) (hf : some (v, st) = some (r, st')) : W p l e R s m args below meth c H locs cells slots (MQ below (cc_Ql D X r st') args s cells slots (cc_A X)) (F0 m pc ls [.long v]) := by
  obtain ⟨rfl, rfl⟩ := fc_of_r hf
  exact W.lret (v := v) Cx.1 Cx.2.1 Cx.2.2.1 (fun t ht hW => ⟨⟨v, st, rfl, ⟨rfl, rfl⟩, cc_ex Cx hM ht hW⟩, hM.2.2.F ht⟩) hM.2.2.2.2 hdg Cx.2.2.2.2.2.2.1
theorem cc_rv {st' : cc_S} (Cx : cc_C p s m args meth c cc nL none own D X) (hM : cc_H D X s.heap st H locs) (hdg : decode cc pc = .ok (.return_, 1)) (hf : some st = some st') : W p l e R s m args below meth c H locs cells slots (MQ below (cc_Qv D X st') args s cells slots (cc_A X)) (F0 m pc ls []) := by
  obtain rfl := fc_of_v hf
  exact W.vret Cx.1 Cx.2.1 Cx.2.2.1 (fun t ht hW => ⟨⟨st, rfl, rfl, cc_ex Cx hM ht hW⟩, hM.2.2.F ht⟩) hM.2.2.2.2 hdg Cx.2.2.2.2.2.2.1
theorem cc_rn {r : Option Nat} {st' : cc_S} {nm : String} (Cx : cc_C p s m args meth c cc nL (some (.object nm)) own D X) (hM : cc_H D X s.heap st H locs) (hdg : decode cc pc = .ok (.areturn, 1)) (hf : some ((none : Option Nat), st) = some (r, st')) : W p l e R s m args below meth c H locs cells slots (MQ below (cc_Qq D X r st') args s cells slots (cc_A X)) (F0 m pc ls [.null]) := by
  obtain ⟨rfl, rfl⟩ := fc_of_r hf
  exact W.aret (v := .null) Cx.1 Cx.2.1 Cx.2.2.1 (Or.inl ⟨nm, rfl⟩) (Or.inl rfl) (fun t ht hW => ⟨⟨none, st, rfl, ⟨rfl, rfl⟩, cc_ex Cx hM ht hW⟩, hM.2.2.F ht⟩) hM.2.2.2.2 hdg Cx.2.2.2.2.2.2.1
theorem cc_rr {r : Option Nat} {y : Nat} {st' : cc_S} {nm : String} (Cx : cc_C p s m args meth c cc nL (some (.object nm)) own D X) (hM : cc_H D X s.heap st H locs) (hdg : decode cc pc = .ok (.areturn, 1)) (hf : some (some y, st) = some (r, st')) : W p l e R s m args below meth c H locs cells slots (MQ below (cc_Qq D X r st') args s cells slots (cc_A X)) (F0 m pc ls [.ref (cx_a X y)]) := by
  obtain ⟨rfl, rfl⟩ := fc_of_r hf
  exact W.aret (v := .ref (cx_a X y)) Cx.1 Cx.2.1 Cx.2.2.1 (Or.inl ⟨nm, rfl⟩) (Or.inr ⟨_, rfl⟩) (fun t ht hW => ⟨⟨some (cx_a X y), st, rfl, ⟨rfl, rfl⟩, cc_ex Cx hM ht hW⟩, hM.2.2.F ht⟩) hM.2.2.2.2 hdg Cx.2.2.2.2.2.2.1
end CC
/-! starts -/
theorem cc_ofW {l : Launch} {y : MethodName} {ws ws' : List Cond} {rm : Room} {Pc : Array Value → State → Prop} {Qc : Array Value → State → Outcome → State → Prop} {mc ms : Nat} {free : Addr → Prop} {cc : ByteArray} {maxL : Nat} {ret : Option FieldType}
    (hy : plainFor y = true) (hw : ws = Cond.code y cc maxL ret :: ws')
    (body : ∀ p e s m args below meth c s₁, BodyLoose p l y (headSpec ws rm) cc maxL ret e s m args below meth c s₁ → c.maxLocals = maxL → Pc args s →
      W p l e (headSpec ws rm).room s m args below meth c s.heap [] 0 0 (MQ below Qc args s mc ms free) (entryFrame m args maxL)) : Met l y ws rm Pc Qc mc ms free := by
  refine MetFree.of_bodySF (code := cc) (maxLocals := maxL) (ret := ret) hy ?_ ?_
  · intro args s m h hn
    obtain ⟨meth, c, h1, h2, h3, h4, h5, h6, -, -⟩ := Cond.code_spec hn (atoms_spec (ws := ws) h _ (by rw [hw]; exact List.mem_cons_self))
    exact ⟨meth, c, h1, h2, h3, h4, h5, h6⟩
  · intro p e s m args below meth c s₁ B hml hP _
    have hh0 : s₁.heap = s.heap := by rw [B.state]; rfl
    obtain ⟨t, a1, o, b1, b2, b3⟩ := body p e s m args below meth c s₁ B hml hP s₁ hh0 (Stand.of_body B)
    exact ⟨t, o, a1, b1, b2, ⟨b3.1, b3.2⟩⟩
theorem cc_enter {l : Launch} {D : va_G} {X : cc_X} {y : MethodName} {own : String} {fr lo : Nat} {av : List Value} {st : cc_S} {cc : ByteArray} {nL : Nat} {ret : Option FieldType} {Qc : Array Value → State → Outcome → State → Prop} (hy : plainFor y = true) (hcl : y.cls = own) (hn : (lg_sl av).length ≤ nL)
    (body : ∀ p e s m args below meth c ls, cc_C p s m args meth c cc nL ret own D X → lv_has ls nL (lv_args 0 av) → cc_H D X s.heap st s.heap [] → W p l e (mm_R fr lo) s m args below meth c s.heap [] 0 0 (MQ below Qc args s 0 0 (cc_A X)) (F0 m 0 ls [])) : Met l y (Cond.code y cc nL ret :: cc_W) (mm_R fr lo) (va_Pc av (cc_U D X st)) Qc 0 0 (cc_A X) := by
  refine cc_ofW (cc := cc) (maxL := nL) (ret := ret) hy rfl ?_
  intro p e s m args below meth c s₁ B hml hv
  obtain ⟨rfl, hP, hK, hD, hN, hok⟩ := hv
  have hl := lv_entry av hn
  rw [lg_entry_eq]
  generalize (lg_sl av ++ List.replicate (nL - (lg_sl av).length) Slot.unset).toArray = ls at hl ⊢
  exact body p e s m _ below meth c ls ⟨B.exec, B.bytes, B.returns, hml, by rw [← hcl]; exact findClass_of_methodNamed B.named, fun w hw => atoms_spec (ws := Cond.code y cc nL ret :: cc_W) B.pre w (List.mem_cons_of_mem _ hw), B.notSynchronized, hK, hN, hok⟩ hl ⟨hP, cc_D_A hD, va_S.rf⟩
/-! which words a call asks -/
theorem cc_gdV {own : String} {i n : Nat} {C : String} {y : MethodName} {b : ByteArray} {rt : Option FieldType} (h1 : Cond.methodLink own i y ∈ cc_W) (h2 : Cond.instanceMethod y ∈ cc_W) (h3 : Cond.selects C y y ∈ cc_W) (h4 : Cond.initialized C ∈ cc_W) (h5 : Cond.code y b n rt ∈ cc_W) : GoodIn cc_W (wsV own i C y (Cond.code y b n rt :: cc_W)) := by
  have hm : ∀ w ∈ wsV own i C y (Cond.code y b n rt :: cc_W), w ∈ cc_W := by
    intro w hw
    simp only [wsV, List.mem_append, List.mem_cons, List.not_mem_nil, or_false] at hw
    rcases hw with (rfl | rfl | rfl | rfl) | (rfl | h)
    · exact h1
    · exact h2
    · exact h3
    · exact h4
    · exact h5
    · exact h
  exact fun w hw => ⟨hm w hw, good_of_word (cc_Wgood w (hm w hw))⟩
theorem cc_gdU {own : String} {i n : Nat} {C owner : String} {x y : MethodName} {b : ByteArray} {rt : Option FieldType} (h1 : Cond.methodLink own i x ∈ cc_W) (h2 : Cond.sameMethod x.cls owner x.name x.desc ∈ cc_W) (h3 : Cond.selects C x y ∈ cc_W) (h4 : Cond.instanceMethod y ∈ cc_W) (h5 : Cond.initialized y.cls ∈ cc_W) (h6 : Cond.code y b n rt ∈ cc_W) : GoodIn cc_W (va_wsU own i C owner x y (Cond.code y b n rt :: cc_W)) := by
  have hm : ∀ w ∈ va_wsU own i C owner x y (Cond.code y b n rt :: cc_W), w ∈ cc_W := by
    intro w hw
    simp only [va_wsU, List.mem_append, List.mem_cons, List.not_mem_nil, or_false] at hw
    rcases hw with (rfl | rfl | rfl | rfl | rfl) | (rfl | h)
    · exact h1
    · exact h2
    · exact h3
    · exact h4
    · exact h5
    · exact h6
    · exact h
  exact fun w hw => ⟨hm w hw, good_of_word (cc_Wgood w (hm w hw))⟩
theorem cc_gdO {own : String} {i n : Nat} {C owner : String} {x y : MethodName} {b : ByteArray} {rt : Option FieldType} (h1 : Cond.methodLink own i x ∈ cc_W) (h2 : Cond.sameMethod x.cls owner x.name x.desc ∈ cc_W) (h7 : Cond.instanceMethod ⟨owner, x.name, x.desc⟩ ∈ cc_W) (h3 : Cond.selects C x y ∈ cc_W) (h4 : Cond.instanceMethod y ∈ cc_W) (h5 : Cond.initialized y.cls ∈ cc_W) (h6 : Cond.code y b n rt ∈ cc_W) : GoodIn cc_W (va_wsO own i C owner x y (Cond.code y b n rt :: cc_W)) := by
  have hm : ∀ w ∈ va_wsO own i C owner x y (Cond.code y b n rt :: cc_W), w ∈ cc_W := by
    intro w hw
    simp only [va_wsO, List.mem_append, List.mem_cons, List.not_mem_nil, or_false] at hw
    rcases hw with (rfl | rfl | rfl | rfl | rfl | rfl) | (rfl | h)
    · exact h1
    · exact h2
    · exact h7
    · exact h3
    · exact h4
    · exact h5
    · exact h6
    · exact h
  exact fun w hw => ⟨hm w hw, good_of_word (cc_Wgood w (hm w hw))⟩
theorem cc_gdSU {own : String} {i n : Nat} {y : MethodName} {b : ByteArray} {rt : Option FieldType} (h1 : Cond.methodLink own i y ∈ cc_W) (h2 : Cond.sameMethod y.cls y.cls y.name y.desc ∈ cc_W) (h3 : Cond.superclass own y.cls ∈ cc_W) (h4 : Cond.instanceMethod y ∈ cc_W) (h5 : Cond.initialized y.cls ∈ cc_W) (h6 : Cond.code y b n rt ∈ cc_W) : GoodIn cc_W (va_wsSU own i y (Cond.code y b n rt :: cc_W)) := by
  have hm : ∀ w ∈ va_wsSU own i y (Cond.code y b n rt :: cc_W), w ∈ cc_W := by
    intro w hw
    simp only [va_wsSU, List.mem_append, List.mem_cons, List.not_mem_nil, or_false] at hw
    rcases hw with (rfl | rfl | rfl | rfl | rfl) | (rfl | h)
    · exact h1
    · exact h2
    · exact h3
    · exact h4
    · exact h5
    · exact h6
    · exact h
  exact fun w hw => ⟨hm w hw, good_of_word (cc_Wgood w (hm w hw))⟩
theorem cc_gdSW {own : String} {i n : Nat} {x y : MethodName} {b : ByteArray} {rt : Option FieldType} (h1 : Cond.methodLink own i x ∈ cc_W) (h2 : Cond.sameMethod x.cls y.cls x.name x.desc ∈ cc_W) (h3 : Cond.superclass own x.cls ∈ cc_W) (h7 : Cond.superclass x.cls y.cls ∈ cc_W) (h4 : Cond.instanceMethod y ∈ cc_W) (h5 : Cond.initialized y.cls ∈ cc_W) (h6 : Cond.code y b n rt ∈ cc_W) : GoodIn cc_W (cc_wsSW own i x y (Cond.code y b n rt :: cc_W)) := by
  have hm : ∀ w ∈ cc_wsSW own i x y (Cond.code y b n rt :: cc_W), w ∈ cc_W := by
    intro w hw
    simp only [cc_wsSW, List.mem_append, List.mem_cons, List.not_mem_nil, or_false] at hw
    rcases hw with (rfl | rfl | rfl | rfl | rfl | rfl) | (rfl | h)
    · exact h1
    · exact h2
    · exact h3
    · exact h7
    · exact h4
    · exact h5
    · exact h6
    · exact h
  exact fun w hw => ⟨hm w hw, good_of_word (cc_Wgood w (hm w hw))⟩
theorem cc_gdS {own : String} {i n : Nat} {y : MethodName} {b : ByteArray} {rt : Option FieldType} (h1 : Cond.methodLink own i y ∈ cc_W) (h2 : Cond.static y ∈ cc_W) (h3 : Cond.initialized y.cls ∈ cc_W) (h6 : Cond.code y b n rt ∈ cc_W) : GoodIn cc_W (va_wsS own i y (Cond.code y b n rt :: cc_W)) := by
  have hm : ∀ w ∈ va_wsS own i y (Cond.code y b n rt :: cc_W), w ∈ cc_W := by
    intro w hw
    simp only [va_wsS, List.mem_append, List.mem_cons, List.not_mem_nil, or_false] at hw
    rcases hw with (rfl | rfl | rfl) | (rfl | h)
    · exact h1
    · exact h2
    · exact h3
    · exact h6
    · exact h
  exact fun w hw => ⟨hm w hw, good_of_word (cc_Wgood w (hm w hw))⟩
def cc_io (c t : Nat) : Int32 := if (match c with
  | 3 => [3, 5, 6]
  | 4 => [4, 8, 6]
  | 5 => [5, 6]
  | 7 => [7, 6]
  | 8 => [8, 6]
  | 11 => [11, 7, 6]
  | _ => [6]).contains t then 1 else 0
theorem cc_gIn {p : Program} {l : Launch} {e : Env} {R : Room} {s : State} {m : MethodId} {args : Array Value} {below : List Frame} {meth : Method} {c : Code} {H H0 : Heap} {locs : List Loc} {cells slots : Nat} {Q : State → Prop} {cc : ByteArray} {nL : Nat} {ret : Option FieldType} {own : String} {pc : Nat} {ls : Array Slot} {rest : List Value} {D : va_G} {X : cc_X} {st : cc_S} {i k index : Nat} {cs : List Nat} (Cx : cc_C p s m args meth c cc nL ret own D X) (hM : cc_H D X H0 st H locs) (hid : cc_go X i cs = true) (hcs : ∀ z ∈ cs, z ∈ [3, 4, 5, 6, 7, 8, 11]) (hk : k < 3) (hl : Cond.fieldLink own index "EclipsesKept$Need" (TX4 k).2.1 "I" ∈ cc_W) (hdg : decode cc pc = .ok (.getfield index, 3)) (kk : W p l e R s m args below meth c H locs cells slots Q (F0 m (pc + 3) ls (.int (cc_I st i k) :: rest))) : W p l e R s m args below meth c H locs cells slots Q (F0 m pc ls (.ref (cx_a X i) :: rest)) := by
  have hc := hcs _ (cc_go_c hid)
  simp only [List.mem_cons, List.not_mem_nil, or_false] at hc
  rcases (show k = 0 ∨ k = 1 ∨ k = 2 by omega) with rfl | rfl | rfl
  · rcases hc with h | h | h | h | h | h | h
    · exact cc_gI (ci := 3) (C := RX1) (T := TX1) (N := 4) (k := 0) (ref := "EclipsesKept$Need") Cx hM (cc_go_1 hid h) rfl cc_inX1 rfl (by decide) hl (fun _ h => h) hdg rfl kk
    · exact cc_gI (ci := 4) (C := RX2) (T := TX2) (N := 4) (k := 0) (ref := "EclipsesKept$Need") Cx hM (cc_go_1 hid h) rfl cc_inX2 rfl (by decide) hl (fun _ h => h) hdg rfl kk
    · exact cc_gI (ci := 5) (C := RX3) (T := TX3) (N := 4) (k := 0) (ref := "EclipsesKept$Need") Cx hM (cc_go_1 hid h) rfl cc_inX3 rfl (by decide) hl (fun _ h => h) hdg rfl kk
    · exact cc_gI (ci := 6) (C := RX4) (T := TX4) (N := 4) (k := 0) (ref := "EclipsesKept$Need") Cx hM (cc_go_1 hid h) rfl cc_inX4 rfl (by decide) hl (fun _ h => h) hdg rfl kk
    · exact cc_gI (ci := 7) (C := RX5) (T := TX5) (N := 4) (k := 0) (ref := "EclipsesKept$Need") Cx hM (cc_go_1 hid h) rfl cc_inX5 rfl (by decide) hl (fun _ h => h) hdg rfl kk
    · exact cc_gI (ci := 8) (C := RX6) (T := TX6) (N := 4) (k := 0) (ref := "EclipsesKept$Need") Cx hM (cc_go_1 hid h) rfl cc_inX6 rfl (by decide) hl (fun _ h => h) hdg rfl kk
    · exact cc_gI (ci := 11) (C := RX9) (T := TX9) (N := 4) (k := 0) (ref := "EclipsesKept$Need") Cx hM (cc_go_1 hid h) rfl cc_inX9 rfl (by decide) hl (fun _ h => h) hdg rfl kk
  · rcases hc with h | h | h | h | h | h | h
    · exact cc_gI (ci := 3) (C := RX1) (T := TX1) (N := 4) (k := 1) (ref := "EclipsesKept$Need") Cx hM (cc_go_1 hid h) rfl cc_inX1 rfl (by decide) hl (fun _ h => h) hdg rfl kk
    · exact cc_gI (ci := 4) (C := RX2) (T := TX2) (N := 4) (k := 1) (ref := "EclipsesKept$Need") Cx hM (cc_go_1 hid h) rfl cc_inX2 rfl (by decide) hl (fun _ h => h) hdg rfl kk
    · exact cc_gI (ci := 5) (C := RX3) (T := TX3) (N := 4) (k := 1) (ref := "EclipsesKept$Need") Cx hM (cc_go_1 hid h) rfl cc_inX3 rfl (by decide) hl (fun _ h => h) hdg rfl kk
    · exact cc_gI (ci := 6) (C := RX4) (T := TX4) (N := 4) (k := 1) (ref := "EclipsesKept$Need") Cx hM (cc_go_1 hid h) rfl cc_inX4 rfl (by decide) hl (fun _ h => h) hdg rfl kk
    · exact cc_gI (ci := 7) (C := RX5) (T := TX5) (N := 4) (k := 1) (ref := "EclipsesKept$Need") Cx hM (cc_go_1 hid h) rfl cc_inX5 rfl (by decide) hl (fun _ h => h) hdg rfl kk
    · exact cc_gI (ci := 8) (C := RX6) (T := TX6) (N := 4) (k := 1) (ref := "EclipsesKept$Need") Cx hM (cc_go_1 hid h) rfl cc_inX6 rfl (by decide) hl (fun _ h => h) hdg rfl kk
    · exact cc_gI (ci := 11) (C := RX9) (T := TX9) (N := 4) (k := 1) (ref := "EclipsesKept$Need") Cx hM (cc_go_1 hid h) rfl cc_inX9 rfl (by decide) hl (fun _ h => h) hdg rfl kk
  · rcases hc with h | h | h | h | h | h | h
    · exact cc_gI (ci := 3) (C := RX1) (T := TX1) (N := 4) (k := 2) (ref := "EclipsesKept$Need") Cx hM (cc_go_1 hid h) rfl cc_inX1 rfl (by decide) hl (fun _ h => h) hdg rfl kk
    · exact cc_gI (ci := 4) (C := RX2) (T := TX2) (N := 4) (k := 2) (ref := "EclipsesKept$Need") Cx hM (cc_go_1 hid h) rfl cc_inX2 rfl (by decide) hl (fun _ h => h) hdg rfl kk
    · exact cc_gI (ci := 5) (C := RX3) (T := TX3) (N := 4) (k := 2) (ref := "EclipsesKept$Need") Cx hM (cc_go_1 hid h) rfl cc_inX3 rfl (by decide) hl (fun _ h => h) hdg rfl kk
    · exact cc_gI (ci := 6) (C := RX4) (T := TX4) (N := 4) (k := 2) (ref := "EclipsesKept$Need") Cx hM (cc_go_1 hid h) rfl cc_inX4 rfl (by decide) hl (fun _ h => h) hdg rfl kk
    · exact cc_gI (ci := 7) (C := RX5) (T := TX5) (N := 4) (k := 2) (ref := "EclipsesKept$Need") Cx hM (cc_go_1 hid h) rfl cc_inX5 rfl (by decide) hl (fun _ h => h) hdg rfl kk
    · exact cc_gI (ci := 8) (C := RX6) (T := TX6) (N := 4) (k := 2) (ref := "EclipsesKept$Need") Cx hM (cc_go_1 hid h) rfl cc_inX6 rfl (by decide) hl (fun _ h => h) hdg rfl kk
    · exact cc_gI (ci := 11) (C := RX9) (T := TX9) (N := 4) (k := 2) (ref := "EclipsesKept$Need") Cx hM (cc_go_1 hid h) rfl cc_inX9 rfl (by decide) hl (fun _ h => h) hdg rfl kk
theorem cc_gBn {p : Program} {l : Launch} {e : Env} {R : Room} {s : State} {m : MethodId} {args : Array Value} {below : List Frame} {meth : Method} {c : Code} {H H0 : Heap} {locs : List Loc} {cells slots : Nat} {Q : State → Prop} {cc : ByteArray} {nL : Nat} {ret : Option FieldType} {own : String} {pc : Nat} {ls : Array Slot} {rest : List Value} {D : va_G} {X : cc_X} {st : cc_S} {i index : Nat} {cs : List Nat} (Cx : cc_C p s m args meth c cc nL ret own D X) (hM : cc_H D X H0 st H locs) (hid : cc_go X i cs = true) (hcs : ∀ z ∈ cs, z ∈ [3, 4, 5, 6, 7, 8, 11]) (hl : Cond.fieldLink own index "EclipsesKept$Need" "bodies" "[I" ∈ cc_W) (hdg : decode cc pc = .ok (.getfield index, 3)) (kk : W p l e R s m args below meth c H locs cells slots Q (F0 m (pc + 3) ls (.ref (cx_b X 0 5) :: rest))) : W p l e R s m args below meth c H locs cells slots Q (F0 m pc ls (.ref (cx_a X i) :: rest)) := by
  have hc := hcs _ (cc_go_c hid)
  simp only [List.mem_cons, List.not_mem_nil, or_false] at hc
  rcases hc with h | h | h | h | h | h | h
  · exact cc_gB (ci := 3) (C := RX1) (T := TX1) (N := 4) (k := 3) (ref := "EclipsesKept$Need") Cx hM (cc_go_1 hid h) rfl cc_inX1 rfl (by decide) hl (fun _ h => h) hdg rfl kk
  · exact cc_gB (ci := 4) (C := RX2) (T := TX2) (N := 4) (k := 3) (ref := "EclipsesKept$Need") Cx hM (cc_go_1 hid h) rfl cc_inX2 rfl (by decide) hl (fun _ h => h) hdg rfl kk
  · exact cc_gB (ci := 5) (C := RX3) (T := TX3) (N := 4) (k := 3) (ref := "EclipsesKept$Need") Cx hM (cc_go_1 hid h) rfl cc_inX3 rfl (by decide) hl (fun _ h => h) hdg rfl kk
  · exact cc_gB (ci := 6) (C := RX4) (T := TX4) (N := 4) (k := 3) (ref := "EclipsesKept$Need") Cx hM (cc_go_1 hid h) rfl cc_inX4 rfl (by decide) hl (fun _ h => h) hdg rfl kk
  · exact cc_gB (ci := 7) (C := RX5) (T := TX5) (N := 4) (k := 3) (ref := "EclipsesKept$Need") Cx hM (cc_go_1 hid h) rfl cc_inX5 rfl (by decide) hl (fun _ h => h) hdg rfl kk
  · exact cc_gB (ci := 8) (C := RX6) (T := TX6) (N := 4) (k := 3) (ref := "EclipsesKept$Need") Cx hM (cc_go_1 hid h) rfl cc_inX6 rfl (by decide) hl (fun _ h => h) hdg rfl kk
  · exact cc_gB (ci := 11) (C := RX9) (T := TX9) (N := 4) (k := 3) (ref := "EclipsesKept$Need") Cx hM (cc_go_1 hid h) rfl cc_inX9 rfl (by decide) hl (fun _ h => h) hdg rfl kk
theorem hu_began : ("EclipsesKept$Need" : String) ≠ "java/lang/invoke/MethodHandle" ∧ ("EclipsesKept$Need" : String) ≠ "java/lang/invoke/VarHandle" ∧ (parseMethodDescriptor "(I)V").map (fun d => d.parameters.length) = some 1 := by decide +kernel
theorem hu_darkens : ("EclipsesKept$Need" : String) ≠ "java/lang/invoke/MethodHandle" ∧ ("EclipsesKept$Need" : String) ≠ "java/lang/invoke/VarHandle" ∧ (parseMethodDescriptor "(I)I").map (fun d => d.parameters.length) = some 1 := by decide +kernel
theorem hu_gives : ("EclipsesKept$Need" : String) ≠ "java/lang/invoke/MethodHandle" ∧ ("EclipsesKept$Need" : String) ≠ "java/lang/invoke/VarHandle" ∧ (parseMethodDescriptor "(IIIII)I").map (fun d => d.parameters.length) = some 5 := by decide +kernel
theorem hu_pleads : ("EclipsesKept$Need" : String) ≠ "java/lang/invoke/MethodHandle" ∧ ("EclipsesKept$Need" : String) ≠ "java/lang/invoke/VarHandle" ∧ (parseMethodDescriptor "(I)I").map (fun d => d.parameters.length) = some 1 := by decide +kernel
theorem hu_tells : ("EclipsesKept$Need" : String) ≠ "java/lang/invoke/MethodHandle" ∧ ("EclipsesKept$Need" : String) ≠ "java/lang/invoke/VarHandle" ∧ (parseMethodDescriptor "(I)I").map (fun d => d.parameters.length) = some 1 := by decide +kernel
