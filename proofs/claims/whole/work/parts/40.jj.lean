/-! strings of known letters, read only: a string at a, its bytes at b, n letters t -/
def jj_N : Nat → Prop := fun _ => False
def jj_T (b n : Nat) (t : Nat → Nat) (A : Nat → Prop) (U : State) (H : Heap) : Prop := va_T .byte b n (fun j => .int (sb_b (t j))) A U H
def jj_S (a b n : Nat) (t : Nat → Nat) (A : Nat → Prop) (U : State) (H : Heap) : Prop := va_O "java/lang/String" a A U H ∧ va_OF "java/lang/String" "coder" "B" (.int 0) a A U H ∧ va_OF "java/lang/String" "value" "[B" (.ref b) a A U H ∧ jj_T b n t A U H
def jj_Z (A : Nat → Prop) (U : State) (H : Heap) : Prop := va_Z "java/lang/String" "COMPACT_STRINGS" "Z" (.int 1) A U H ∧ va_Zq "jdk/internal/util/Preconditions" "SIOOBE_FORMATTER" "Ljava/util/function/BiFunction;" A U H
def jj_E (a b n : Nat) (t : Nat → Nat) (U : State) : Prop := jj_S a b n t jj_N U U.heap ∧ jj_Z jj_N U U.heap
theorem jj_Sm {a b n : Nat} {t : Nat → Nat} {A : Nat → Prop} {u U : State} {H : Heap} (hvm : u.vm.Alike U.vm) (h : jj_S a b n t A u H) : jj_S a b n t A U H := ⟨va_O.moved hvm h.1, va_OF.moved hvm h.2.1, va_OF.moved hvm h.2.2.1, va_T.moved hvm h.2.2.2⟩
theorem jj_Zm {A : Nat → Prop} {u U : State} {H : Heap} (hvm : u.vm.Alike U.vm) (h : jj_Z A u H) : jj_Z A U H := ⟨va_Z.moved hvm h.1, va_Zq.moved hvm h.2⟩
theorem jj_Sk {a b n : Nat} {t : Nat → Nat} {A : Nat → Prop} {U : State} {H H1 : Heap} (h : jj_S a b n t A U H) (hq : ∀ a : Nat, a < H.size → ¬ A a → H1[a]? = H[a]?) : jj_S a b n t A U H1 := ⟨va_O.kept h.1 hq, va_OF.kept h.2.1 hq, va_OF.kept h.2.2.1 hq, va_T.kept h.2.2.2 hq⟩
theorem jj_Zk {A : Nat → Prop} {U : State} {H H1 : Heap} (h : jj_Z A U H) (hq : ∀ a : Nat, a < H.size → ¬ A a → H1[a]? = H[a]?) : jj_Z A U H1 := ⟨va_Z.kept h.1 hq, va_Zq.kept h.2 hq⟩
theorem jj_Sn {a b n : Nat} {t : Nat → Nat} {A B : Nat → Prop} {U : State} {H : Heap} (h : jj_S a b n t A U H) (hAB : ∀ q, B q → A q) : jj_S a b n t B U H := ⟨va_O.narrow h.1 hAB, va_OF.narrow h.2.1 hAB, va_OF.narrow h.2.2.1 hAB, va_T.narrow h.2.2.2 hAB⟩
theorem jj_Zn {A B : Nat → Prop} {U : State} {H : Heap} (h : jj_Z A U H) (hAB : ∀ q, B q → A q) : jj_Z B U H := ⟨va_Z.narrow h.1 hAB, va_Zq.narrow h.2 hAB⟩
theorem jj_Em {a b n : Nat} {t : Nat → Nat} {u U : State} (hvm : u.vm.Alike U.vm) (hh : U.heap = u.heap) (h : jj_E a b n t u) : jj_E a b n t U := by
  unfold jj_E
  rw [hh]
  exact ⟨jj_Sm hvm h.1, jj_Zm hvm h.2⟩
def jj_Qi (r : Int32) : Array Value → State → Outcome → State → Prop := fun _ st oc t => oc = .returned (some (.int r)) ∧ t.heap = st.heap
def jj_Qv (_ : Unit) : Array Value → State → Outcome → State → Prop := fun _ st oc t => oc = .returned none ∧ t.heap = st.heap
def jj_Mi (l : Launch) (a b n : Nat) (t : Nat → Nat) (y : MethodName) (bytes : ByteArray) (maxL : Nat) (rt : Option FieldType) (fr lo : Nat) (av : List Value) (x : Option Int32) : Prop :=
  ∀ r, x = some r → Met l y (Cond.code y bytes maxL rt :: cc_W) (mm_R fr lo) (va_Pc av (jj_E a b n t)) (jj_Qi r) 0 0 jj_N
def jj_Mv (l : Launch) (a b n : Nat) (t : Nat → Nat) (y : MethodName) (bytes : ByteArray) (maxL : Nat) (rt : Option FieldType) (fr lo : Nat) (av : List Value) (x : Option Unit) : Prop :=
  ∀ r, x = some r → Met l y (Cond.code y bytes maxL rt :: cc_W) (mm_R fr lo) (va_Pc av (jj_E a b n t)) (jj_Qv r) 0 0 jj_N
def jj_C (p : Program) (s : State) (m : MethodId) (args : Array Value) (meth : Method) (c : Code) (cc : ByteArray) (nL : Nat) (ret : Option FieldType) (own : String) (a b n : Nat) (t : Nat → Nat) : Prop :=
  p.tables.exec = Jvm.exec ∧ c.code = cc ∧ meth.sig.returnType = ret ∧ c.maxLocals = nL ∧ s.vm.findClass own = some m.cls ∧ (∀ w ∈ cc_W, w.before args s = true) ∧ meth.locks = false ∧ jj_E a b n t s
section JJ
variable {p : Program} {l : Launch} {e : Env} {R : Room} {s : State} {m : MethodId} {args : Array Value} {below : List Frame} {meth : Method} {c : Code} {cells slots : Nat} {Q : State → Prop}
variable {cc : ByteArray} {nL : Nat} {ret : Option FieldType} {own : String} {pc : Nat} {ls : Array Slot} {rest : List Value} {a b n : Nat} {t : Nat → Nat}
theorem jj_gv {index : Nat} (Cx : jj_C p s m args meth c cc nL ret own a b n t) (hl : Cond.fieldLink own index "java/lang/String" "value" "[B" ∈ cc_W) (hdg : decode cc pc = .ok (.getfield index, 3)) (kk : W p l e R s m args below meth c s.heap [] cells slots Q (F0 m (pc + 3) ls (.ref b :: rest))) : W p l e R s m args below meth c s.heap [] cells slots Q (F0 m pc ls (.ref a :: rest)) :=
  vk_getf Cx.1 Cx.2.1 Cx.2.2.2.2.2.2.2.1.2.2.1 va_S.rf Cx.2.2.2.2.1 (Cx.2.2.2.2.2.1 _ hl) (fun _ h => h) hdg kk
theorem jj_gc {index : Nat} (Cx : jj_C p s m args meth c cc nL ret own a b n t) (hl : Cond.fieldLink own index "java/lang/String" "coder" "B" ∈ cc_W) (hdg : decode cc pc = .ok (.getfield index, 3)) (kk : W p l e R s m args below meth c s.heap [] cells slots Q (F0 m (pc + 3) ls (.int 0 :: rest))) : W p l e R s m args below meth c s.heap [] cells slots Q (F0 m pc ls (.ref a :: rest)) :=
  vk_getf Cx.1 Cx.2.1 Cx.2.2.2.2.2.2.2.1.2.1 va_S.rf Cx.2.2.2.2.1 (Cx.2.2.2.2.2.1 _ hl) (fun _ h => h) hdg kk
theorem jj_gs {index : Nat} (Cx : jj_C p s m args meth c cc nL ret own a b n t) (hl : Cond.fieldLink own index "java/lang/String" "COMPACT_STRINGS" "Z" ∈ cc_W) (hdg : decode cc pc = .ok (.getstatic index, 3)) (kk : W p l e R s m args below meth c s.heap [] cells slots Q (F0 m (pc + 3) ls (.int 1 :: rest))) : W p l e R s m args below meth c s.heap [] cells slots Q (F0 m pc ls rest) :=
  va_gets Cx.1 Cx.2.1 Cx.2.2.2.2.2.2.2.2.1 va_S.rf Cx.2.2.2.2.1 (Cx.2.2.2.2.2.1 _ hl) (fun _ h => h) hdg kk
theorem jj_gq {index : Nat} (Cx : jj_C p s m args meth c cc nL ret own a b n t) (hl : Cond.fieldLink own index "jdk/internal/util/Preconditions" "SIOOBE_FORMATTER" "Ljava/util/function/BiFunction;" ∈ cc_W) (hdg : decode cc pc = .ok (.getstatic index, 3)) (kk : ∀ v : Option Nat, W p l e R s m args below meth c s.heap [] cells slots Q (F0 m (pc + 3) ls (va_rf v :: rest))) : W p l e R s m args below meth c s.heap [] cells slots Q (F0 m pc ls rest) := by
  rcases Cx.2.2.2.2.2.2.2.2.2 with h | ⟨z, h⟩
  · exact va_gets Cx.1 Cx.2.1 h va_S.rf Cx.2.2.2.2.1 (Cx.2.2.2.2.2.1 _ hl) (fun _ h => h) hdg (kk none)
  · exact va_gets Cx.1 Cx.2.1 h va_S.rf Cx.2.2.2.2.1 (Cx.2.2.2.2.2.1 _ hl) (fun _ h => h) hdg (kk (some z))
theorem jj_bl {i : Int32} (Cx : jj_C p s m args meth c cc nL ret own a b n t) (hin : vp_in i n) (hdg : decode cc pc = .ok (.baload, 1)) (kk : W p l e R s m args below meth c s.heap [] cells slots Q (F0 m (pc + 1) ls (.int (sb_b (t i.toNatClampNeg)) :: rest))) : W p l e R s m args below meth c s.heap [] cells slots Q (F0 m pc ls (.int i :: .ref b :: rest)) :=
  va_tb Cx.1 Cx.2.1 Cx.2.2.2.2.2.2.2.1.2.2.2 va_S.rf hin rfl hdg kk
theorem jj_ln (Cx : jj_C p s m args meth c cc nL ret own a b n t) (hdg : decode cc pc = .ok (.arraylength, 1)) (kk : W p l e R s m args below meth c s.heap [] cells slots Q (F0 m (pc + 1) ls (.int (nI n) :: rest))) : W p l e R s m args below meth c s.heap [] cells slots Q (F0 m pc ls (.ref b :: rest)) :=
  va_tlen Cx.1 Cx.2.1 Cx.2.2.2.2.2.2.2.1.2.2.2 va_S.rf rfl hdg kk
theorem jj_blind {av : List Value} (x : Array Value) (U : State) (g : JFrame) (mk : MethodId) (q : va_Pc av (jj_E a b n t) x U) : va_Pc av (jj_E a b n t) x (U.calling g mk x) := ⟨q.1, jj_Em (u := U) (U := U.calling g mk x) (Vm.Alike.refl U.vm) rfl q.2⟩
theorem jj_pc {av : List Value} (Cx : jj_C p s m args meth c cc nL ret own a b n t) (U : State) (hU : U.heap = s.heap) (hW : s.WarmedH U.vm) : va_Pc av (jj_E a b n t) av.toArray U := ⟨rfl, jj_Em hW.alike hU Cx.2.2.2.2.2.2.2⟩
theorem jj_rcv (Cx : jj_C p s m args meth c cc nL ret own a b n t) : ∃ cell : Cell, s.heap[a]? = some cell ∧ cell.vm.isStatics = false ∧ s.vm.findClass "java/lang/String" = some cell.cls := by
  obtain ⟨cell, h1, h2, h3, -⟩ := Cx.2.2.2.2.2.2.2.1.1
  exact ⟨cell, h1, h2, h3⟩
theorem jj_rV {y : MethodName} {index k fr lo maxL : Nat} {bytes : ByteArray} {rt : Option FieldType} {As : List Value} {Qc : Array Value → State → Outcome → State → Prop} {stk : List Value} (Cx : jj_C p s m args meth c cc nL ret own a b n t) (hMet : Met l y (Cond.code y bytes maxL rt :: cc_W) (mm_R fr lo) (va_Pc (.ref a :: As) (jj_E a b n t)) Qc 0 0 jj_N) (hg : GoodIn cc_W (wsV own index "java/lang/String" y (Cond.code y bytes maxL rt :: cc_W))) (hd : y.cls = "java/lang/String" ∧ y.cls ≠ "java/lang/invoke/MethodHandle" ∧ y.cls ≠ "java/lang/invoke/VarHandle" ∧ (parseMethodDescriptor y.desc).map (fun d => d.parameters.length) = some k) (hR : fr + 1 ≤ R.frames ∧ 8 + (maxL + 11) + lo ≤ R.locals) (hn : As.length = k) (hsz : ls.size = nL) (hst : stk = As.reverse ++ .ref a :: rest) (hW : (rest.map fun v => v.category).sum ≤ 8) (hdg : decode cc pc = .ok (.invokevirtual index, 3)) (hR2 : cells ≤ R.cells ∧ slots ≤ R.slots) :
    va_Run p l e R s m args below meth c s.heap [] cells slots 0 0 (F0 m pc ls stk) rest (Qc (Value.ref a :: As).toArray) jj_N :=
  va_runV (As := As) (rest := rest) ⟨Cx.1, Cx.2.1, Cx.2.2.2.1, Cx.2.2.2.2.1, Cx.2.2.2.2.2.1⟩ hMet (cwV k Cx.2.2.2.2.2.1 hg rfl rfl rfl hd hR) ⟨jj_blind, jj_rcv Cx, jj_pc Cx⟩ rfl hn hsz hst (lv_room hW) hdg hR2
theorem jj_rS {y : MethodName} {index k fr lo maxL : Nat} {bytes : ByteArray} {rt : Option FieldType} {As : List Value} {Qc : Array Value → State → Outcome → State → Prop} {stk : List Value} (Cx : jj_C p s m args meth c cc nL ret own a b n t) (hMet : Met l y (Cond.code y bytes maxL rt :: cc_W) (mm_R fr lo) (va_Pc As (jj_E a b n t)) Qc 0 0 jj_N) (hg : GoodIn cc_W (va_wsS own index y (Cond.code y bytes maxL rt :: cc_W))) (hd : y.cls ≠ "java/lang/invoke/MethodHandle" ∧ y.cls ≠ "java/lang/invoke/VarHandle" ∧ (parseMethodDescriptor y.desc).map (fun d => d.parameters.length) = some k) (hR : fr + 1 ≤ R.frames ∧ 8 + (maxL + 11) + lo ≤ R.locals) (hn : As.length = k) (hsz : ls.size = nL) (hst : stk = As.reverse ++ rest) (hW : (rest.map fun v => v.category).sum ≤ 8) (hdg : decode cc pc = .ok (.invokestatic index, 3)) (hR2 : cells ≤ R.cells ∧ slots ≤ R.slots) :
    va_Run p l e R s m args below meth c s.heap [] cells slots 0 0 (F0 m pc ls stk) rest (Qc As.toArray) jj_N :=
  va_runS (As := As) (rest := rest) ⟨Cx.1, Cx.2.1, Cx.2.2.2.1, Cx.2.2.2.2.1, Cx.2.2.2.2.2.1⟩ hMet (va_cwS k Cx.2.2.2.2.2.1 hg rfl rfl rfl hd hR) ⟨jj_blind, jj_pc Cx⟩ rfl hn hsz hst (lv_room hW) hdg hR2
theorem jj_ai {H : Heap} {locs : List Loc} {r : Int32} {stk : List Value} {av : Array Value} (hr : va_Run p l e R s m args below meth c H locs cells slots 0 0 (F0 m pc ls stk) rest (jj_Qi r av) jj_N) (kk : W p l e R s m args below meth c H locs cells slots Q (F0 m (pc + 3) ls (.int r :: rest))) : W p l e R s m args below meth c H locs cells slots Q (F0 m pc ls stk) := by
  intro T hT X
  obtain ⟨v, st₀, t, T', L, h0, X', hL, e1, -, ⟨hv, hh⟩, st⟩ := hr T hT X
  cases hv
  obtain ⟨t2, a1, b1⟩ := kk T' (by rw [e1, hh, h0]) (Stand.forget X' (fun q h => (hL q h).elim))
  exact ⟨t2, st t2 a1, b1⟩
theorem jj_av {H : Heap} {locs : List Loc} {r : Unit} {stk : List Value} {av : Array Value} (hr : va_Run p l e R s m args below meth c H locs cells slots 0 0 (F0 m pc ls stk) rest (jj_Qv r av) jj_N) (kk : W p l e R s m args below meth c H locs cells slots Q (F0 m (pc + 3) ls rest)) : W p l e R s m args below meth c H locs cells slots Q (F0 m pc ls stk) := by
  intro T hT X
  obtain ⟨v, st₀, t, T', L, h0, X', hL, e1, -, ⟨hv, hh⟩, st⟩ := hr T hT X
  cases hv
  obtain ⟨t2, a1, b1⟩ := kk T' (by rw [e1, hh, h0]) (Stand.forget X' (fun q h => (hL q h).elim))
  exact ⟨t2, st t2 a1, b1⟩
theorem jj_rz {v r : Int32} {ty : FieldType} (Cx : jj_C p s m args meth c cc nL (some ty) own a b n t) (hdg : decode cc pc = .ok (.ireturn, 1)) (hn : narrow ty (.int v) = .int v) (hf : some v = some r) : W p l e R s m args below meth c s.heap [] cells slots (MQ below (jj_Qi r) args s cells slots jj_N) (F0 m pc ls [.int v]) := by
  obtain rfl := fc_of_v hf
  exact W.zret (v := v) Cx.1 Cx.2.1 Cx.2.2.1 hn (fun t ht hW => ⟨rfl, ht⟩) (fun _ h => by cases h) hdg Cx.2.2.2.2.2.2.1
theorem jj_rv {r : Unit} (Cx : jj_C p s m args meth c cc nL none own a b n t) (hdg : decode cc pc = .ok (.return_, 1)) : W p l e R s m args below meth c s.heap [] cells slots (MQ below (jj_Qv r) args s cells slots jj_N) (F0 m pc ls []) :=
  W.vret Cx.1 Cx.2.1 Cx.2.2.1 (fun t ht hW => ⟨rfl, ht⟩) (fun _ h => by cases h) hdg Cx.2.2.2.2.2.2.1
end JJ
theorem jj_enter {l : Launch} {y : MethodName} {own : String} {fr lo : Nat} {av : List Value} {a b n : Nat} {t : Nat → Nat} {cc : ByteArray} {nL : Nat} {ret : Option FieldType} {Qc : Array Value → State → Outcome → State → Prop} (hy : plainFor y = true) (hcl : y.cls = own) (hn : (lg_sl av).length ≤ nL)
    (body : ∀ p e s m args below meth c ls, jj_C p s m args meth c cc nL ret own a b n t → lv_has ls nL (lv_args 0 av) → W p l e (mm_R fr lo) s m args below meth c s.heap [] 0 0 (MQ below Qc args s 0 0 jj_N) (F0 m 0 ls [])) : Met l y (Cond.code y cc nL ret :: cc_W) (mm_R fr lo) (va_Pc av (jj_E a b n t)) Qc 0 0 jj_N := by
  refine cc_ofW (cc := cc) (maxL := nL) (ret := ret) hy rfl ?_
  intro p e s m args below meth c s₁ B hml hv
  obtain ⟨rfl, hE⟩ := hv
  have hl := lv_entry av hn
  rw [lg_entry_eq]
  generalize (lg_sl av ++ List.replicate (nL - (lg_sl av).length) Slot.unset).toArray = ls at hl ⊢
  exact body p e s m _ below meth c ls ⟨B.exec, B.bytes, B.returns, hml, by rw [← hcl]; exact findClass_of_methodNamed B.named, fun w hw => atoms_spec (ws := Cond.code y cc nL ret :: cc_W) B.pre w (List.mem_cons_of_mem _ hw), B.notSynchronized, hE⟩ hl
