/-! rows that copy and that put references -/
def cc_cG (st : cc_S) (i0 k0 i k sp dp n : Nat) : cc_S := (st.1, fun a b => if a = i ∧ b = k then va_cpy (st.2.1 i0 k0) (st.2.1 i k) sp dp n else st.2.1 a b, st.2.2)
def cc_cJ (st : cc_S) (i0 k0 i k sp dp n : Nat) : cc_S := (st.1, st.2.1, fun a b => if a = i ∧ b = k then va_cpy (st.2.2.1 i0 k0) (st.2.2.1 i k) sp dp n else st.2.2.1 a b, st.2.2.2)
def cc_gc (X : cc_X) (i k t : Nat) (j n : Int32) : Bool := decide ((i, k) ∈ cx_r X ∧ cc_ak (cx_K X i) k = t ∧ 0 ≤ j.toInt ∧ 0 ≤ n.toInt ∧ j.toInt + n.toInt ≤ cc_al (cx_K X i) k)
theorem cc_nn {x : Int32} (h : 0 ≤ x.toInt) : ¬ x < 0 ∧ (x.toNatClampNeg : Int) = x.toInt := by
  refine ⟨fun q => ?_, ?_⟩
  · have := Int32.lt_iff_toInt_lt.mp q
    have e : (0 : Int32).toInt = 0 := by decide
    omega
  · show ((x.toInt.toNat : Nat) : Int) = x.toInt
    omega
theorem cc_gc_r {X : cc_X} {i k t : Nat} {j n : Int32} (h : cc_gc X i k t j n = true) : (i, k) ∈ cx_r X ∧ cc_ak (cx_K X i) k = t ∧ ¬ j < 0 ∧ ¬ n < 0 ∧ j.toNatClampNeg + n.toNatClampNeg ≤ cc_al (cx_K X i) k := by
  have h1 := of_decide_eq_true h
  have h2 := cc_nn h1.2.2.1
  have h3 := cc_nn h1.2.2.2.1
  refine ⟨h1.1, h1.2.1, h2.1, h3.1, ?_⟩
  have := h1.2.2.2.2
  omega
theorem cc_ent_cG {X : cc_X} {st : cc_S} {i0 k0 i k sp dp n : Nat} (r : Nat × Nat) (h : r ≠ (i, k)) : cc_ent X (cc_cG st i0 k0 i k sp dp n) r = cc_ent X st r := by
  have e : (cc_cG st i0 k0 i k sp dp n).2.1 r.1 r.2 = st.2.1 r.1 r.2 := if_neg (fun q => h (Prod.ext q.1 q.2))
  unfold cc_ent
  rw [e]
  rfl
theorem cc_ent_cJ {X : cc_X} {st : cc_S} {i0 k0 i k sp dp n : Nat} (r : Nat × Nat) (h : r ≠ (i, k)) : cc_ent X (cc_cJ st i0 k0 i k sp dp n) r = cc_ent X st r := by
  have e : (cc_cJ st i0 k0 i k sp dp n).2.2.1 r.1 r.2 = st.2.2.1 r.1 r.2 := if_neg (fun q => h (Prod.ext q.1 q.2))
  unfold cc_ent
  rw [e]
  rfl
theorem cc_ent_P {X : cc_X} {st : cc_S} {i k j : Nat} {v : Option Nat} (r : Nat × Nat) (h : r ≠ (i, k)) : cc_ent X (cc_sP st i k j v) r = cc_ent X st r := by
  have e : (cc_sP st i k j v).2.2.2 r.1 r.2 = st.2.2.2 r.1 r.2 := if_neg (fun q => h (Prod.ext q.1 q.2))
  unfold cc_ent
  rw [e]
  rfl
theorem cc_val_P {X : cc_X} {st : cc_S} {i k j a b : Nat} {v : Option Nat} (h : ¬ (a = i ∧ b = k)) : cc_val X (cc_sP st i k j v) a b = cc_val X st a b := by
  have e : cc_P (cc_sP st i k j v) a b 0 = cc_P st a b 0 := congrFun (if_neg h) 0
  unfold cc_val
  rw [e]
  rfl
theorem cc_fs_P {X : cc_X} {st : cc_S} {i k j : Nat} {v : Option Nat} (h : cc_fk (cx_K X i) k = 1) (a : Nat) : cc_fs X (cc_sP st i k j v) a = cc_fs X st a := by
  refine List.map_congr_left (fun b _ => ?_)
  by_cases q : a = i ∧ b = k
  · rw [q.1, q.2]
    unfold cc_val
    rw [h]
    rfl
  · exact cc_val_P q
section CC2
variable {p : Program} {l : Launch} {e : Env} {R : Room} {s : State} {m : MethodId} {args : Array Value} {below : List Frame} {meth : Method} {c : Code} {H H0 : Heap} {locs : List Loc} {cells slots : Nat} {Q : State → Prop}
variable {cc : ByteArray} {nL : Nat} {ret : Option FieldType} {own : String} {pc : Nat} {ls : Array Slot} {rest : List Value} {D : va_G} {X : cc_X} {st : cc_S}
theorem cc_cpi {i0 k0 i k index : Nat} {sp dp n : Int32} (Cx : cc_C p s m args meth c cc nL ret own D X) (hM : cc_H D X H0 st H locs) (hg0 : cc_gc X i0 k0 1 sp n = true) (hg1 : cc_gc X i k 1 dp n = true) (hsz : ls.size = nL) (hl : Cond.methodLink own index arraycopyName ∈ cc_W) (hnat : Cond.native arraycopyName ∈ cc_W) (hst : Cond.static arraycopyName ∈ cc_W) (hini : Cond.initialized "java/lang/System" ∈ cc_W) (hf : 1 ≤ R.frames) (hlo : (rest.map fun v => v.category).sum + (nativeFrameWords "java/lang/System" "arraycopy" 5 + 11) ≤ R.locals) (hdg : decode cc pc = .ok (.invokestatic index, 3))
    (kk : ∀ (st1 : cc_S) (H1 : Heap) (locs1 : List Loc), st1 = cc_cG st i0 k0 i k sp.toNatClampNeg dp.toNatClampNeg n.toNatClampNeg → cc_H D X H0 st1 H1 locs1 → W p l e R s m args below meth c H1 locs1 cells slots Q (F0 m (pc + 3) ls rest)) : W p l e R s m args below meth c H locs cells slots Q (F0 m pc ls (.int n :: .int dp :: .ref (cx_b X i k) :: .int sp :: .ref (cx_b X i0 k0) :: rest)) := by
  obtain ⟨r0, t0, a1, a2, a3⟩ := cc_gc_r hg0
  obtain ⟨r1, t1, b1, b2, b3⟩ := cc_gc_r hg1
  obtain ⟨q0, hq0, ha0⟩ := cc_w_r st r0
  obtain ⟨q1, hq1, ha1⟩ := cc_w_r st r1
  have hts := Cx.2.2.2.2.2.1
  have hok := Cx.2.2.2.2.2.2.2.2.2
  rw [show cc_ent X st (i0, k0) = .inl (cx_c X 0, cc_al (cx_K X i0) k0, .inl (st.2.1 i0 k0)) by unfold cc_ent; rw [t0]; rfl] at ha0
  rw [show cc_ent X st (i, k) = .inl (cx_c X 0, cc_al (cx_K X i) k, .inl (st.2.1 i k)) by unfold cc_ent; rw [t1]; rfl] at ha1
  refine va_copyi Cx.1 Cx.2.1 (Cx.2.2.2.1.trans hsz.symm) Cx.2.2.2.2.1 (hts _ hl) (hts _ hnat) (hts _ hst) (hts _ hini) Cx.2.2.2.2.2.2.2.1 hM.1 hM.2.1 hM.2.2 _ _ 0 0 ha0 ha1 rfl rfl rfl a1 b1 a2 a3 b3 (fun _ _ => rfl) hf hlo hdg (fun H1 locs1 hP hD hS => ?_)
  have h2 := cc_w_set (st := st) (st' := cc_cG st i0 k0 i k sp.toNatClampNeg dp.toNatClampNeg n.toNatClampNeg) hok hq1 (fun _ => rfl) (fun r hr => cc_ent_cG r hr)
  rw [show cc_ent X (cc_cG st i0 k0 i k sp.toNatClampNeg dp.toNatClampNeg n.toNatClampNeg) (i, k) = .inl (cx_c X 0, cc_al (cx_K X i) k, .inl (va_cpy (st.2.1 i0 k0) (st.2.1 i k) sp.toNatClampNeg dp.toNatClampNeg n.toNatClampNeg)) by
    unfold cc_ent
    rw [t1]
    show Sum.inl (cx_c X 0, cc_al (cx_K X i) k, Sum.inl ((cc_cG st i0 k0 i k sp.toNatClampNeg dp.toNatClampNeg n.toNatClampNeg).2.1 i k)) = _
    rw [show (cc_cG st i0 k0 i k sp.toNatClampNeg dp.toNatClampNeg n.toNatClampNeg).2.1 i k = va_cpy (st.2.1 i0 k0) (st.2.1 i k) sp.toNatClampNeg dp.toNatClampNeg n.toNatClampNeg from if_pos ⟨rfl, rfl⟩]] at h2
  rw [h2] at hP hD
  exact kk _ H1 locs1 rfl ⟨hP, hD, hS⟩
theorem cc_cpl {i0 k0 i k index : Nat} {sp dp n : Int32} (Cx : cc_C p s m args meth c cc nL ret own D X) (hM : cc_H D X H0 st H locs) (hg0 : cc_gc X i0 k0 2 sp n = true) (hg1 : cc_gc X i k 2 dp n = true) (hsz : ls.size = nL) (hl : Cond.methodLink own index arraycopyName ∈ cc_W) (hnat : Cond.native arraycopyName ∈ cc_W) (hst : Cond.static arraycopyName ∈ cc_W) (hini : Cond.initialized "java/lang/System" ∈ cc_W) (hf : 1 ≤ R.frames) (hlo : (rest.map fun v => v.category).sum + (nativeFrameWords "java/lang/System" "arraycopy" 5 + 11) ≤ R.locals) (hdg : decode cc pc = .ok (.invokestatic index, 3))
    (kk : ∀ (st1 : cc_S) (H1 : Heap) (locs1 : List Loc), st1 = cc_cJ st i0 k0 i k sp.toNatClampNeg dp.toNatClampNeg n.toNatClampNeg → cc_H D X H0 st1 H1 locs1 → W p l e R s m args below meth c H1 locs1 cells slots Q (F0 m (pc + 3) ls rest)) : W p l e R s m args below meth c H locs cells slots Q (F0 m pc ls (.int n :: .int dp :: .ref (cx_b X i k) :: .int sp :: .ref (cx_b X i0 k0) :: rest)) := by
  obtain ⟨r0, t0, a1, a2, a3⟩ := cc_gc_r hg0
  obtain ⟨r1, t1, b1, b2, b3⟩ := cc_gc_r hg1
  obtain ⟨q0, hq0, ha0⟩ := cc_w_r st r0
  obtain ⟨q1, hq1, ha1⟩ := cc_w_r st r1
  have hts := Cx.2.2.2.2.2.1
  have hok := Cx.2.2.2.2.2.2.2.2.2
  rw [show cc_ent X st (i0, k0) = .inl (cx_c X 1, cc_al (cx_K X i0) k0, .inr (.inl (st.2.2.1 i0 k0))) by unfold cc_ent; rw [t0]; rfl] at ha0
  rw [show cc_ent X st (i, k) = .inl (cx_c X 1, cc_al (cx_K X i) k, .inr (.inl (st.2.2.1 i k))) by unfold cc_ent; rw [t1]; rfl] at ha1
  refine va_copyl Cx.1 Cx.2.1 (Cx.2.2.2.1.trans hsz.symm) Cx.2.2.2.2.1 (hts _ hl) (hts _ hnat) (hts _ hst) (hts _ hini) Cx.2.2.2.2.2.2.2.1 hM.1 hM.2.1 hM.2.2 _ _ 1 1 ha0 ha1 rfl rfl rfl a1 b1 a2 a3 b3 (fun _ _ => rfl) hf hlo hdg (fun H1 locs1 hP hD hS => ?_)
  have h2 := cc_w_set (st := st) (st' := cc_cJ st i0 k0 i k sp.toNatClampNeg dp.toNatClampNeg n.toNatClampNeg) hok hq1 (fun _ => rfl) (fun r hr => cc_ent_cJ r hr)
  rw [show cc_ent X (cc_cJ st i0 k0 i k sp.toNatClampNeg dp.toNatClampNeg n.toNatClampNeg) (i, k) = .inl (cx_c X 1, cc_al (cx_K X i) k, .inr (.inl (va_cpy (st.2.2.1 i0 k0) (st.2.2.1 i k) sp.toNatClampNeg dp.toNatClampNeg n.toNatClampNeg))) by
    unfold cc_ent
    rw [t1]
    show Sum.inl (cx_c X 1, cc_al (cx_K X i) k, Sum.inr (Sum.inl ((cc_cJ st i0 k0 i k sp.toNatClampNeg dp.toNatClampNeg n.toNatClampNeg).2.2.1 i k))) = _
    rw [show (cc_cJ st i0 k0 i k sp.toNatClampNeg dp.toNatClampNeg n.toNatClampNeg).2.2.1 i k = va_cpy (st.2.2.1 i0 k0) (st.2.2.1 i k) sp.toNatClampNeg dp.toNatClampNeg n.toNatClampNeg from if_pos ⟨rfl, rfl⟩]] at h2
  rw [h2] at hP hD
  exact kk _ H1 locs1 rfl ⟨hP, hD, hS⟩
theorem cc_up_map {a : Nat → Nat} {f : Nat → Option Nat} {j : Nat} {v : Option Nat} : va_up (fun j => (f j).map a) j (v.map a) = fun z => (va_up f j v z).map a := by
  funext z
  unfold va_up
  by_cases h : z = j <;> simp [h]
theorem cc_w_P3 {i j q : Nat} {v : Option Nat} (hok : cc_ok X) (hf1 : cc_fk (cx_K X i) 0 = 1) (ht : cc_ak (cx_K X i) 0 = 3) (hq : (cx_r X)[q]? = some (i, 0)) : (cc_w X st).set ((cx_o X).length + q) (cx_b X i 0, .inl (cx_c X 2, cc_al (cx_K X i) 0, .inr (.inr (.inr (.inr (va_up (fun j => (st.2.2.2 i 0 j).map (cx_a X)) j (v.map (cx_a X)))))))) = cc_w X (cc_sP st i 0 j v) := by
  have h2 := cc_w_set (st := st) (st' := cc_sP st i 0 j v) hok hq (cc_fs_P hf1) (fun r hr => cc_ent_P r hr)
  rw [show cc_ent X (cc_sP st i 0 j v) (i, 0) = .inl (cx_c X 2, cc_al (cx_K X i) 0, .inr (.inr (.inr (.inr (va_up (fun j => (st.2.2.2 i 0 j).map (cx_a X)) j (v.map (cx_a X))))))) by
    unfold cc_ent
    rw [ht, cc_up_map]
    show Sum.inl (cx_c X 2, cc_al (cx_K X i) 0, Sum.inr (Sum.inr (Sum.inr (Sum.inr (fun z => ((cc_sP st i 0 j v).2.2.2 i 0 z).map (cx_a X)))))) = _
    rw [show (cc_sP st i 0 j v).2.2.2 i 0 = va_up (st.2.2.2 i 0) j v from if_pos ⟨rfl, rfl⟩]] at h2
  exact h2
theorem cc_astn {i : Nat} {j : Int32} (Cx : cc_C p s m args meth c cc nL ret own D X) (hM : cc_H D X H0 st H locs) (hg : cc_ga X i 0 3 j = true) (hf1 : cc_fk (cx_K X i) 0 = 1) (hdg : decode cc pc = .ok (.aastore, 1))
    (kk : ∀ (st1 : cc_S) (H1 : Heap) (locs1 : List Loc), st1 = cc_sP st i 0 j.toNatClampNeg none → cc_H D X H0 st1 H1 locs1 → W p l e R s m args below meth c H1 locs1 cells slots Q (F0 m (pc + 1) ls rest)) : W p l e R s m args below meth c H locs cells slots Q (F0 m pc ls (.null :: .int j :: .ref (cx_b X i 0) :: rest)) := by
  obtain ⟨hr, ht, hin⟩ := cc_ga_r hg
  obtain ⟨q, hq, ha⟩ := cc_w_r st hr
  have hok := Cx.2.2.2.2.2.2.2.2.2
  rw [show cc_ent X st (i, 0) = .inl (cx_c X 2, cc_al (cx_K X i) 0, .inr (.inr (.inr (.inr (fun j => (st.2.2.2 i 0 j).map (cx_a X)))))) by unfold cc_ent; rw [ht]; rfl] at ha
  refine va_astqN Cx.1 Cx.2.1 Cx.2.2.2.2.2.2.2.1 hM.1 hM.2.1 hM.2.2 _ 2 ha rfl hin hdg (fun H1 locs1 hP hD hS => ?_)
  have h2 := cc_w_P3 (st := st) (j := j.toNatClampNeg) (v := none) hok hf1 ht hq
  rw [show (none : Option Nat).map (cx_a X) = none from rfl] at h2
  rw [h2] at hP hD
  exact kk _ H1 locs1 rfl ⟨hP, hD, hS⟩
theorem cc_asto {i y : Nat} {j : Int32} (Cx : cc_C p s m args meth c cc nL ret own D X) (hM : cc_H D X H0 st H locs) (hg : cc_ga X i 0 3 j = true) (hf1 : cc_fk (cx_K X i) 0 = 1) (hy : cc_go X y [3, 4, 5, 6, 7, 8, 11] = true) (hdg : decode cc pc = .ok (.aastore, 1))
    (kk : ∀ (st1 : cc_S) (H1 : Heap) (locs1 : List Loc), st1 = cc_sP st i 0 j.toNatClampNeg (some y) → cc_H D X H0 st1 H1 locs1 → W p l e R s m args below meth c H1 locs1 cells slots Q (F0 m (pc + 1) ls rest)) : W p l e R s m args below meth c H locs cells slots Q (F0 m pc ls (.ref (cx_a X y) :: .int j :: .ref (cx_b X i 0) :: rest)) := by
  obtain ⟨hr, ht, hin⟩ := cc_ga_r hg
  obtain ⟨q, hq, ha⟩ := cc_w_r st hr
  have hok := Cx.2.2.2.2.2.2.2.2.2
  have hK := Cx.2.2.2.2.2.2.2.1
  have hN := Cx.2.2.2.2.2.2.2.2.1.2
  rw [show cc_ent X st (i, 0) = .inl (cx_c X 2, cc_al (cx_K X i) 0, .inr (.inr (.inr (.inr (fun j => (st.2.2.2 i 0 j).map (cx_a X)))))) by unfold cc_ent; rw [ht]; rfl] at ha
  obtain ⟨q2, hq2, hv⟩ := cc_w_o st (cc_go_o hy)
  have h2 := cc_w_P3 (st := st) (j := j.toNatClampNeg) (v := some y) hok hf1 ht hq
  rw [show (some y).map (cx_a X) = some (cx_a X y) from rfl] at h2
  have fin : ∀ (H1 : Heap) (locs1 : List Loc), va_P D vwCl ((cc_w X st).set ((cx_o X).length + q) (cx_b X i 0, .inl (cx_c X 2, cc_al (cx_K X i) 0, .inr (.inr (.inr (.inr (va_up (fun j => (st.2.2.2 i 0 j).map (cx_a X)) j.toNatClampNeg (some (cx_a X y))))))))) H1 → va_D (cc_A X) ((cc_w X st).set ((cx_o X).length + q) (cx_b X i 0, .inl (cx_c X 2, cc_al (cx_K X i) 0, .inr (.inr (.inr (.inr (va_up (fun j => (st.2.2.2 i 0 j).map (cx_a X)) j.toNatClampNeg (some (cx_a X y))))))))) → va_S (cc_A X) H0 H1 locs1 → W p l e R s m args below meth c H1 locs1 cells slots Q (F0 m (pc + 1) ls rest) := fun H1 locs1 hP hD hS => by
    rw [h2] at hP hD
    exact kk _ H1 locs1 rfl ⟨hP, hD, hS⟩
  have hc := cc_go_c hy
  simp only [List.mem_cons, List.not_mem_nil, or_false] at hc
  rcases hc with h | h | h | h | h | h | h
  · rw [h] at hv
    exact va_astqO (r := (RX1, TX1, 4)) (E := "EclipsesKept$Need") Cx.1 Cx.2.1 hK hM.1 hM.2.1 hM.2.2 _ 2 q2 3 ha rfl (hN ("EclipsesKept$Bird", "EclipsesKept$Need") (List.mem_of_getElem? (i := 1) rfl)) hv rfl hin hdg fin
  · rw [h] at hv
    exact va_astqO (r := (RX2, TX2, 4)) (E := "EclipsesKept$Need") Cx.1 Cx.2.1 hK hM.1 hM.2.1 hM.2.2 _ 2 q2 4 ha rfl (hN ("EclipsesKept$Child", "EclipsesKept$Need") (List.mem_of_getElem? (i := 2) rfl)) hv rfl hin hdg fin
  · rw [h] at hv
    exact va_astqO (r := (RX3, TX3, 4)) (E := "EclipsesKept$Need") Cx.1 Cx.2.1 hK hM.1 hM.2.1 hM.2.2 _ 2 q2 5 ha rfl (hN ("EclipsesKept$Crown", "EclipsesKept$Need") (List.mem_of_getElem? (i := 4) rfl)) hv rfl hin hdg fin
  · rw [h] at hv
    exact va_astq (r := (RX4, TX4, 4)) Cx.1 Cx.2.1 hK hM.1 hM.2.1 hM.2.2 _ 2 q2 6 ha rfl hv rfl hin hdg fin
  · rw [h] at hv
    exact va_astqO (r := (RX5, TX5, 4)) (E := "EclipsesKept$Need") Cx.1 Cx.2.1 hK hM.1 hM.2.1 hM.2.2 _ 2 q2 7 ha rfl (hN ("EclipsesKept$Photo", "EclipsesKept$Need") (List.mem_of_getElem? (i := 5) rfl)) hv rfl hin hdg fin
  · rw [h] at hv
    exact va_astqO (r := (RX6, TX6, 4)) (E := "EclipsesKept$Need") Cx.1 Cx.2.1 hK hM.1 hM.2.1 hM.2.2 _ 2 q2 8 ha rfl (hN ("EclipsesKept$Siege", "EclipsesKept$Need") (List.mem_of_getElem? (i := 6) rfl)) hv rfl hin hdg fin
  · rw [h] at hv
    exact va_astqO (r := (RX9, TX9, 4)) (E := "EclipsesKept$Need") Cx.1 Cx.2.1 hK hM.1 hM.2.1 hM.2.2 _ 2 q2 11 ha rfl (hN ("EclipsesKept$Told", "EclipsesKept$Need") (List.mem_of_getElem? (i := 7) rfl)) hv rfl hin hdg fin
theorem cc_pP {ci i k index : Nat} {C ref : String} {T : u_T} {N : Nat} {ty0 : Nat → FieldType} {v : Option Nat} {w : Value} (Cx : cc_C p s m args meth c cc nL ret own D X) (hM : cc_H D X H0 st H locs) (hid : cc_go X i [ci] = true) (hc : vwCl[ci]? = some (C, T, N)) (hin : ∀ w ∈ u_ws C T N, w ∈ cc_W) (hN : cc_nf ci = N) (hk : k < N) (hl : Cond.fieldLink own index ref (T k).2.1 (T k).2.2.1 ∈ cc_W) (hs : ∀ x, s.fieldFound? (T k).1 (T k).2.1 (T k).2.2.1 = some x → s.fieldFound? ref (T k).2.1 (T k).2.2.1 = some x) (hty : ∀ k, k < N → parseFieldDescriptor (T k).2.2.1 = some (ty0 k)) (hnm : ∀ a, a < N → ∀ b, b < N → a ≠ b → (T a).2.1 ≠ (T b).2.1) (hfin : (T k).2.2.2 = false) (hw : w = va_rf (v.map (cx_a X))) (hn : narrow (ty0 k) w = w) (hf : fits (ty0 k) w = true) (hdg : decode cc pc = .ok (.putfield index, 3)) (h0 : cc_fk ci k = 3) (h1 : cc_ak ci k = 0)
    (kk : ∀ (st1 : cc_S) (H1 : Heap) (locs1 : List Loc), st1 = cc_sP st i k 0 v → cc_H D X H0 st1 H1 locs1 → W p l e R s m args below meth c H1 locs1 cells slots Q (F0 m (pc + 3) ls rest)) : W p l e R s m args below meth c H locs cells slots Q (F0 m pc ls (w :: .ref (cx_a X i) :: rest)) := by
  obtain ⟨hx, hb, -, -, hown, hts, -, hK, -, hok⟩ := Cx
  obtain ⟨q, hq, he⟩ := cc_w_o st (cc_go_o hid)
  have hKi := cc_go_K hid
  have hl2 := (List.getElem?_eq_some_iff.mp hq).1
  have hkn : k < cc_nf (cx_K X i) := by rw [hKi, hN]; exact hk
  have hset : (cc_w X st).set q (cx_a X i, .inr (cx_K X i, (cc_fs X st i).set k w)) = cc_w X (cc_sP st i k 0 v) := by
    have e1 : (cc_fs X st i).set k w = cc_fs X (cc_sP st i k 0 v) i := by
      have h := cc_mapset (f := cc_val X st i) (g := cc_val X (cc_sP st i k 0 v) i) (q := k) (k := k) (List.getElem?_range hkn) List.nodup_range (fun j hj => cc_val_P (fun h => hj h.2))
      have e : cc_val X (cc_sP st i k 0 v) i k = w := by
        have e2 : cc_P (cc_sP st i k 0 v) i k 0 = v := by
          show (if i = i ∧ k = k then va_up (st.2.2.2 i k) 0 v else st.2.2.2 i k) 0 = v
          rw [if_pos ⟨rfl, rfl⟩]
          exact if_pos rfl
        unfold cc_val
        rw [hKi, h0, e2, hw]
        rfl
      rw [e] at h
      exact h
    rw [e1]
    unfold cc_w
    rw [List.set_append_left _ _ (by rw [List.length_map]; exact hl2)]
    have e3 := cc_mapset (f := fun i => (cx_a X i, (Sum.inr (cx_K X i, cc_fs X st i) : va_E))) (g := fun j => (cx_a X j, (Sum.inr (cx_K X j, cc_fs X (cc_sP st i k 0 v) j) : va_E))) hq hok.1 (fun j hj => by
      have e4 : cc_fs X (cc_sP st i k 0 v) j = cc_fs X st j := List.map_congr_left (fun b _ => cc_val_P (fun h => hj h.1))
      show (cx_a X j, (Sum.inr (cx_K X j, cc_fs X (cc_sP st i k 0 v) j) : va_E)) = (cx_a X j, (Sum.inr (cx_K X j, cc_fs X st j) : va_E))
      rw [e4])
    rw [e3]
    congr 1
    refine List.map_congr_left (fun r _ => ?_)
    by_cases hr : r = (i, k)
    · subst hr
      unfold cc_ent
      rw [show cc_ak (cx_K X (i, k).1) (i, k).2 = 0 from by show cc_ak (cx_K X i) k = 0; rw [hKi]; exact h1]
      rfl
    · rw [cc_ent_P r hr]
  rw [hKi] at he hset
  refine va_put (C := C) (T := T) (N := N) (ci := ci) hx hb hts hin ty0 hty hnm hown hK hM.1 hM.2.1 hM.2.2 q he hc k hk (hts _ hl) hs hfin (hty k hk) hn hf (by unfold cc_fs; rw [List.length_map, List.length_range, hKi, hN]; exact hk) hdg (fun H1 locs1 hP hD hS => ?_)
  rw [hset] at hP hD
  exact kk _ H1 locs1 rfl ⟨hP, hD, hS⟩
end CC2
