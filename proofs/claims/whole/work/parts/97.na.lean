/-! need, archive -/
theorem cc_w_sP {X : cc_X} {st : cc_S} {ci i k q : Nat} {v : Option Nat} {w : Value} (hok : cc_ok X) (hq : (cx_o X)[q]? = some i) (hKi : cx_K X i = ci) (hkn : k < cc_nf (cx_K X i)) (hw : w = va_rf (v.map (cx_a X))) (h0 : cc_fk ci k = 3) (h1 : cc_ak ci k = 0) : (cc_w X st).set q (cx_a X i, .inr (cx_K X i, (cc_fs X st i).set k w)) = cc_w X (cc_sP st i k 0 v) := by
  have hl2 := (List.getElem?_eq_some_iff.mp hq).1
  have hset : (cc_w X st).set q (cx_a X i, .inr (cx_K X i, (cc_fs X st i).set k w)) = cc_w X (cc_sP st i k 0 v) := by
    have e1 : (cc_fs X st i).set k w = cc_fs X (cc_sP st i k 0 v) i := by
      have h := cc_mapset (f := cc_val X st i) (g := cc_val X (cc_sP st i k 0 v) i) (q := k) (k := k) (List.getElem?_range hkn) List.nodup_range (fun j hj => cc_val_P (fun h => hj h.2))
      have e : cc_val X (cc_sP st i k 0 v) i k = w := by
        have e2 : cc_P (cc_sP st i k 0 v) i k 0 = v := by
          show (if i = i ∧ k = k then va_up (st.2.2.2 i k) 0 v else st.2.2.2 i k) 0 = v
          rw [if_pos ⟨rfl, rfl⟩]
          exact if_pos rfl
        unfold cc_val
        rw [hKi, h0, e2, hw]
        rfl
      rw [e] at h
      exact h
    rw [e1]
    unfold cc_w
    rw [List.set_append_left _ _ (by rw [List.length_map]; exact hl2)]
    have e3 := cc_mapset (f := fun i => (cx_a X i, (Sum.inr (cx_K X i, cc_fs X st i) : va_E))) (g := fun j => (cx_a X j, (Sum.inr (cx_K X j, cc_fs X (cc_sP st i k 0 v) j) : va_E))) hq hok.1 (fun j hj => by
      have e4 : cc_fs X (cc_sP st i k 0 v) j = cc_fs X st j := List.map_congr_left (fun b _ => cc_val_P (fun h => hj h.1))
      show (cx_a X j, (Sum.inr (cx_K X j, cc_fs X (cc_sP st i k 0 v) j) : va_E)) = (cx_a X j, (Sum.inr (cx_K X j, cc_fs X st j) : va_E))
      rw [e4])
    rw [e3]
    congr 1
    refine List.map_congr_left (fun r _ => ?_)
    by_cases hr : r = (i, k)
    · subst hr
      unfold cc_ent
      rw [show cc_ak (cx_K X (i, k).1) (i, k).2 = 0 from by show cc_ak (cx_K X i) k = 0; rw [hKi]; exact h1]
      rfl
    · rw [cc_ent_P r hr]
  exact hset
section XP
variable {p : Program} {l : Launch} {e : Env} {R : Room} {s : State} {m : MethodId} {args : Array Value} {below : List Frame} {meth : Method} {c : Code} {H : Heap} {locs : List Loc} {cells slots : Nat} {Q : State → Prop}
variable {cc : ByteArray} {nL : Nat} {ret : Option FieldType} {own nm : String} {Wd : List Cond} {pc : Nat} {ls : Array Slot} {rest : List Value} {D : va_G} {tys : List (ClassId × FieldType)} {B : Nat} {z : pp_Z} {A : Nat → Prop} {ws ar : va_W} {o ci N : Nat} {F : Nat → Value}
variable {X : cc_X} {st : cc_S}
theorem nx_putP (C : nn_C p s m args meth c cc nL ret own nm Wd D (nn_ts (cx_c X)) B z A) (hM : nn_H D A s.heap (cc_w X st ++ ws) H locs) {i ci N k index : Nat} {K ref : String} {T : u_T} {v : Option Nat} {w : Value} {ty0 : Nat → FieldType} (hok : cc_ok X) (ho : i ∈ cx_o X ∧ cx_K X i = ci) (hc : vwCl[ci]? = some (K, T, N)) (hin : ∀ w ∈ u_ws K T N, w ∈ Wd) (hty : ∀ k, k < N → parseFieldDescriptor (T k).2.2.1 = some (ty0 k)) (hnm : ∀ a, a < N → ∀ b, b < N → a ≠ b → (T a).2.1 ≠ (T b).2.1) (hN : cc_nf ci = N) (hk : k < N) (hl : Cond.fieldLink own index ref (T k).2.1 (T k).2.2.1 ∈ Wd) (hr : (T k).1 = ref) (hfin : (T k).2.2.2 = false) (hw : w = va_rf (v.map (cx_a X))) (hn : narrow (ty0 k) w = w) (hf : fits (ty0 k) w = true) (h0 : cc_fk ci k = 3) (h1 : cc_ak ci k = 0) (hdg : decode cc pc = .ok (.putfield index, 3))
    (kk : ∀ (H : Heap) (locs : List Loc), nn_H D A s.heap (cc_w X (cc_sP st i k 0 v) ++ ws) H locs → W p l e R s m args below meth c H locs cells slots Q (F0 m (pc + 3) ls rest)) : W p l e R s m args below meth c H locs cells slots Q (F0 m pc ls (w :: .ref (cx_a X i) :: rest)) := by
  obtain ⟨q, hq, he⟩ := cc_w_o st ho.1
  have hlt := (List.getElem?_eq_some_iff.mp he).1
  have hset := cc_w_sP (st := st) (k := k) (v := v) (w := w) hok hq ho.2 (by rw [ho.2, hN]; exact hk) hw h0 h1
  rw [ho.2] at he hset
  exact nn_pt (ws' := cc_w X (cc_sP st i k 0 v) ++ ws) C hM q (ci := ci) (fs := cc_fs X st i) (by rw [List.getElem?_append_left hlt]; exact he) (by rw [List.set_append_left _ _ hlt, hset]) hc hin hty hnm hk hl hr hfin hn hf (by unfold cc_fs; rw [List.length_map, List.length_range, ho.2, hN]; exact hk) hdg kk
end XP
def nd_I (κ n : Nat) (v : Int32) : Nat → Int32 := fun k => if k = 0 then nI κ else if k = 1 then nI n else if k = 2 then v else 0
abbrev nd_X (X : cc_X) (y κ q : Nat) : cc_X := ex_X X y (kcl κ) q [] (fun _ => 0)
abbrev nd_S (st : cc_S) (y κ n : Nat) (v : Int32) : cc_S := ex_S st y (nd_I κ n v) (fun _ _ => 0)
theorem nd_new {X : cc_X} {st : cc_S} {y κ n q : Nat} {v : Int32} (hf : ex_F X st y) (hκ : κ ≤ 6) : ex_new (nd_X X y κ q) (nd_S st y κ n v) y [] = [(q, .inr (kcl κ, [.int (nI κ), .int (nI n), .int v, .ref (cx_b X 0 5)]))] := by
  have eK : cx_K (nd_X X y κ q) y = kcl κ := if_pos rfl
  have ea : cx_a (nd_X X y κ q) y = q := if_pos rfl
  have eI : ∀ k, cc_I (nd_S st y κ n v) y k = nd_I κ n v k := fun k => if_pos rfl
  have h50 := hf.1
  have eb : cx_b (nd_X X y κ q) 0 5 = cx_b X 0 5 := if_neg (by omega)
  have ev : ∀ k, cc_val (nd_X X y κ q) (nd_S st y κ n v) y k = (match cc_fk (kcl κ) k with | 0 => .int (nd_I κ n v k) | 1 => .ref (cx_b (nd_X X y κ q) y k) | 2 => .ref (cx_a (nd_X X y κ q) (cc_cr k)) | 3 => va_rf ((cc_P (nd_S st y κ n v) y k 0).map (cx_a (nd_X X y κ q))) | 4 => .ref (cx_b X 0 5) | _ => .ref (cx_b (nd_X X y κ q) y 99)) := fun k => by
    unfold cc_val
    rw [eK, eI, eb]
    rfl
  have hcs : κ = 0 ∨ κ = 1 ∨ κ = 2 ∨ κ = 3 ∨ κ = 4 ∨ κ = 5 ∨ κ = 6 := by omega
  have ef : cc_fs (nd_X X y κ q) (nd_S st y κ n v) y = [.int (nI κ), .int (nI n), .int v, .ref (cx_b X 0 5)] := by
    unfold cc_fs
    rw [eK, List.map_congr_left (fun k _ => ev k)]
    rcases hcs with rfl | rfl | rfl | rfl | rfl | rfl | rfl <;> rfl
  unfold ex_new
  rw [ea, eK, ef]
  rfl
def tbn_X11_need : List (Nat × Instr × Nat) := [(0, .iload_n 1, 1), (1, .bipush 6, 2), (3, .invokestatic 54, 3), (6, .ifCond .ne 5, 3), (9, .iconst (-1), 1), (10, .ireturn, 1), (11, .iload_n 2, 1), (12, .bipush 9, 2), (14, .invokestatic 54, 3), (17, .ifCond .ne 6, 3), (20, .bipush (-2), 2), (22, .ireturn, 1), (23, .aload_n 0, 1), (24, .getfield 12, 3), (27, .getfield 58, 3), (30, .bipush 6, 2), (32, .if_icmp .lt 6, 3), (35, .bipush (-4), 2), (37, .ireturn, 1), (38, .aload_n 0, 1), (39, .getfield 12, 3), (42, .aload_n 0, 1), (43, .iload_n 1, 1), (44, .aload_n 0, 1), (45, .getfield 12, 3), (48, .getfield 58, 3), (51, .iload_n 2, 1), (52, .invokevirtual 61, 3), (55, .invokevirtual 65, 3), (58, .ireturn, 1)]
theorem tdn_X11_need : tbn_X11_need.all (fun q => decide (decode cX11_need q.1 = .ok (q.2.1, q.2.2))) = true := by decide +kernel
set_option maxHeartbeats 4000000 in
set_option maxRecDepth 100000 in
theorem n_needA (l : Launch) (D : va_G) (B : Nat) (z : pp_Z) (X : cc_X) (st : cc_S) (hok : cc_ok X) (h0 : 0 ∈ cx_o X ∧ cx_K X 0 = 13) (h1 : 1 ∈ cx_o X ∧ cx_K X 1 = 9) (x1 x2 : Int32) (hb : inw x1 6 = 0) : nn_M l D cc_W (nn_ts (cx_c X)) B z yX11_need cX11_need 3 (some .int) 5 107 1 4 [.ref (cx_a X 0), .int x1, .int x2] (cc_w X st) (fun r u => r = some (.int (-1)) ∧ u = cc_w X st) := by
  refine nn_enter (own := RX11) (by decide) rfl (Nat.le_of_ble_eq_true rfl) ?_
  intro p e s mi args below meth c ls A C hl hM
  have hl : lv_has ls 3 [(0, .ref (cx_a X 0)), (1, .int x1), (2, .int x2)] := hl
  have hM : nn_H D A s.heap (cc_w X st ++ []) s.heap [] := by
    rw [List.append_nil]
    exact hM
  refine lv_iload_n C.1 C.2.1 (dd_at tdn_X11_need 0 rfl) rfl (lv_at hl 1 rfl) ?_
  refine lv_bipush (v := (6 : Int32)) C.1 C.2.1 (dd_at tdn_X11_need 1 rfl) (by decide) ?_
  refine nx_cS (ws := []) (n := 2) (As := [.int x1, .int (6 : Int32)]) (rest := []) C hM cc_hW hok (c_X11_isWithin l D X 0 x1 6 st) e_win (cc_gdS cw547 cw548 cw549 cw520) hnB_X11_isWithin ⟨(Nat.le_of_ble_eq_true rfl), (Nat.le_of_ble_eq_true rfl)⟩ rfl hl.1 rfl (Nat.le_of_ble_eq_true rfl) (dd_at tdn_X11_need 2 rfl) ⟨(Nat.le_of_ble_eq_true rfl), (Nat.le_of_ble_eq_true rfl)⟩ (fun H locs hM => ?_)
  refine lv_if_ne (tgt := 11) C.1 C.2.1 (dd_at tdn_X11_need 3 rfl) (by decide) (fun h => absurd h (fun q => q hb)) (fun _ => ?_)
  refine lv_iconst (v := (-1 : Int32)) C.1 C.2.1 (dd_at tdn_X11_need 4 rfl) (by decide) ?_
  refine W.widen (k := 1) (n := 4) (Nat.le_of_ble_eq_true rfl) (Nat.le_of_ble_eq_true rfl) ?_
  exact nn_ir C hM ⟨rfl, List.append_nil _⟩ (dd_at tdn_X11_need 5 rfl)
set_option maxHeartbeats 4000000 in
set_option maxRecDepth 100000 in
theorem n_needB (l : Launch) (D : va_G) (B : Nat) (z : pp_Z) (X : cc_X) (st : cc_S) (hok : cc_ok X) (h0 : 0 ∈ cx_o X ∧ cx_K X 0 = 13) (h1 : 1 ∈ cx_o X ∧ cx_K X 1 = 9) (x1 x2 : Int32) (hb : ¬ inw x1 6 = 0) (hb2 : inw x2 9 = 0) : nn_M l D cc_W (nn_ts (cx_c X)) B z yX11_need cX11_need 3 (some .int) 5 107 1 4 [.ref (cx_a X 0), .int x1, .int x2] (cc_w X st) (fun r u => r = some (.int (-2)) ∧ u = cc_w X st) := by
  refine nn_enter (own := RX11) (by decide) rfl (Nat.le_of_ble_eq_true rfl) ?_
  intro p e s mi args below meth c ls A C hl hM
  have hl : lv_has ls 3 [(0, .ref (cx_a X 0)), (1, .int x1), (2, .int x2)] := hl
  have hM : nn_H D A s.heap (cc_w X st ++ []) s.heap [] := by
    rw [List.append_nil]
    exact hM
  refine lv_iload_n C.1 C.2.1 (dd_at tdn_X11_need 0 rfl) rfl (lv_at hl 1 rfl) ?_
  refine lv_bipush (v := (6 : Int32)) C.1 C.2.1 (dd_at tdn_X11_need 1 rfl) (by decide) ?_
  refine nx_cS (ws := []) (n := 2) (As := [.int x1, .int (6 : Int32)]) (rest := []) C hM cc_hW hok (c_X11_isWithin l D X 0 x1 6 st) e_win (cc_gdS cw547 cw548 cw549 cw520) hnB_X11_isWithin ⟨(Nat.le_of_ble_eq_true rfl), (Nat.le_of_ble_eq_true rfl)⟩ rfl hl.1 rfl (Nat.le_of_ble_eq_true rfl) (dd_at tdn_X11_need 2 rfl) ⟨(Nat.le_of_ble_eq_true rfl), (Nat.le_of_ble_eq_true rfl)⟩ (fun H locs hM => ?_)
  refine lv_if_ne (tgt := 11) C.1 C.2.1 (dd_at tdn_X11_need 3 rfl) (by decide) (fun _ => ?_) (fun h => absurd h (hb))
  refine lv_iload_n C.1 C.2.1 (dd_at tdn_X11_need 6 rfl) rfl (lv_at hl 2 rfl) ?_
  refine lv_bipush (v := (9 : Int32)) C.1 C.2.1 (dd_at tdn_X11_need 7 rfl) (by decide) ?_
  refine nx_cS (ws := []) (n := 2) (As := [.int x2, .int (9 : Int32)]) (rest := []) C hM cc_hW hok (c_X11_isWithin l D X 0 x2 9 st) e_win (cc_gdS cw547 cw548 cw549 cw520) hnB_X11_isWithin ⟨(Nat.le_of_ble_eq_true rfl), (Nat.le_of_ble_eq_true rfl)⟩ rfl hl.1 rfl (Nat.le_of_ble_eq_true rfl) (dd_at tdn_X11_need 8 rfl) ⟨(Nat.le_of_ble_eq_true rfl), (Nat.le_of_ble_eq_true rfl)⟩ (fun H locs hM => ?_)
  refine lv_if_ne (tgt := 23) C.1 C.2.1 (dd_at tdn_X11_need 9 rfl) (by decide) (fun h => absurd h (fun q => q hb2)) (fun _ => ?_)
  refine lv_bipush (v := (-2 : Int32)) C.1 C.2.1 (dd_at tdn_X11_need 10 rfl) (by decide) ?_
  refine W.widen (k := 1) (n := 4) (Nat.le_of_ble_eq_true rfl) (Nat.le_of_ble_eq_true rfl) ?_
  exact nn_ir C hM ⟨rfl, List.append_nil _⟩ (dd_at tdn_X11_need 11 rfl)
set_option maxHeartbeats 4000000 in
set_option maxRecDepth 100000 in
theorem n_needC (l : Launch) (D : va_G) (B : Nat) (z : pp_Z) (X : cc_X) (st : cc_S) (hok : cc_ok X) (h0 : 0 ∈ cx_o X ∧ cx_K X 0 = 13) (h1 : 1 ∈ cx_o X ∧ cx_K X 1 = 9) (x1 x2 : Int32) (hb : ¬ inw x1 6 = 0) (hb2 : ¬ inw x2 9 = 0) (hcnt : cc_I st 1 9 = nI 6) : nn_M l D cc_W (nn_ts (cx_c X)) B z yX11_need cX11_need 3 (some .int) 5 107 1 4 [.ref (cx_a X 0), .int x1, .int x2] (cc_w X st) (fun r u => r = some (.int (-4)) ∧ u = cc_w X st) := by
  refine nn_enter (own := RX11) (by decide) rfl (Nat.le_of_ble_eq_true rfl) ?_
  intro p e s mi args below meth c ls A C hl hM
  have hl : lv_has ls 3 [(0, .ref (cx_a X 0)), (1, .int x1), (2, .int x2)] := hl
  have hM : nn_H D A s.heap (cc_w X st ++ []) s.heap [] := by
    rw [List.append_nil]
    exact hM
  refine lv_iload_n C.1 C.2.1 (dd_at tdn_X11_need 0 rfl) rfl (lv_at hl 1 rfl) ?_
  refine lv_bipush (v := (6 : Int32)) C.1 C.2.1 (dd_at tdn_X11_need 1 rfl) (by decide) ?_
  refine nx_cS (ws := []) (n := 2) (As := [.int x1, .int (6 : Int32)]) (rest := []) C hM cc_hW hok (c_X11_isWithin l D X 0 x1 6 st) e_win (cc_gdS cw547 cw548 cw549 cw520) hnB_X11_isWithin ⟨(Nat.le_of_ble_eq_true rfl), (Nat.le_of_ble_eq_true rfl)⟩ rfl hl.1 rfl (Nat.le_of_ble_eq_true rfl) (dd_at tdn_X11_need 2 rfl) ⟨(Nat.le_of_ble_eq_true rfl), (Nat.le_of_ble_eq_true rfl)⟩ (fun H locs hM => ?_)
  refine lv_if_ne (tgt := 11) C.1 C.2.1 (dd_at tdn_X11_need 3 rfl) (by decide) (fun _ => ?_) (fun h => absurd h (hb))
  refine lv_iload_n C.1 C.2.1 (dd_at tdn_X11_need 6 rfl) rfl (lv_at hl 2 rfl) ?_
  refine lv_bipush (v := (9 : Int32)) C.1 C.2.1 (dd_at tdn_X11_need 7 rfl) (by decide) ?_
  refine nx_cS (ws := []) (n := 2) (As := [.int x2, .int (9 : Int32)]) (rest := []) C hM cc_hW hok (c_X11_isWithin l D X 0 x2 9 st) e_win (cc_gdS cw547 cw548 cw549 cw520) hnB_X11_isWithin ⟨(Nat.le_of_ble_eq_true rfl), (Nat.le_of_ble_eq_true rfl)⟩ rfl hl.1 rfl (Nat.le_of_ble_eq_true rfl) (dd_at tdn_X11_need 8 rfl) ⟨(Nat.le_of_ble_eq_true rfl), (Nat.le_of_ble_eq_true rfl)⟩ (fun H locs hM => ?_)
  refine lv_if_ne (tgt := 23) C.1 C.2.1 (dd_at tdn_X11_need 9 rfl) (by decide) (fun _ => ?_) (fun h => absurd h (hb2))
  refine lv_aload_n C.1 C.2.1 (dd_at tdn_X11_need 12 rfl) rfl (lv_at hl 0 rfl) ?_
  refine nx_get (ws := []) C hM (i := 0) (ci := 13) (N := 8) (k := 0) (K := RX11) (T := TX11) (ref := "EclipsesKept") (v := .ref (cx_a X 1)) h0 rfl cc_inX11 rfl (Nat.le_of_ble_eq_true rfl) cw498 rfl (fun X' hK ha hb => by unfold cc_val; rw [hK, ha]; rfl) (dd_at tdn_X11_need 13 rfl) ?_
  refine nx_get (ws := []) C hM (i := 1) (ci := 9) (N := 17) (k := 9) (K := RX7) (T := TX7) (ref := "EclipsesKept$State") (v := .int (nI 6)) h1 rfl cc_inX7 rfl (Nat.le_of_ble_eq_true rfl) cw546 rfl (fun X' hK ha hb => by unfold cc_val; rw [hK]; exact congrArg Value.int hcnt) (dd_at tdn_X11_need 14 rfl) ?_
  refine lv_bipush (v := (6 : Int32)) C.1 C.2.1 (dd_at tdn_X11_need 15 rfl) (by decide) ?_
  refine lv_icmp_lt (tgt := 38) C.1 C.2.1 (dd_at tdn_X11_need 16 rfl) (by decide) (fun h => absurd h (by decide)) (fun _ => ?_)
  refine lv_bipush (v := (-4 : Int32)) C.1 C.2.1 (dd_at tdn_X11_need 17 rfl) (by decide) ?_
  refine W.widen (k := 1) (n := 4) (Nat.le_of_ble_eq_true rfl) (Nat.le_of_ble_eq_true rfl) ?_
  exact nn_ir C hM ⟨rfl, List.append_nil _⟩ (dd_at tdn_X11_need 18 rfl)
theorem hnV_X11_made : yX11_made.cls = RX11 ∧ yX11_made.cls ≠ "java/lang/invoke/MethodHandle" ∧ yX11_made.cls ≠ "java/lang/invoke/VarHandle" ∧ (parseMethodDescriptor yX11_made.desc).map (fun d => d.parameters.length) = some 3 := by decide +kernel
theorem hnV_X7_join : yX7_join.cls = RX7 ∧ yX7_join.cls ≠ "java/lang/invoke/MethodHandle" ∧ yX7_join.cls ≠ "java/lang/invoke/VarHandle" ∧ (parseMethodDescriptor yX7_join.desc).map (fun d => d.parameters.length) = some 1 := by decide +kernel
set_option maxHeartbeats 4000000 in
set_option maxRecDepth 100000 in
theorem n_needD (l : Launch) (D : va_G) (B : Nat) (z : pp_Z) (X : cc_X) (st : cc_S) (hok : cc_ok X) (h0 : 0 ∈ cx_o X ∧ cx_K X 0 = 13) (h1 : 1 ∈ cx_o X ∧ cx_K X 1 = 9) (κ n y : Nat) (x2 : Int32) (hκ : κ ≤ 6) (hb : ¬ inw (nI κ) 6 = 0) (hb2 : ¬ inw x2 9 = 0) (hcnt : cc_I st 1 9 = nI n) (hn : n < 6) (hf : ex_F X st y) (rr : Int32) (st2 : cc_S) (hj : ∀ q, C_X7_join (nd_X X y κ q) 0 1 y (nd_S st y κ n x2) = some (rr, st2)) : nn_M l D cc_W (nn_ts (cx_c X)) B z yX11_need cX11_need 3 (some .int) 5 107 1 4 [.ref (cx_a X 0), .int (nI κ), .int x2] (cc_w X st) (fun r u => r = some (.int rr) ∧ ∃ q, u = cc_w (nd_X X y κ q) st2) := by
  refine nn_enter (own := RX11) (by decide) rfl (Nat.le_of_ble_eq_true rfl) ?_
  intro p e s mi args below meth c ls A C hl hM
  have hl : lv_has ls 3 [(0, .ref (cx_a X 0)), (1, .int (nI κ)), (2, .int x2)] := hl
  have hM : nn_H D A s.heap (cc_w X st ++ []) s.heap [] := by
    rw [List.append_nil]
    exact hM
  refine lv_iload_n C.1 C.2.1 (dd_at tdn_X11_need 0 rfl) rfl (lv_at hl 1 rfl) ?_
  refine lv_bipush (v := (6 : Int32)) C.1 C.2.1 (dd_at tdn_X11_need 1 rfl) (by decide) ?_
  refine nx_cS (ws := []) (n := 2) (As := [.int (nI κ), .int (6 : Int32)]) (rest := []) C hM cc_hW hok (c_X11_isWithin l D X 0 (nI κ) 6 st) e_win (cc_gdS cw547 cw548 cw549 cw520) hnB_X11_isWithin ⟨(Nat.le_of_ble_eq_true rfl), (Nat.le_of_ble_eq_true rfl)⟩ rfl hl.1 rfl (Nat.le_of_ble_eq_true rfl) (dd_at tdn_X11_need 2 rfl) ⟨(Nat.le_of_ble_eq_true rfl), (Nat.le_of_ble_eq_true rfl)⟩ (fun H locs hM => ?_)
  refine lv_if_ne (tgt := 11) C.1 C.2.1 (dd_at tdn_X11_need 3 rfl) (by decide) (fun _ => ?_) (fun h => absurd h (hb))
  refine lv_iload_n C.1 C.2.1 (dd_at tdn_X11_need 6 rfl) rfl (lv_at hl 2 rfl) ?_
  refine lv_bipush (v := (9 : Int32)) C.1 C.2.1 (dd_at tdn_X11_need 7 rfl) (by decide) ?_
  refine nx_cS (ws := []) (n := 2) (As := [.int x2, .int (9 : Int32)]) (rest := []) C hM cc_hW hok (c_X11_isWithin l D X 0 x2 9 st) e_win (cc_gdS cw547 cw548 cw549 cw520) hnB_X11_isWithin ⟨(Nat.le_of_ble_eq_true rfl), (Nat.le_of_ble_eq_true rfl)⟩ rfl hl.1 rfl (Nat.le_of_ble_eq_true rfl) (dd_at tdn_X11_need 8 rfl) ⟨(Nat.le_of_ble_eq_true rfl), (Nat.le_of_ble_eq_true rfl)⟩ (fun H locs hM => ?_)
  refine lv_if_ne (tgt := 23) C.1 C.2.1 (dd_at tdn_X11_need 9 rfl) (by decide) (fun _ => ?_) (fun h => absurd h (hb2))
  refine lv_aload_n C.1 C.2.1 (dd_at tdn_X11_need 12 rfl) rfl (lv_at hl 0 rfl) ?_
  refine nx_get (ws := []) C hM (i := 0) (ci := 13) (N := 8) (k := 0) (K := RX11) (T := TX11) (ref := "EclipsesKept") (v := .ref (cx_a X 1)) h0 rfl cc_inX11 rfl (Nat.le_of_ble_eq_true rfl) cw498 rfl (fun X' hK ha hb => by unfold cc_val; rw [hK, ha]; rfl) (dd_at tdn_X11_need 13 rfl) ?_
  refine nx_get (ws := []) C hM (i := 1) (ci := 9) (N := 17) (k := 9) (K := RX7) (T := TX7) (ref := "EclipsesKept$State") (v := .int (nI n)) h1 rfl cc_inX7 rfl (Nat.le_of_ble_eq_true rfl) cw546 rfl (fun X' hK ha hb => by unfold cc_val; rw [hK]; exact congrArg Value.int hcnt) (dd_at tdn_X11_need 14 rfl) ?_
  refine lv_bipush (v := (6 : Int32)) C.1 C.2.1 (dd_at tdn_X11_need 15 rfl) (by decide) ?_
  refine lv_icmp_lt (tgt := 38) C.1 C.2.1 (dd_at tdn_X11_need 16 rfl) (by decide) (fun _ => ?_) (fun h => absurd (show nI n < nI 6 from nI_lt hn (by decide)) h)
  refine lv_aload_n C.1 C.2.1 (dd_at tdn_X11_need 19 rfl) rfl (lv_at hl 0 rfl) ?_
  refine nx_get (ws := []) C hM (i := 0) (ci := 13) (N := 8) (k := 0) (K := RX11) (T := TX11) (ref := "EclipsesKept") (v := .ref (cx_a X 1)) h0 rfl cc_inX11 rfl (Nat.le_of_ble_eq_true rfl) cw498 rfl (fun X' hK ha hb => by unfold cc_val; rw [hK, ha]; rfl) (dd_at tdn_X11_need 20 rfl) ?_
  refine lv_aload_n C.1 C.2.1 (dd_at tdn_X11_need 21 rfl) rfl (lv_at hl 0 rfl) ?_
  refine lv_iload_n C.1 C.2.1 (dd_at tdn_X11_need 22 rfl) rfl (lv_at hl 1 rfl) ?_
  refine lv_aload_n C.1 C.2.1 (dd_at tdn_X11_need 23 rfl) rfl (lv_at hl 0 rfl) ?_
  refine nx_get (ws := []) C hM (i := 0) (ci := 13) (N := 8) (k := 0) (K := RX11) (T := TX11) (ref := "EclipsesKept") (v := .ref (cx_a X 1)) h0 rfl cc_inX11 rfl (Nat.le_of_ble_eq_true rfl) cw498 rfl (fun X' hK ha hb => by unfold cc_val; rw [hK, ha]; rfl) (dd_at tdn_X11_need 24 rfl) ?_
  refine nx_get (ws := []) C hM (i := 1) (ci := 9) (N := 17) (k := 9) (K := RX7) (T := TX7) (ref := "EclipsesKept$State") (v := .int (nI n)) h1 rfl cc_inX7 rfl (Nat.le_of_ble_eq_true rfl) cw546 rfl (fun X' hK ha hb => by unfold cc_val; rw [hK]; exact congrArg Value.int hcnt) (dd_at tdn_X11_need 25 rfl) ?_
  refine lv_iload_n C.1 C.2.1 (dd_at tdn_X11_need 26 rfl) rfl (lv_at hl 2 rfl) ?_
  have hM : nn_H D A s.heap ([] ++ cc_w X st) H locs := by
    rw [List.append_nil] at hM
    exact hM
  obtain ⟨q0, hq0, he0⟩ := cc_w_o st h0.1
  rw [h0.2] at he0
  refine nn_cV (Cl := RX11) (ws := []) (wc := cc_w X st) (n := 3) (As := [.int (nI κ), .int (nI n), .int x2]) (rest := [.ref (cx_a X 1)]) C hM (nn_rcv C hM (ci := 13) (q0 := q0) he0 rfl) (n_made l D B z X st hok h0 κ hκ (nI n) x2) (cc_gdV cw550 cw551 cw552 cw549 cw545) hnV_X11_made ⟨(Nat.le_of_ble_eq_true rfl), (Nat.le_of_ble_eq_true rfl)⟩ rfl hl.1 rfl (Nat.le_of_ble_eq_true rfl) (dd_at tdn_X11_need 27 rfl) ⟨(Nat.le_of_ble_eq_true rfl), (Nat.le_of_ble_eq_true rfl)⟩ (fun r u H locs hu hM => ?_)
  obtain ⟨q, rfl, rfl⟩ := hu
  have hM : nn_H D A s.heap (cc_w X st ++ ex_new (nd_X X y κ q) (nd_S st y κ n x2) y [] ++ []) H locs := by
    rw [List.append_nil, nd_new hf hκ]
    exact hM
  replace hM := ex_H hf hM
  have h50 := hf.1
  have e1 : cx_a (nd_X X y κ q) 1 = cx_a X 1 := if_neg (by omega)
  have ey : cx_a (nd_X X y κ q) y = q := if_pos rfl
  have h1' : 1 ∈ cx_o (nd_X X y κ q) ∧ cx_K (nd_X X y κ q) 1 = 9 := ⟨List.mem_append_left _ h1.1, (if_neg (by omega)).trans h1.2⟩
  refine nx_cV (X := nd_X X y κ q) (ws := []) (i := 1) (ci := 9) (n := 1) (As := [.ref (cx_a (nd_X X y κ q) y)]) (rest := []) (r := rr) (st1 := st2) C hM cc_hW (ex_ok hok hf List.nodup_nil) h1' rfl (c_X7_join l D (nd_X X y κ q) 0 1 y (nd_S st y κ n x2)) (hj q) (cc_gdV cw553 cw554 cw555 cw345 cw346) hnV_X7_join ⟨(Nat.le_of_ble_eq_true rfl), (Nat.le_of_ble_eq_true rfl)⟩ rfl hl.1 (by rw [e1, ey]; rfl) (Nat.le_of_ble_eq_true rfl) (dd_at tdn_X11_need 28 rfl) ⟨(Nat.le_of_ble_eq_true rfl), (Nat.le_of_ble_eq_true rfl)⟩ (fun H locs hM => ?_)
  exact nn_ir C hM ⟨rfl, q, List.append_nil _⟩ (dd_at tdn_X11_need 29 rfl)
def tbn_X11_archive : List (Nat × Instr × Nat) := [(0, .aload_n 0, 1), (1, .getfield 45, 3), (4, .bipush 6, 2), (6, .if_icmp .lt 6, 3), (9, .bipush (-4), 2), (11, .ireturn, 1), (12, .new 117, 3), (15, .dup, 1), (16, .aload_n 0, 1), (17, .getfield 37, 3), (20, .invokevirtual 119, 3), (23, .invokespecial 123, 3), (26, .astore_n 1, 1), (27, .aload_n 0, 1), (28, .getfield 37, 3), (31, .iconst 0, 1), (32, .invokevirtual 126, 3), (35, .aload_n 1, 1), (36, .invokevirtual 130, 3), (39, .ifCond .ne 11, 3), (42, .bipush (-10), 2), (44, .aload_n 1, 1), (45, .invokevirtual 134, 3), (48, .isub, 1), (49, .ireturn, 1), (50, .aload_n 0, 1), (51, .getfield 12, 3), (54, .aload_n 1, 1), (55, .putfield 137, 3), (58, .aload_n 0, 1), (59, .dup, 1), (60, .getfield 45, 3), (63, .iconst 1, 1), (64, .iadd, 1), (65, .putfield 45, 3), (68, .aload_n 0, 1), (69, .getfield 45, 3), (72, .iconst 1, 1), (73, .isub, 1), (74, .ireturn, 1)]
theorem tdn_X11_archive : tbn_X11_archive.all (fun q => decide (decode cX11_archive q.1 = .ok (q.2.1, q.2.2))) = true := by decide +kernel
set_option maxHeartbeats 4000000 in
set_option maxRecDepth 100000 in
theorem n_archA (l : Launch) (D : va_G) (B : Nat) (z : pp_Z) (X : cc_X) (st : cc_S) (hok : cc_ok X) (h0 : 0 ∈ cx_o X ∧ cx_K X 0 = 13) (h1 : 1 ∈ cx_o X ∧ cx_K X 1 = 9) (b : Nat) (ml : Int32) (n m : Nat) (f : Nat → Int32) (hA : cc_I st 0 6 = nI 6) : nn_M l D sb_W (nn_ts (cx_c X)) B z yX11_archive cX11_archive 2 (some .int) 54 1887 16 1600 [.ref (cx_a X 0)] (cc_w X st ++ [nn_bo (cx_a X 40) b ml (nI n), nn_by (cx_c X) b m f]) (fun r u => r = some (.int (-4)) ∧ u = cc_w X st ++ [nn_bo (cx_a X 40) b ml (nI n), nn_by (cx_c X) b m f]) := by
  refine nn_enter (own := RX11) (by decide) rfl (Nat.le_of_ble_eq_true rfl) ?_
  intro p e s mi args below meth c ls A C hl hM
  have hl : lv_has ls 2 [(0, .ref (cx_a X 0))] := hl
  refine lv_aload_n C.1 C.2.1 (dd_at tdn_X11_archive 0 rfl) rfl (lv_at hl 0 rfl) ?_
  refine nx_get (ws := [nn_bo (cx_a X 40) b ml (nI n), nn_by (cx_c X) b m f]) C hM (i := 0) (ci := 13) (N := 8) (k := 6) (K := RX11) (T := TX11) (ref := "EclipsesKept") (v := .int (nI 6)) h0 rfl sb_inX11 rfl (Nat.le_of_ble_eq_true rfl) (sb_c cw510) rfl (fun X' hK ha hb => by unfold cc_val; rw [hK]; exact congrArg Value.int hA) (dd_at tdn_X11_archive 1 rfl) ?_
  refine lv_bipush (v := (6 : Int32)) C.1 C.2.1 (dd_at tdn_X11_archive 2 rfl) (by decide) ?_
  refine lv_icmp_lt (tgt := 12) C.1 C.2.1 (dd_at tdn_X11_archive 3 rfl) (by decide) (fun h => absurd h (by decide)) (fun _ => ?_)
  refine lv_bipush (v := (-4 : Int32)) C.1 C.2.1 (dd_at tdn_X11_archive 4 rfl) (by decide) ?_
  refine W.widen (k := 16) (n := 1600) (Nat.le_of_ble_eq_true rfl) (Nat.le_of_ble_eq_true rfl) ?_
  exact nn_ir C hM ⟨rfl, rfl⟩ (dd_at tdn_X11_archive 5 rfl)
theorem hnV_J4_toString_0e30d : yJ4_toString_0e30d.cls = RJ4 ∧ yJ4_toString_0e30d.cls ≠ "java/lang/invoke/MethodHandle" ∧ yJ4_toString_0e30d.cls ≠ "java/lang/invoke/VarHandle" ∧ (parseMethodDescriptor yJ4_toString_0e30d.desc).map (fun d => d.parameters.length) = some 0 := by decide +kernel
theorem hnB_X0_init : yX0_init.cls ≠ "java/lang/invoke/MethodHandle" ∧ yX0_init.cls ≠ "java/lang/invoke/VarHandle" ∧ (parseMethodDescriptor yX0_init.desc).map (fun d => d.parameters.length) = some 1 := by decide +kernel
theorem hnV_J4_setLength_d00df : yJ4_setLength_d00df.cls = RJ4 ∧ yJ4_setLength_d00df.cls ≠ "java/lang/invoke/MethodHandle" ∧ yJ4_setLength_d00df.cls ≠ "java/lang/invoke/VarHandle" ∧ (parseMethodDescriptor yJ4_setLength_d00df.desc).map (fun d => d.parameters.length) = some 1 := by decide +kernel
theorem hnV_X0_isOne : yX0_isOne.cls = RX0 ∧ yX0_isOne.cls ≠ "java/lang/invoke/MethodHandle" ∧ yX0_isOne.cls ≠ "java/lang/invoke/VarHandle" ∧ (parseMethodDescriptor yX0_isOne.desc).map (fun d => d.parameters.length) = some 0 := by decide +kernel
theorem hnV_X0_place : yX0_place.cls = RX0 ∧ yX0_place.cls ≠ "java/lang/invoke/MethodHandle" ∧ yX0_place.cls ≠ "java/lang/invoke/VarHandle" ∧ (parseMethodDescriptor yX0_place.desc).map (fun d => d.parameters.length) = some 0 := by decide +kernel
def ar_dr (ad : Nat → Nat) : Nat → Nat := fun k => if k = 99 then ad 0 else ad k
abbrev ar_X (X : cc_X) (y a : Nat) (ad : Nat → Nat) : cc_X := ex_X X y 2 a [3, 4, 5, 6] (ar_dr ad)
abbrev ar_S (st : cc_S) (y : Nat) (ps : mm_S) : cc_S := ex_S st y (mm_I ps) (mm_G ps)
theorem ar_new {X : cc_X} {st : cc_S} {y a : Nat} {ad : Nat → Nat} {ps : mm_S} (hf : ex_F X st y) : ex_new (ar_X X y a ad) (ar_S st y ps) y [3, 4, 5, 6] = pp_w a ad (cx_c X 0) ps := by
  have eK : cx_K (ar_X X y a ad) y = 2 := if_pos rfl
  have ea : cx_a (ar_X X y a ad) y = a := if_pos rfl
  have eI : ∀ k, cc_I (ar_S st y ps) y k = mm_I ps k := fun k => if_pos rfl
  have eG : ∀ k, (ar_S st y ps).2.1 y k = ps.2.1 k := fun k => if_pos rfl
  have eb : ∀ k, cx_b (ar_X X y a ad) y k = ar_dr ad k := fun k => if_pos rfl
  have ev : ∀ k, k < 10 → cc_val (ar_X X y a ad) (ar_S st y ps) y k = pp_val ad ps k := fun k hk => by
    unfold cc_val
    rw [eK, eI, eb, eb]
    have hcs : k = 0 ∨ k = 1 ∨ k = 2 ∨ k = 3 ∨ k = 4 ∨ k = 5 ∨ k = 6 ∨ k = 7 ∨ k = 8 ∨ k = 9 := by omega
    rcases hcs with rfl | rfl | rfl | rfl | rfl | rfl | rfl | rfl | rfl | rfl <;> rfl
  have ef : cc_fs (ar_X X y a ad) (ar_S st y ps) y = pp_fs ad ps := by
    unfold cc_fs pp_fs
    rw [eK]
    exact List.map_congr_left (fun k hk => ev k (List.mem_range.mp hk))
  have ee : ∀ k, k ∈ pp_ar → (cx_b (ar_X X y a ad) y k, cc_ent (ar_X X y a ad) (ar_S st y ps) (y, k)) = (ad k, pp_cell (cx_c X 0) ps k) := fun k hk => by
    unfold cc_ent
    rw [eK, eb, eG]
    have hcs : k = 3 ∨ k = 4 ∨ k = 5 ∨ k = 6 := by
      simpa [pp_ar] using hk
    rcases hcs with rfl | rfl | rfl | rfl <;> rfl
  unfold ex_new pp_w
  rw [ea, eK, ef]
  congr 1
  exact List.map_congr_left ee
set_option maxHeartbeats 4000000 in
set_option maxRecDepth 100000 in
theorem n_archB (l : Launch) (D : va_G) (B : Nat) (z : pp_Z) (X : cc_X) (st : cc_S) (hok : cc_ok X) (h0 : 0 ∈ cx_o X ∧ cx_K X 0 = 13) (h1 : 1 ∈ cx_o X ∧ cx_K X 1 = 9) (b : Nat) (ml : Int32) (n m : Nat) (f : Nat → Int32) (A' : Nat) (hA : cc_I st 0 6 = nI A') (hA6 : A' < 6) (fu : Nat) (tx : Nat → Nat) (hn : n ≤ m) (hn1 : n ≤ 100) (hm : m ≤ 300) (hf' : sb_Fit f) (hx : ∀ j, j < n → f j = sb_b (tx j)) (y : Nat) (hF : ex_F X st y) (hPA : ∀ t w, ∃ rr st1, P_X0_takesClauses (ar_z z t w n tx) fu ar_st0 = some (rr, st1) ∧ (rr = 0 ∨ rr = 1)) : nn_M l D sb_W (nn_ts (cx_c X)) B z yX11_archive cX11_archive 2 (some .int) 54 1887 16 1600 [.ref (cx_a X 0)] (cc_w X st ++ [nn_bo (cx_a X 40) b ml (nI n), nn_by (cx_c X) b m f]) (fun r u => ∃ t w rr st1 b2 ml2 f3, P_X0_takesClauses (ar_z z t w n tx) fu ar_st0 = some (rr, st1) ∧ (rr = 0 ∨ rr = 1) ∧ sb_Fit f3 ∧ (rr = 0 → r = some (.int (-10 - mm_I st1 2)) ∧ u = cc_w X st ++ [nn_bo (cx_a X 40) b2 ml2 (nI 0), nn_by (cx_c X) b2 m f3]) ∧ (rr = 1 → r = some (.int (nI A' + 1 - 1)) ∧ ∃ a ad, u = cc_w (ar_X X y a ad) (cc_sI (cc_sP (ar_S st y (mm_sI st1 1 rr)) 1 16 0 (some y)) 0 6 (nI A' + 1)) ++ [nn_bo (cx_a X 40) b2 ml2 (nI 0), nn_by (cx_c X) b2 m f3])) := by
  refine nn_enter (own := RX11) (by decide) rfl (Nat.le_of_ble_eq_true rfl) ?_
  intro p e s mi args below meth c ls A C hl hM
  have hl : lv_has ls 2 [(0, .ref (cx_a X 0))] := hl
  refine lv_aload_n C.1 C.2.1 (dd_at tdn_X11_archive 0 rfl) rfl (lv_at hl 0 rfl) ?_
  refine nx_get (X := X) (st := st) (ws := [nn_bo (cx_a X 40) b ml (nI n), nn_by (cx_c X) b m f]) C hM (i := 0) (ci := 13) (N := 8) (k := 6) (K := RX11) (T := TX11) (ref := "EclipsesKept") (v := .int (nI A')) h0 rfl sb_inX11 rfl (Nat.le_of_ble_eq_true rfl) (sb_c cw510) rfl (fun X' hK ha hb => by unfold cc_val; rw [hK]; exact congrArg Value.int hA) (dd_at tdn_X11_archive 1 rfl) ?_
  refine lv_bipush (v := (6 : Int32)) C.1 C.2.1 (dd_at tdn_X11_archive 2 rfl) (by decide) ?_
  refine lv_icmp_lt (tgt := 12) C.1 C.2.1 (dd_at tdn_X11_archive 3 rfl) (by decide) (fun _ => ?_) (fun h => absurd (show nI A' < nI 6 from nI_lt hA6 (by decide)) h)
  refine nn_new C hM (K := RX0) (T := TX0) (ty0 := tyX0) (N1 := 10) (c1 := 2) (fun j => defaultValue (tyX0 j)) rfl sb_inX0 tyX0_ok (sb_c cw718) (sb_c cw719) (sb_c cw55) (fun _ _ => rfl) (Nat.le_of_ble_eq_true rfl) (Nat.le_of_ble_eq_true rfl) (dd_at tdn_X11_archive 6 rfl) (fun o H hM => ?_)
  have hM : nn_H D A s.heap ((cc_w X st ++ nn_W o 2 10 (fun j => defaultValue (tyX0 j)) []) ++ [nn_bo (cx_a X 40) b ml (nI n), nn_by (cx_c X) b m f]) H _ := nn_perm nn_sw hM
  refine lv_dup C.1 C.2.1 (dd_at tdn_X11_archive 7 rfl) rfl ?_
  refine lv_aload_n C.1 C.2.1 (dd_at tdn_X11_archive 8 rfl) rfl (lv_at hl 0 rfl) ?_
  have hM2 : nn_H D A s.heap (cc_w X st ++ (nn_W o 2 10 (fun j => defaultValue (tyX0 j)) [] ++ [nn_bo (cx_a X 40) b ml (nI n), nn_by (cx_c X) b m f])) H [] := by
    rw [← List.append_assoc]
    exact hM
  refine nx_get (X := X) (st := st) (ws := nn_W o 2 10 (fun j => defaultValue (tyX0 j)) [] ++ [nn_bo (cx_a X 40) b ml (nI n), nn_by (cx_c X) b m f]) C hM2 (i := 0) (ci := 13) (N := 8) (k := 4) (K := RX11) (T := TX11) (ref := "EclipsesKept") (v := .ref (cx_a X 40)) h0 rfl sb_inX11 rfl (Nat.le_of_ble_eq_true rfl) (sb_c cw508) rfl (fun X' hK ha hb => by unfold cc_val; rw [hK]; rw [ha]; rfl) (dd_at tdn_X11_archive 9 rfl) ?_
  refine nn_cV (Cl := RJ4) (ws := cc_w X st ++ nn_W o 2 10 (fun j => defaultValue (tyX0 j)) []) (wc := [nn_bo (cx_a X 40) b ml (nI n), nn_by (cx_c X) b m f]) (n := 0) (As := []) (rest := [.ref o, .ref o]) C hM (nn_rcv C (nn_perm List.perm_append_comm hM) (ci := 1) (q0 := 0) rfl rfl) (n_toString l D B z (cx_c X) (cx_a X 40) b ml n m f hn (by omega) hf') (sb_gdV (sb_c cw721) (sb_c cw722) (sb_c cw723) (sb_c cw507) (sb_c cw698)) hnV_J4_toString_0e30d ⟨(Nat.le_of_ble_eq_true rfl), (Nat.le_of_ble_eq_true rfl)⟩ rfl hl.1 rfl (Nat.le_of_ble_eq_true rfl) (dd_at tdn_X11_archive 10 rfl) ⟨(Nat.le_of_ble_eq_true rfl), (Nat.le_of_ble_eq_true rfl)⟩ (fun r u H locs hu hM => ?_)
  obtain ⟨t, w, f2, rfl, rfl, hf2, hk2⟩ := hu
  have hM : nn_H D A s.heap ((cc_w X st ++ nn_W o 2 10 (fun j => defaultValue (tyX0 j)) []) ++ ([nn_bo (cx_a X 40) b ml (nI n), nn_by (cx_c X) b m f] ++ [nn_so t (.ref w), nn_by (cx_c X) w n f2])) H _ := nn_perm (List.Perm.append_left _ ((List.Perm.swap _ _ _).trans (List.Perm.cons _ (List.Perm.swap _ _ _)))) hM
  have hM : nn_H D A s.heap ((cc_w X st ++ [nn_bo (cx_a X 40) b ml (nI n), nn_by (cx_c X) b m f]) ++ (nn_W o 2 10 (fun j => defaultValue (tyX0 j)) [] ++ [nn_so t (.ref w), nn_by (cx_c X) w n f2])) H _ := nn_perm nn_sw2 hM
  obtain ⟨rr, st1, hP, hr⟩ := hPA t w
  refine nn_cI (q := o) (ws := cc_w X st ++ [nn_bo (cx_a X 40) b ml (nI n), nn_by (cx_c X) b m f]) (wc := nn_W o 2 10 (fun j => defaultValue (tyX0 j)) [] ++ [nn_so t (.ref w), nn_by (cx_c X) w n f2]) (n := 1) (As := [.ref t]) (rest := [.ref o]) C hM (n_archInit l D B z (cx_c X) o t w n fu f2 tx hn1 (fun j hj => (hk2 j hj).trans (hx j hj)) rr st1 hr hP) (sb_gd1 (sb_c cw174)) (sb_c cw55) (sb_c cw724) (sb_c cw725) rfl hnB_X0_init ⟨(Nat.le_of_ble_eq_true rfl), (Nat.le_of_ble_eq_true rfl)⟩ rfl hl.1 rfl (Nat.le_of_ble_eq_true rfl) (dd_at tdn_X11_archive 11 rfl) ⟨(Nat.le_of_ble_eq_true rfl), (Nat.le_of_ble_eq_true rfl)⟩ (fun r u H locs hu hM => ?_)
  obtain ⟨rfl, ad, rfl⟩ := hu
  generalize hps : mm_sI st1 1 rr = ps at hM
  have hM : nn_H D A s.heap ((cc_w X st ++ (pp_w o ad (cx_c X 0) ps ++ [nn_so t (.ref w), nn_by (cx_c X) w n f2])) ++ [nn_bo (cx_a X 40) b ml (nI n), nn_by (cx_c X) b m f]) H _ := nn_perm (nn_sw.trans (List.Perm.append_right _ (List.Perm.append_left _ List.perm_append_comm))) hM
  refine lv_astore_n (lv' := [(1, .ref o), (0, .ref (cx_a X 0))]) C.1 C.2.1 (dd_at tdn_X11_archive 12 rfl) rfl hl (by decide) rfl (fun ls hl => ?_)
  refine lv_aload_n C.1 C.2.1 (dd_at tdn_X11_archive 13 rfl) rfl (lv_at hl 1 rfl) ?_
  have hM2 : nn_H D A s.heap (cc_w X st ++ ((pp_w o ad (cx_c X 0) ps ++ [nn_so t (.ref w), nn_by (cx_c X) w n f2]) ++ [nn_bo (cx_a X 40) b ml (nI n), nn_by (cx_c X) b m f])) H locs := by
    rw [← List.append_assoc]
    exact hM
  refine nx_get (X := X) (st := st) (ws := (pp_w o ad (cx_c X 0) ps ++ [nn_so t (.ref w), nn_by (cx_c X) w n f2]) ++ [nn_bo (cx_a X 40) b ml (nI n), nn_by (cx_c X) b m f]) C hM2 (i := 0) (ci := 13) (N := 8) (k := 4) (K := RX11) (T := TX11) (ref := "EclipsesKept") (v := .ref (cx_a X 40)) h0 rfl sb_inX11 rfl (Nat.le_of_ble_eq_true rfl) (sb_c cw508) rfl (fun X' hK ha hb => by unfold cc_val; rw [hK]; rw [ha]; rfl) (dd_at tdn_X11_archive 14 rfl) ?_
  refine lv_iconst (v := (0 : Int32)) C.1 C.2.1 (dd_at tdn_X11_archive 15 rfl) (by decide) ?_
  refine nn_cV (Cl := RJ4) (ws := cc_w X st ++ (pp_w o ad (cx_c X 0) ps ++ [nn_so t (.ref w), nn_by (cx_c X) w n f2])) (wc := [nn_bo (cx_a X 40) b ml (nI n), nn_by (cx_c X) b m f]) (n := 1) (As := [.int (nI 0)]) (rest := []) C hM (nn_rcv C (nn_perm List.perm_append_comm hM) (ci := 1) (q0 := 0) rfl rfl) (n_setLength l D B z (cx_c X) (cx_a X 40) b ml n m f (by omega) (by omega) hf') (sb_gdV (sb_c cw726) (sb_c cw727) (sb_c cw728) (sb_c cw507) (sb_c cw717)) hnV_J4_setLength_d00df ⟨(Nat.le_of_ble_eq_true rfl), (Nat.le_of_ble_eq_true rfl)⟩ rfl hl.1 rfl (Nat.le_of_ble_eq_true rfl) (dd_at tdn_X11_archive 16 rfl) ⟨(Nat.le_of_ble_eq_true rfl), (Nat.le_of_ble_eq_true rfl)⟩ (fun r u H locs hu hM => ?_)
  obtain ⟨rfl, b2, m2, f3, ml2, rfl, hme, hf3⟩ := hu
  rw [hme] at hM
  have hM : nn_H D A s.heap (((cc_w X st ++ [nn_so t (.ref w), nn_by (cx_c X) w n f2]) ++ [nn_bo (cx_a X 40) b2 ml2 (nI 0), nn_by (cx_c X) b2 m f3]) ++ pp_w o ad (cx_c X 0) ps) H _ := nn_perm nn_sw3 hM
  have hp1 : mm_I ps 1 = rr := by rw [← hps]; rfl
  have hp2 : mm_I ps 2 = mm_I st1 2 := by rw [← hps]; rfl
  refine lv_aload_n C.1 C.2.1 (dd_at tdn_X11_archive 17 rfl) rfl (lv_at hl 0 rfl) ?_
  refine nn_cV (Cl := RX0) (ws := (cc_w X st ++ [nn_so t (.ref w), nn_by (cx_c X) w n f2]) ++ [nn_bo (cx_a X 40) b2 ml2 (nI 0), nn_by (cx_c X) b2 m f3]) (wc := pp_w o ad (cx_c X 0) ps) (n := 0) (As := []) (rest := []) C hM (nn_rcv C (nn_perm List.perm_append_comm hM) (ci := 2) (q0 := 0) (pp_w_0 (cs := cx_c X 0)) rfl) (n_isOne l D B z (cx_c X) o ad ps (by rw [hp1]; exact hr)) (sb_gdV (sb_c cw729) (sb_c cw730) (sb_c cw731) (sb_c cw55) (sb_c cw175)) hnV_X0_isOne ⟨(Nat.le_of_ble_eq_true rfl), (Nat.le_of_ble_eq_true rfl)⟩ rfl hl.1 rfl (Nat.le_of_ble_eq_true rfl) (dd_at tdn_X11_archive 18 rfl) ⟨(Nat.le_of_ble_eq_true rfl), (Nat.le_of_ble_eq_true rfl)⟩ (fun r u H locs hu hM => ?_)
  obtain ⟨rfl, rfl⟩ := hu
  refine lv_if_ne (tgt := 50) C.1 C.2.1 (dd_at tdn_X11_archive 19 rfl) (by decide) (fun hne => ?_) (fun he => ?_)
  · have hM : nn_H D A s.heap ((cc_w X st ++ pp_w o ad (cx_c X 0) ps ++ [nn_bo (cx_a X 40) b2 ml2 (nI 0), nn_by (cx_c X) b2 m f3]) ++ [nn_so t (.ref w), nn_by (cx_c X) w n f2]) H _ := nn_perm (by
      rw [List.append_assoc, List.append_assoc, List.append_assoc, List.append_assoc]
      refine List.Perm.append_left _ ?_
      rw [← List.append_assoc, ← List.append_assoc]
      refine List.perm_append_comm.trans ?_
      rw [List.append_assoc]
      exact List.Perm.append_left _ List.perm_append_comm) hM
    replace hM := nn_left hM
    have hM : nn_H D A s.heap (cc_w X st ++ ex_new (ar_X X y o ad) (ar_S st y ps) y [3, 4, 5, 6] ++ [nn_bo (cx_a X 40) b2 ml2 (nI 0), nn_by (cx_c X) b2 m f3]) H locs := by
      rw [ar_new hF]
      exact hM
    replace hM := ex_H hF hM
    have h50 := hF.1
    have e0 : cx_a (ar_X X y o ad) 0 = cx_a X 0 := if_neg (by omega)
    have ey : cx_a (ar_X X y o ad) y = o := if_pos rfl
    have h0' : 0 ∈ cx_o (ar_X X y o ad) ∧ cx_K (ar_X X y o ad) 0 = 13 := ⟨List.mem_append_left _ h0.1, (if_neg (by omega)).trans h0.2⟩
    have h1' : 1 ∈ cx_o (ar_X X y o ad) ∧ cx_K (ar_X X y o ad) 1 = 9 := ⟨List.mem_append_left _ h1.1, (if_neg (by omega)).trans h1.2⟩
    have hok' : cc_ok (ar_X X y o ad) := ex_ok hok hF (by decide)
    have hl : lv_has ls 2 [(1, .ref (cx_a (ar_X X y o ad) y)), (0, .ref (cx_a (ar_X X y o ad) 0))] := by
      rw [e0, ey]
      exact hl
    have hA0 : cc_I (ar_S st y ps) 0 6 = nI A' := (if_neg (by omega)).trans hA
    refine lv_aload_n C.1 C.2.1 (dd_at tdn_X11_archive 25 rfl) rfl (lv_at hl 1 rfl) ?_
    refine nx_get (X := ar_X X y o ad) (st := ar_S st y ps) (ws := [nn_bo (cx_a X 40) b2 ml2 (nI 0), nn_by (cx_c X) b2 m f3]) C hM (i := 0) (ci := 13) (N := 8) (k := 0) (K := RX11) (T := TX11) (ref := "EclipsesKept") (v := .ref (cx_a (ar_X X y o ad) 1)) h0' rfl sb_inX11 rfl (Nat.le_of_ble_eq_true rfl) (sb_c cw498) rfl (fun X' hK ha hb => by unfold cc_val; rw [hK]; rw [ha]; rfl) (dd_at tdn_X11_archive 26 rfl) ?_
    refine lv_aload_n C.1 C.2.1 (dd_at tdn_X11_archive 27 rfl) rfl (lv_at hl 0 rfl) ?_
    refine nx_putP (X := ar_X X y o ad) (v := some y) (ws := [nn_bo (cx_a X 40) b2 ml2 (nI 0), nn_by (cx_c X) b2 m f3]) C hM (i := 1) (ci := 9) (N := 17) (k := 16) (K := RX7) (T := TX7) (ty0 := tyX7) (ref := "EclipsesKept$State") hok' h1' rfl sb_inX7 tyX7_ok nmX7 rfl (Nat.le_of_ble_eq_true rfl) (sb_c cw720) rfl rfl rfl rfl rfl (by decide) (by decide) (dd_at tdn_X11_archive 28 rfl) (fun H locs hM => ?_)
    refine lv_aload_n C.1 C.2.1 (dd_at tdn_X11_archive 29 rfl) rfl (lv_at hl 1 rfl) ?_
    refine lv_dup C.1 C.2.1 (dd_at tdn_X11_archive 30 rfl) rfl ?_
    refine nx_get (X := ar_X X y o ad) (st := cc_sP (ar_S st y ps) 1 16 0 (some y)) (ws := [nn_bo (cx_a X 40) b2 ml2 (nI 0), nn_by (cx_c X) b2 m f3]) C hM (i := 0) (ci := 13) (N := 8) (k := 6) (K := RX11) (T := TX11) (ref := "EclipsesKept") (v := .int (nI A')) h0' rfl sb_inX11 rfl (Nat.le_of_ble_eq_true rfl) (sb_c cw510) rfl (fun X' hK ha hb => by unfold cc_val; rw [hK]; exact congrArg Value.int hA0) (dd_at tdn_X11_archive 31 rfl) ?_
    refine lv_iconst (v := (1 : Int32)) C.1 C.2.1 (dd_at tdn_X11_archive 32 rfl) (by decide) ?_
    refine lv_iadd C.1 C.2.1 (dd_at tdn_X11_archive 33 rfl) ?_
    refine nx_putI (X := ar_X X y o ad) (v := nI A' + 1) (ws := [nn_bo (cx_a X 40) b2 ml2 (nI 0), nn_by (cx_c X) b2 m f3]) C hM (i := 0) (ci := 13) (N := 8) (k := 6) (K := RX11) (T := TX11) (ty0 := tyX11) (ref := "EclipsesKept") hok' h0' rfl sb_inX11 tyX11_ok nmX11 rfl (Nat.le_of_ble_eq_true rfl) (sb_c cw510) rfl rfl rfl rfl (by decide) (dd_at tdn_X11_archive 34 rfl) (fun H locs hM => ?_)
    refine lv_aload_n C.1 C.2.1 (dd_at tdn_X11_archive 35 rfl) rfl (lv_at hl 1 rfl) ?_
    refine nx_get (X := ar_X X y o ad) (st := cc_sI (cc_sP (ar_S st y ps) 1 16 0 (some y)) 0 6 (nI A' + 1)) (ws := [nn_bo (cx_a X 40) b2 ml2 (nI 0), nn_by (cx_c X) b2 m f3]) C hM (i := 0) (ci := 13) (N := 8) (k := 6) (K := RX11) (T := TX11) (ref := "EclipsesKept") (v := .int (nI A' + 1)) h0' rfl sb_inX11 rfl (Nat.le_of_ble_eq_true rfl) (sb_c cw510) rfl (fun X' hK ha hb => by unfold cc_val; rw [hK]; rfl) (dd_at tdn_X11_archive 36 rfl) ?_
    refine lv_iconst (v := (1 : Int32)) C.1 C.2.1 (dd_at tdn_X11_archive 37 rfl) (by decide) ?_
    refine lv_isub C.1 C.2.1 (dd_at tdn_X11_archive 38 rfl) ?_
    refine W.widen (k := 16) (n := 1600) (Nat.le_of_ble_eq_true rfl) (Nat.le_of_ble_eq_true rfl) ?_
    exact nn_ir C hM ⟨t, w, rr, st1, b2, ml2, f3, hP, hr, hf3, fun e => absurd (hp1.trans e) hne, fun _ => ⟨rfl, o, ad, by rw [hps]⟩⟩ (dd_at tdn_X11_archive 39 rfl)
  · refine lv_bipush (v := (-10 : Int32)) C.1 C.2.1 (dd_at tdn_X11_archive 20 rfl) (by decide) ?_
    refine lv_aload_n C.1 C.2.1 (dd_at tdn_X11_archive 21 rfl) rfl (lv_at hl 0 rfl) ?_
    refine nn_cV (Cl := RX0) (ws := (cc_w X st ++ [nn_so t (.ref w), nn_by (cx_c X) w n f2]) ++ [nn_bo (cx_a X 40) b2 ml2 (nI 0), nn_by (cx_c X) b2 m f3]) (wc := pp_w o ad (cx_c X 0) ps) (n := 0) (As := []) (rest := [.int (-10 : Int32)]) C hM (nn_rcv C (nn_perm List.perm_append_comm hM) (ci := 2) (q0 := 0) (pp_w_0 (cs := cx_c X 0)) rfl) (n_place l D B z (cx_c X) o ad ps) (sb_gdV (sb_c cw732) (sb_c cw733) (sb_c cw734) (sb_c cw55) (sb_c cw176)) hnV_X0_place ⟨(Nat.le_of_ble_eq_true rfl), (Nat.le_of_ble_eq_true rfl)⟩ rfl hl.1 rfl (Nat.le_of_ble_eq_true rfl) (dd_at tdn_X11_archive 22 rfl) ⟨(Nat.le_of_ble_eq_true rfl), (Nat.le_of_ble_eq_true rfl)⟩ (fun r u H locs hu hM => ?_)
    obtain ⟨rfl, rfl⟩ := hu
    refine lv_isub C.1 C.2.1 (dd_at tdn_X11_archive 23 rfl) ?_
    have hM : nn_H D A s.heap (cc_w X st ++ [nn_bo (cx_a X 40) b2 ml2 (nI 0), nn_by (cx_c X) b2 m f3]) H _ := nn_left (x := [nn_so t (.ref w), nn_by (cx_c X) w n f2] ++ pp_w o ad (cx_c X 0) ps) (nn_perm (by
      rw [List.append_assoc, List.append_assoc, List.append_assoc]
      refine List.Perm.append_left _ ?_
      rw [← List.append_assoc, ← List.append_assoc]
      exact List.Perm.append_right _ List.perm_append_comm) hM)
    refine W.widen (k := 16) (n := 1600) (Nat.le_of_ble_eq_true rfl) (Nat.le_of_ble_eq_true rfl) ?_
    exact nn_ir C hM ⟨t, w, rr, st1, b2, ml2, f3, hP, hr, hf3, fun _ => ⟨by rw [hp2], rfl⟩, fun e => by rw [hp1, e] at he; exact absurd he (by decide)⟩ (dd_at tdn_X11_archive 24 rfl)
