/-! the reference's object: its state (int fields, int arrays, long arrays, by the slot of the field), its cells, its rows -/
abbrev mm_S : Type := (Nat → Int32) × (Nat → Nat → Int32) × (Nat → Nat → Int64)
def mm_up {α : Type} (f : Nat → α) (k : Nat) (v : α) : Nat → α := fun j => if j = k then v else f j
def mm_I (st : mm_S) (k : Nat) : Int32 := st.1 k
def mm_G (st : mm_S) (k i : Nat) : Int32 := st.2.1 k i
def mm_L (st : mm_S) (k i : Nat) : Int64 := st.2.2 k i
def mm_sI (st : mm_S) (k : Nat) (v : Int32) : mm_S := (mm_up st.1 k v, st.2)
def mm_sG (st : mm_S) (k i : Nat) (v : Int32) : mm_S := (st.1, mm_up st.2.1 k (upd (st.2.1 k) i v), st.2.2)
def mm_sL (st : mm_S) (k i : Nat) (v : Int64) : mm_S := (st.1, st.2.1, mm_up st.2.2 k (vp_updL (st.2.2 k) i v))
def mm_kds : List Nat := [0, 0, 0, 0, 1, 1, 1, 1, 0, 0, 0, 0, 0, 1, 1, 1, 1, 1, 1, 1, 1, 0, 0, 0, 1, 2, 3, 0, 3, 0, 1, 0, 0, 1, 1, 1, 1, 1, 0, 0, 0, 0, 0, 0, 0, 0, 0, 1, 1, 1, 1, 1, 1, 1, 1, 1, 1, 0, 1, 1, 1, 3, 3]
def mm_lns : List Nat := [0, 0, 0, 0, 6, 6, 6, 24, 0, 0, 0, 0, 0, 100, 6, 60, 60, 60, 60, 600, 101, 0, 0, 0, 13, 100, 90, 0, 90, 0, 8, 0, 0, 5, 5, 5, 8, 8, 0, 0, 0, 0, 0, 0, 0, 0, 0, 6, 6, 6, 24, 8, 5, 5, 5, 8, 8, 0, 20, 6, 6, 360, 60]
def mm_ar : List Nat := [4, 5, 6, 7, 13, 14, 15, 16, 17, 18, 19, 20, 24, 25, 26, 28, 30, 33, 34, 35, 36, 37, 47, 48, 49, 50, 51, 52, 53, 54, 55, 56, 58, 59, 60, 61, 62]
def mm_kd (k : Nat) : Nat := mm_kds.getD k 0
def mm_ln (k : Nat) : Nat := mm_lns.getD k 0
/-! functional code: what is left to be done, partly told -/
def fc_bn {α β γ : Type} (x : Option (α × β)) (k : α → β → Option γ) : Option γ := match x with
  | some q => k q.1 q.2
  | none => none
def fc_bv {β γ : Type} (x : Option β) (k : β → Option γ) : Option γ := match x with
  | some q => k q
  | none => none
def fc_nm {α γ : Type} (e : α) (k : α → γ) : γ := k e
def fc_gd {γ : Type} (b : Bool) (x : Option γ) : Option γ := match b with
  | true => x
  | false => none
def fc_ix (i : Int32) (n : Nat) : Bool := decide (0 ≤ i.toInt ∧ i.toInt < n)
def fc_zb (x : Int32) : Bool := decide (x = 0 ∨ x = 1)
def fc_nz (x : Int32) : Bool := decide (¬ x = 0)
def fc_nzl (x : Int64) : Bool := decide (¬ x = 0)
def fc_lp {α β : Type} (F : (α → Option β) → α → Option β) : Nat → α → Option β
  | 0, _ => none
  | n + 1, a => F (fc_lp F n) a
theorem dd_at {cc : ByteArray} {t : List (Nat × Instr × Nat)} (h : t.all (fun q => decide (decode cc q.1 = .ok (q.2.1, q.2.2))) = true) (i : Nat) {pc n : Nat} {ins : Instr} (hi : t[i]? = some (pc, ins, n)) : decode cc pc = .ok (ins, n) := by
  have h1 : decide (decode cc pc = .ok (ins, n)) = true := List.all_eq_true.mp h (pc, ins, n) (List.mem_of_getElem? hi)
  exact of_decide_eq_true h1
theorem fc_no {α : Type} {v : α} {P : Prop} (h : (none : Option α) = some v) : P := by cases h
theorem fc_of_bn {α β γ : Type} {x : Option (α × β)} {k : α → β → Option γ} {v : γ} (h : fc_bn x k = some v) : ∃ a b, x = some (a, b) ∧ k a b = some v := by
  cases x with
  | none => cases h
  | some q => exact ⟨q.1, q.2, rfl, h⟩
theorem fc_of_bv {β γ : Type} {x : Option β} {k : β → Option γ} {v : γ} (h : fc_bv x k = some v) : ∃ b, x = some b ∧ k b = some v := by
  cases x with
  | none => cases h
  | some q => exact ⟨q, rfl, h⟩
theorem fc_of_nm {α γ : Type} {e : α} {k : α → γ} {v : γ} (h : fc_nm e k = v) (x : α) (hx : x = e) : k x = v := by
  subst hx
  exact h
theorem fc_of_gd {γ : Type} {b : Bool} {x : Option γ} {v : γ} (h : fc_gd b x = some v) : b = true ∧ x = some v := by
  cases b with
  | true => exact ⟨rfl, h⟩
  | false => cases h
theorem fc_of_t {γ : Type} {c : Prop} {_ : Decidable c} {a b : γ} {v : γ} (h : (if c then a else b) = v) (hc : c) : a = v := by rw [if_pos hc] at h; exact h
theorem fc_of_f {γ : Type} {c : Prop} {_ : Decidable c} {a b : γ} {v : γ} (h : (if c then a else b) = v) (hc : ¬ c) : b = v := by rw [if_neg hc] at h; exact h
theorem fc_of_r {α β : Type} {a c : α} {b d : β} (h : some (a, b) = some (c, d)) : a = c ∧ b = d := by cases h; exact ⟨rfl, rfl⟩
theorem fc_of_v {β : Type} {b d : β} (h : some b = some d) : b = d := by cases h; rfl
theorem fc_of_ix {i : Int32} {n : Nat} (h : fc_ix i n = true) : vp_in i n := vp_in_iff.mpr (of_decide_eq_true h)
theorem fc_of_nz {x : Int32} (h : fc_nz x = true) : ¬ x = 0 := of_decide_eq_true h
theorem fc_of_nzl {x : Int64} (h : fc_nzl x = true) : ¬ x = 0 := of_decide_eq_true h
theorem fc_of_zb {x : Int32} (h : fc_zb x = true) : narrow .boolean (.int x) = .int x := by
  rcases of_decide_eq_true h with rfl | rfl <;> rfl
/-! cells -/
def mm_val (ad : Nat → Nat) (st : mm_S) (k : Nat) : Value := if mm_kd k = 0 then .int (st.1 k) else .ref (ad k)
def mm_cell (cs : ClassId × ClassId × ClassId) (st : mm_S) (k : Nat) : va_E := if mm_kd k = 3 then .inl (cs.2.2, mm_ln k, .inr (.inl (st.2.2 k))) else if mm_kd k = 2 then .inl (cs.2.1, mm_ln k, .inl (st.2.1 k)) else .inl (cs.1, mm_ln k, .inl (st.2.1 k))
def mm_fs (ad : Nat → Nat) (st : mm_S) : List Value := (List.range 63).map (mm_val ad st)
def mm_w (o : Nat) (ad : Nat → Nat) (cs : ClassId × ClassId × ClassId) (st : mm_S) : va_W := (o, .inr (14, mm_fs ad st)) :: mm_ar.map (fun k => (ad k, mm_cell cs st k))
def mm_tys (cs : ClassId × ClassId × ClassId) : List (ClassId × FieldType) := [(cs.1, .int), (cs.2.1, .boolean), (cs.2.2, .long)]
theorem mm_mapset {α : Type} {l : List Nat} {f g : Nat → α} {q k : Nat} (hq : l[q]? = some k) (hn : l.Nodup) (h : ∀ j, j ≠ k → g j = f j) : (l.map f).set q (g k) = l.map g := by
  apply List.ext_getElem?
  intro i
  have hl := (List.getElem?_eq_some_iff.mp hq).1
  by_cases hi : i = q
  · subst hi
    rw [List.getElem?_set_self (by rw [List.length_map]; exact hl), List.getElem?_map, hq]
    rfl
  · rw [List.getElem?_set_ne (Ne.symm hi), List.getElem?_map, List.getElem?_map]
    cases hj : l[i]? with
    | none => rfl
    | some j =>
      have hne : j ≠ k := by
        intro e
        subst e
        have hi2 := (List.getElem?_eq_some_iff.mp hj).1
        exact hi ((List.getElem_inj hn).mp ((List.getElem?_eq_some_iff.mp hj).2.trans (List.getElem?_eq_some_iff.mp hq).2.symm))
      show some (f j) = some (g j)
      rw [h j hne]
theorem mm_ar_nd : mm_ar.Nodup := by decide +kernel
theorem mm_fs_get {ad : Nat → Nat} {st : mm_S} {k : Nat} (hk : k < 63) : (mm_fs ad st)[k]? = some (mm_val ad st k) := by
  unfold mm_fs
  rw [List.getElem?_map, List.getElem?_range hk]
  rfl
theorem mm_fs_set {ad : Nat → Nat} {st : mm_S} {k : Nat} (hk : k < 63) (h0 : mm_kd k = 0) (v : Int32) : (mm_fs ad st).set k (.int v) = mm_fs ad (mm_sI st k v) := by
  have h := mm_mapset (f := mm_val ad st) (g := mm_val ad (mm_sI st k v)) (q := k) (k := k) (List.getElem?_range hk) List.nodup_range (fun j hj => by
    unfold mm_val mm_sI mm_up
    simp [hj])
  have e : mm_val ad (mm_sI st k v) k = .int v := by
    unfold mm_val mm_sI mm_up
    simp [h0]
  rw [e] at h
  exact h
theorem mm_w_0 {o : Nat} {ad : Nat → Nat} {cs : ClassId × ClassId × ClassId} {st : mm_S} : (mm_w o ad cs st)[0]? = some (o, .inr (14, mm_fs ad st)) := rfl
theorem mm_w_at {o : Nat} {ad : Nat → Nat} {cs : ClassId × ClassId × ClassId} (st : mm_S) {k : Nat} (hk : k ∈ mm_ar) : ∃ q, mm_ar[q]? = some k ∧ (mm_w o ad cs st)[q + 1]? = some (ad k, mm_cell cs st k) := by
  obtain ⟨q, hq⟩ := List.getElem?_of_mem hk
  refine ⟨q, hq, ?_⟩
  show (mm_ar.map (fun k => (ad k, mm_cell cs st k)))[q]? = _
  rw [List.getElem?_map, hq]
  rfl
theorem mm_w_sI {o : Nat} {ad : Nat → Nat} {cs : ClassId × ClassId × ClassId} {st : mm_S} {k : Nat} (hk : k < 63) (h0 : mm_kd k = 0) (v : Int32) : (mm_w o ad cs st).set 0 (o, .inr (14, (mm_fs ad st).set k (.int v))) = mm_w o ad cs (mm_sI st k v) := by
  rw [mm_fs_set hk h0]
  rfl
theorem mm_w_set {o : Nat} {ad : Nat → Nat} {cs : ClassId × ClassId × ClassId} {st st' : mm_S} {k q : Nat} (hq : mm_ar[q]? = some k) (h1 : st'.1 = st.1) (h : ∀ j, j ≠ k → mm_cell cs st' j = mm_cell cs st j) : (mm_w o ad cs st).set (q + 1) (ad k, mm_cell cs st' k) = mm_w o ad cs st' := by
  have e := mm_mapset (f := fun k => (ad k, mm_cell cs st k)) (g := fun k => (ad k, mm_cell cs st' k)) hq mm_ar_nd (fun j hj => by show (ad j, mm_cell cs st' j) = (ad j, mm_cell cs st j); rw [h j hj])
  have ef : mm_fs ad st' = mm_fs ad st := by
    unfold mm_fs
    refine List.map_congr_left fun k _ => ?_
    unfold mm_val
    rw [h1]
  show (o, _) :: (mm_ar.map (fun k => (ad k, mm_cell cs st k))).set q (ad k, mm_cell cs st' k) = mm_w o ad cs st'
  rw [e]
  unfold mm_w
  rw [ef]
theorem mm_cell_G {cs : ClassId × ClassId × ClassId} {st : mm_S} {k i : Nat} {v : Int32} (j : Nat) (h : j ≠ k) : mm_cell cs (mm_sG st k i v) j = mm_cell cs st j := by
  unfold mm_cell mm_sG mm_up
  simp [h]
theorem mm_cell_L {cs : ClassId × ClassId × ClassId} {st : mm_S} {k i : Nat} {v : Int64} (j : Nat) (h : j ≠ k) : mm_cell cs (mm_sL st k i v) j = mm_cell cs st j := by
  unfold mm_cell mm_sL mm_up
  simp [h]
theorem mm_cell_1 {cs : ClassId × ClassId × ClassId} {st : mm_S} {k : Nat} (h : mm_kd k = 1) : mm_cell cs st k = .inl (cs.1, mm_ln k, .inl (st.2.1 k)) := by
  unfold mm_cell
  simp [h]
theorem mm_cell_2 {cs : ClassId × ClassId × ClassId} {st : mm_S} {k : Nat} (h : mm_kd k = 2) : mm_cell cs st k = .inl (cs.2.1, mm_ln k, .inl (st.2.1 k)) := by
  unfold mm_cell
  simp [h]
theorem mm_cell_3 {cs : ClassId × ClassId × ClassId} {st : mm_S} {k : Nat} (h : mm_kd k = 3) : mm_cell cs st k = .inl (cs.2.2, mm_ln k, .inr (.inl (st.2.2 k))) := by
  unfold mm_cell
  simp [h]
theorem mm_T1 : ∀ k, k < 63 → (TX12 k).1 = "EclipsesKeptModel" := by decide +kernel
theorem mm_fin : ∀ k, k < 63 → mm_kd k = 0 → (TX12 k).2.2.2 = false := by decide +kernel
/-! the words that its methods need -/
def mm_fl : List (Nat × Nat) := [(7, 0), (13, 1), (16, 2), (19, 3), (22, 4), (26, 5), (29, 6), (32, 7), (35, 8), (38, 9), (41, 10), (44, 11), (47, 12), (50, 13), (53, 14), (56, 15), (59, 16), (62, 17), (65, 18), (68, 19), (71, 20), (74, 21), (77, 22), (80, 23), (83, 24), (86, 25), (90, 26), (94, 27), (97, 28), (100, 29), (103, 30), (106, 31), (109, 32), (112, 33), (115, 34), (118, 35), (121, 36), (124, 37), (127, 38), (131, 39), (134, 40), (137, 41), (140, 42), (143, 43), (146, 44), (149, 45), (152, 46), (155, 47), (158, 48), (161, 49), (164, 50), (167, 51), (170, 52), (173, 53), (176, 54), (179, 55), (182, 56), (185, 57), (188, 58), (191, 59), (194, 60), (197, 61), (200, 62)]
def mm_ms : List (Nat × MethodName × ByteArray × Nat × Option FieldType) := [(278, yX12_base, cX12_base, 6, some .int), (264, yX12_begin, cX12_begin, 1, some .int), (267, yX12_behind, cX12_behind, 1, some .int), (337, yX12_bestSet, cX12_bestSet, 3, some .int), (331, yX12_bits, cX12_bits, 4, some .int), (346, yX12_body, cX12_body, 2, none), (353, yX12_darkensAct, cX12_darkensAct, 3, some .int), (311, yX12_divisor, cX12_divisor, 11, some .long), (229, yX12_emits, cX12_emits, 2, none), (270, yX12_factOf, cX12_factOf, 5, some .int), (334, yX12_gainBy, cX12_gainBy, 5, some .int), (307, yX12_gainOf, cX12_gainOf, 11, some .long), (261, yX12_goesText, cX12_goesText, 3, some .boolean), (203, yX12_has, cX12_has, 3, some .boolean), (292, yX12_held, cX12_held, 2, some .int), (274, yX12_holds, cX12_holds, 10, some .boolean), (303, yX12_ifServed, cX12_ifServed, 5, some .long), (299, yX12_ifSpared, cX12_ifSpared, 4, some .long), (207, yX12_in, cX12_in, 4, some .boolean), (318, yX12_isAsked, cX12_isAsked, 3, some .boolean), (211, yX12_isDarks, cX12_isDarks, 2, some .boolean), (225, yX12_isDigit, cX12_isDigit, 1, some .boolean), (215, yX12_isNeed, cX12_isNeed, 2, some .boolean), (340, yX12_isSeen, cX12_isSeen, 3, some .boolean), (343, yX12_isTape, cX12_isTape, 2, some .boolean), (315, yX12_isYears, cX12_isYears, 2, some .boolean), (289, yX12_keep, cX12_keep, 3, some .int), (323, yX12_layGains, cX12_layGains, 8, none), (327, yX12_lowest, cX12_lowest, 8, some .long), (371, yX12_narrow, cX12_narrow, 4, some .long), (349, yX12_needDarkens, cX12_needDarkens, 3, some .int), (356, yX12_needPleads, cX12_needPleads, 3, some .int), (365, yX12_needTells, cX12_needTells, 3, some .int), (218, yX12_next, cX12_next, 1, some .int), (233, yX12_place, cX12_place, 2, some .int), (362, yX12_pleadsAct, cX12_pleadsAct, 4, some .int), (246, yX12_settle, cX12_settle, 2, none), (359, yX12_siegePleads, cX12_siegePleads, 3, some .int), (222, yX12_takes, cX12_takes, 2, some .boolean), (258, yX12_takesClause, cX12_takesClause, 2, some .boolean), (255, yX12_takesE, cX12_takesE, 4, some .boolean), (252, yX12_takesHead, cX12_takesHead, 2, some .boolean), (237, yX12_takesNumber, cX12_takesNumber, 2, some .boolean), (243, yX12_takesTest, cX12_takesTest, 3, some .boolean), (249, yX12_takesWord, cX12_takesWord, 4, some .boolean), (368, yX12_tellsAct, cX12_tellsAct, 4, some .int), (295, yX12_ways, cX12_ways, 5, some .long), (240, yX12_whole, cX12_whole, 1, none), (282, yX12_worthOf, cX12_worthOf, 7, some .int)]
def mm_kw : List Cond := [.initialized RX12, .arrayClass .int, .arrayClass .boolean, .arrayClass .long, .constant RX12 285 (999999 : Int32), .constant RX12 286 (-999999 : Int32), .constant RX12 287 (-10000001 : Int32), .constant RX12 288 (-10000002 : Int32), .constantLong RX12 321 (-9223372036854775808 : Int64)]
def mm_fw (q : Nat × Nat) : Cond := .fieldLink RX12 q.1 "EclipsesKeptModel" (TX12 q.2).2.1 (TX12 q.2).2.2.1
def mm_mw (q : Nat × MethodName × ByteArray × Nat × Option FieldType) : List Cond := [.methodLink RX12 q.1 q.2.1, .instanceMethod q.2.1, .selects RX12 q.2.1 q.2.1, .code q.2.1 q.2.2.1 q.2.2.2.1 q.2.2.2.2]
def mm_W : List Cond := wsX120 ++ (mm_fl.map mm_fw ++ (mm_kw ++ mm_ms.flatMap mm_mw))
theorem mm_Wgood : mm_W.all goodWord = true := by decide +kernel
theorem mm_Win : ∀ w ∈ wsX120, w ∈ mm_W := fun _ h => List.mem_append_left _ h
theorem mm_Wf {i k : Nat} (h : (i, k) ∈ mm_fl) : Cond.fieldLink RX12 i "EclipsesKeptModel" (TX12 k).2.1 (TX12 k).2.2.1 ∈ mm_W := List.mem_append_right _ (List.mem_append_left _ (List.mem_map.mpr ⟨(i, k), h, rfl⟩))
theorem mm_Wk {w : Cond} (h : w ∈ mm_kw) : w ∈ mm_W := List.mem_append_right _ (List.mem_append_right _ (List.mem_append_left _ h))
theorem mm_Wm {q : Nat × MethodName × ByteArray × Nat × Option FieldType} (h : q ∈ mm_ms) : ∀ w ∈ mm_mw q, w ∈ mm_W := fun w hw => List.mem_append_right _ (List.mem_append_right _ (List.mem_append_right _ (List.mem_flatMap.mpr ⟨q, h, hw⟩)))
theorem mm_good {i n : Nat} {y : MethodName} {b : ByteArray} {rt : Option FieldType} (h : (i, y, b, n, rt) ∈ mm_ms) : GoodIn mm_W (wsV RX12 i RX12 y (Cond.code y b n rt :: mm_W)) := by
  have hm : ∀ w ∈ wsV RX12 i RX12 y (Cond.code y b n rt :: mm_W), w ∈ mm_W := by
    intro w hw
    rcases List.mem_append.mp hw with h1 | h1
    · rcases List.mem_cons.mp h1 with rfl | h1
      · exact mm_Wm h _ (List.mem_cons_self)
      rcases List.mem_cons.mp h1 with rfl | h1
      · exact mm_Wm h _ (List.mem_cons_of_mem _ List.mem_cons_self)
      rcases List.mem_cons.mp h1 with rfl | h1
      · exact mm_Wm h _ (List.mem_cons_of_mem _ (List.mem_cons_of_mem _ List.mem_cons_self))
      rcases List.mem_cons.mp h1 with rfl | h1
      · exact mm_Wk (List.mem_cons_self)
      · cases h1
    · rcases List.mem_cons.mp h1 with rfl | h1
      · exact mm_Wm h _ (List.mem_cons_of_mem _ (List.mem_cons_of_mem _ (List.mem_cons_of_mem _ List.mem_cons_self)))
      · exact h1
  exact fun w hw => ⟨hm w hw, good_of_word (List.all_eq_true.mp mm_Wgood w (hm w hw))⟩
/-! what holds within a method of it -/
def mm_A (o : Nat) (ad : Nat → Nat) : Nat → Prop := fun q => q = o ∨ ∃ k, k ∈ mm_ar ∧ q = ad k
def mm_C (p : Program) (s : State) (m : MethodId) (args : Array Value) (meth : Method) (c : Code) (cc : ByteArray) (nL : Nat) (ret : Option FieldType) (D : va_G) (cs : ClassId × ClassId × ClassId) : Prop :=
  p.tables.exec = Jvm.exec ∧ c.code = cc ∧ meth.sig.returnType = ret ∧ c.maxLocals = nL ∧ s.vm.findClass RX12 = some m.cls ∧ (∀ w ∈ mm_W, w.before args s = true) ∧ meth.locks = false ∧ va_K D vwCl (mm_tys cs) s
def mm_H (D : va_G) (o : Nat) (ad : Nat → Nat) (cs : ClassId × ClassId × ClassId) (H0 : Heap) (st : mm_S) (H : Heap) (locs : List Loc) : Prop :=
  va_P D vwCl (mm_w o ad cs st) H ∧ va_D (mm_A o ad) (mm_w o ad cs st) ∧ va_S (mm_A o ad) H0 H locs
def mm_U (D : va_G) (o : Nat) (ad : Nat → Nat) (cs : ClassId × ClassId × ClassId) (st : mm_S) (U : State) : Prop :=
  va_P D vwCl (mm_w o ad cs st) U.heap ∧ va_K D vwCl (mm_tys cs) U ∧ va_D (fun _ => True) (mm_w o ad cs st)
abbrev mm_Qi (D : va_G) (o : Nat) (ad : Nat → Nat) (cs : ClassId × ClassId × ClassId) (r : Int32) (st : mm_S) : Array Value → State → Outcome → State → Prop := va_Qi (fun (r' : Int32) (u : mm_S) => r' = r ∧ u = st) (mm_U D o ad cs) (mm_A o ad)
abbrev mm_Ql (D : va_G) (o : Nat) (ad : Nat → Nat) (cs : ClassId × ClassId × ClassId) (r : Int64) (st : mm_S) : Array Value → State → Outcome → State → Prop := va_Ql (fun (r' : Int64) (u : mm_S) => r' = r ∧ u = st) (mm_U D o ad cs) (mm_A o ad)
abbrev mm_Qv (D : va_G) (o : Nat) (ad : Nat → Nat) (cs : ClassId × ClassId × ClassId) (st : mm_S) : Array Value → State → Outcome → State → Prop := va_Qv (fun (u : mm_S) => u = st) (mm_U D o ad cs) (mm_A o ad)
abbrev mm_R (fr lo : Nat) : Room := { frames := fr, cells := 0, slots := 0, locals := lo }
def mm_Mi (l : Launch) (D : va_G) (o : Nat) (ad : Nat → Nat) (cs : ClassId × ClassId × ClassId) (y : MethodName) (bytes : ByteArray) (maxL : Nat) (rt : Option FieldType) (fr lo : Nat) (As : List Value) (st : mm_S) (x : Option (Int32 × mm_S)) : Prop :=
  ∀ r st', x = some (r, st') → Met l y (Cond.code y bytes maxL rt :: mm_W) (mm_R fr lo) (va_Pc (.ref o :: As) (mm_U D o ad cs st)) (mm_Qi D o ad cs r st') 0 0 (mm_A o ad)
def mm_Ml (l : Launch) (D : va_G) (o : Nat) (ad : Nat → Nat) (cs : ClassId × ClassId × ClassId) (y : MethodName) (bytes : ByteArray) (maxL : Nat) (rt : Option FieldType) (fr lo : Nat) (As : List Value) (st : mm_S) (x : Option (Int64 × mm_S)) : Prop :=
  ∀ r st', x = some (r, st') → Met l y (Cond.code y bytes maxL rt :: mm_W) (mm_R fr lo) (va_Pc (.ref o :: As) (mm_U D o ad cs st)) (mm_Ql D o ad cs r st') 0 0 (mm_A o ad)
def mm_Mv (l : Launch) (D : va_G) (o : Nat) (ad : Nat → Nat) (cs : ClassId × ClassId × ClassId) (y : MethodName) (bytes : ByteArray) (maxL : Nat) (rt : Option FieldType) (fr lo : Nat) (As : List Value) (st : mm_S) (x : Option mm_S) : Prop :=
  ∀ st', x = some st' → Met l y (Cond.code y bytes maxL rt :: mm_W) (mm_R fr lo) (va_Pc (.ref o :: As) (mm_U D o ad cs st)) (mm_Qv D o ad cs st') 0 0 (mm_A o ad)
theorem mm_D_A {o : Nat} {ad : Nat → Nat} {cs : ClassId × ClassId × ClassId} {st : mm_S} {B : Nat → Prop} (h : va_D B (mm_w o ad cs st)) : va_D (mm_A o ad) (mm_w o ad cs st) := by
  refine ⟨h.1, fun k q hq => ?_⟩
  rcases List.mem_cons.mp (List.mem_of_getElem? hq) with e | e
  · rw [e]; exact Or.inl rfl
  · obtain ⟨k, hk, e⟩ := List.mem_map.mp e
    rw [← e]
    exact Or.inr ⟨k, hk, rfl⟩
section MM
variable {p : Program} {l : Launch} {e : Env} {R : Room} {s : State} {m : MethodId} {args : Array Value} {below : List Frame} {meth : Method} {c : Code} {H H0 : Heap} {locs : List Loc} {cells slots : Nat} {Q : State → Prop}
variable {cc : ByteArray} {nL : Nat} {ret : Option FieldType} {pc : Nat} {ls : Array Slot} {rest : List Value} {D : va_G} {o : Nat} {ad : Nat → Nat} {cs : ClassId × ClassId × ClassId} {st : mm_S}
theorem mm_gI (C : mm_C p s m args meth c cc nL ret D cs) (hM : mm_H D o ad cs H0 st H locs) (k : Nat) {index : Nat} (hdg : decode cc pc = .ok (.getfield index, 3)) (hk : k < 63) (h0 : mm_kd k = 0) (hl : (index, k) ∈ mm_fl)
    (kk : W p l e R s m args below meth c H locs cells slots Q (F0 m (pc + 3) ls (.int (mm_I st k) :: rest))) : W p l e R s m args below meth c H locs cells slots Q (F0 m pc ls (.ref o :: rest)) := by
  obtain ⟨hx, hb, -, -, hown, hts, -, hK⟩ := C
  have hv : (mm_fs ad st)[k]? = some (.int (mm_I st k)) := by
    rw [mm_fs_get hk]
    unfold mm_val mm_I
    rw [if_pos h0]
  exact va_get (C := RX12) (T := TX12) (N := 63) (ci := 14) hx hb hts mm_Win hown hK hM.1 0 mm_w_0 rfl k hk (hts _ (mm_Wf hl)) (fun x h => by rw [mm_T1 k hk] at h; exact h) hv hdg kk
theorem mm_gA (C : mm_C p s m args meth c cc nL ret D cs) (hM : mm_H D o ad cs H0 st H locs) (k : Nat) {index : Nat} (hdg : decode cc pc = .ok (.getfield index, 3)) (hk : k < 63) (h0 : ¬ mm_kd k = 0) (hl : (index, k) ∈ mm_fl)
    (kk : W p l e R s m args below meth c H locs cells slots Q (F0 m (pc + 3) ls (.ref (ad k) :: rest))) : W p l e R s m args below meth c H locs cells slots Q (F0 m pc ls (.ref o :: rest)) := by
  obtain ⟨hx, hb, -, -, hown, hts, -, hK⟩ := C
  have hv : (mm_fs ad st)[k]? = some (.ref (ad k)) := by
    rw [mm_fs_get hk]
    unfold mm_val
    rw [if_neg h0]
  exact va_get (C := RX12) (T := TX12) (N := 63) (ci := 14) hx hb hts mm_Win hown hK hM.1 0 mm_w_0 rfl k hk (hts _ (mm_Wf hl)) (fun x h => by rw [mm_T1 k hk] at h; exact h) hv hdg kk
theorem mm_pI (C : mm_C p s m args meth c cc nL ret D cs) (hM : mm_H D o ad cs H0 st H locs) (k : Nat) {index : Nat} {v : Int32} (hdg : decode cc pc = .ok (.putfield index, 3)) (hk : k < 63) (h0 : mm_kd k = 0) (hl : (index, k) ∈ mm_fl) (hn : narrow (tyX12 k) (.int v) = .int v) (hf : fits (tyX12 k) (.int v) = true)
    (kk : ∀ (st1 : mm_S) (H1 : Heap) (locs1 : List Loc), st1 = mm_sI st k v → mm_H D o ad cs H0 st1 H1 locs1 → W p l e R s m args below meth c H1 locs1 cells slots Q (F0 m (pc + 3) ls rest)) : W p l e R s m args below meth c H locs cells slots Q (F0 m pc ls (.int v :: .ref o :: rest)) := by
  obtain ⟨hx, hb, -, -, hown, hts, -, hK⟩ := C
  refine va_put (C := RX12) (T := TX12) (N := 63) (ci := 14) hx hb hts mm_Win tyX12 tyX12_ok nmX12 hown hK hM.1 hM.2.1 hM.2.2 0 mm_w_0 rfl k hk (hts _ (mm_Wf hl)) (fun x h => by rw [mm_T1 k hk] at h; exact h) (mm_fin k hk h0) (tyX12_ok k hk) hn hf (by unfold mm_fs; rw [List.length_map, List.length_range]; exact hk) hdg (fun H1 locs1 hP hD hS => ?_)
  rw [mm_w_sI hk h0] at hP hD
  exact kk _ H1 locs1 rfl ⟨hP, hD, hS⟩
theorem mm_iald (C : mm_C p s m args meth c cc nL ret D cs) (hM : mm_H D o ad cs H0 st H locs) (k : Nat) {i : Int32} (hdg : decode cc pc = .ok (.iaload, 1)) (hk : k ∈ mm_ar) (h1 : mm_kd k = 1) (hin : vp_in i (mm_ln k))
    (kk : W p l e R s m args below meth c H locs cells slots Q (F0 m (pc + 1) ls (.int (mm_G st k i.toNatClampNeg) :: rest))) : W p l e R s m args below meth c H locs cells slots Q (F0 m pc ls (.int i :: .ref (ad k) :: rest)) := by
  obtain ⟨q, hq, ha⟩ := mm_w_at (o := o) (ad := ad) (cs := cs) st hk
  rw [mm_cell_1 h1] at ha
  exact va_iald C.1 C.2.1 C.2.2.2.2.2.2.2 hM.1 (q + 1) 0 ha rfl hin hdg kk
theorem mm_zald (C : mm_C p s m args meth c cc nL ret D cs) (hM : mm_H D o ad cs H0 st H locs) (k : Nat) {i : Int32} (hdg : decode cc pc = .ok (.baload, 1)) (hk : k ∈ mm_ar) (h1 : mm_kd k = 2) (hin : vp_in i (mm_ln k))
    (kk : W p l e R s m args below meth c H locs cells slots Q (F0 m (pc + 1) ls (.int (mm_G st k i.toNatClampNeg) :: rest))) : W p l e R s m args below meth c H locs cells slots Q (F0 m pc ls (.int i :: .ref (ad k) :: rest)) := by
  obtain ⟨q, hq, ha⟩ := mm_w_at (o := o) (ad := ad) (cs := cs) st hk
  rw [mm_cell_2 h1] at ha
  exact va_zald C.1 C.2.1 C.2.2.2.2.2.2.2 hM.1 (q + 1) 1 ha rfl hin hdg kk
theorem mm_lald (C : mm_C p s m args meth c cc nL ret D cs) (hM : mm_H D o ad cs H0 st H locs) (k : Nat) {i : Int32} (hdg : decode cc pc = .ok (.laload, 1)) (hk : k ∈ mm_ar) (h1 : mm_kd k = 3) (hin : vp_in i (mm_ln k))
    (kk : W p l e R s m args below meth c H locs cells slots Q (F0 m (pc + 1) ls (.long (mm_L st k i.toNatClampNeg) :: rest))) : W p l e R s m args below meth c H locs cells slots Q (F0 m pc ls (.int i :: .ref (ad k) :: rest)) := by
  obtain ⟨q, hq, ha⟩ := mm_w_at (o := o) (ad := ad) (cs := cs) st hk
  rw [mm_cell_3 h1] at ha
  exact va_lald C.1 C.2.1 C.2.2.2.2.2.2.2 hM.1 (q + 1) 2 ha rfl hin hdg kk
theorem mm_iast (C : mm_C p s m args meth c cc nL ret D cs) (hM : mm_H D o ad cs H0 st H locs) (k : Nat) {i v : Int32} (hdg : decode cc pc = .ok (.iastore, 1)) (hk : k ∈ mm_ar) (h1 : mm_kd k = 1) (hin : vp_in i (mm_ln k))
    (kk : ∀ (st1 : mm_S) (H1 : Heap) (locs1 : List Loc), st1 = mm_sG st k i.toNatClampNeg v → mm_H D o ad cs H0 st1 H1 locs1 → W p l e R s m args below meth c H1 locs1 cells slots Q (F0 m (pc + 1) ls rest)) : W p l e R s m args below meth c H locs cells slots Q (F0 m pc ls (.int v :: .int i :: .ref (ad k) :: rest)) := by
  obtain ⟨q, hq, ha⟩ := mm_w_at (o := o) (ad := ad) (cs := cs) st hk
  rw [mm_cell_1 h1] at ha
  refine va_iast C.1 C.2.1 C.2.2.2.2.2.2.2 hM.1 hM.2.1 hM.2.2 (q + 1) 0 ha rfl hin hdg (fun H1 locs1 hP hD hS => ?_)
  have e : (mm_w o ad cs st).set (q + 1) (ad k, .inl (cs.1, mm_ln k, .inl (upd (st.2.1 k) i.toNatClampNeg v))) = mm_w o ad cs (mm_sG st k i.toNatClampNeg v) := by
    have h2 := mm_w_set (o := o) (ad := ad) (cs := cs) (st := st) (st' := mm_sG st k i.toNatClampNeg v) hq rfl (fun j hj => mm_cell_G j hj)
    rw [mm_cell_1 h1] at h2
    rw [← h2]
    unfold mm_sG mm_up
    simp
  rw [e] at hP hD
  exact kk _ H1 locs1 rfl ⟨hP, hD, hS⟩
theorem mm_zast (C : mm_C p s m args meth c cc nL ret D cs) (hM : mm_H D o ad cs H0 st H locs) (k : Nat) {i v : Int32} (hdg : decode cc pc = .ok (.bastore, 1)) (hk : k ∈ mm_ar) (h1 : mm_kd k = 2) (hin : vp_in i (mm_ln k))
    (kk : ∀ (st1 : mm_S) (H1 : Heap) (locs1 : List Loc), st1 = mm_sG st k i.toNatClampNeg (vp_nar .boolean v) → mm_H D o ad cs H0 st1 H1 locs1 → W p l e R s m args below meth c H1 locs1 cells slots Q (F0 m (pc + 1) ls rest)) : W p l e R s m args below meth c H locs cells slots Q (F0 m pc ls (.int v :: .int i :: .ref (ad k) :: rest)) := by
  obtain ⟨q, hq, ha⟩ := mm_w_at (o := o) (ad := ad) (cs := cs) st hk
  rw [mm_cell_2 h1] at ha
  refine va_zast C.1 C.2.1 C.2.2.2.2.2.2.2 hM.1 hM.2.1 hM.2.2 (q + 1) 1 ha rfl hin hdg (fun H1 locs1 hP hD hS => ?_)
  have e : (mm_w o ad cs st).set (q + 1) (ad k, .inl (cs.2.1, mm_ln k, .inl (upd (st.2.1 k) i.toNatClampNeg (vp_nar .boolean v)))) = mm_w o ad cs (mm_sG st k i.toNatClampNeg (vp_nar .boolean v)) := by
    have h2 := mm_w_set (o := o) (ad := ad) (cs := cs) (st := st) (st' := mm_sG st k i.toNatClampNeg (vp_nar .boolean v)) hq rfl (fun j hj => mm_cell_G j hj)
    rw [mm_cell_2 h1] at h2
    rw [← h2]
    unfold mm_sG mm_up
    simp
  rw [e] at hP hD
  exact kk _ H1 locs1 rfl ⟨hP, hD, hS⟩
theorem mm_last (C : mm_C p s m args meth c cc nL ret D cs) (hM : mm_H D o ad cs H0 st H locs) (k : Nat) {i : Int32} {v : Int64} (hdg : decode cc pc = .ok (.lastore, 1)) (hk : k ∈ mm_ar) (h1 : mm_kd k = 3) (hin : vp_in i (mm_ln k))
    (kk : ∀ (st1 : mm_S) (H1 : Heap) (locs1 : List Loc), st1 = mm_sL st k i.toNatClampNeg v → mm_H D o ad cs H0 st1 H1 locs1 → W p l e R s m args below meth c H1 locs1 cells slots Q (F0 m (pc + 1) ls rest)) : W p l e R s m args below meth c H locs cells slots Q (F0 m pc ls (.long v :: .int i :: .ref (ad k) :: rest)) := by
  obtain ⟨q, hq, ha⟩ := mm_w_at (o := o) (ad := ad) (cs := cs) st hk
  rw [mm_cell_3 h1] at ha
  refine va_last C.1 C.2.1 C.2.2.2.2.2.2.2 hM.1 hM.2.1 hM.2.2 (q + 1) 2 ha rfl hin hdg (fun H1 locs1 hP hD hS => ?_)
  have e : (mm_w o ad cs st).set (q + 1) (ad k, .inl (cs.2.2, mm_ln k, .inr (.inl (vp_updL (st.2.2 k) i.toNatClampNeg v)))) = mm_w o ad cs (mm_sL st k i.toNatClampNeg v) := by
    have h2 := mm_w_set (o := o) (ad := ad) (cs := cs) (st := st) (st' := mm_sL st k i.toNatClampNeg v) hq rfl (fun j hj => mm_cell_L j hj)
    rw [mm_cell_3 h1] at h2
    rw [← h2]
    unfold mm_sL mm_up
    simp
  rw [e] at hP hD
  exact kk _ H1 locs1 rfl ⟨hP, hD, hS⟩
/-! calls of its own methods -/
theorem mm_pre (C : mm_C p s m args meth c cc nL ret D cs) (hM : mm_H D o ad cs H0 st H locs) (As : List Value) : PreV s H RX12 o (va_Pc (.ref o :: As) (mm_U D o ad cs st)) As := by
  have hK := C.2.2.2.2.2.2.2
  exact ⟨fun a U g mk q => ⟨q.1, q.2.1, va_K.moved (u := U) (U := U.calling g mk a) (Vm.Alike.refl U.vm) q.2.2.1, q.2.2.2⟩, va_recv hK hM.1 (q := (RX12, TX12, 63)) (ci := 14) (q0 := 0) rfl mm_w_0, fun U hU hW => ⟨rfl, by rw [hU]; exact hM.1, va_K.moved hW.alike hK, hM.2.1.weaken (fun _ _ _ _ => trivial)⟩⟩
theorem mm_ci {y : MethodName} {fr lo : Nat} {As : List Value} {x : Option (Int32 × mm_S)} {bytes : ByteArray} {maxL index n : Nat} {rt : Option FieldType} {r : Int32} {st1 : mm_S} {stk : List Value} (C : mm_C p s m args meth c cc nL ret D cs) (hM : mm_H D o ad cs H0 st H locs) (hc : mm_Mi l D o ad cs y bytes maxL rt fr lo As st x) (hg : (index, y, bytes, maxL, rt) ∈ mm_ms) (hdg : decode cc pc = .ok (.invokevirtual index, 3)) (hx : x = some (r, st1)) (hsz : ls.size = nL)
    (hd : y.cls = RX12 ∧ y.cls ≠ "java/lang/invoke/MethodHandle" ∧ y.cls ≠ "java/lang/invoke/VarHandle" ∧ (parseMethodDescriptor y.desc).map (fun d => d.parameters.length) = some n) (hR : fr + 1 ≤ R.frames ∧ 8 + (maxL + 11) + lo ≤ R.locals) (hn : As.length = n) (hst : stk = As.reverse ++ .ref o :: rest) (hW : (rest.map fun v => v.category).sum ≤ 8) (hR2 : cells ≤ R.cells ∧ slots ≤ R.slots)
    (kk : ∀ (H1 : Heap) (locs1 : List Loc), mm_H D o ad cs H0 st1 H1 locs1 → W p l e R s m args below meth c H1 locs1 cells slots Q (F0 m (pc + 3) ls (.int r :: rest))) : W p l e R s m args below meth c H locs cells slots Q (F0 m pc ls stk) := by
  obtain ⟨hx0, hb, -, hml, hown, hts, -, hK⟩ := id C
  refine va_calli (A1 := mm_A o ad) (mc := 0) (ms := 0) (va_runV (As := As) (rest := rest) ⟨hx0, hb, hml, hown, hts⟩ (hc r st1 hx) (cwV n hts (mm_good hg) rfl rfl rfl hd hR) (mm_pre C hM As) rfl hn hsz hst (lv_room hW) hdg hR2) hM.2.2 (fun _ _ h => h) (fun _ h => h) (fun r' u t H1 locs1 ht hvm hw hB _ _ hS => ?_)
  obtain ⟨rfl, rfl⟩ := hw
  rw [mm_U, ht] at hB
  exact kk H1 locs1 ⟨hB.1, mm_D_A hB.2.2, hS⟩
theorem mm_cl {y : MethodName} {fr lo : Nat} {As : List Value} {x : Option (Int64 × mm_S)} {bytes : ByteArray} {maxL index n : Nat} {rt : Option FieldType} {r : Int64} {st1 : mm_S} {stk : List Value} (C : mm_C p s m args meth c cc nL ret D cs) (hM : mm_H D o ad cs H0 st H locs) (hc : mm_Ml l D o ad cs y bytes maxL rt fr lo As st x) (hg : (index, y, bytes, maxL, rt) ∈ mm_ms) (hdg : decode cc pc = .ok (.invokevirtual index, 3)) (hx : x = some (r, st1)) (hsz : ls.size = nL)
    (hd : y.cls = RX12 ∧ y.cls ≠ "java/lang/invoke/MethodHandle" ∧ y.cls ≠ "java/lang/invoke/VarHandle" ∧ (parseMethodDescriptor y.desc).map (fun d => d.parameters.length) = some n) (hR : fr + 1 ≤ R.frames ∧ 8 + (maxL + 11) + lo ≤ R.locals) (hn : As.length = n) (hst : stk = As.reverse ++ .ref o :: rest) (hW : (rest.map fun v => v.category).sum ≤ 8) (hR2 : cells ≤ R.cells ∧ slots ≤ R.slots)
    (kk : ∀ (H1 : Heap) (locs1 : List Loc), mm_H D o ad cs H0 st1 H1 locs1 → W p l e R s m args below meth c H1 locs1 cells slots Q (F0 m (pc + 3) ls (.long r :: rest))) : W p l e R s m args below meth c H locs cells slots Q (F0 m pc ls stk) := by
  obtain ⟨hx0, hb, -, hml, hown, hts, -, hK⟩ := id C
  refine va_calll (A1 := mm_A o ad) (mc := 0) (ms := 0) (va_runV (As := As) (rest := rest) ⟨hx0, hb, hml, hown, hts⟩ (hc r st1 hx) (cwV n hts (mm_good hg) rfl rfl rfl hd hR) (mm_pre C hM As) rfl hn hsz hst (lv_room hW) hdg hR2) hM.2.2 (fun _ _ h => h) (fun _ h => h) (fun r' u t H1 locs1 ht hvm hw hB _ _ hS => ?_)
  obtain ⟨rfl, rfl⟩ := hw
  rw [mm_U, ht] at hB
  exact kk H1 locs1 ⟨hB.1, mm_D_A hB.2.2, hS⟩
theorem mm_cv {y : MethodName} {fr lo : Nat} {As : List Value} {x : Option mm_S} {bytes : ByteArray} {maxL index n : Nat} {rt : Option FieldType} {st1 : mm_S} {stk : List Value} (C : mm_C p s m args meth c cc nL ret D cs) (hM : mm_H D o ad cs H0 st H locs) (hc : mm_Mv l D o ad cs y bytes maxL rt fr lo As st x) (hg : (index, y, bytes, maxL, rt) ∈ mm_ms) (hdg : decode cc pc = .ok (.invokevirtual index, 3)) (hx : x = some st1) (hsz : ls.size = nL)
    (hd : y.cls = RX12 ∧ y.cls ≠ "java/lang/invoke/MethodHandle" ∧ y.cls ≠ "java/lang/invoke/VarHandle" ∧ (parseMethodDescriptor y.desc).map (fun d => d.parameters.length) = some n) (hR : fr + 1 ≤ R.frames ∧ 8 + (maxL + 11) + lo ≤ R.locals) (hn : As.length = n) (hst : stk = As.reverse ++ .ref o :: rest) (hW : (rest.map fun v => v.category).sum ≤ 8) (hR2 : cells ≤ R.cells ∧ slots ≤ R.slots)
    (kk : ∀ (H1 : Heap) (locs1 : List Loc), mm_H D o ad cs H0 st1 H1 locs1 → W p l e R s m args below meth c H1 locs1 cells slots Q (F0 m (pc + 3) ls rest)) : W p l e R s m args below meth c H locs cells slots Q (F0 m pc ls stk) := by
  obtain ⟨hx0, hb, -, hml, hown, hts, -, hK⟩ := id C
  refine va_callv (A1 := mm_A o ad) (mc := 0) (ms := 0) (va_runV (As := As) (rest := rest) ⟨hx0, hb, hml, hown, hts⟩ (hc st1 hx) (cwV n hts (mm_good hg) rfl rfl rfl hd hR) (mm_pre C hM As) rfl hn hsz hst (lv_room hW) hdg hR2) hM.2.2 (fun _ _ h => h) (fun _ h => h) (fun u t H1 locs1 ht hvm hw hB _ _ hS => ?_)
  obtain rfl := hw
  rw [mm_U, ht] at hB
  exact kk H1 locs1 ⟨hB.1, mm_D_A hB.2.2, hS⟩
/-! ends -/
theorem mm_ri {v r : Int32} {st' : mm_S} (C : mm_C p s m args meth c cc nL (some .int) D cs) (hM : mm_H D o ad cs s.heap st H locs) (hdg : decode cc pc = .ok (.ireturn, 1)) (hf : some (v, st) = some (r, st')) : W p l e R s m args below meth c H locs cells slots (MQ below (mm_Qi D o ad cs r st') args s cells slots (mm_A o ad)) (F0 m pc ls [.int v]) := by
  obtain ⟨rfl, rfl⟩ := fc_of_r hf
  obtain ⟨hx0, hb, hr, hml, hown, hts, hlk, hK⟩ := C
  exact W.iret (v := v) hx0 hb hr (fun t ht hW => ⟨⟨v, st, rfl, ⟨rfl, rfl⟩, by rw [mm_U, ht]; exact ⟨hM.1, va_K.moved hW.alike hK, hM.2.1.weaken (fun _ _ _ _ => trivial)⟩⟩, hM.2.2.F ht⟩) hM.2.2.2.2 hdg hlk
theorem mm_rz {v r : Int32} {st' : mm_S} (C : mm_C p s m args meth c cc nL (some .boolean) D cs) (hM : mm_H D o ad cs s.heap st H locs) (hdg : decode cc pc = .ok (.ireturn, 1)) (hn : narrow .boolean (.int v) = .int v) (hf : some (v, st) = some (r, st')) : W p l e R s m args below meth c H locs cells slots (MQ below (mm_Qi D o ad cs r st') args s cells slots (mm_A o ad)) (F0 m pc ls [.int v]) := by
  obtain ⟨rfl, rfl⟩ := fc_of_r hf
  obtain ⟨hx0, hb, hr, hml, hown, hts, hlk, hK⟩ := C
  exact W.zret (v := v) hx0 hb hr hn (fun t ht hW => ⟨⟨v, st, rfl, ⟨rfl, rfl⟩, by rw [mm_U, ht]; exact ⟨hM.1, va_K.moved hW.alike hK, hM.2.1.weaken (fun _ _ _ _ => trivial)⟩⟩, hM.2.2.F ht⟩) hM.2.2.2.2 hdg hlk
theorem mm_rl {v r : Int64} {st' : mm_S} (C : mm_C p s m args meth c cc nL (some .long) D cs) (hM : mm_H D o ad cs s.heap st H locs) (hdg : decode cc pc = .ok (.lreturn, 1)) (hf : some (v, st) = some (r, st')) : W p l e R s m args below meth c H locs cells slots (MQ below (mm_Ql D o ad cs r st') args s cells slots (mm_A o ad)) (F0 m pc ls [.long v]) := by
  obtain ⟨rfl, rfl⟩ := fc_of_r hf
  obtain ⟨hx0, hb, hr, hml, hown, hts, hlk, hK⟩ := C
  exact W.lret (v := v) hx0 hb hr (fun t ht hW => ⟨⟨v, st, rfl, ⟨rfl, rfl⟩, by rw [mm_U, ht]; exact ⟨hM.1, va_K.moved hW.alike hK, hM.2.1.weaken (fun _ _ _ _ => trivial)⟩⟩, hM.2.2.F ht⟩) hM.2.2.2.2 hdg hlk
theorem mm_rv {st' : mm_S} (C : mm_C p s m args meth c cc nL none D cs) (hM : mm_H D o ad cs s.heap st H locs) (hdg : decode cc pc = .ok (.return_, 1)) (hf : some st = some st') : W p l e R s m args below meth c H locs cells slots (MQ below (mm_Qv D o ad cs st') args s cells slots (mm_A o ad)) (F0 m pc ls []) := by
  obtain rfl := fc_of_v hf
  obtain ⟨hx0, hb, hr, hml, hown, hts, hlk, hK⟩ := C
  exact W.vret hx0 hb hr (fun t ht hW => ⟨⟨st, rfl, rfl, by rw [mm_U, ht]; exact ⟨hM.1, va_K.moved hW.alike hK, hM.2.1.weaken (fun _ _ _ _ => trivial)⟩⟩, hM.2.2.F ht⟩) hM.2.2.2.2 hdg hlk
end MM
/-! starts -/
theorem mm_enter {l : Launch} {D : va_G} {o : Nat} {ad : Nat → Nat} {cs : ClassId × ClassId × ClassId} {y : MethodName} {fr lo : Nat} {As : List Value} {st : mm_S} {cc : ByteArray} {nL : Nat} {ret : Option FieldType} {Qc : Array Value → State → Outcome → State → Prop} (hy : plainName y.cls = true) (hcl : y.cls = RX12) (hn : (lg_sl (.ref o :: As)).length ≤ nL)
    (body : ∀ p e s m args below meth c ls, mm_C p s m args meth c cc nL ret D cs → lv_has ls nL (lv_args 0 (.ref o :: As)) → mm_H D o ad cs s.heap st s.heap [] → W p l e (mm_R fr lo) s m args below meth c s.heap [] 0 0 (MQ below Qc args s 0 0 (mm_A o ad)) (F0 m 0 ls [])) : Met l y (Cond.code y cc nL ret :: mm_W) (mm_R fr lo) (va_Pc (.ref o :: As) (mm_U D o ad cs st)) Qc 0 0 (mm_A o ad) := by
  refine Met.ofW (cc := cc) (maxL := nL) (ret := ret) hy rfl ?_
  intro p e s m args below meth c s₁ B hml hv
  obtain ⟨rfl, hP, hK, hD⟩ := hv
  have hl := lv_entry (.ref o :: As) hn
  rw [lg_entry_eq]
  generalize (lg_sl (.ref o :: As) ++ List.replicate (nL - (lg_sl (.ref o :: As)).length) Slot.unset).toArray = ls at hl ⊢
  exact body p e s m _ below meth c ls ⟨B.exec, B.bytes, B.returns, hml, by rw [← hcl]; exact findClass_of_methodNamed B.named, fun w hw => atoms_spec (ws := Cond.code y cc nL ret :: mm_W) B.pre w (List.mem_cons_of_mem _ hw), B.notSynchronized, hK⟩ hl ⟨hP, mm_D_A hD, va_S.rf⟩
