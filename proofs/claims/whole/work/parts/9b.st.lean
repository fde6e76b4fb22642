/-! what holds at the start of the law -/
def lw_fl : List Cond := flatC (Jvm.Cond.and given_1 narrow_1)
theorem lw_fw {args : Array Value} {s : State} (h : (Jvm.Cond.and given_1 narrow_1).before args s = true) {w : Cond} (i : Nat) (hi : lw_fl[i]? = some w) : w.before args s = true := flat_of_before _ h w (List.mem_of_getElem? hi)
theorem lw_tw {args : Array Value} {s : State} (h : ∀ w ∈ lw_tbl, w.before args s = true) {w : Cond} (i : Nat) (hi : lw_tbl[i]? = some w) : w.before args s = true := h w (List.mem_of_getElem? hi)
theorem lw_nc0 : cc_nc.map (fun q => Cond.not (Cond.castable q.1 q.2)) = ([31, 58, 71, 19, 44, 57, 85, 18, 29, 56, 69, 83, 16, 33, 46, 59, 73, 87, 20, 30, 43, 70, 84, 17, 42, 55, 68, 82, 15, 32, 45, 72, 86] : List Nat).map (fun i => lw_fl.getD i lw_d) := by decide +kernel
theorem lw_getD {l : List Cond} {d : Cond} {P : Cond → Prop} (hd : P d) (h : ∀ w ∈ l, P w) (i : Nat) : P (l.getD i d) := by
  rw [List.getD_eq_getElem?_getD]
  cases e : l[i]? with
  | none => exact hd
  | some q => exact h q (List.mem_of_getElem? e)
theorem lw_nc {args : Array Value} {s : State} (hg : (Jvm.Cond.and given_1 narrow_1).before args s = true) (hts : ∀ w ∈ lw_tbl, w.before args s = true) : ∀ q ∈ cc_nc, va_Nc q.1 q.2 s := by
  intro q hq
  have h : Cond.not (Cond.castable q.1 q.2) ∈ cc_nc.map (fun q => Cond.not (Cond.castable q.1 q.2)) := List.mem_map.mpr ⟨q, hq, rfl⟩
  rw [lw_nc0] at h
  obtain ⟨i, -, hi⟩ := List.mem_map.mp h
  refine va_Nc.of (args := args) ?_
  rw [← hi]
  exact lw_getD (hts _ lw_dm) (fun w hw => flat_of_before _ hg w hw) i
theorem lw_ys : ∀ w ∈ cc_ys.map (fun q => Cond.castable q.1 q.2), w ∈ lw_tbl := lw_in [1761, 1767, 1766, 1760, 1764, 1765, 1763, 1768, 1762] (by decide +kernel)
theorem lw_nest : ∀ w ∈ nn_nest.map (fun q => Cond.methodLinkNest "EclipsesKept" q.1 q.2 "EclipsesKept"), w ∈ lw_tbl := lw_in [105, 187, 257] (by decide +kernel)
theorem lw_one : ∀ w ∈ [Cond.castable "[B" "java/lang/Cloneable", Cond.arrayOver (.object "EclipsesKept$Need"), Cond.arrayOver (.object "EclipsesKept$Tape"), Cond.arrayOver (.array .long), Cond.arrayClass .int, Cond.arrayClass .long, Cond.arrayClass .byte, Cond.arrayClass .boolean, Cond.laysStatic "java/lang/String" "COMPACT_STRINGS" "Z", Cond.initialized "java/lang/String", Cond.laysStatic "jdk/internal/util/Preconditions" "SIOOBE_FORMATTER" "Ljava/util/function/BiFunction;", Cond.initialized "jdk/internal/util/Preconditions", Cond.stringRef RX0 65 "shame ", Cond.stringRef RX0 67 "keep ", Cond.stringRef RX0 69 "fame ", Cond.stringRef RX0 95 "ikvycd", Cond.stringRef RX0 101 "<=>"], w ∈ lw_tbl := lw_in [551, 110, 222, 192, 184, 220, 255, 1390, 233, 75, 585, 92, 708, 709, 710, 744, 804] (by decide +kernel)
theorem lw_1 {args : Array Value} {s : State} (hts : ∀ w ∈ lw_tbl, w.before args s = true) {w : Cond} (k : Nat) (h : [Cond.castable "[B" "java/lang/Cloneable", Cond.arrayOver (.object "EclipsesKept$Need"), Cond.arrayOver (.object "EclipsesKept$Tape"), Cond.arrayOver (.array .long), Cond.arrayClass .int, Cond.arrayClass .long, Cond.arrayClass .byte, Cond.arrayClass .boolean, Cond.laysStatic "java/lang/String" "COMPACT_STRINGS" "Z", Cond.initialized "java/lang/String", Cond.laysStatic "jdk/internal/util/Preconditions" "SIOOBE_FORMATTER" "Ljava/util/function/BiFunction;", Cond.initialized "jdk/internal/util/Preconditions", Cond.stringRef RX0 65 "shame ", Cond.stringRef RX0 67 "keep ", Cond.stringRef RX0 69 "fame ", Cond.stringRef RX0 95 "ikvycd", Cond.stringRef RX0 101 "<=>"][k]? = some w) : w.before args s = true := hts w (lw_one w (List.mem_of_getElem? h))
theorem lwk_J0 {args : Array Value} {s : State} (hts : ∀ w ∈ lw_tbl, w.before args s = true) : ∃ p : ClassId × (Nat → Nat), u_Kn s RJ0 TJ0 4 p.1 p.2 := by
  obtain ⟨a, b, h⟩ := u_known (C := RJ0) (T := TJ0) (N := 4) (n := 4) hts lwuJ0 (lw_tw hts 620 (by decide +kernel))
  exact ⟨(a, b), h⟩
theorem lwk_J4 {args : Array Value} {s : State} (hts : ∀ w ∈ lw_tbl, w.before args s = true) : ∃ p : ClassId × (Nat → Nat), u_Kn s RJ4 TJ4 4 p.1 p.2 := by
  obtain ⟨a, b, h⟩ := u_known (C := RJ4) (T := TJ4) (N := 4) (n := 4) hts lwuJ4 (lw_tw hts 224 (by decide +kernel))
  exact ⟨(a, b), h⟩
theorem lwk_X0 {args : Array Value} {s : State} (hts : ∀ w ∈ lw_tbl, w.before args s = true) : ∃ p : ClassId × (Nat → Nat), u_Kn s RX0 TX0 10 p.1 p.2 := by
  obtain ⟨a, b, h⟩ := u_known (C := RX0) (T := TX0) (N := 10) (n := 10) hts lwuX0 (lw_tw hts 435 (by decide +kernel))
  exact ⟨(a, b), h⟩
theorem lwk_X1 {args : Array Value} {s : State} (hts : ∀ w ∈ lw_tbl, w.before args s = true) : ∃ p : ClassId × (Nat → Nat), u_Kn s RX1 TX1 4 p.1 p.2 := by
  obtain ⟨a, b, h⟩ := u_known (C := RX1) (T := TX1) (N := 4) (n := 4) hts lwuX1 (lw_tw hts 374 (by decide +kernel))
  exact ⟨(a, b), h⟩
theorem lwk_X2 {args : Array Value} {s : State} (hts : ∀ w ∈ lw_tbl, w.before args s = true) : ∃ p : ClassId × (Nat → Nat), u_Kn s RX2 TX2 4 p.1 p.2 := by
  obtain ⟨a, b, h⟩ := u_known (C := RX2) (T := TX2) (N := 4) (n := 4) hts lwuX2 (lw_tw hts 363 (by decide +kernel))
  exact ⟨(a, b), h⟩
theorem lwk_X3 {args : Array Value} {s : State} (hts : ∀ w ∈ lw_tbl, w.before args s = true) : ∃ p : ClassId × (Nat → Nat), u_Kn s RX3 TX3 4 p.1 p.2 := by
  obtain ⟨a, b, h⟩ := u_known (C := RX3) (T := TX3) (N := 4) (n := 4) hts lwuX3 (lw_tw hts 341 (by decide +kernel))
  exact ⟨(a, b), h⟩
theorem lwk_X4 {args : Array Value} {s : State} (hts : ∀ w ∈ lw_tbl, w.before args s = true) : ∃ p : ClassId × (Nat → Nat), u_Kn s RX4 TX4 4 p.1 p.2 := by
  obtain ⟨a, b, h⟩ := u_known (C := RX4) (T := TX4) (N := 4) (n := 4) hts lwuX4 (lw_tw hts 396 (by decide +kernel))
  exact ⟨(a, b), h⟩
theorem lwk_X5 {args : Array Value} {s : State} (hts : ∀ w ∈ lw_tbl, w.before args s = true) : ∃ p : ClassId × (Nat → Nat), u_Kn s RX5 TX5 4 p.1 p.2 := by
  obtain ⟨a, b, h⟩ := u_known (C := RX5) (T := TX5) (N := 4) (n := 4) hts lwuX5 (lw_tw hts 352 (by decide +kernel))
  exact ⟨(a, b), h⟩
theorem lwk_X6 {args : Array Value} {s : State} (hts : ∀ w ∈ lw_tbl, w.before args s = true) : ∃ p : ClassId × (Nat → Nat), u_Kn s RX6 TX6 4 p.1 p.2 := by
  obtain ⟨a, b, h⟩ := u_known (C := RX6) (T := TX6) (N := 4) (n := 4) hts lwuX6 (lw_tw hts 311 (by decide +kernel))
  exact ⟨(a, b), h⟩
theorem lwk_X7 {args : Array Value} {s : State} (hts : ∀ w ∈ lw_tbl, w.before args s = true) : ∃ p : ClassId × (Nat → Nat), u_Kn s RX7 TX7 17 p.1 p.2 := by
  obtain ⟨a, b, h⟩ := u_known (C := RX7) (T := TX7) (N := 17) (n := 17) hts lwuX7 (lw_tw hts 104 (by decide +kernel))
  exact ⟨(a, b), h⟩
theorem lwk_X8 {args : Array Value} {s : State} (hts : ∀ w ∈ lw_tbl, w.before args s = true) : ∃ p : ClassId × (Nat → Nat), u_Kn s RX8 TX8 3 p.1 p.2 := by
  obtain ⟨a, b, h⟩ := u_known (C := RX8) (T := TX8) (N := 3) (n := 3) hts lwuX8 (lw_tw hts 256 (by decide +kernel))
  exact ⟨(a, b), h⟩
theorem lwk_X9 {args : Array Value} {s : State} (hts : ∀ w ∈ lw_tbl, w.before args s = true) : ∃ p : ClassId × (Nat → Nat), u_Kn s RX9 TX9 4 p.1 p.2 := by
  obtain ⟨a, b, h⟩ := u_known (C := RX9) (T := TX9) (N := 4) (n := 4) hts lwuX9 (lw_tw hts 385 (by decide +kernel))
  exact ⟨(a, b), h⟩
theorem lwk_X10 {args : Array Value} {s : State} (hts : ∀ w ∈ lw_tbl, w.before args s = true) : ∃ p : ClassId × (Nat → Nat), u_Kn s RX10 TX10 8 p.1 p.2 := by
  obtain ⟨a, b, h⟩ := u_known (C := RX10) (T := TX10) (N := 8) (n := 8) hts lwuX10 (lw_tw hts 186 (by decide +kernel))
  exact ⟨(a, b), h⟩
theorem lwk_X11 {args : Array Value} {s : State} (hts : ∀ w ∈ lw_tbl, w.before args s = true) : ∃ p : ClassId × (Nat → Nat), u_Kn s RX11 TX11 8 p.1 p.2 := by
  obtain ⟨a, b, h⟩ := u_known (C := RX11) (T := TX11) (N := 8) (n := 8) hts lwuX11 (lw_tw hts 96 (by decide +kernel))
  exact ⟨(a, b), h⟩
theorem lwk_X12 {args : Array Value} {s : State} (hts : ∀ w ∈ lw_tbl, w.before args s = true) : ∃ p : ClassId × (Nat → Nat), u_Kn s RX12 TX12 63 p.1 p.2 := by
  obtain ⟨a, b, h⟩ := u_known (C := RX12) (T := TX12) (N := 63) (n := 63) hts lwuX12 (lw_tw hts 1195 (by decide +kernel))
  exact ⟨(a, b), h⟩
theorem lw_known {args : Array Value} {s : State} (hts : ∀ w ∈ lw_tbl, w.before args s = true) : ∀ q ∈ vwCl, ∃ p : ClassId × (Nat → Nat), u_Kn s q.1 q.2.1 q.2.2 p.1 p.2 := (List.forall_mem_cons.mpr ⟨lwk_J0 hts, (List.forall_mem_cons.mpr ⟨lwk_J4 hts, (List.forall_mem_cons.mpr ⟨lwk_X0 hts, (List.forall_mem_cons.mpr ⟨lwk_X1 hts, (List.forall_mem_cons.mpr ⟨lwk_X2 hts, (List.forall_mem_cons.mpr ⟨lwk_X3 hts, (List.forall_mem_cons.mpr ⟨lwk_X4 hts, (List.forall_mem_cons.mpr ⟨lwk_X5 hts, (List.forall_mem_cons.mpr ⟨lwk_X6 hts, (List.forall_mem_cons.mpr ⟨lwk_X7 hts, (List.forall_mem_cons.mpr ⟨lwk_X8 hts, (List.forall_mem_cons.mpr ⟨lwk_X9 hts, (List.forall_mem_cons.mpr ⟨lwk_X10 hts, (List.forall_mem_cons.mpr ⟨lwk_X11 hts, (List.forall_mem_cons.mpr ⟨lwk_X12 hts, (fun _ h => absurd h List.not_mem_nil)⟩)⟩)⟩)⟩)⟩)⟩)⟩)⟩)⟩)⟩)⟩)⟩)⟩)⟩)⟩)
theorem lw_D {args : Array Value} {s : State} (hts : ∀ w ∈ lw_tbl, w.before args s = true) : ∃ D : va_G, ∀ (c : Nat) (q : vw_C), vwCl[c]? = some q → u_Kn s q.1 q.2.1 q.2.2 (D.1 c) (D.2 c) := by
  have h : ∀ c : Nat, ∃ p : ClassId × (Nat → Nat), ∀ q : vw_C, vwCl[c]? = some q → u_Kn s q.1 q.2.1 q.2.2 p.1 p.2 := by
    intro c
    cases e : vwCl[c]? with
    | none => exact ⟨(0, fun _ => 0), fun q hq => by cases hq⟩
    | some q0 =>
      obtain ⟨p, hp⟩ := lw_known hts q0 (List.mem_of_getElem? e)
      exact ⟨p, fun q hq => by cases hq; exact hp⟩
  obtain ⟨f, hf⟩ := Classical.axiomOfChoice h
  exact ⟨(fun c => (f c).1, fun c => (f c).2), fun c q hq => hf c q hq⟩
theorem lw_prim {args : Array Value} {s : State} {ty : FieldType} (h : (Cond.arrayClass ty).before args s = true) (hp : ∀ C, ty ≠ .object C) : ∃ c, ArrOfT s c ty ∧ va_RA s c ty := by
  obtain ⟨c, k, comp, h1, h2, h3⟩ := Cond.arrayClass_spec h
  refine ⟨c, fun n z => ⟨fun k h => (by cases h), k, h2, comp, h3⟩, ?_⟩
  cases ty with
  | object C => exact absurd rfl (hp C)
  | _ => exact h1
theorem lw_obj {args : Array Value} {s : State} {C : String} (h : (Cond.arrayOver (.object C)).before args s = true) : ∃ c, ArrOfT s c (.object C) ∧ va_RA s c (.object C) := by
  obtain ⟨comp, c, k, h1, h2, h3, h4, h5⟩ := Cond.arrayOver_spec h
  exact ⟨c, fun n z => ⟨fun k h => (by cases h), k, h3, comp, h4⟩, k, comp, h3, h4, h1, h5⟩
theorem lw_arr {args : Array Value} {s : State} {t : FieldType} (h : (Cond.arrayOver (.array t)).before args s = true) : ∃ c, ArrOfT s c (.array t) ∧ va_RA s c (.array t) := by
  obtain ⟨comp, c, k, h1, h2, h3, h4⟩ := Cond.arrayOver_specA h
  exact ⟨c, fun n z => ⟨fun k h => (by cases h), k, h2, comp, h3⟩, h4⟩
theorem lw_K {args : Array Value} {s : State} (hts : ∀ w ∈ lw_tbl, w.before args s = true) : ∃ (D : va_G) (ct : Nat → ClassId) (cs : ClassId × ClassId × ClassId), va_K D vwCl (nn_ts ct) s ∧ va_K D vwCl (mm_tys cs) s := by
  obtain ⟨D, hD⟩ := lw_D hts
  obtain ⟨a0, b0⟩ := lw_prim (lw_1 hts 4 rfl) (fun C e => by cases e)
  obtain ⟨a1, b1⟩ := lw_prim (lw_1 hts 5 rfl) (fun C e => by cases e)
  obtain ⟨a5, b5⟩ := lw_prim (lw_1 hts 6 rfl) (fun C e => by cases e)
  obtain ⟨az, bz⟩ := lw_prim (lw_1 hts 7 rfl) (fun C e => by cases e)
  obtain ⟨a2, b2⟩ := lw_obj (lw_1 hts 1 rfl)
  obtain ⟨a3, b3⟩ := lw_obj (lw_1 hts 2 rfl)
  obtain ⟨a4, b4⟩ := lw_arr (lw_1 hts 3 rfl)
  refine ⟨D, fun k => if k = 0 then a0 else if k = 1 then a1 else if k = 2 then a2 else if k = 3 then a3 else if k = 4 then a4 else a5, (a0, az, a1), ⟨hD, fun k q hk => ?_⟩, ⟨hD, fun k q hk => ?_⟩⟩
  · rcases k with _ | _ | _ | _ | _ | _ | k
    · cases hk; exact b0
    · cases hk; exact b1
    · cases hk; exact b2
    · cases hk; exact b3
    · cases hk; exact b4
    · cases hk; exact b5
    · exact absurd hk (by simp [nn_ts])
  · rcases k with _ | _ | _ | k
    · cases hk; exact b0
    · cases hk; exact bz
    · cases hk; exact b1
    · exact absurd hk (by simp [mm_tys])
def lw_tm (i : Nat) : Term := Term.string RX0 ([65, 67, 69, 95, 101].getD i 0)
def lw_len : List Nat := [6, 5, 5, 6, 3]
def lw_byt : List (List Int32) := [(zl 1).map sb_b, (zl 2).map sb_b, (zl 3).map sb_b, (zl 4).map sb_b, (zl 5).map sb_b]
theorem lw_sex {args : Array Value} {s : State} (hg : (Jvm.Cond.and given_1 narrow_1).before args s = true) : ∀ i : Nat, i < 5 → (Cond.exactly (lw_tm i) "java/lang/String").before args s = true := by
  intro i hi
  rcases (show i = 0 ∨ i = 1 ∨ i = 2 ∨ i = 3 ∨ i = 4 by omega) with rfl | rfl | rfl | rfl | rfl
  · exact lw_fw hg 154 (by decide +kernel)
  · exact lw_fw hg 164 (by decide +kernel)
  · exact lw_fw hg 174 (by decide +kernel)
  · exact lw_fw hg 185 (by decide +kernel)
  · exact lw_fw hg 198 (by decide +kernel)
theorem lw_sco {args : Array Value} {s : State} (hg : (Jvm.Cond.and given_1 narrow_1).before args s = true) : ∀ i : Nat, i < 5 → (Cond.eq (.field (lw_tm i) "java/lang/String" "coder" "B") (.int 0)).before args s = true := by
  intro i hi
  rcases (show i = 0 ∨ i = 1 ∨ i = 2 ∨ i = 3 ∨ i = 4 by omega) with rfl | rfl | rfl | rfl | rfl
  · exact lw_fw hg 155 (by decide +kernel)
  · exact lw_fw hg 165 (by decide +kernel)
  · exact lw_fw hg 175 (by decide +kernel)
  · exact lw_fw hg 186 (by decide +kernel)
  · exact lw_fw hg 199 (by decide +kernel)
theorem lw_sar {args : Array Value} {s : State} (hg : (Jvm.Cond.and given_1 narrow_1).before args s = true) : ∀ i : Nat, i < 5 → (Cond.arrayOf (.field (lw_tm i) "java/lang/String" "value" "[B") .byte).before args s = true := by
  intro i hi
  rcases (show i = 0 ∨ i = 1 ∨ i = 2 ∨ i = 3 ∨ i = 4 by omega) with rfl | rfl | rfl | rfl | rfl
  · exact lw_fw hg 156 (by decide +kernel)
  · exact lw_fw hg 166 (by decide +kernel)
  · exact lw_fw hg 176 (by decide +kernel)
  · exact lw_fw hg 187 (by decide +kernel)
  · exact lw_fw hg 200 (by decide +kernel)
theorem lw_sle {args : Array Value} {s : State} (hg : (Jvm.Cond.and given_1 narrow_1).before args s = true) : ∀ i : Nat, i < 5 → (Cond.eq (.length (.field (lw_tm i) "java/lang/String" "value" "[B")) (.int (Int32.ofNat (lw_len.getD i 0)))).before args s = true := by
  intro i hi
  rcases (show i = 0 ∨ i = 1 ∨ i = 2 ∨ i = 3 ∨ i = 4 by omega) with rfl | rfl | rfl | rfl | rfl
  · exact lw_fw hg 157 (by decide +kernel)
  · exact lw_fw hg 167 (by decide +kernel)
  · exact lw_fw hg 177 (by decide +kernel)
  · exact lw_fw hg 188 (by decide +kernel)
  · exact lw_fw hg 201 (by decide +kernel)
theorem lw_sel0 {args : Array Value} {s : State} (hg : (Jvm.Cond.and given_1 narrow_1).before args s = true) : ∀ j : Nat, j < 6 → (Cond.eq (.elem (.field (lw_tm 0) "java/lang/String" "value" "[B") (.int (Int32.ofNat j))) (.int ((lw_byt.getD 0 []).getD j 0))).before args s = true := by
  intro j hj
  rcases (show j = 0 ∨ j = 1 ∨ j = 2 ∨ j = 3 ∨ j = 4 ∨ j = 5 by omega) with rfl | rfl | rfl | rfl | rfl | rfl
  · exact lw_fw hg 158 (by decide +kernel)
  · exact lw_fw hg 159 (by decide +kernel)
  · exact lw_fw hg 160 (by decide +kernel)
  · exact lw_fw hg 161 (by decide +kernel)
  · exact lw_fw hg 162 (by decide +kernel)
  · exact lw_fw hg 163 (by decide +kernel)
theorem lw_sel1 {args : Array Value} {s : State} (hg : (Jvm.Cond.and given_1 narrow_1).before args s = true) : ∀ j : Nat, j < 5 → (Cond.eq (.elem (.field (lw_tm 1) "java/lang/String" "value" "[B") (.int (Int32.ofNat j))) (.int ((lw_byt.getD 1 []).getD j 0))).before args s = true := by
  intro j hj
  rcases (show j = 0 ∨ j = 1 ∨ j = 2 ∨ j = 3 ∨ j = 4 by omega) with rfl | rfl | rfl | rfl | rfl
  · exact lw_fw hg 168 (by decide +kernel)
  · exact lw_fw hg 169 (by decide +kernel)
  · exact lw_fw hg 170 (by decide +kernel)
  · exact lw_fw hg 171 (by decide +kernel)
  · exact lw_fw hg 172 (by decide +kernel)
theorem lw_sel2 {args : Array Value} {s : State} (hg : (Jvm.Cond.and given_1 narrow_1).before args s = true) : ∀ j : Nat, j < 5 → (Cond.eq (.elem (.field (lw_tm 2) "java/lang/String" "value" "[B") (.int (Int32.ofNat j))) (.int ((lw_byt.getD 2 []).getD j 0))).before args s = true := by
  intro j hj
  rcases (show j = 0 ∨ j = 1 ∨ j = 2 ∨ j = 3 ∨ j = 4 by omega) with rfl | rfl | rfl | rfl | rfl
  · exact lw_fw hg 178 (by decide +kernel)
  · exact lw_fw hg 179 (by decide +kernel)
  · exact lw_fw hg 180 (by decide +kernel)
  · exact lw_fw hg 181 (by decide +kernel)
  · exact lw_fw hg 182 (by decide +kernel)
theorem lw_sel3 {args : Array Value} {s : State} (hg : (Jvm.Cond.and given_1 narrow_1).before args s = true) : ∀ j : Nat, j < 6 → (Cond.eq (.elem (.field (lw_tm 3) "java/lang/String" "value" "[B") (.int (Int32.ofNat j))) (.int ((lw_byt.getD 3 []).getD j 0))).before args s = true := by
  intro j hj
  rcases (show j = 0 ∨ j = 1 ∨ j = 2 ∨ j = 3 ∨ j = 4 ∨ j = 5 by omega) with rfl | rfl | rfl | rfl | rfl | rfl
  · exact lw_fw hg 189 (by decide +kernel)
  · exact lw_fw hg 190 (by decide +kernel)
  · exact lw_fw hg 191 (by decide +kernel)
  · exact lw_fw hg 192 (by decide +kernel)
  · exact lw_fw hg 193 (by decide +kernel)
  · exact lw_fw hg 194 (by decide +kernel)
theorem lw_sel4 {args : Array Value} {s : State} (hg : (Jvm.Cond.and given_1 narrow_1).before args s = true) : ∀ j : Nat, j < 3 → (Cond.eq (.elem (.field (lw_tm 4) "java/lang/String" "value" "[B") (.int (Int32.ofNat j))) (.int ((lw_byt.getD 4 []).getD j 0))).before args s = true := by
  intro j hj
  rcases (show j = 0 ∨ j = 1 ∨ j = 2 by omega) with rfl | rfl | rfl
  · exact lw_fw hg 202 (by decide +kernel)
  · exact lw_fw hg 203 (by decide +kernel)
  · exact lw_fw hg 204 (by decide +kernel)
theorem lw_sel {args : Array Value} {s : State} (hg : (Jvm.Cond.and given_1 narrow_1).before args s = true) : ∀ i : Nat, i < 5 → ∀ j : Nat, j < lw_len.getD i 0 → (Cond.eq (.elem (.field (lw_tm i) "java/lang/String" "value" "[B") (.int (Int32.ofNat j))) (.int ((lw_byt.getD i []).getD j 0))).before args s = true := by
  intro i hi
  rcases (show i = 0 ∨ i = 1 ∨ i = 2 ∨ i = 3 ∨ i = 4 by omega) with rfl | rfl | rfl | rfl | rfl
  · exact lw_sel0 hg
  · exact lw_sel1 hg
  · exact lw_sel2 hg
  · exact lw_sel3 hg
  · exact lw_sel4 hg
theorem lw_sne {args : Array Value} {s : State} (hg : (Jvm.Cond.and given_1 narrow_1).before args s = true) : ∀ i j : Nat, i < 5 → j < 5 → i ≠ j → (Cond.not (Cond.eq (lw_tm i) (lw_tm j))).before args s = true ∨ (Cond.not (Cond.eq (lw_tm j) (lw_tm i))).before args s = true := by
  intro i j hi hj h
  rcases (show i = 0 ∨ i = 1 ∨ i = 2 ∨ i = 3 ∨ i = 4 by omega) with rfl | rfl | rfl | rfl | rfl <;> rcases (show j = 0 ∨ j = 1 ∨ j = 2 ∨ j = 3 ∨ j = 4 by omega) with rfl | rfl | rfl | rfl | rfl
  · exact absurd rfl h
  · exact Or.inl (lw_fw hg 173 (by decide +kernel))
  · exact Or.inl (lw_fw hg 183 (by decide +kernel))
  · exact Or.inl (lw_fw hg 195 (by decide +kernel))
  · exact Or.inl (lw_fw hg 205 (by decide +kernel))
  · exact Or.inr (lw_fw hg 173 (by decide +kernel))
  · exact absurd rfl h
  · exact Or.inl (lw_fw hg 184 (by decide +kernel))
  · exact Or.inl (lw_fw hg 196 (by decide +kernel))
  · exact Or.inl (lw_fw hg 206 (by decide +kernel))
  · exact Or.inr (lw_fw hg 183 (by decide +kernel))
  · exact Or.inr (lw_fw hg 184 (by decide +kernel))
  · exact absurd rfl h
  · exact Or.inl (lw_fw hg 197 (by decide +kernel))
  · exact Or.inl (lw_fw hg 207 (by decide +kernel))
  · exact Or.inr (lw_fw hg 195 (by decide +kernel))
  · exact Or.inr (lw_fw hg 196 (by decide +kernel))
  · exact Or.inr (lw_fw hg 197 (by decide +kernel))
  · exact absurd rfl h
  · exact Or.inl (lw_fw hg 208 (by decide +kernel))
  · exact Or.inr (lw_fw hg 205 (by decide +kernel))
  · exact Or.inr (lw_fw hg 206 (by decide +kernel))
  · exact Or.inr (lw_fw hg 207 (by decide +kernel))
  · exact Or.inr (lw_fw hg 208 (by decide +kernel))
  · exact absurd rfl h
theorem lw_gm {f : Nat → Int32} (hf : f 0 = 0) (l : List Nat) (j : Nat) : (l.map f).getD j 0 = f (l.getD j 0) := by
  rw [List.getD_eq_getElem?_getD, List.getD_eq_getElem?_getD, List.getElem?_map]
  cases l[j]? with
  | none => exact hf.symm
  | some q => rfl
theorem lw_byE : ∀ i, i < 5 → lw_len.getD i 0 = (zl (i + 1)).length ∧ ∀ j, (lw_byt.getD i []).getD j 0 = sb_b ((zl (i + 1)).getD j 0) := by
  intro i hi
  have hb : sb_b 0 = 0 := by decide
  rcases (show i = 0 ∨ i = 1 ∨ i = 2 ∨ i = 3 ∨ i = 4 by omega) with rfl | rfl | rfl | rfl | rfl
  · exact ⟨rfl, fun j => lw_gm hb _ j⟩
  · exact ⟨rfl, fun j => lw_gm hb _ j⟩
  · exact ⟨rfl, fun j => lw_gm hb _ j⟩
  · exact ⟨rfl, fun j => lw_gm hb _ j⟩
  · exact ⟨rfl, fun j => lw_gm hb _ j⟩
theorem lw_strs {args : Array Value} {s : State} (hg : (Jvm.Cond.and given_1 narrow_1).before args s = true) (hts : ∀ w ∈ lw_tbl, w.before args s = true) : ∃ z : pp_Z, (∀ i, 1 ≤ i → i ≤ 5 → (z i).2.2.1 = (zl i).length ∧ ∀ j, j < (zl i).length → (z i).2.2.2 j = (zl i).getD j 0) ∧ (∀ i, i < 5 → jj_S (z (i + 1)).1 (z (i + 1)).2.1 (z (i + 1)).2.2.1 (z (i + 1)).2.2.2 (fun q => s.heap.size ≤ q) s s.heap) ∧ ∀ i, i < 5 → ∀ q, pp_cs[i]? = some q → vk_R RX0 q.1 q.2 (z (i + 1)).1 s := by
  obtain ⟨adK, adV, ⟨h1, h2⟩, h3⟩ := vk_Sof (N := 5) (tm := lw_tm) (len := lw_len) (byt := lw_byt) (A := fun q => s.heap.size ≤ q) (fun i hi => by rcases (show i = 0 ∨ i = 1 ∨ i = 2 ∨ i = 3 ∨ i = 4 by omega) with rfl | rfl | rfl | rfl | rfl <;> decide) (lw_sex hg) (lw_sco hg) (lw_sar hg) (lw_sle hg) (lw_sel hg) (lw_sne hg) (fun a ha hq => by omega)
  refine ⟨fun i => (adK (i - 1), adV (i - 1), (zl i).length, fun j => (zl i).getD j 0), fun i _ _ => ⟨rfl, fun j _ => rfl⟩, fun i hi => ?_, fun i hi q hq => ?_⟩
  · obtain ⟨a1, a2, a3, a4⟩ := h1 i hi
    obtain ⟨e1, e2⟩ := lw_byE i hi
    refine ⟨a1, a2, a3, ?_⟩
    rw [e1, show (fun j => Value.int ((lw_byt.getD i []).getD j 0)) = (fun j => Value.int (sb_b ((zl (i + 1)).getD j 0))) from funext fun j => by rw [e2 j]] at a4
    exact a4
  · have h := h3 i hi
    rcases (show i = 0 ∨ i = 1 ∨ i = 2 ∨ i = 3 ∨ i = 4 by omega) with rfl | rfl | rfl | rfl | rfl
    · cases hq; exact vk_R.of (lw_1 hts 12 rfl) h
    · cases hq; exact vk_R.of (lw_1 hts 13 rfl) h
    · cases hq; exact vk_R.of (lw_1 hts 14 rfl) h
    · cases hq; exact vk_R.of (lw_1 hts 15 rfl) h
    · cases hq; exact vk_R.of (lw_1 hts 16 rfl) h
theorem lw_E {args : Array Value} {s : State} (hg : (Jvm.Cond.and given_1 narrow_1).before args s = true) (hts : ∀ w ∈ lw_tbl, w.before args s = true) : ∃ z : pp_Z, (∀ i, 1 ≤ i → i ≤ 5 → (z i).2.2.1 = (zl i).length ∧ ∀ j, j < (zl i).length → (z i).2.2.2 j = (zl i).getD j 0) ∧ nn_E s.heap.size z s := by
  obtain ⟨z, h1, h2, h3⟩ := lw_strs hg hts
  refine ⟨z, h1, ⟨va_AO.of (lw_1 hts 1 rfl), va_AO.of (lw_1 hts 2 rfl), lw_1 hts 3 rfl⟩, ⟨lw_nc hg hts, fun q hq => va_Nw.of rfl (hts _ (lw_ys _ (List.mem_map.mpr ⟨q, hq, rfl⟩)))⟩, fun q hq => va_Nw.of rfl (hts _ (lw_nest _ (List.mem_map.mpr ⟨q, hq, rfl⟩))), va_Nw.of rfl (lw_1 hts 0 rfl), ⟨va_Zof (lw_1 hts 8 rfl) (lw_1 hts 9 rfl) (va_eqt (lw_fw hg 4 (by decide +kernel))) (fun a ha hq => by omega), va_Zqof (lw_1 hts 10 rfl) (lw_1 hts 11 rfl) (lw_fw hg 5 (by decide +kernel)) (fun a ha hq => by omega)⟩, h2, h3⟩
