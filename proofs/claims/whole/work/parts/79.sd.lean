/-! looked, count, trace, taken -/
theorem Rel_m {X : cc_X} {T : Nat → Nat} {sm : mm_S} {sc : cc_S} (h : Rel X T sm sc) : ∃ A, Rm T A sm sc := by
  obtain ⟨-, A, -, -, hm, -⟩ := h
  exact ⟨A, hm⟩
theorem Rel_t {X : cc_X} {T : Nat → Nat} {sm : mm_S} {sc : cc_S} (h : Rel X T sm sc) {t : Nat} (ht : t < 6) : Rt1 sm sc t := by
  obtain ⟨-, A, -, -, -, hm⟩ := h
  exact hm t ht
theorem q_looked {X : cc_X} {T : Nat → Nat} {sm : mm_S} {sc : cc_S} {fu : Nat} (hfu : 700 < fu) (h : Rel X T sm sc) : Eq2 X T (M_looked fu sm) (C_X11_looked X fu 0 sc) := by
  obtain ⟨n, d, y, c, s, b, r1, r2, r3, r4, r5, r6, r7, r8, r9, -⟩ := Rel_R h
  obtain ⟨-, -, -, -, -, -, i12⟩ := Rel_I h
  obtain ⟨g1, -, -, -, -, -, g7, g8⟩ := Rel_G h
  have e32 : mm_I sm 32 = nI b := r6.2
  suffices hs : ∀ k m n', k + m = b → m < n' → ∃ r, M_looked_b2 fu n' (nI k) sm = some (r, sm) ∧ C_X11_looked_b2 X fu n' 0 (nI k) sc = some (r, sc) by
    obtain ⟨r, e1, e2⟩ := hs 0 b fu (by omega) (by omega)
    exact Eq2_same h e1 e2
  intro k m
  induction m generalizing k with
  | zero =>
    intro n' hk hn'
    obtain ⟨f, rfl⟩ : ∃ f, n' = f + 1 := ⟨n' - 1, by omega⟩
    refine ⟨-5, ?_, ?_⟩
    · rw [show M_looked_b2 fu (f + 1) (nI k) sm = M_looked_b2F fu (fun x s => M_looked_b2 fu f x s) (nI k) sm from rfl]
      unfold M_looked_b2F
      rw [e32, if_pos ((nI_le_iff (by omega) (by omega)).mpr (by omega))]
    · rw [show C_X11_looked_b2 X fu (f + 1) 0 (nI k) sc = C_X11_looked_b2F X fu (fun a x s => C_X11_looked_b2 X fu f a x s) 0 (nI k) sc from rfl]
      unfold C_X11_looked_b2F
      rw [px_go h.1 (by decide), px_go h.1 (by decide), gd_true, gd_true, i12, e32, if_pos ((nI_le_iff (by omega) (by omega)).mpr (by omega))]
  | succ m ih =>
    intro n' hk hn'
    obtain ⟨f, rfl⟩ : ∃ f, n' = f + 1 := ⟨n' - 1, by omega⟩
    obtain ⟨i, hi, ei⟩ := r9 k (by omega)
    have hle : ¬ nI b ≤ nI k := fun e => by
      rw [nI_le_iff (by omega) (by omega)] at e
      omega
    have hM : M_looked_b2 fu (f + 1) (nI k) sm = if mm_G sm 6 i = mm_G sm 37 k then M_looked_b2 fu f (nI (k + 1)) sm else some (nI k, sm) := by
      rw [show M_looked_b2 fu (f + 1) (nI k) sm = M_looked_b2F fu (fun x s => M_looked_b2 fu f x s) (nI k) sm from rfl]
      unfold M_looked_b2F
      rw [e32, if_neg hle, nI_ix (by omega) (by decide), nI_clamp (show k < 2 ^ 31 by omega), ei, nI_ix (by omega) (by decide), nI_clamp (show i < 2 ^ 31 by omega), gd_true, gd_true, gd_true, nm_eq, nI_1]
    have hC : C_X11_looked_b2 X fu (f + 1) 0 (nI k) sc = if mm_G sm 6 i = mm_G sm 37 k then C_X11_looked_b2 X fu f 0 (nI (k + 1)) sc else some (nI k, sc) := by
      rw [show C_X11_looked_b2 X fu (f + 1) 0 (nI k) sc = C_X11_looked_b2F X fu (fun a x s => C_X11_looked_b2 X fu f a x s) 0 (nI k) sc from rfl]
      unfold C_X11_looked_b2F
      rw [px_go h.1 (by decide), px_go h.1 (by decide), gd_true, gd_true, i12, e32, if_neg hle, px_ga h.1 (c := 9) (i := 1) (k := 7) (t := 1) (a := k) (by decide) (by decide) rfl rfl (by show k < 8; omega) (by decide), px_ga h.1 (c := 9) (i := 1) (k := 8) (t := 1) (a := k) (by decide) (by decide) rfl rfl (by show k < 8; omega) (by decide), nI_clamp (show k < 2 ^ 31 by omega), g7 k (by omega), ei, px_ga h.1 (c := 9) (i := 1) (k := 1) (t := 1) (a := i) (by decide) (by decide) rfl rfl (by show i < 6; omega) (by decide), nI_clamp (show i < 2 ^ 31 by omega), g1 i (by omega), g8 k (by omega), gd_true, gd_true, gd_true, nm_eq, nI_1]
    rw [hM, hC]
    split
    · exact ih (k + 1) f (by omega) (by omega)
    · exact ⟨nI k, rfl, rfl⟩
theorem q_count {X : cc_X} {T : Nat → Nat} {sm : mm_S} {sc : cc_S} {fu : Nat} (h : Rel X T sm sc) (x : Int32) : Eq2 X T (M_count fu x sm) (C_X11_count X fu 0 x sc) := by
  obtain ⟨i9, -, -, -, i10, i11, i12⟩ := Rel_I h
  obtain ⟨A, ⟨-, m8, c6⟩, ⟨f, -, m10, ⟨c40, -⟩, -⟩, -, ⟨r, -, m57, c50⟩, -⟩ := Rel_m h
  unfold M_count C_X11_count C_J4_length_8abf5 C_J5_length_8abf5
  rw [px_go h.1 (by decide), px_go h.1 (by decide), px_go h.1 (by decide), px_ga h.1 (c := 13) (i := 0) (k := 5) (t := 1) (a := 0) (j := 0) (by decide) (by decide) rfl rfl (by show 0 < 21; omega) (by decide), i9, i10, i11, i12, m8, c6, m10, c40, m57, show (0 : Int32).toNatClampNeg = 0 from rfl, c50]
  simp only [gd_true, bn_some]
  split
  · exact Eq2_same h rfl rfl
  split
  · exact Eq2_same h rfl rfl
  split
  · exact Eq2_same h rfl rfl
  split
  · exact Eq2_same h rfl rfl
  split
  · exact Eq2_same h rfl rfl
  split
  · exact Eq2_same h rfl rfl
  split
  · exact Eq2_same h rfl rfl
  exact Eq2_same h rfl rfl
theorem q_trace {X : cc_X} {T : Nat → Nat} {sm : mm_S} {sc : cc_S} {fu : Nat} (h : Rel X T sm sc) (x : Int32) : Eq2 X T (M_trace fu x sm) (C_X11_trace X fu 0 x sc) := by
  obtain ⟨A, -, -, -, ⟨r, hr, m57, c50⟩, c5, -⟩ := Rel_m h
  unfold M_trace C_X11_trace
  rw [e_in, bn_some, px_go h.1 (by decide), px_ga h.1 (c := 13) (i := 0) (k := 5) (t := 1) (a := 0) (j := 0) (by decide) (by decide) rfl rfl (by show 0 < 21; omega) (by decide), show (0 : Int32).toNatClampNeg = 0 from rfl, c50, m57, gd_true, gd_true]
  by_cases hx : x < 0
  · rw [if_pos hx, show inw x 19 = 0 from if_pos hx, if_pos rfl]
    exact Eq2_same h rfl rfl
  rw [if_neg hx]
  rcases inw_c x (m := 19) (by decide) with e | ⟨e, j, hj, rfl⟩
  · rw [show inw x 19 = 0 from e, if_pos rfl]
    have e2 : ¬ x < 20 := fun h2 => by
      have e' : inw x (nI 19) = 0 := e
      unfold inw at e'
      rw [if_neg hx] at e'
      by_cases h3 : nI 19 < x
      · rw [Int32.lt_iff_toInt_lt] at h2 h3
        have e19 : (nI 19).toInt = 19 := rfl
        have e20 : (20 : Int32).toInt = 20 := rfl
        omega
      · rw [if_neg h3] at e'
        exact absurd e' n10
    rw [if_neg e2]
    split
    · exact Eq2_same h rfl rfl
    · exact Eq2_same h rfl rfl
  · rw [show inw (nI j) 19 = 1 from e, if_neg n10]
    have e1 : (1 : Int32) + nI j = nI (j + 1) := by
      rw [show (1 : Int32) = nI 1 from rfl, nI_add, Nat.add_comm]
    rw [if_pos (show nI j < 20 from (nI_lt_iff (b := 20) (by omega) (by omega)).mpr (by omega)), e1, px_ga h.1 (c := 13) (i := 0) (k := 5) (t := 1) (a := j + 1) (by decide) (by decide) rfl rfl (by show j + 1 < 21; omega) (by decide), nI_clamp (show j + 1 < 2 ^ 31 by omega), nI_ix (by omega) (by decide), nI_clamp (show j < 2 ^ 31 by omega), c5 j (by omega), gd_true, gd_true]
    split
    · exact Eq2_same h rfl rfl
    · exact Eq2_same h rfl rfl
theorem io_t : ∀ κ, κ < 7 → ∀ k, k < 7 → (fc_zb (cc_io (kcl κ) 8) = true ∧ fc_zb (cc_io (kcl κ) 5) = true ∧ fc_zb (cc_io (kcl κ) 7) = true ∧ fc_zb (cc_io (kcl κ) 4) = true ∧ fc_zb (cc_io (kcl κ) 3) = true ∧ fc_zb (cc_io (kcl κ) 11) = true) ∧
  (if nI k = 0 then (1 : Int32) else if nI k = 1 then cc_io (kcl κ) 8 else if nI k = 2 then cc_io (kcl κ) 5 else if nI k = 3 then cc_io (kcl κ) 7 else if nI k = 4 then cc_io (kcl κ) 4 else if nI k = 5 then cc_io (kcl κ) 3 else if nI k = 6 then cc_io (kcl κ) 11 else 0) = if (k = 0 ∨ κ = k ∨ (k = 1 ∧ κ = 4) ∨ (k = 2 ∧ κ = 5) ∨ (k = 3 ∧ κ = 6)) then 1 else 0 := by decide +kernel
theorem mt_t : ∀ κ, κ < 7 → ∀ k, k < 7 → (if nI k = 0 then nI κ else if nI κ = nI k then nI κ else if nI k = 1 then (if nI κ = 4 then nI κ else if nI k = 2 then (if nI κ = 5 then nI κ else if nI k = 3 then (if nI κ = 6 then nI κ else -12) else -12) else if nI k = 3 then (if nI κ = 6 then nI κ else -12) else -12) else if nI k = 2 then (if nI κ = 5 then nI κ else if nI k = 3 then (if nI κ = 6 then nI κ else -12) else -12) else if nI k = 3 then (if nI κ = 6 then nI κ else -12) else -12) = if (k = 0 ∨ κ = k ∨ (k = 1 ∧ κ = 4) ∨ (k = 2 ∧ κ = 5) ∨ (k = 3 ∧ κ = 6)) then nI κ else -12 := by decide +kernel
theorem q_taken {X : cc_X} {T : Nat → Nat} {sm : mm_S} {sc : cc_S} {fu : Nat} (h : Rel X T sm sc) (x w : Int32) : Eq2 X T (M_taken fu x w sm) (C_X11_taken X fu 0 x w sc) := by
  obtain ⟨n, hn, h0, h9, hk⟩ := Rel_n h
  unfold M_taken C_X11_taken
  rw [e_in, e_win, bn_some, bn_some]
  rcases inw_c w (m := 6) (by decide) with e | ⟨e, k, hk6, rfl⟩
  · rw [show inw w 6 = 0 from e, if_pos rfl, if_pos rfl]
    exact Eq2_same h rfl rfl
  rw [show inw (nI k) 6 = 1 from e, if_neg n10, if_neg n10, px_go h.1 (by decide), px_go h.1 (by decide), gd_true, gd_true]
  rcases need_cases x hn with ⟨i, hi, rfl⟩ | hx
  · obtain ⟨z, κ, ν, a1, a2, a3, a4, a5, a6, a7, a8, a9, a10, a11⟩ := hk i hi
    rw [e_isNeed1 h0 hi hn, e_needOf1 h.1 h9 hi hn a1, bn_some, bn_some, mt_some, if_neg n10, nI_ix (by omega) (by decide), gd_true, nm_eq, nI_clamp (show i < 2 ^ 31 by omega), a7]
    obtain ⟨⟨z1, z2, z3, z4, z5, z6⟩, hio⟩ := io_t κ (by omega) k (by omega)
    have hmt := mt_t κ (by omega) k (by omega)
    have hC : C_X11_isOfKind X fu z (nI k) sc = some (if (k = 0 ∨ κ = k ∨ (k = 1 ∧ κ = 4) ∨ (k = 2 ∧ κ = 5) ∨ (k = 3 ∧ κ = 6)) then 1 else 0, sc) := by
      unfold C_X11_isOfKind
      rw [cgo a3 a4 (kcl_mem κ), a4, z1, z2, z3, z4, z5, z6, ← hio]
      simp only [gd_true]
      split
      · rfl
      split
      · rfl
      split
      · rfl
      split
      · rfl
      split
      · rfl
      split
      · rfl
      split
      · rfl
      rfl
    have hM : (if nI k = 0 then some (nI κ, sm) else if nI κ = nI k then some (nI κ, sm) else if nI k = 1 then (if nI κ = 4 then some (nI κ, sm) else M_taken_b51 fu (nI k) (nI κ) sm) else M_taken_b51 fu (nI k) (nI κ) sm) = some (if (k = 0 ∨ κ = k ∨ (k = 1 ∧ κ = 4) ∨ (k = 2 ∧ κ = 5) ∨ (k = 3 ∧ κ = 6)) then nI κ else -12, sm) := by
      rw [← hmt]
      unfold M_taken_b51 M_taken_b61
      repeat' split
      all_goals rfl
    rw [hM, hC, bn_some, cgo a3 a4 (kcl_mem κ), gd_true, a9]
    by_cases hc : (k = 0 ∨ κ = k ∨ (k = 1 ∧ κ = 4) ∨ (k = 2 ∧ κ = 5) ∨ (k = 3 ∧ κ = 6))
    · rw [if_pos hc, if_pos hc, if_neg n10]
      exact Eq2_same h rfl rfl
    · rw [if_neg hc, if_neg hc, if_pos rfl]
      exact Eq2_same h rfl rfl
  · rw [e_isNeed0 h0 hn hx, e_needOf0 h.1 h9 hx, bn_some, bn_some, mt_none, if_pos rfl]
    exact Eq2_same h rfl rfl
