/-! row, century, see, book -/
theorem NR_kind {X : cc_X} {sc : cc_S} {o k : Nat} {G : Nat → Nat → Int32} (h : NR X sc o G k) : ∃ y κ, cc_P sc o 0 k = some y ∧ y ∈ cx_o X ∧ cx_K X y = kcl κ ∧ κ ≤ 6 ∧ G 4 k = nI κ := by
  obtain ⟨y, κ, ν, a1, a2, a3, a4, a5, a6, a7, -⟩ := h
  exact ⟨y, κ, a1, a3, a4, a5, a7⟩
theorem io11 : ∀ κ, κ < 7 → (cc_io (kcl κ) 11 = 0 ↔ nI κ ≠ 6) := by decide +kernel
theorem q_row {X : cc_X} {T : Nat → Nat} {sm : mm_S} {sc : cc_S} {fu : Nat} (h : Rel X T sm sc) (x p v : Int32) : Eq2 X T (M_row fu x p v sm) (C_X11_row X fu 0 x p v sc) := by
  obtain ⟨n, hn, h0, h9, hk⟩ := Rel_n h
  unfold M_row C_X11_row
  rw [px_go h.1 (by decide), px_go h.1 (by decide), gd_true, gd_true]
  rcases need_cases x hn with ⟨i, hi, rfl⟩ | hx
  · obtain ⟨z, κ, a1, a3, a4, a5, a7⟩ := NR_kind (hk i hi)
    rw [e_isNeed1 h0 hi hn, e_needOf1 h.1 h9 hi hn a1, bn_some, bn_some, mt_some, if_neg n10, e_in, e_win, bn_some, bn_some]
    rcases inw_c p (m := 3) (by decide) with e | ⟨e, j, hj, rfl⟩
    · rw [show inw p 3 = 0 from e, if_pos rfl, if_pos rfl]
      exact Eq2_same h rfl rfl
    rw [show inw (nI j) 3 = 1 from e, if_neg n10, if_neg n10, e_in, e_win, bn_some, bn_some]
    rcases inw_c v (m := 9) (by decide) with e | ⟨e, w, hw, rfl⟩
    · rw [show inw v 9 = 0 from e, if_pos rfl, if_pos rfl]
      exact Eq2_same h rfl rfl
    rw [show inw (nI w) 9 = 1 from e, if_neg n10, if_neg n10, nI_ix (by omega) (by decide), gd_true, cgo a3 a4 (kcl_mem κ), gd_true, nI_clamp (show i < 2 ^ 31 by omega), a7, a4]
    by_cases hκ : nI κ = 6
    · rw [if_pos hκ, if_neg (fun e => (io11 κ (by omega)).mp e hκ)]
      have e1 : (4 : Int32) * nI i + nI j = nI (4 * i + j) := by
        rw [show (4 : Int32) = nI 4 from rfl, nI_mul, nI_add]
      have e2 : nI i * 4 + nI j = nI (4 * i + j) := by
        rw [show (4 : Int32) = nI 4 from rfl, nI_mul, nI_add, Nat.mul_comm]
      rw [e1, e2, nI_ix (by omega) (by decide), px_ga h.1 (c := 9) (i := 1) (k := 2) (t := 1) (a := 4 * i + j) (by decide) (by decide) rfl rfl (by show 4 * i + j < 24; omega) (by decide), nI_clamp (by omega), (Rel_G h).2.1 _ (by omega)]
      simp only [gd_true, nm_eq]
      refine ⟨_, _, _, rfl, rfl, Rel_up (Om_G Om_rf (by omega)) (Oc_G Oc_rf (by simp)) h (fun A hp => ?_)⟩
      obtain ⟨h1, ⟨b1, b2, b3⟩, h3, h4, n', d, y, c, s, b, r1, r2, r3, r4, r5, r6, r7, r8, r9, r10, r11⟩ := hp
      have e : n' = n := (nI_eq_iff (by omega) (by omega)).mp (r1.2.symm.trans h0)
      subst e
      refine ⟨h1, ⟨b1, fun q hq => ?_, b3⟩, PN_mv (Oc_Hi (Oc_G Oc_rf (by simp))) (fun _ => rfl) rfl (fun _ => rfl) (fun _ => rfl) h3, PA_mv (fun k j h1 h2 => by rw [mG_sG, if_neg (by omega)]) (Oc_Hi (Oc_G Oc_rf (by simp))) rfl h4, n', d, y, c, s, b, r1, r2, r3, r4, r5, r6, r7, r8, r9, r10, fun q hq => ?_⟩
      · rw [cG_sG, if_pos ⟨rfl, rfl⟩, mG_sG, if_pos rfl, b2 q hq]
      · rw [mG_sG, if_pos rfl]
        split
        · rename_i hqi
          exact ⟨w, hw, rfl, fun hh => by omega⟩
        · exact r11 q hq
    · rw [if_neg hκ, if_pos ((io11 κ (by omega)).mpr hκ)]
      exact Eq2_same h rfl rfl
  · rw [e_isNeed0 h0 hn hx, e_needOf0 h.1 h9 hx, bn_some, bn_some, mt_none, if_pos rfl]
    exact Eq2_same h rfl rfl
theorem q_century {X : cc_X} {T : Nat → Nat} {sm : mm_S} {sc : cc_S} {fu : Nat} (h : Rel X T sm sc) (x : Int32) : Eq2 X T (M_century fu x sm) (C_X11_century X fu 0 x sc) := by
  obtain ⟨n, hn, h0, h9, hk⟩ := Rel_n h
  obtain ⟨n', d, y, c, s, b, r1, r2, r3, r4, r5, r6, r7, -⟩ := Rel_R h
  obtain ⟨-, -, -, -, i10, -⟩ := Rel_I h
  have e : n' = n := (nI_eq_iff (by omega) (by omega)).mp (r1.2.symm.trans h0)
  subst e
  unfold M_century C_X11_century
  rw [px_go h.1 (by decide), px_go h.1 (by decide)]
  simp only [gd_true, nm_eq]
  by_cases hx1 : x = -1
  · rw [if_pos hx1, if_pos hx1]
    refine ⟨_, _, _, rfl, rfl, Rel_up (Om_I Om_rf (by omega)) (Oc_I Oc_rf (by simp)) h (fun A hp => ?_)⟩
    obtain ⟨⟨a1, a2, a3, a4, a5, a6⟩, h2, h3, h4, n', d, y, c, s, b, r1, r2, r3, r4, r5, r6, r7, r8⟩ := hp
    exact ⟨⟨a1, a2, a3, a4, rfl, a6⟩, h2, PN_mv (Oc_Hi (Oc_I Oc_rf (by simp))) (fun _ => rfl) rfl (fun _ => rfl) (fun _ => rfl) h3, PA_mv (fun _ _ _ _ => rfl) (Oc_Hi (Oc_I Oc_rf (by simp))) rfl h4, n', d, y, 0, s, b, r1, r2, r3, ⟨by omega, rfl⟩, r5, r6, fun k hk => absurd hk (Nat.not_lt_zero k), r8⟩
  rw [if_neg hx1, if_neg hx1]
  rcases need_cases x hn with ⟨i, hi, rfl⟩ | hx
  · rw [e_isNeed1 h0 hi hn, e_has1 (px_go h.1 (by decide)) h9 hi hn, bn_some, bn_some, if_neg n10, if_neg n10, i10, r4.2]
    by_cases hc : c = 8
    · subst hc
      rw [if_pos (show nI 8 = 8 from rfl), if_neg (show ¬ nI 8 < 8 by decide)]
      exact Eq2_same h rfl rfl
    rw [if_neg (show ¬ nI c = 8 from fun e => hc ((nI_eq_iff (b := 8) (by omega) (by omega)).mp e)), if_pos (show nI c < 8 from (nI_lt_iff (b := 8) (by omega) (by omega)).mpr (by omega)), nI_ix (by omega) (by decide), px_ga h.1 (c := 9) (i := 1) (k := 3) (t := 1) (a := c) (by decide) (by decide) rfl rfl (by show c < 8; omega) (by decide), gd_true, gd_true, nI_clamp (show c < 2 ^ 31 by omega)]
    refine ⟨_, _, _, rfl, congrArg (fun q => some (q, _)) (show cc_I sc 1 10 + 1 = mm_I sm 29 + 1 by rw [i10]), Rel_up (Om_I (Om_G Om_rf (by omega)) (by omega)) (Oc_I (Oc_G Oc_rf (by simp)) (by simp)) h (fun A hp => ?_)⟩
    · obtain ⟨⟨a1, a2, a3, a4, a5, a6⟩, ⟨b1, b2, b3, b4⟩, h3, h4, -⟩ := hp
      obtain ⟨n'', d', y', c', s', b', r1', r2', r3', r4', r5', r6', r7', r8'⟩ := Rel_R h
      have ec : c' = c := (nI_eq_iff (by omega) (by omega)).mp (r4'.2.symm.trans r4.2)
      subst ec
      refine ⟨⟨a1, a2, a3, a4, ?_, a6⟩, ⟨b1, b2, fun q hq => ?_, b4⟩, PN_mv (Oc_Hi (Oc_I (Oc_G Oc_rf (by simp)) (by simp))) (fun _ => rfl) rfl (fun _ => rfl) (fun _ => rfl) h3, PA_mv (fun k j h1 h2 => ?_) (Oc_Hi (Oc_I (Oc_G Oc_rf (by simp)) (by simp))) rfl h4, n'', d', y', c' + 1, s', b', r1', r2', r3', ⟨by omega, ?_⟩, r5', r6', fun q hq => ?_, r8'⟩
      · rfl
      · show cc_G (cc_sG sc 1 3 c' (nI i)) 1 3 q = mm_G (mm_sG sm 30 c' (nI i)) 30 q
        rw [cG_sG, if_pos ⟨rfl, rfl⟩, mG_sG, if_pos rfl, b3 q hq]
      · rw [mG_sI, mG_sG, if_neg (by omega)]
      · show mm_I sm 29 + 1 = _
        rw [r4.2, nI_1]
      · show ∃ i', i' < n'' ∧ mm_G (mm_sG sm 30 c' (nI i)) 30 q = nI i'
        have e2 : n'' = n' := (nI_eq_iff (by omega) (by omega)).mp (r1'.2.symm.trans h0)
        subst e2
        rw [mG_sG, if_pos rfl]
        split
        · exact ⟨i, hi, rfl⟩
        · exact r7' q (by omega)
  · rw [e_isNeed0 h0 hn hx, e_has0 (px_go h.1 (by decide)) h9 hx, bn_some, bn_some, if_pos rfl, if_pos rfl]
    exact Eq2_same h rfl rfl
theorem q_book {X : cc_X} {T : Nat → Nat} {sm : mm_S} {sc : cc_S} {fu : Nat} (h : Rel X T sm sc) (x v : Int32) : Eq2 X T (M_book fu x v sm) (C_X11_book X fu 0 x v sc) := by
  obtain ⟨n, hn, h0, h9, hk⟩ := Rel_n h
  obtain ⟨n', d, y, c, s, b, r1, r2, r3, r4, r5, r6, r7, -⟩ := Rel_R h
  obtain ⟨-, -, -, -, -, -, i12⟩ := Rel_I h
  have e : n' = n := (nI_eq_iff (by omega) (by omega)).mp (r1.2.symm.trans h0)
  subst e
  unfold M_book C_X11_book
  rw [px_go h.1 (by decide), px_go h.1 (by decide)]
  simp only [gd_true, nm_eq]
  by_cases hx1 : x = -1
  · rw [if_pos hx1, if_pos hx1]
    refine ⟨_, _, _, rfl, rfl, Rel_up (Om_I Om_rf (by omega)) (Oc_I Oc_rf (by simp)) h (fun A hp => ?_)⟩
    obtain ⟨⟨a1, a2, a3, a4, a5, a6, a7⟩, h2, h3, h4, n', d, y, c, s, b, r1, r2, r3, r4, r5, r6, r7, r8, r9, r10⟩ := hp
    exact ⟨⟨a1, a2, a3, a4, a5, a6, rfl⟩, h2, PN_mv (Oc_Hi (Oc_I Oc_rf (by simp))) (fun _ => rfl) rfl (fun _ => rfl) (fun _ => rfl) h3, PA_mv (fun _ _ _ _ => rfl) (Oc_Hi (Oc_I Oc_rf (by simp))) rfl h4, n', d, y, c, s, 0, r1, r2, r3, r4, r5, ⟨by omega, rfl⟩, r7, r8, fun k hk => absurd hk (Nat.not_lt_zero k), r10⟩
  rw [if_neg hx1, if_neg hx1]
  rcases need_cases x hn with ⟨i, hi, rfl⟩ | hx
  · rw [e_isNeed1 h0 hi hn, e_has1 (px_go h.1 (by decide)) h9 hi hn, bn_some, bn_some, if_neg n10, if_neg n10, e_in, e_win, bn_some, bn_some]
    rcases inw_c v (m := 9999) (by decide) with e | ⟨e, w, hw, rfl⟩
    · rw [show inw v 9999 = 0 from e, if_pos rfl, if_pos rfl]
      exact Eq2_same h rfl rfl
    rw [show inw (nI w) 9999 = 1 from e, if_neg n10, if_neg n10, i12, r6.2]
    by_cases hc : b = 8
    · subst hc
      rw [if_pos (show nI 8 = 8 from rfl), if_neg (show ¬ nI 8 < 8 by decide)]
      exact Eq2_same h rfl rfl
    have gm : mm_I (mm_sG sm 36 b (nI i)) 32 = nI b := r6.2
    have gc : cc_I (cc_sG sc 1 7 b (nI i)) 1 12 = nI b := i12.trans r6.2
    rw [if_neg (show ¬ nI b = 8 from fun e => hc ((nI_eq_iff (b := 8) (by omega) (by omega)).mp e)), if_pos (show nI b < 8 from (nI_lt_iff (b := 8) (by omega) (by omega)).mpr (by omega)), nI_ix (by omega) (by decide), px_ga h.1 (c := 9) (i := 1) (k := 7) (t := 1) (a := b) (by decide) (by decide) rfl rfl (by show b < 8; omega) (by decide), gd_true, gd_true, nI_clamp (show b < 2 ^ 31 by omega), gm, gc, nI_ix (by omega) (by decide), px_ga h.1 (c := 9) (i := 1) (k := 8) (t := 1) (a := b) (by decide) (by decide) rfl rfl (by show b < 8; omega) (by decide), gd_true, gd_true, nI_clamp (show b < 2 ^ 31 by omega)]
    refine ⟨_, _, _, rfl, congrArg (fun q => some (q, _)) (show cc_I sc 1 12 + 1 = mm_I sm 32 + 1 by rw [i12]), Rel_up (Om_I (Om_G (Om_G Om_rf (by omega)) (by omega)) (by omega)) (Oc_I (Oc_G (Oc_G Oc_rf (by simp)) (by simp)) (by simp)) h (fun A hp => ?_)⟩
    · obtain ⟨⟨a1, a2, a3, a4, a5, a6, a7⟩, ⟨b1, b2, b3, b4, b5, b6, b7, b8⟩, h3, h4, -⟩ := hp
      obtain ⟨n'', d', y', c', s', b', r1', r2', r3', r4', r5', r6', r7', r8', r9', r10'⟩ := Rel_R h
      have ec : b' = b := (nI_eq_iff (by omega) (by omega)).mp (r6'.2.symm.trans r6.2)
      subst ec
      refine ⟨⟨a1, a2, a3, a4, a5, a6, ?_⟩, ⟨b1, b2, b3, b4, b5, b6, fun q hq => ?_, fun q hq => ?_⟩, PN_mv (Oc_Hi (Oc_I (Oc_G (Oc_G Oc_rf (by simp)) (by simp)) (by simp))) (fun _ => rfl) rfl (fun _ => rfl) (fun _ => rfl) h3, PA_mv (fun k j h1 h2 => ?_) (Oc_Hi (Oc_I (Oc_G (Oc_G Oc_rf (by simp)) (by simp)) (by simp))) rfl h4, n'', d', y', c', s', b' + 1, r1', r2', r3', r4', r5', ⟨by omega, ?_⟩, r7', r8', fun q hq => ?_, r10'⟩
      · rfl
      · show cc_G (cc_sG sc 1 7 b' (nI i)) 1 7 q = mm_G (mm_sG sm 36 b' (nI i)) 36 q
        rw [cG_sG, if_pos ⟨rfl, rfl⟩, mG_sG, if_pos rfl, b7 q hq]
      · show cc_G (cc_sG (cc_sG sc 1 7 b' (nI i)) 1 8 b' (nI w)) 1 8 q = mm_G (mm_sG (mm_sG sm 36 b' (nI i)) 37 b' (nI w)) 37 q
        rw [cG_sG, if_pos ⟨rfl, rfl⟩, mG_sG, if_pos rfl]
        split
        · rfl
        · exact b8 q hq
      · rw [mG_sI, mG_sG, if_neg (by omega), mG_sG, if_neg (by omega)]
      · show mm_I sm 32 + 1 = _
        rw [r6.2, nI_1]
      · show ∃ i', i' < n'' ∧ mm_G (mm_sG sm 36 b' (nI i)) 36 q = nI i'
        have e2 : n'' = n' := (nI_eq_iff (by omega) (by omega)).mp (r1'.2.symm.trans h0)
        subst e2
        rw [mG_sG, if_pos rfl]
        split
        · exact ⟨i, hi, rfl⟩
        · exact r9' q (by omega)
  · rw [e_isNeed0 h0 hn hx, e_has0 (px_go h.1 (by decide)) h9 hx, bn_some, bn_some, if_pos rfl, if_pos rfl]
    exact Eq2_same h rfl rfl
theorem q_see {X : cc_X} {T : Nat → Nat} {sm : mm_S} {sc : cc_S} {fu : Nat} (h : Rel X T sm sc) (x v t : Int32) : Eq2 X T (M_see fu x v t sm) (C_X11_see X fu 0 x v t sc) := by
  obtain ⟨n, hn, h0, h9, hk⟩ := Rel_n h
  obtain ⟨n', d, y, c, s, b, r1, r2, r3, r4, r5, r6, r7, -⟩ := Rel_R h
  obtain ⟨-, -, -, -, -, i11, -⟩ := Rel_I h
  have e : n' = n := (nI_eq_iff (by omega) (by omega)).mp (r1.2.symm.trans h0)
  subst e
  unfold M_see C_X11_see
  rw [px_go h.1 (by decide), px_go h.1 (by decide)]
  simp only [gd_true, nm_eq]
  by_cases hx1 : x = -1
  · rw [if_pos hx1, if_pos hx1]
    refine ⟨_, _, _, rfl, rfl, Rel_up (Om_I Om_rf (by omega)) (Oc_I Oc_rf (by simp)) h (fun A hp => ?_)⟩
    obtain ⟨⟨a1, a2, a3, a4, a5, a6, a7⟩, h2, h3, h4, n', d, y, c, s, b, r1, r2, r3, r4, r5, r6, r7, r8, r9⟩ := hp
    exact ⟨⟨a1, a2, a3, a4, a5, rfl, a7⟩, h2, PN_mv (Oc_Hi (Oc_I Oc_rf (by simp))) (fun _ => rfl) rfl (fun _ => rfl) (fun _ => rfl) h3, PA_mv (fun _ _ _ _ => rfl) (Oc_Hi (Oc_I Oc_rf (by simp))) rfl h4, n', d, y, c, 0, b, r1, r2, r3, r4, ⟨by omega, rfl⟩, r6, r7, fun k hk => absurd hk (Nat.not_lt_zero k), r9⟩
  rw [if_neg hx1, if_neg hx1]
  rcases need_cases x hn with ⟨i, hi, rfl⟩ | hx
  · rw [e_isNeed1 h0 hi hn, e_has1 (px_go h.1 (by decide)) h9 hi hn, bn_some, bn_some, if_neg n10, if_neg n10, e_in, e_win, bn_some, bn_some]
    rcases inw_c v (m := 999) (by decide) with e | ⟨e, w, hw, rfl⟩
    · rw [show inw v 999 = 0 from e, if_pos rfl, if_pos rfl]
      exact Eq2_same h rfl rfl
    rw [show inw (nI w) 999 = 1 from e, if_neg n10, if_neg n10, e_in, e_win, bn_some, bn_some]
    rcases inw_c t (m := 20) (by decide) with e | ⟨e, u, hu, rfl⟩
    · rw [show inw t 20 = 0 from e, if_pos rfl, if_pos rfl]
      exact Eq2_same h rfl rfl
    rw [show inw (nI u) 20 = 1 from e, if_neg n10, if_neg n10, i11, r5.2]
    by_cases hc : s = 5
    · subst hc
      rw [if_pos (show nI 5 = 5 from rfl), if_neg (show ¬ nI 5 < 5 by decide)]
      exact Eq2_same h rfl rfl
    have gm : mm_I (mm_sG sm 33 s (nI i)) 31 = nI s := r5.2
    have gm2 : mm_I (mm_sG (mm_sG sm 33 s (nI i)) 34 s (nI w)) 31 = nI s := r5.2
    rw [if_neg (show ¬ nI s = 5 from fun e => hc ((nI_eq_iff (b := 5) (by omega) (by omega)).mp e)), if_pos (show nI s < 5 from (nI_lt_iff (b := 5) (by omega) (by omega)).mpr (by omega)), nI_ix (by omega) (by decide), px_ga h.1 (c := 9) (i := 1) (k := 4) (t := 1) (a := s) (by decide) (by decide) rfl rfl (by show s < 5; omega) (by decide), px_ga h.1 (c := 9) (i := 1) (k := 5) (t := 1) (a := s) (by decide) (by decide) rfl rfl (by show s < 5; omega) (by decide), px_ga h.1 (c := 9) (i := 1) (k := 6) (t := 1) (a := s) (by decide) (by decide) rfl rfl (by show s < 5; omega) (by decide), nI_clamp (show s < 2 ^ 31 by omega)]
    simp only [gd_true]
    rw [gm, nI_ix (by omega) (by decide), gd_true, nI_clamp (show s < 2 ^ 31 by omega), gm2, nI_ix (by omega) (by decide), gd_true, nI_clamp (show s < 2 ^ 31 by omega)]
    refine ⟨_, _, _, rfl, congrArg (fun q => some (q, _)) (show cc_I sc 1 11 + 1 = mm_I sm 31 + 1 by rw [i11]), Rel_up (Om_I (Om_G (Om_G (Om_G Om_rf (by omega)) (by omega)) (by omega)) (by omega)) (Oc_I (Oc_G (Oc_G (Oc_G Oc_rf (by simp)) (by simp)) (by simp)) (by simp)) h (fun A hp => ?_)⟩
    · obtain ⟨⟨a1, a2, a3, a4, a5, a6, a7⟩, ⟨b1, b2, b3, b4, b5, b6, b7, b8⟩, h3, h4, -⟩ := hp
      obtain ⟨n'', d', y', c', s', b', r1', r2', r3', r4', r5', r6', r7', r8', r9', r10'⟩ := Rel_R h
      have ec : s' = s := (nI_eq_iff (by omega) (by omega)).mp (r5'.2.symm.trans r5.2)
      subst ec
      refine ⟨⟨a1, a2, a3, a4, a5, ?_, a7⟩, ⟨b1, b2, b3, fun q hq => ?_, fun q hq => ?_, fun q hq => ?_, b7, b8⟩, PN_mv (Oc_Hi (Oc_I (Oc_G (Oc_G (Oc_G Oc_rf (by simp)) (by simp)) (by simp)) (by simp))) (fun _ => rfl) rfl (fun _ => rfl) (fun _ => rfl) h3, PA_mv (fun k j h1 h2 => ?_) (Oc_Hi (Oc_I (Oc_G (Oc_G (Oc_G Oc_rf (by simp)) (by simp)) (by simp)) (by simp))) rfl h4, n'', d', y', c', s' + 1, b', r1', r2', r3', r4', ⟨by omega, ?_⟩, r6', r7', fun q hq => ⟨?_, ?_, ?_⟩, r9', r10'⟩
      · rfl
      · show cc_G (cc_sG sc 1 4 s' (nI i)) 1 4 q = mm_G (mm_sG sm 33 s' (nI i)) 33 q
        rw [cG_sG, if_pos ⟨rfl, rfl⟩, mG_sG, if_pos rfl, b4 q hq]
      · show cc_G (cc_sG sc 1 5 s' (nI w)) 1 5 q = mm_G (mm_sG sm 34 s' (nI w)) 34 q
        rw [cG_sG, if_pos ⟨rfl, rfl⟩, mG_sG, if_pos rfl, b5 q hq]
      · show cc_G (cc_sG sc 1 6 s' (nI u)) 1 6 q = mm_G (mm_sG sm 35 s' (nI u)) 35 q
        rw [cG_sG, if_pos ⟨rfl, rfl⟩, mG_sG, if_pos rfl, b6 q hq]
      · rw [mG_sI, mG_sG, if_neg (by omega), mG_sG, if_neg (by omega), mG_sG, if_neg (by omega)]
      · show mm_I sm 31 + 1 = _
        rw [r5.2, nI_1]
      · show ∃ i', i' < n'' ∧ mm_G (mm_sG sm 33 s' (nI i)) 33 q = nI i'
        have e2 : n'' = n' := (nI_eq_iff (by omega) (by omega)).mp (r1'.2.symm.trans h0)
        subst e2
        rw [mG_sG, if_pos rfl]
        split
        · exact ⟨i, hi, rfl⟩
        · exact (r8' q (by omega)).1
      · show ∃ i', i' ≤ 999 ∧ mm_G (mm_sG sm 34 s' (nI w)) 34 q = nI i'
        rw [mG_sG, if_pos rfl]
        split
        · exact ⟨w, hw, rfl⟩
        · exact (r8' q (by omega)).2.1
      · show ∃ i', i' ≤ 20 ∧ mm_G (mm_sG sm 35 s' (nI u)) 35 q = nI i'
        rw [mG_sG, if_pos rfl]
        split
        · exact ⟨u, hu, rfl⟩
        · exact (r8' q (by omega)).2.2
  · rw [e_isNeed0 h0 hn hx, e_has0 (px_go h.1 (by decide)) h9 hx, bn_some, bn_some, if_pos rfl, if_pos rfl]
    exact Eq2_same h rfl rfl
