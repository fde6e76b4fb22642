/-! serve, spare, row -/
theorem n10 : ¬ (1 : Int32) = 0 := by decide
theorem keepv_c {a b : mm_S} (h9 : mm_I b 9 = mm_I a 9) (h : Ar a b) : keepv b = keepv a := by
  unfold keepv
  rw [h9, show mm_G b 14 = mm_G a 14 from funext fun j => h 14 j (by decide) (by decide), show mm_G b 15 = mm_G a 15 from funext fun j => h 15 j (by decide) (by decide), show mm_G b 16 = mm_G a 16 from funext fun j => h 16 j (by decide) (by decide)]
theorem Rel_K2 {X : cc_X} {T : Nat → Nat} {sm st : mm_S} {sc : cc_S} {fu : Nat} (hfu : 700 < fu) (h : Rel X T sm sc) (h9 : mm_I st 9 = mm_I sm 9) (ha : Ar sm st) : M_keep fu st = some (keepv sm, st) := by
  rw [← keepv_c h9 ha]
  refine h_keep fu hfu ?_ mq_rf
  rw [h9]
  exact AO_MAr (AO_mv ha Hi_rf rfl (Rel_A h))
theorem Rel_k2 {X : cc_X} {T : Nat → Nat} {sm : mm_S} {sc st : cc_S} {fu : Nat} (h : Rel X T sm sc) (hc : Hi sc st) (hP : cc_P st 1 16 0 = cc_P sc 1 16 0) : C_X7_keepCost X fu 1 st = some (keepv sm, st) := h_ckeep h.1 (AO_mv Ar_rf hc hP (Rel_A h))
def heldv (x : Int32) : Int32 := if x ≤ 999999 then (if -999999 ≤ x then x else -999999) else 999999
theorem e_held {fu : Nat} {x : Int32} {st : mm_S} : M_held fu x st = some (heldv x, st) := by
  unfold M_held heldv
  split
  · split <;> rfl
  · rfl
theorem held_c (x : Int32) : (if (-999999 : Int32) < (if x < (999999 : Int32) then x else (999999 : Int32)) then (if x < (999999 : Int32) then x else (999999 : Int32)) else (-999999 : Int32)) = heldv x := by
  have e1 : (999999 : Int32).toInt = 999999 := rfl
  have e2 : (-999999 : Int32).toInt = -999999 := rfl
  unfold heldv
  by_cases h : x < 999999
  · have h1 : x ≤ 999999 := Int32.le_of_lt h
    rw [if_pos h, if_pos h1]
    by_cases h2 : (-999999 : Int32) < x
    · rw [if_pos h2, if_pos (Int32.le_of_lt h2)]
    · rw [if_neg h2]
      by_cases h3 : (-999999 : Int32) ≤ x
      · rw [if_pos h3]
        rw [Int32.lt_iff_toInt_lt] at h2
        rw [Int32.le_iff_toInt_le] at h3
        exact Int32.toInt_inj.mp (by omega)
      · rw [if_neg h3]
  · rw [if_neg h, if_pos (by decide)]
    by_cases h1 : x ≤ 999999
    · rw [if_pos h1]
      rw [Int32.lt_iff_toInt_lt] at h
      rw [Int32.le_iff_toInt_le] at h1
      have e : x = 999999 := Int32.toInt_inj.mp (by omega)
      rw [e]
      rfl
    · rw [if_neg h1]
theorem e_endYear {X : cc_X} {T : Nat → Nat} {sm : mm_S} {sc st : cc_S} {fu : Nat} {won : Int32} (h : Rel X T sm sc) (hc : Hi sc st) (hP : cc_P st 1 16 0 = cc_P sc 1 16 0) : C_X7_endYear X fu 1 won st = some (heldv (cc_I st 1 14 + won - keepv sm * cc_I st 1 13), cc_sI (cc_sI st 1 14 (heldv (cc_I st 1 14 + won - keepv sm * cc_I st 1 13))) 1 15 (cc_I st 1 15 + 1)) := by
  unfold C_X7_endYear
  rw [px_go h.1 (by decide), gd_true, Rel_k2 h hc hP, bn_some]
  simp only [nm_eq, held_c]
  rfl
/-- a YEAR gone: what is alike behind it -/
theorem PS_year {X : cc_X} {sm sm' : mm_S} {sc sc' : cc_S} {A : Nat} (hm : Om sm sm') (hc : Oc sc sc') {g : Int32} {dd n y : Nat}
    (eI : ∀ k, k ≠ 1 → k ≠ 2 → k ≠ 3 → mm_I sm' k = mm_I sm k ∨ k = 27) (e2 : mm_I sm' 2 = g) (e3 : mm_I sm' 3 = nI (y + 1)) (e1 : mm_I sm' 1 = nI dd) (eG : ∀ k, k ≠ 6 → k ≠ 25 → mm_G sm' k = mm_G sm k)
    (cI : ∀ k, k ≠ 13 → k ≠ 14 → k ≠ 15 → cc_I sc' 1 k = cc_I sc 1 k) (c14 : cc_I sc' 1 14 = g) (c15 : cc_I sc' 1 15 = nI (y + 1)) (c13 : cc_I sc' 1 13 = nI dd) (cG : ∀ k, k ≠ 1 → ∀ a, cc_G sc' 1 k a = cc_G sc 1 k a) (cP : ∀ k a, cc_P sc' 1 k a = cc_P sc 1 k a)
    (hdd : dd ≤ 8) (hy : y + 1 ≤ 9999) (hsv : ∀ k, k < 6 → cc_G sc' 1 1 k = mm_G sm' 6 k) (h0 : mm_I sm 0 = nI n) (hn : n ≤ 6) (hs2 : ∀ k, k < 6 → ∃ w, w ≤ 9999 ∧ mm_G sm' 6 k = nI w ∧ (n ≤ k → w = 0))
    (h : PS X sm sc A 1 (mm_I sm) (mm_G sm)) : PS X sm' sc' A 1 (mm_I sm') (mm_G sm') := by
  have fI : ∀ k, k = 0 ∨ k = 9 ∨ k = 29 ∨ k = 31 ∨ k = 32 → mm_I sm' k = mm_I sm k := fun k hk => (eI k (by omega) (by omega) (by omega)).resolve_right (by omega)
  obtain ⟨⟨a1, a2, a3, a4, a5, a6, a7⟩, ⟨b1, b2, b3, b4, b5, b6, b7, b8⟩, h3, h4, n', d, y', c, s, b, r1, r2, r3, r4, r5, r6, r7, r8, r9, r10, r11⟩ := h
  refine ⟨⟨?_, ?_, ?_, ?_, ?_, ?_, ?_⟩, ⟨?_, ?_, ?_, ?_, ?_, ?_, ?_, ?_⟩, ?_, ?_, n', dd, y + 1, c, s, b, ⟨r1.1, ?_⟩, ⟨hdd, e1⟩, ⟨hy, e3⟩, ⟨r4.1, ?_⟩, ⟨r5.1, ?_⟩, ⟨r6.1, ?_⟩, ?_, ?_, ?_, ?_, ?_⟩
  · rw [cI 9 (by decide) (by decide) (by decide), fI 0 (by simp)]; exact a1
  · rw [c13, e1]
  · rw [c14, e2]
  · rw [c15, e3]
  · rw [cI 10 (by decide) (by decide) (by decide), fI 29 (by simp)]; exact a5
  · rw [cI 11 (by decide) (by decide) (by decide), fI 31 (by simp)]; exact a6
  · rw [cI 12 (by decide) (by decide) (by decide), fI 32 (by simp)]; exact a7
  · exact hsv
  · intro j hj; rw [cG 2 (by decide), eG 7 (by decide) (by decide)]; exact b2 j hj
  · intro j hj; rw [cG 3 (by decide), eG 30 (by decide) (by decide)]; exact b3 j hj
  · intro j hj; rw [cG 4 (by decide), eG 33 (by decide) (by decide)]; exact b4 j hj
  · intro j hj; rw [cG 5 (by decide), eG 34 (by decide) (by decide)]; exact b5 j hj
  · intro j hj; rw [cG 6 (by decide), eG 35 (by decide) (by decide)]; exact b6 j hj
  · intro j hj; rw [cG 7 (by decide), eG 36 (by decide) (by decide)]; exact b7 j hj
  · intro j hj; rw [cG 8 (by decide), eG 37 (by decide) (by decide)]; exact b8 j hj
  · exact PN_mv (Oc_Hi hc) (fun k => cP 0 k) (fI 0 (by simp)) (fun k => by rw [eG 4 (by decide) (by decide)]) (fun k => by rw [eG 5 (by decide) (by decide)]) h3
  · rw [fI 9 (by simp)]
    exact PA_mv (Om_Ar hm) (Oc_Hi hc) (cP 16 0) h4
  · rw [fI 0 (by simp)]; exact r1.2
  · rw [fI 29 (by simp)]; exact r4.2
  · rw [fI 31 (by simp)]; exact r5.2
  · rw [fI 32 (by simp)]; exact r6.2
  · rw [eG 30 (by decide) (by decide)]; exact r7
  · rw [eG 33 (by decide) (by decide), eG 34 (by decide) (by decide), eG 35 (by decide) (by decide)]; exact r8
  · rw [eG 36 (by decide) (by decide)]; exact r9
  · have e : n' = n := (nI_eq_iff (by omega) (by omega)).mp (r1.2.symm.trans h0)
    rw [e]; exact hs2
  · rw [eG 7 (by decide) (by decide)]; exact r11
theorem q_spare {X : cc_X} {T : Nat → Nat} {sm : mm_S} {sc : cc_S} {fu : Nat} (hfu : 700 < fu) (h : Rel X T sm sc) (x : Int32) : Eq2 X T (M_spare fu x sm) (C_X11_spare X fu 0 x sc) := by
  obtain ⟨n, hn, h0, h9, hk⟩ := Rel_n h
  obtain ⟨i9, i13, i14, i15, -⟩ := Rel_I h
  obtain ⟨n', d, y, -, -, -, r1, r2, r3, -, -, -, -, -, -, r10, -⟩ := Rel_R h
  have e : n' = n := (nI_eq_iff (by omega) (by omega)).mp (r1.2.symm.trans h0)
  subst e
  unfold M_spare C_X11_spare
  rw [px_go h.1 (by decide), px_go h.1 (by decide), gd_true, gd_true]
  rcases need_cases x hn with ⟨i, hi, rfl⟩ | hx
  · rw [e_isNeed1 h0 hi hn, e_has1 (px_go h.1 (by decide)) h9 hi hn, bn_some, bn_some, if_neg n10, if_neg n10, i15, r3.2]
    by_cases hy : y = 9999
    · subst hy
      rw [if_pos (show nI 9999 = 9999 from rfl), if_neg (show ¬ nI 9999 < 9999 by decide)]
      exact Eq2_same h rfl rfl
    · rw [if_neg (show ¬ nI y = 9999 from fun e => hy ((nI_eq_iff (b := 9999) (by omega) (by omega)).mp e)), if_pos (show nI y < 9999 from (nI_lt_iff (b := 9999) (by omega) (by omega)).mpr (by omega)), Rel_K hfu h mq_rf, bn_some, e_held, bn_some, e_endYear h Hi_rf rfl, bn_some, i13, i14, i15, Int32.add_zero]
      simp only [nm_eq]
      refine ⟨_, _, _, rfl, rfl, Rel_up (Om_I (Om_I Om_rf (by omega)) (by omega)) (Oc_I (Oc_I Oc_rf (by simp)) (by simp)) h (fun A hp => PS_year (dd := d) (n := n') (y := y) (Om_I (Om_I Om_rf (by omega)) (by omega)) (Oc_I (Oc_I Oc_rf (by simp)) (by simp)) ?_ rfl ?_ ?_ ?_ ?_ rfl ?_ ?_ ?_ ?_ r2.1 (by omega) ?_ h0 hn ?_ hp)⟩
      · intro k h1 h2 h3
        left
        rw [mI_sI, if_neg h3, mI_sI, if_neg h2]
      · show mm_I sm 3 + 1 = _
        rw [r3.2, nI_1]
      · exact r2.2
      · intro k h1 h2
        rfl
      · intro k h1 h2 h3
        rw [cI_sI, if_neg (by omega), cI_sI, if_neg (by omega)]
      · show mm_I sm 3 + 1 = _
        rw [r3.2, nI_1]
      · show cc_I sc 1 13 = _
        rw [i13]; exact r2.2
      · intro k h1 a
        rfl
      · intro k a
        rfl
      · exact (Rel_G h).1
      · exact r10
  · rw [e_isNeed0 h0 hn hx, e_has0 (px_go h.1 (by decide)) h9 hx, bn_some, bn_some, if_pos rfl, if_pos rfl]
    exact Eq2_same h rfl rfl
theorem q_serve {X : cc_X} {T : Nat → Nat} {sm : mm_S} {sc : cc_S} {fu : Nat} (hfu : 700 < fu) (h : Rel X T sm sc) (x : Int32) : Eq2 X T (M_serve fu x sm) (C_X11_serve X fu 0 x sc) := by
  obtain ⟨n, hn, h0, h9, hk⟩ := Rel_n h
  obtain ⟨i9, i13, i14, i15, -⟩ := Rel_I h
  obtain ⟨n', d, y, -, -, -, r1, r2, r3, -, -, -, -, -, -, r10, -⟩ := Rel_R h
  have e : n' = n := (nI_eq_iff (by omega) (by omega)).mp (r1.2.symm.trans h0)
  subst e
  unfold M_serve C_X11_serve
  rw [px_go h.1 (by decide), px_go h.1 (by decide), gd_true, gd_true]
  rcases need_cases x hn with ⟨i, hi, rfl⟩ | hx
  · rw [e_isNeed1 h0 hi hn, e_has1 (px_go h.1 (by decide)) h9 hi hn, bn_some, bn_some, if_neg n10, if_neg n10, i15, r3.2, i13, r2.2]
    by_cases hd : d = 0
    · subst hd
      rw [if_pos (show nI 0 = 0 from rfl), if_pos (show nI 0 < 1 by decide)]
      exact Eq2_same h rfl rfl
    rw [if_neg (show ¬ nI d = 0 from fun e => hd ((nI_eq_iff (b := 0) (by omega) (by omega)).mp e)), if_neg (show ¬ nI d < 1 from fun e => hd (by have := (nI_lt_iff (b := 1) (by omega) (by omega)).mp e; omega))]
    by_cases hy : y = 9999
    · subst hy
      rw [if_pos (show nI 9999 = 9999 from rfl), if_pos (show (9999 : Int32) ≤ nI 9999 by decide)]
      exact Eq2_same h rfl rfl
    rw [if_neg (show ¬ nI y = 9999 from fun e => hy ((nI_eq_iff (b := 9999) (by omega) (by omega)).mp e)), if_neg (show ¬ (9999 : Int32) ≤ nI y from fun e => hy (by have := (nI_le_iff (a := 9999) (by omega) (by omega)).mp e; omega))]
    have gi : cc_ga X 1 1 1 (nI i) = true := px_ga h.1 (c := 9) (i := 1) (k := 1) (t := 1) (a := i) (by decide) (by decide) rfl rfl (by show i < 6; omega) (by decide)
    obtain ⟨w, hw, ew, hwn⟩ := r10 i (by omega)
    have ei : (nI i).toNatClampNeg = i := nI_clamp (by omega)
    rw [gi, gd_true, nI_ix (by omega) (by decide), gd_true, ei, (Rel_G h).1 i (by omega), ew]
    by_cases hw9 : w = 9999
    · subst hw9
      rw [if_pos (show nI 9999 = 9999 from rfl), if_neg (show ¬ nI 9999 < 9999 by decide)]
      exact Eq2_same h rfl rfl
    rw [if_neg (show ¬ nI w = 9999 from fun e => hw9 ((nI_eq_iff (b := 9999) (by omega) (by omega)).mp e)), if_pos (show nI w < 9999 from (nI_lt_iff (b := 9999) (by omega) (by omega)).mpr (by omega)), Rel_w hfu h h0 hn hi (by omega), bn_some]
    obtain ⟨⟨rr, s9⟩, ew1, ew2, hq⟩ := Rel_W hfu h mq_rf hn hi (d := nI d) (y := y) (by omega)
    obtain rfl : rr = worthv sm (nI i) (nI y) (nI d) := ew2
    have hq : mq sm s9 := hq
    rw [ew1, bn_some]
    simp only [nm_eq, gd_true]
    have ha : Ar sm (mm_sG (mm_sI s9 1 (mm_I s9 1 - 1)) 6 i (mm_G (mm_sI s9 1 (mm_I s9 1 - 1)) 6 i + 1)) := fun k j h1 h2 => by
      rw [mG_sG, if_neg (by omega)]
      exact hq.2.1 k j (by omega)
    have hom : Om sm (mm_sG (mm_sI s9 1 (mm_I s9 1 - 1)) 6 i (mm_G (mm_sI s9 1 (mm_I s9 1 - 1)) 6 i + 1)) := Om_G (Om_I (Om_q hq) (by omega)) (by omega)
    have hoc : Oc sc (cc_sG (cc_sI sc 1 13 (cc_I sc 1 13 - 1)) 1 1 i (cc_G (cc_sI sc 1 13 (cc_I sc 1 13 - 1)) 1 1 i + 1)) := Oc_G (Oc_I Oc_rf (by simp)) (by simp)
    have e6 : mm_G s9 6 = mm_G sm 6 := mq_Gf hq (by decide)
    have e1 : mm_I s9 1 = nI d := (hq.1 1 (by decide)).trans r2.2
    have e2 : mm_I s9 2 = mm_I sm 2 := hq.1 2 (by decide)
    have e3 : mm_I s9 3 = nI y := (hq.1 3 (by decide)).trans r3.2
    obtain ⟨d', rfl⟩ : ∃ k, d = k + 1 := ⟨d - 1, by omega⟩
    rw [Rel_K2 hfu h (show mm_I (mm_sG (mm_sI s9 1 (mm_I s9 1 - 1)) 6 i _) 9 = _ from hq.1 9 (by decide)) ha, bn_some, e_held, bn_some, e_endYear h (Oc_Hi hoc) rfl, bn_some]
    have v1 : mm_I (mm_sG (mm_sI s9 1 (mm_I s9 1 - 1)) 6 i (mm_G (mm_sI s9 1 (mm_I s9 1 - 1)) 6 i + 1)) 1 = nI d' := by
      show mm_I s9 1 - 1 = _
      rw [e1, nI_pred]
    have v2 : mm_I (mm_sG (mm_sI s9 1 (mm_I s9 1 - 1)) 6 i (mm_G (mm_sI s9 1 (mm_I s9 1 - 1)) 6 i + 1)) 2 = mm_I sm 2 := e2
    have v3 : mm_I (mm_sG (mm_sI s9 1 (mm_I s9 1 - 1)) 6 i (mm_G (mm_sI s9 1 (mm_I s9 1 - 1)) 6 i + 1)) 3 = nI y := e3
    have u13 : cc_I (cc_sG (cc_sI sc 1 13 (cc_I sc 1 13 - 1)) 1 1 i (cc_G (cc_sI sc 1 13 (cc_I sc 1 13 - 1)) 1 1 i + 1)) 1 13 = nI d' := by
      show cc_I sc 1 13 - 1 = _
      rw [i13, r2.2, nI_pred]
    have u14 : cc_I (cc_sG (cc_sI sc 1 13 (cc_I sc 1 13 - 1)) 1 1 i (cc_G (cc_sI sc 1 13 (cc_I sc 1 13 - 1)) 1 1 i + 1)) 1 14 = mm_I sm 2 := i14
    have u15 : cc_I (cc_sG (cc_sI sc 1 13 (cc_I sc 1 13 - 1)) 1 1 i (cc_G (cc_sI sc 1 13 (cc_I sc 1 13 - 1)) 1 1 i + 1)) 1 15 = nI y := i15.trans r3.2
    have e6v : ∀ k, mm_G (mm_sG (mm_sI s9 1 (mm_I s9 1 - 1)) 6 i (mm_G (mm_sI s9 1 (mm_I s9 1 - 1)) 6 i + 1)) 6 k = if k = i then mm_G sm 6 i + 1 else mm_G sm 6 k := fun k => by
      rw [mG_sG, if_pos rfl, mG_sI, mG_sI, e6]
    have u1v : ∀ k, cc_G (cc_sG (cc_sI sc 1 13 (cc_I sc 1 13 - 1)) 1 1 i (cc_G (cc_sI sc 1 13 (cc_I sc 1 13 - 1)) 1 1 i + 1)) 1 1 k = if k = i then cc_G sc 1 1 i + 1 else cc_G sc 1 1 k := fun k => by
      rw [cG_sG, if_pos ⟨rfl, rfl⟩]
      rfl
    have eI : ∀ k, k ≠ 1 → k ≠ 27 → mm_I (mm_sG (mm_sI s9 1 (mm_I s9 1 - 1)) 6 i (mm_G (mm_sI s9 1 (mm_I s9 1 - 1)) 6 i + 1)) k = mm_I sm k := fun k k1 k2 => by
      rw [mI_sG, mI_sI, if_neg k1]
      exact hq.1 k k2
    have eG : ∀ k, k ≠ 6 → k ≠ 25 → mm_G (mm_sG (mm_sI s9 1 (mm_I s9 1 - 1)) 6 i (mm_G (mm_sI s9 1 (mm_I s9 1 - 1)) 6 i + 1)) k = mm_G sm k := fun k k1 k2 => funext fun j => by
      rw [mG_sG, if_neg k1, mG_sI]
      exact hq.2.1 k j k2
    have cI : ∀ k, k ≠ 13 → cc_I (cc_sG (cc_sI sc 1 13 (cc_I sc 1 13 - 1)) 1 1 i (cc_G (cc_sI sc 1 13 (cc_I sc 1 13 - 1)) 1 1 i + 1)) 1 k = cc_I sc 1 k := fun k k1 => by
      rw [cI_sG, cI_sI, if_neg (by omega)]
    have cG : ∀ k, k ≠ 1 → ∀ a, cc_G (cc_sG (cc_sI sc 1 13 (cc_I sc 1 13 - 1)) 1 1 i (cc_G (cc_sI sc 1 13 (cc_I sc 1 13 - 1)) 1 1 i + 1)) 1 k a = cc_G sc 1 k a := fun k k1 a => by
      rw [cG_sG, if_neg (by omega)]
      rfl
    have cP : ∀ k a, cc_P (cc_sG (cc_sI sc 1 13 (cc_I sc 1 13 - 1)) 1 1 i (cc_G (cc_sI sc 1 13 (cc_I sc 1 13 - 1)) 1 1 i + 1)) 1 k a = cc_P sc 1 k a := fun k a => rfl
    rw [u14, u13, u15]
    generalize hS : mm_sG (mm_sI s9 1 (mm_I s9 1 - 1)) 6 i (mm_G (mm_sI s9 1 (mm_I s9 1 - 1)) 6 i + 1) = S at hom v1 v2 v3 e6v eI eG ⊢
    generalize hC : cc_sG (cc_sI sc 1 13 (cc_I sc 1 13 - 1)) 1 1 i (cc_G (cc_sI sc 1 13 (cc_I sc 1 13 - 1)) 1 1 i + 1) = C at hoc u13 u14 u15 u1v cI cG cP ⊢
    rw [v1, v2]
    refine ⟨_, _, _, rfl, rfl, Rel_up (Om_I (Om_I hom (by omega)) (by omega)) (Oc_I (Oc_I hoc (by simp)) (by simp)) h (fun A hp => PS_year (dd := d') (n := n') (y := y) (Om_I (Om_I hom (by omega)) (by omega)) (Oc_I (Oc_I hoc (by simp)) (by simp)) ?_ rfl ?_ ?_ ?_ ?_ rfl ?_ ?_ ?_ ?_ (by omega) (by omega) ?_ h0 hn ?_ hp) (fun d hd => by rw [← hC]; rfl)⟩
    · intro k k1 k2 k3
      by_cases k27 : k = 27
      · exact Or.inr k27
      · left
        rw [mI_sI, if_neg k3, mI_sI, if_neg k2]
        exact eI k k1 k27
    · show mm_I S 3 + 1 = _
      rw [v3, nI_1]
    · exact v1
    · intro k k1 k2
      exact eG k k1 k2
    · intro k k1 k2 k3
      rw [cI_sI, if_neg (by omega), cI_sI, if_neg (by omega)]
      exact cI k k1
    · exact nI_1 y
    · exact u13
    · intro k k1 a
      exact cG k k1 a
    · intro k a
      exact cP k a
    · intro k hk6
      show cc_G C 1 1 k = mm_G S 6 k
      rw [u1v, e6v]
      have hG := (Rel_G h).1
      split
      · rw [hG i (by omega)]
      · exact hG k hk6
    · intro k hk6
      show ∃ w, w ≤ 9999 ∧ mm_G S 6 k = nI w ∧ _
      rw [e6v]
      split
      · rename_i hki
        subst hki
        exact ⟨w + 1, by omega, by rw [ew, nI_1], fun hh => by omega⟩
      · exact r10 k hk6
  · rw [e_isNeed0 h0 hn hx, e_has0 (px_go h.1 (by decide)) h9 hx, bn_some, bn_some, if_pos rfl, if_pos rfl]
    exact Eq2_same h rfl rfl
