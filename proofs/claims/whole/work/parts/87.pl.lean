/-! plan, ends -/
def Y3 (sc s : cc_S) : Prop := (∀ i, i ≠ 3 → (∀ k, cc_I s i k = cc_I sc i k) ∧ (∀ k j, cc_G s i k j = cc_G sc i k j) ∧ (∀ k j, cc_J s i k j = cc_J sc i k j) ∧ ∀ k j, cc_P s i k j = cc_P sc i k j) ∧ ∀ d, d < 9 → cc_J s 3 200 d = cc_J sc 3 200 d
theorem Y3_rf {sc : cc_S} : Y3 sc sc := ⟨fun _ _ => ⟨fun _ => rfl, fun _ _ => rfl, fun _ _ => rfl, fun _ _ => rfl⟩, fun _ _ => rfl⟩
theorem Y3_tr {a b c : cc_S} (h : Y3 a b) (h2 : Y3 b c) : Y3 a c := ⟨fun i hi => ⟨fun k => ((h2.1 i hi).1 k).trans ((h.1 i hi).1 k), fun k j => ((h2.1 i hi).2.1 k j).trans ((h.1 i hi).2.1 k j), fun k j => ((h2.1 i hi).2.2.1 k j).trans ((h.1 i hi).2.2.1 k j), fun k j => ((h2.1 i hi).2.2.2 k j).trans ((h.1 i hi).2.2.2 k j)⟩, fun d hd => (h2.2 d hd).trans (h.2 d hd)⟩
theorem Y3_I {a b : cc_S} {k : Nat} {v : Int32} (h : Y3 a b) : Y3 a (cc_sI b 3 k v) := Y3_tr h ⟨fun i hi => ⟨fun q => by rw [cI_sI, if_neg (fun e => hi e.1)], fun _ _ => rfl, fun _ _ => rfl, fun _ _ => rfl⟩, fun _ _ => rfl⟩
theorem Y3_G {a b : cc_S} {k j : Nat} {v : Int32} (h : Y3 a b) : Y3 a (cc_sG b 3 k j v) := Y3_tr h ⟨fun i hi => ⟨fun _ => rfl, fun q r => by rw [cG_sG, if_neg (fun e => hi e.1)], fun _ _ => rfl, fun _ _ => rfl⟩, fun _ _ => rfl⟩
theorem Y3_J {a b : cc_S} {k j : Nat} {v : Int64} (h : Y3 a b) (hk : k ≠ 200) : Y3 a (cc_sJ b 3 k j v) := Y3_tr h ⟨fun i hi => ⟨fun _ => rfl, fun _ _ => rfl, fun q r => by rw [cJ_sJ, if_neg (fun e => hi e.1)], fun _ _ => rfl⟩, fun d hd => by rw [cJ_sJ, if_neg (fun e => hk e.2.symm)]⟩
theorem Rel_3 {X : cc_X} {T : Nat → Nat} {sm : mm_S} {sc s : cc_S} (h : Rel X T sm sc) (hy : Y3 sc s) : Rel X T sm s := by
  refine Rel_up Om_rf (fun i h1 h3 => hy.1 i h3) h (fun A hp => ?_) hy.2
  exact PS_cong Ar_rf (fun y hy' => ⟨(hy.1 y (by omega)).1, (hy.1 y (by omega)).2.1⟩) (hy.1 1 (by decide)).1 (hy.1 1 (by decide)).2.1 (hy.1 1 (by decide)).2.2.2 (fun _ _ => rfl) (fun _ _ => rfl) hp
theorem e_place {X : cc_X} {fu t d i : Nat} {s : cc_S} : C_X10_place X fu (nI t) (nI d) (nI i) s = some (nI ((t * 9 + d) * 6 + i), s) := by
  unfold C_X10_place
  rw [show (9 : Int32) = nI 9 from rfl, show (6 : Int32) = nI 6 from rfl, nI_mul, nI_add, nI_mul, nI_add]
theorem yr_ga {X : cc_X} (hX : px_X X) {k t a : Nat} {j : Int32} (hk : (k = 0 ∧ t = 1 ∧ a < 432) ∨ (k = 1 ∧ t = 2 ∧ a < 9) ∨ (k = 2 ∧ t = 5 ∧ a < 9) ∨ (k = 3 ∧ t = 5 ∧ a < 9)) (hj : j = nI a) : cc_ga X 3 k t j = true := by
  rcases hk with ⟨rfl, rfl, ha⟩ | ⟨rfl, rfl, ha⟩ | ⟨rfl, rfl, ha⟩ | ⟨rfl, rfl, ha⟩
  · exact px_ga hX (c := 12) (by decide) (by decide) rfl hj ha (by decide)
  · exact px_ga hX (c := 12) (by decide) (by decide) rfl hj ha (by decide)
  · exact px_ga hX (c := 12) (by decide) (by decide) rfl hj ha (by decide)
  · exact px_ga hX (c := 12) (by decide) (by decide) rfl hj ha (by decide)
theorem yr_gr {X : cc_X} (hX : px_X X) {q r a : Nat} {j : Int32} (hq : q = 2 ∨ q = 3) (hr : r < 9) (ha : a < 9) (hj : j = nI a) : cc_ga X 3 (100 * q + r) 2 j = true := by
  refine px_ga hX (c := 12) (a := a) (by decide) ?_ ?_ hj ?_ ?_
  · have : ∀ q r, (q = 2 ∨ q = 3) → r < 9 → (3, 100 * q + r) ∈ px_r := by
      intro q r hq hr
      have hr' : r = 0 ∨ r = 1 ∨ r = 2 ∨ r = 3 ∨ r = 4 ∨ r = 5 ∨ r = 6 ∨ r = 7 ∨ r = 8 := by omega
      rcases hq with rfl | rfl <;> rcases hr' with rfl | rfl | rfl | rfl | rfl | rfl | rfl | rfl | rfl <;> decide
    exact this q r hq hr
  · unfold cc_ak
    rw [if_pos ⟨rfl, by omega⟩]
  · unfold cc_al
    rw [if_pos ⟨rfl, by omega⟩]
    exact ha
  · unfold cc_al
    rw [if_pos ⟨rfl, by omega⟩]
    decide
/-- what was looked at -/
def Lk (sm : mm_S) (N y n D : Nat) (s : cc_S) : Prop := (cc_I s 3 4 = nI N ∧ cc_I s 3 5 = nI D ∧ cc_I s 3 6 = keepv sm ∧ cc_I s 3 7 = nI n) ∧ (∀ k, k ≤ n → cc_J s 3 1 k = lN (N ^ k)) ∧ ∀ t d i, t < n → 1 ≤ d → d ≤ D → i < N → cc_G s 3 0 ((t * 9 + d) * 6 + i) = worthv sm (nI i) (nI (y + t)) (nI d)
theorem h_look {X : cc_X} {T : Nat → Nat} {sm : mm_S} {sc : cc_S} {fu N y n D : Nat} (hfu : 700 < fu) (h : Rel X T sm sc) (h0 : mm_I sm 0 = nI N) (hN : N ≤ 6) (h3 : mm_I sm 3 = nI y) (hy : y ≤ 9999) (hn : n ≤ 8) (hD : D ≤ 8) : fc_ok (C_X10_look X fu 3 1 (nI n) (nI D) sc) (fun s => Lk sm N y n D s ∧ Y3 sc s) := by
  have go1 : cc_go X 1 [9] = true := px_go h.1 (by decide)
  have go3 : cc_go X 3 [12] = true := px_go h.1 (by decide)
  have c9 : ∀ {s}, Y3 sc s → cc_I s 1 9 = nI N := fun hs => (((hs.1 1 (by decide)).1 9).trans (Rel_I h).1).trans h0
  have c15 : ∀ {s}, Y3 sc s → cc_I s 1 15 = nI y := fun hs => (((hs.1 1 (by decide)).1 15).trans (Rel_I h).2.2.2.1).trans h3
  unfold C_X10_look
  rw [go1, go3]
  simp only [gd_true, nm_eq]
  rw [c9 Y3_rf, Rel_k (Rel_3 h (Y3_I (Y3_I Y3_rf))), bn_some, yr_ga h.1 (k := 1) (t := 2) (a := 0) (j := 0) (by omega) rfl, gd_true, show (0 : Int32).toNatClampNeg = 0 from rfl]
  generalize hs1 : cc_sJ (cc_sI (cc_sI (cc_sI (cc_sI sc 3 4 (nI N)) 3 5 (nI D)) 3 6 (keepv sm)) 3 7 (nI n)) 3 1 0 1 = s1
  have hI1 : cc_I s1 3 4 = nI N ∧ cc_I s1 3 5 = nI D ∧ cc_I s1 3 6 = keepv sm ∧ cc_I s1 3 7 = nI n := by
    rw [← hs1]
    exact ⟨rfl, rfl, rfl, rfl⟩
  have hJ1 : cc_J s1 3 1 0 = lN (N ^ 0) := by
    rw [← hs1, cJ_sJ, if_pos ⟨rfl, rfl⟩, if_pos rfl]
    rfl
  have hY1 : Y3 sc s1 := by
    rw [← hs1]
    exact Y3_J (Y3_I (Y3_I (Y3_I (Y3_I Y3_rf)))) (by decide)
  clear hs1
  unfold C_X10_look_b36
  refine ok_lp (fun z => ∃ k s, 1 ≤ k ∧ k ≤ n + 1 ∧ z = (3, 1, nI n, nI D, nI k, s) ∧ (cc_I s 3 4 = nI N ∧ cc_I s 3 5 = nI D ∧ cc_I s 3 6 = keepv sm ∧ cc_I s 3 7 = nI n) ∧ (∀ q, q < k → cc_J s 3 1 q = lN (N ^ q)) ∧ Y3 sc s) (fun z => n + 1 - z.2.2.2.2.1.toNatClampNeg) _ ?_ fu _ ⟨1, s1, by omega, by omega, rfl, hI1, fun q hq => by rw [show q = 0 by omega]; exact hJ1, hY1⟩ (by show n + 1 - _ < fu; omega)
  rintro z K ⟨k, s, hk1, hkn, rfl, sI, sJ, sY⟩ hK
  show fc_ok (C_X10_look_b36F X fu (fun x0 x1 x2 x3 x4 st => K (x0, x1, x2, x3, x4, st)) _ _ _ _ _ _) _
  unfold C_X10_look_b36F
  refine ok_if.mpr ⟨fun hlt => ?_, fun hlt => ?_⟩
  rotate_left
  · have hle : k ≤ n := Nat.not_lt.mp (fun q => hlt ((nI_lt_iff (by omega) (by omega)).mpr q))
    obtain ⟨k', rfl⟩ : ∃ k', k = k' + 1 := ⟨k - 1, by omega⟩
    rw [nI_pred, yr_ga h.1 (k := 1) (t := 2) (a := k') (j := nI k') (by omega) rfl, yr_ga h.1 (k := 1) (t := 2) (a := k' + 1) (j := nI (k' + 1)) (by omega) rfl, go3, sI.1, nI_clamp (show k' < 2 ^ 31 by omega), nI_clamp (show k' + 1 < 2 ^ 31 by omega), sJ k' (by omega), nI_l (show N < 2 ^ 31 by omega), lN_mul, nI_1]
    simp only [gd_true, nm_eq]
    refine hK _ ⟨k' + 1 + 1, _, by omega, by omega, rfl, sI, fun q hq => ?_, Y3_J sY (by decide)⟩ ?_
    · rw [cJ_sJ, if_pos ⟨rfl, rfl⟩]
      by_cases hqk : q = k' + 1
      · rw [if_pos hqk, hqk, Nat.pow_succ]
      · rw [if_neg hqk]
        exact sJ q (by omega)
    · show n + 1 - (nI (k' + 1 + 1)).toNatClampNeg < n + 1 - (nI (k' + 1)).toNatClampNeg
      rw [nI_clamp (by omega), nI_clamp (by omega)]
      omega
  have hkn' := (nI_lt_iff (by omega) (by omega)).mp hlt
  have hk : k = n + 1 := by omega
  subst hk
  clear hK hlt
  unfold C_X10_look_b73
  refine ok_lp (fun z => ∃ t s', t ≤ n ∧ z = (3, 1, nI n, nI D, nI t, s') ∧ (cc_I s' 3 4 = nI N ∧ cc_I s' 3 5 = nI D ∧ cc_I s' 3 6 = keepv sm ∧ cc_I s' 3 7 = nI n) ∧ (∀ q, q ≤ n → cc_J s' 3 1 q = lN (N ^ q)) ∧ (∀ t' d i, t' < t → 1 ≤ d → d ≤ D → i < N → cc_G s' 3 0 ((t' * 9 + d) * 6 + i) = worthv sm (nI i) (nI (y + t')) (nI d)) ∧ Y3 sc s') (fun z => n - z.2.2.2.2.1.toNatClampNeg) _ ?_ fu _ ⟨0, s, by omega, rfl, sI, fun q hq => sJ q (by omega), fun t' d i ht' => absurd ht' (Nat.not_lt_zero _), sY⟩ (by show n - _ < fu; omega)
  rintro z K73 ⟨t, s2, htn, rfl, tI, tJ, tG, tY⟩ hK73
  show fc_ok (C_X10_look_b73F X fu (fun x0 x1 x2 x3 x4 st => K73 (x0, x1, x2, x3, x4, st)) _ _ _ _ _ _) _
  unfold C_X10_look_b73F
  refine ok_if.mpr ⟨fun hle => ?_, fun hle => ?_⟩
  · have hle := (nI_le_iff (by omega) (by omega)).mp hle
    have : t = n := by omega
    subst this
    exact ok_some.mpr ⟨⟨tI, tJ, tG⟩, tY⟩
  have htl : t < n := Nat.not_le.mp (fun q => hle ((nI_le_iff (by omega) (by omega)).mpr q))
  unfold C_X10_look_b82
  refine ok_lp (fun z => ∃ d s', 1 ≤ d ∧ d ≤ D + 1 ∧ z = (3, 1, nI n, nI D, nI t, nI d, s') ∧ (cc_I s' 3 4 = nI N ∧ cc_I s' 3 5 = nI D ∧ cc_I s' 3 6 = keepv sm ∧ cc_I s' 3 7 = nI n) ∧ (∀ q, q ≤ n → cc_J s' 3 1 q = lN (N ^ q)) ∧ (∀ t' d' i, t' < t ∨ (t' = t ∧ d' < d) → 1 ≤ d' → d' ≤ D → i < N → cc_G s' 3 0 ((t' * 9 + d') * 6 + i) = worthv sm (nI i) (nI (y + t')) (nI d')) ∧ Y3 sc s') (fun z => D + 1 - z.2.2.2.2.2.1.toNatClampNeg) _ ?_ fu _ ⟨1, s2, by omega, by omega, rfl, tI, tJ, fun t' d' i hd h1 => tG t' d' i (by omega) h1, tY⟩ (by show D + 1 - _ < fu; omega)
  rintro z K82 ⟨d, s3, hd1, hdD, rfl, uI, uJ, uG, uY⟩ hK82
  show fc_ok (C_X10_look_b82F X fu (fun x0 x1 x2 x3 x4 st => K73 (x0, x1, x2, x3, x4, st)) (fun x0 x1 x2 x3 x4 x5 st => K82 (x0, x1, x2, x3, x4, x5, st)) _ _ _ _ _ _ _) _
  unfold C_X10_look_b82F
  refine ok_if.mpr ⟨fun hlt => ?_, fun hlt => ?_⟩
  · have hlt := (nI_lt_iff (by omega) (by omega)).mp hlt
    have : d = D + 1 := by omega
    subst this
    rw [nm_eq, nI_1]
    refine hK73 _ ⟨t + 1, s3, by omega, rfl, uI, uJ, fun t' d' i ht' h1 h2 => uG t' d' i (by omega) h1 h2, uY⟩ ?_
    show n - (nI (t + 1)).toNatClampNeg < n - (nI t).toNatClampNeg
    rw [nI_clamp (by omega), nI_clamp (by omega)]
    omega
  have hdl : d ≤ D := Nat.not_lt.mp (fun q => hlt ((nI_lt_iff (by omega) (by omega)).mpr q))
  unfold C_X10_look_b91
  refine ok_lp (fun z => ∃ i s', i ≤ N ∧ z = (3, 1, nI n, nI D, nI t, nI d, nI i, s') ∧ (cc_I s' 3 4 = nI N ∧ cc_I s' 3 5 = nI D ∧ cc_I s' 3 6 = keepv sm ∧ cc_I s' 3 7 = nI n) ∧ (∀ q, q ≤ n → cc_J s' 3 1 q = lN (N ^ q)) ∧ (∀ t' d' i', t' < t ∨ (t' = t ∧ d' < d) ∨ (t' = t ∧ d' = d ∧ i' < i) → 1 ≤ d' → d' ≤ D → i' < N → cc_G s' 3 0 ((t' * 9 + d') * 6 + i') = worthv sm (nI i') (nI (y + t')) (nI d')) ∧ Y3 sc s') (fun z => N - z.2.2.2.2.2.2.1.toNatClampNeg) _ ?_ fu _ ⟨0, s3, by omega, rfl, uI, uJ, fun t' d' i hd h1 => uG t' d' i (by omega) h1, uY⟩ (by show N - _ < fu; omega)
  rintro z K91 ⟨i, s4, hiN, rfl, vI, vJ, vG, vY⟩ hK91
  show fc_ok (C_X10_look_b91F X fu (fun x0 x1 x2 x3 x4 st => K73 (x0, x1, x2, x3, x4, st)) (fun x0 x1 x2 x3 x4 x5 st => K82 (x0, x1, x2, x3, x4, x5, st)) (fun x0 x1 x2 x3 x4 x5 x6 st => K91 (x0, x1, x2, x3, x4, x5, x6, st)) _ _ _ _ _ _ _ _) _
  unfold C_X10_look_b91F
  rw [go3, gd_true, vI.1]
  refine ok_if.mpr ⟨fun hle => ?_, fun hle => ?_⟩
  · have hle := (nI_le_iff (by omega) (by omega)).mp hle
    have : i = N := by omega
    subst this
    rw [nm_eq, nI_1]
    refine hK82 _ ⟨d + 1, s4, by omega, by omega, rfl, vI, vJ, fun t' d' i' hd h1 h2 h3 => vG t' d' i' (by omega) h1 h2 h3, vY⟩ ?_
    show D + 1 - (nI (d + 1)).toNatClampNeg < D + 1 - (nI d).toNatClampNeg
    rw [nI_clamp (by omega), nI_clamp (by omega)]
    omega
  have hil : i < N := Nat.not_le.mp (fun q => hle ((nI_le_iff (by omega) (by omega)).mpr q))
  rw [e_place, bn_some, go1, gd_true, c15 vY, nI_add, Rel_w hfu (Rel_3 h vY) h0 hN hil (by omega), bn_some, yr_ga h.1 (k := 0) (t := 1) (a := (t * 9 + d) * 6 + i) (by omega) rfl, gd_true, nI_clamp (show (t * 9 + d) * 6 + i < 2 ^ 31 by omega), nm_eq, nm_eq, nI_1]
  refine hK91 _ ⟨i + 1, _, by omega, rfl, vI, vJ, fun t' d' i' hd h1 h2 h3 => ?_, Y3_G vY⟩ ?_
  · rw [cG_sG, if_pos ⟨rfl, rfl⟩]
    by_cases he : (t' * 9 + d') * 6 + i' = (t * 9 + d) * 6 + i
    · rw [if_pos he]
      have e1 : i' = i := by omega
      have e2 : t' = t := by omega
      have e3 : d' = d := by omega
      rw [e1, e2, e3]
    · rw [if_neg he]
      exact vG t' d' i' (by omega) h1 h2 h3
  · show N - (nI (i + 1)).toNatClampNeg < N - (nI i).toNatClampNeg
    rw [nI_clamp (by omega), nI_clamp (by omega)]
    omega
