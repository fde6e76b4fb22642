/-! spent: the class's side -/
theorem h_spentC {X : cc_X} {fu N y D K n M : Nat} {sm : mm_S} {s0 : cc_S} (hfu : 700 < fu) (hX : px_X X) (hY : Yq sm N y D K n) (hM : M ≤ 8) (hL0 : Lk sm N y n M s0) (hg0 : ∀ l d, l ≤ n → d ≤ M → cc_J s0 3 (200 + l) d = oL (gtI (wJ sm y) K N n 0 0 l d)) :
    fc_ok (C_X10_waysToSpend X fu 3 (nI n) (nI M) s0) (fun q => q.1 = oL (swI (wJ sm y) K N n n M) ∧ Lk sm N y n M q.2 ∧ Y3 s0 q.2) := by
  have hn := hY.2.2.2.2.2.1
  have hN := hY.2.1.1
  have go : cc_go X 3 [12] = true := px_go hX (by decide)
  -- what stays
  have keepJ : ∀ {s : cc_S} {k j : Nat} {v : Int64}, 300 ≤ k → (∀ l d, l ≤ n → d ≤ M → cc_J s 3 (200 + l) d = oL (gtI (wJ sm y) K N n 0 0 l d)) → ∀ l d, l ≤ n → d ≤ M → cc_J (cc_sJ s 3 k j v) 3 (200 + l) d = oL (gtI (wJ sm y) K N n 0 0 l d) := fun hk hg l d hl hd => by
    rw [cJ_sJ, if_neg (by omega)]
    exact hg l d hl hd
  unfold C_X10_waysToSpend C_X10_waysToSpend_b2
  refine ok_lp (fun z => ∃ d s, d ≤ M + 1 ∧ z = (3, nI n, nI M, nI d, s) ∧ Lk sm N y n M s ∧ Y3 s0 s ∧ (∀ l d, l ≤ n → d ≤ M → cc_J s 3 (200 + l) d = oL (gtI (wJ sm y) K N n 0 0 l d)) ∧ ∀ d', d' < d → cc_J s 3 300 d' = oL (swI (wJ sm y) K N n 0 d')) (fun z => M + 1 - z.2.2.2.1.toNatClampNeg) _ ?_ fu _ ⟨0, s0, by omega, rfl, hL0, Y3_rf, hg0, fun d hd => absurd hd (Nat.not_lt_zero d)⟩ (by show M + 1 - _ < fu; omega)
  rintro z K2 ⟨d, s, hd, rfl, hL, hy, hg, hw⟩ hK2
  show fc_ok (C_X10_waysToSpend_b2F X fu (fun x0 x1 x2 x3 st => K2 (x0, x1, x2, x3, st)) _ _ _ _ _) _
  unfold C_X10_waysToSpend_b2F
  rw [px_go hX (i := 3) (c := 12) (by decide), gd_true, hL.1.2.1]
  refine ok_if.mpr ⟨fun hlt => ?_, fun hlt => ?_⟩
  rotate_left
  · have hdl : d ≤ M := Nat.not_lt.mp (fun q => hlt ((nI_lt_iff (by omega) (by omega)).mpr q))
    have next : ∀ v, v = oL (swI (wJ sm y) K N n 0 d) → fc_ok (C_X10_waysToSpend_b26 X fu (fun x0 x1 x2 x3 st => K2 (x0, x1, x2, x3, st)) 3 (nI n) (nI M) (nI d) v (nI d) 3 300 s) (fun q => q.1 = oL (swI (wJ sm y) K N n n M) ∧ Lk sm N y n M q.2 ∧ Y3 s0 q.2) := by
      rintro v rfl
      unfold C_X10_waysToSpend_b26
      rw [yr_gr hX (q := 3) (r := 0) (a := d) (j := nI d) (Or.inr rfl) (by omega) (by omega) rfl, gd_true, nI_clamp (show d < 2 ^ 31 by omega), nm_eq, nm_eq, nI_1]
      refine hK2 _ ⟨d + 1, _, by omega, rfl, Lk_J hL (by omega), Y3_J hy (by omega), keepJ (Nat.le_refl 300) hg, fun d' hd' => ?_⟩ ?_
      · rw [cJ_sJ, if_pos ⟨rfl, rfl⟩]
        by_cases hdd : d' = d
        · rw [if_pos hdd, hdd]
        · rw [if_neg hdd]
          exact hw d' (by omega)
      · show M + 1 - (nI (d + 1)).toNatClampNeg < M + 1 - (nI d).toNatClampNeg
        rw [nI_clamp (by omega), nI_clamp (by omega)]
        omega
    rw [yr_ga hX (k := 3) (t := 5) (a := 0) (j := 0) (by omega) rfl, gd_true]
    refine ok_if.mpr ⟨fun hc0 => next _ ?_, fun hc0 => next _ ?_⟩
    · have := (nI_eq_iff (b := 0) (by omega) (by omega)).mp hc0
      subst this
      rfl
    · have : d ≠ 0 := fun q => hc0 (by rw [q]; rfl)
      unfold swI
      rw [if_neg this]
      rfl
  have hlt := (nI_lt_iff (by omega) (by omega)).mp hlt
  clear hK2
  unfold C_X10_waysToSpend_b35
  refine ok_lp (fun z => ∃ left s, 1 ≤ left ∧ left ≤ n + 1 ∧ z = (3, nI n, nI M, nI left, s) ∧ Lk sm N y n M s ∧ Y3 s0 s ∧ (∀ l d, l ≤ n → d ≤ M → cc_J s 3 (200 + l) d = oL (gtI (wJ sm y) K N n 0 0 l d)) ∧ ∀ l d', l < left → d' ≤ M → cc_J s 3 (300 + l) d' = oL (swI (wJ sm y) K N n l d')) (fun z => n + 1 - z.2.2.2.1.toNatClampNeg) _ ?_ fu _ ⟨1, s, by omega, by omega, rfl, hL, hy, hg, fun l d' hl hd' => ?_⟩ (by show n + 1 - _ < fu; omega)
  rotate_left
  · have : l = 0 := by omega
    subst this
    exact hw d' (by omega)
  clear hL hy hg hw
  rintro z K35 ⟨left, s, hl1, hln, rfl, hL, hy, hg, hw⟩ hK35
  show fc_ok (C_X10_waysToSpend_b35F X fu (fun x0 x1 x2 x3 st => K35 (x0, x1, x2, x3, st)) _ _ _ _ _) _
  unfold C_X10_waysToSpend_b35F
  refine ok_if.mpr ⟨fun hlt => ?_, fun hlt => ?_⟩
  · have hlt := (nI_lt_iff (by omega) (by omega)).mp hlt
    rw [px_go hX (i := 3) (c := 12) (by decide), gd_true, yr_ga hX (k := 3) (t := 5) (a := n) (j := nI n) (by omega) rfl, gd_true, nI_clamp (show n < 2 ^ 31 by omega), yr_gr hX (q := 3) (r := n) (a := M) (j := nI M) (Or.inr rfl) (by omega) (by omega) rfl, gd_true, nI_clamp (show M < 2 ^ 31 by omega)]
    exact ok_some.mpr ⟨hw n M (by omega) (Nat.le_refl M), hL, hy⟩
  have hle : left ≤ n := Nat.not_lt.mp (fun q => hlt ((nI_lt_iff (by omega) (by omega)).mpr q))
  unfold C_X10_waysToSpend_b43
  refine ok_lp (fun z => ∃ d s, d ≤ M + 1 ∧ z = (3, nI n, nI M, nI left, nI d, s) ∧ Lk sm N y n M s ∧ Y3 s0 s ∧ (∀ l d, l ≤ n → d ≤ M → cc_J s 3 (200 + l) d = oL (gtI (wJ sm y) K N n 0 0 l d)) ∧ (∀ l d', l < left → d' ≤ M → cc_J s 3 (300 + l) d' = oL (swI (wJ sm y) K N n l d')) ∧ ∀ d', d' < d → cc_J s 3 (300 + left) d' = oL (swI (wJ sm y) K N n left d')) (fun z => M + 1 - z.2.2.2.2.1.toNatClampNeg) _ ?_ fu _ ⟨0, s, by omega, rfl, hL, hy, hg, hw, fun d hd => absurd hd (Nat.not_lt_zero d)⟩ (by show M + 1 - _ < fu; omega)
  clear hL hy hg hw
  rintro z K43 ⟨d, s, hd, rfl, hL, hy, hg, hw, hwd⟩ hK43
  show fc_ok (C_X10_waysToSpend_b43F X fu (fun x0 x1 x2 x3 st => K35 (x0, x1, x2, x3, st)) (fun x0 x1 x2 x3 x4 st => K43 (x0, x1, x2, x3, x4, st)) _ _ _ _ _ _) _
  unfold C_X10_waysToSpend_b43F
  rw [px_go hX (i := 3) (c := 12) (by decide), gd_true, hL.1.2.1]
  refine ok_if.mpr ⟨fun hlt => ?_, fun hlt => ?_⟩
  · have hlt := (nI_lt_iff (by omega) (by omega)).mp hlt
    rw [nm_eq, nI_1]
    refine hK35 _ ⟨left + 1, s, by omega, by omega, rfl, hL, hy, hg, fun l d' hl hd' => ?_⟩ ?_
    · by_cases hll : l = left
      · subst hll
        exact hwd d' (by omega)
      · exact hw l d' (by omega) hd'
    · show n + 1 - (nI (left + 1)).toNatClampNeg < n + 1 - (nI left).toNatClampNeg
      rw [nI_clamp (by omega), nI_clamp (by omega)]
      omega
  have hdl : d ≤ M := Nat.not_lt.mp (fun q => hlt ((nI_lt_iff (by omega) (by omega)).mpr q))
  obtain ⟨left, rfl⟩ : ∃ r, left = r + 1 := ⟨left - 1, by omega⟩
  unfold C_X10_waysToSpend_b58
  refine ok_lp (fun z => ∃ i, i ≤ N ∧ z = (3, nI n, nI M, nI (left + 1), nI d, oL (sumN (oneS sm y K N n left d) i), nI i, s)) (fun z => N - z.2.2.2.2.2.2.1.toNatClampNeg) _ ?_ fu _ ⟨0, by omega, rfl⟩ (by show N - _ < fu; omega)
  rintro z K58 ⟨i, hi, rfl⟩ hK58
  show fc_ok (C_X10_waysToSpend_b58F X fu (fun x0 x1 x2 x3 st => K35 (x0, x1, x2, x3, st)) (fun x0 x1 x2 x3 x4 st => K43 (x0, x1, x2, x3, x4, st)) (fun x0 x1 x2 x3 x4 x5 x7 st => K58 (x0, x1, x2, x3, x4, x5, x7, st)) _ _ _ _ _ _ _ _) _
  unfold C_X10_waysToSpend_b58F
  rw [px_go hX (i := 3) (c := 12) (by decide), gd_true, hL.1.1]
  refine ok_if.mpr ⟨fun hlt => ?_, fun hlt => ?_⟩
  · have hlt := (nI_le_iff (by omega) (by omega)).mp hlt
    have : i = N := by omega
    subst this
    rw [yr_ga hX (k := 3) (t := 5) (a := left + 1) (j := nI (left + 1)) (by omega) rfl, gd_true, nI_clamp (show left + 1 < 2 ^ 31 by omega), yr_gr hX (q := 3) (r := left + 1) (a := d) (j := nI d) (Or.inr rfl) (by omega) (by omega) rfl, gd_true, nI_clamp (show d < 2 ^ 31 by omega), nm_eq, nm_eq, nI_1]
    refine hK43 _ ⟨d + 1, _, by omega, rfl, Lk_J hL (by omega), Y3_J hy (by omega), keepJ (by omega) hg, fun l d' hl hd' => ?_, fun d' hd' => ?_⟩ ?_
    · rw [cJ_sJ, if_neg (by omega)]
      exact hw l d' hl hd'
    · rw [cJ_sJ, if_pos ⟨rfl, rfl⟩]
      by_cases hdd : d' = d
      · rw [if_pos hdd, hdd, sw_one]
      · rw [if_neg hdd]
        exact hwd d' (by omega)
    · show M + 1 - (nI (d + 1)).toNatClampNeg < M + 1 - (nI d).toNatClampNeg
      rw [nI_clamp (by omega), nI_clamp (by omega)]
      omega
  have hil : i < N := Nat.not_le.mp (fun q => hlt ((nI_le_iff (by omega) (by omega)).mpr q))
  have hx := stp_le (sm := sm) (y := y) (K := K) (N := N) (n := n) (left := left) (d := d) (i := i)
  have next : ∀ x, x = stp sm y K N n left d i → fc_ok (C_X10_waysToSpend_b90 X fu (fun x0 x1 x2 x3 st => K35 (x0, x1, x2, x3, st)) (fun x0 x1 x2 x3 x4 st => K43 (x0, x1, x2, x3, x4, st)) (fun x0 x1 x2 x3 x4 x5 x7 st => K58 (x0, x1, x2, x3, x4, x5, x7, st)) 3 (nI n) (nI M) (nI (left + 1)) (nI d) (oL (sumN (oneS sm y K N n left d) i)) (nI i) (nI x) s) (fun q => q.1 = oL (swI (wJ sm y) K N n n M) ∧ Lk sm N y n M q.2 ∧ Y3 s0 q.2) := by
    rintro x rfl
    unfold C_X10_waysToSpend_b90
    rw [go, gd_true, nI_pred, yr_ga hX (k := 3) (t := 5) (a := left) (j := nI left) (by omega) rfl, gd_true, nI_clamp (show left < 2 ^ 31 by omega), yr_gr hX (q := 3) (r := left) (a := stp sm y K N n left d i) (Or.inr rfl) (by omega) (by omega) rfl, gd_true, nI_clamp (show stp sm y K N n left d i < 2 ^ 31 by omega), hw left _ (by omega) (by omega), oL_add, nm_eq, nm_eq, nI_1]
    refine hK58 _ ⟨i + 1, by omega, rfl⟩ ?_
    show N - (nI (i + 1)).toNatClampNeg < N - (nI i).toNatClampNeg
    rw [nI_clamp (by omega), nI_clamp (by omega)]
    omega
  have hs := c_serves (how := 0) (set := 0) (left := left + 1) (d := d) (i := i) (fu := fu) hX hY hL hM (by omega) (by omega) hle hdl hil (fun d hd => by rw [Nat.add_sub_cancel]; exact hg left d (by omega) hd)
  rw [Nat.add_sub_cancel] at hs
  have hs' : C_X10_serves X fu 3 (nI i) (nI (left + 1)) (nI d) 0 0 s = _ := hs
  rw [hs', bn_some]
  by_cases hsv : srvI (wJ sm y) K N n 0 0 (gtI (wJ sm y) K N n 0 0 left) (left + 1) d i = true
  · rw [if_pos hsv, if_neg n10]
    have hd0 : d ≠ 0 := fun q => by
      unfold srvI at hsv
      rw [if_pos q] at hsv
      cases hsv
    obtain ⟨d', rfl⟩ : ∃ r, d = r + 1 := ⟨d - 1, by omega⟩
    rw [nI_pred]
    refine next d' ?_
    unfold stp
    rw [if_pos hsv, Nat.add_sub_cancel]
  · rw [if_neg hsv, if_pos rfl]
    refine next d ?_
    unfold stp
    rw [if_neg hsv]
theorem q_spent {X : cc_X} {T : Nat → Nat} {sm : mm_S} {sc : cc_S} {fu : Nat} (hfu : 700 < fu) (h : Rel X T sm sc) (x p : Int32) : Eq2 X T (M_spent fu x p sm) (C_X11_spent X fu 0 x p sc) := by
  obtain ⟨N, y, D, K, ⟨hN, h0⟩, ⟨hy, h3⟩, ⟨hD, h1⟩, hYY⟩ := Rel_Y h
  obtain ⟨i9, i13, -⟩ := Rel_I h
  unfold M_spent C_X11_spent
  rw [e_askedM, bn_some, px_go h.1 (by decide), px_go h.1 (by decide), px_go h.1 (by decide), e_askedC h.1, bn_some, i9, i13, h1, h0]
  simp only [gd_true]
  rcases askv_c (x := x) (p := p) hN with e | ⟨e, hN1, ⟨n, hn, rfl⟩, -⟩
  · rw [e, if_pos rfl, if_pos rfl]
    exact Eq2_same h rfl rfl
  rw [e, if_neg n10, if_neg n10]
  have hY := hYY n hn
  obtain ⟨s5, e1, m1, m2⟩ := h_lay (how := 0) (set := 0) hfu hY mq_rf (by omega) (fun q => by omega)
  obtain ⟨sa, s', ea, e2, l1, l2, l3⟩ := h_ask (M := D) (how := 0) (set := 0) hfu h hY hD (by omega)
  have e1' : M_layGains fu 0 (nI n) sm = some s5 := e1
  have e2' : C_X10_weigh X fu 3 (nI n) 0 0 sa = some s' := e2
  have q5 : mq sm s5 := mqs_q mq_rf m1
  have c13 : cc_I s' 1 13 = nI D := ((l2.1 1 (by decide)).1 13).trans (i13.trans h1)
  have sb := sw_b (w := wJ sm y) (K := K) (N := N) (n := n) n D
  obtain ⟨p1, p2⟩ := pw_1 hN1 hN hn
  obtain ⟨v, f1, f2⟩ := h_frac (X := X) hfu (part := p) (show -1000000000000 ≤ swI (wJ sm y) K N n n D by omega) (by omega) p1 p2
  obtain ⟨⟨r, s6⟩, g1, g2, g3⟩ := h_spentM hfu hY q5 m2 f1
  obtain rfl : r = v := g2
  obtain ⟨⟨r2, s7⟩, k1, k2, k3, k4⟩ := h_spentC hfu h.1 hY hD l1 l3
  obtain rfl : r2 = oL (swI (wJ sm y) K N n n D) := k2
  have k3 : Lk sm N y n D s7 := k3
  have k4 : Y3 s' s7 := k4
  have ej : cc_J s7 3 1 n = oL ((N : Int) ^ n) := by
    rw [k3.2.1 n (Nat.le_refl n), oL_nat, Int.natCast_pow]
  have g1' : M_spent_b21 fu fu (nI n) p 0 s5 = some (r, s6) := g1
  rw [e1', bv_some, g1', ea, bv_some, e2', bv_some, c13, k1, bn_some, yr_ga h.1 (k := 1) (t := 2) (a := n) (j := nI n) (by omega) rfl, gd_true, nI_clamp (show n < 2 ^ 31 by omega), ej, f2, bn_some]
  exact ⟨r, s6, s7, rfl, rfl, Rel_q g3 (Rel_3 h (Y3_tr l2 k4))⟩
