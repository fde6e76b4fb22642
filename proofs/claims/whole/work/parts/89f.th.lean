/-! threshold, spent -/
theorem xor_neg (a b : Int64) (hb : 0 ≤ b.toInt) : (a ^^^ b).toInt < 0 ↔ a.toInt < 0 := by
  have key : ∀ x : Int64, x.toInt < 0 ↔ x.toBitVec.msb = true := fun x => by
    have h : x.toBitVec.msb = decide (x.toBitVec.toInt < 0) := BitVec.msb_eq_toInt
    rw [h, decide_eq_true_eq]
    rfl
  have hb2 : b.toBitVec.msb = false := by
    cases hm : b.toBitVec.msb with
    | false => rfl
    | true =>
      have := (key b).mpr hm
      omega
  rw [key, key, Int64.toBitVec_xor, BitVec.msb_xor, hb2, Bool.xor_false]
theorem e_floorDiv {X : cc_X} {fu : Nat} {s : cc_S} {Z E : Int} (hZ : -1000000000000 ≤ Z) (hZ2 : Z ≤ 1000000000000) (hE : 1 ≤ E) (hE2 : E ≤ 1679616) : C_J9_floorDiv_f86c9 X fu (oL Z) (oL E) s = some (oL (Z / E), s) := by
  have eZ : (oL Z).toInt = Z := oL_toInt (by omega) (by omega)
  have eE : (oL E).toInt = E := oL_toInt (by omega) (by omega)
  have z0 : (0 : Int64).toInt = 0 := rfl
  have hne : fc_nzl (oL E) = true := decide_eq_true (fun q => by
    rw [← Int64.toInt_inj, eE, z0] at q
    omega)
  have ex := xor_neg (oL Z) (oL E) (by omega)
  rw [eZ] at ex
  unfold C_J9_floorDiv_f86c9
  rw [hne, gd_true, nm_eq]
  by_cases h0 : 0 ≤ Z
  · have q1 : 0 ≤ Z / E := Int.ediv_nonneg h0 (by omega)
    have q2 : Z / E ≤ Z := Int.ediv_le_self E h0
    have e : oL Z / oL E = oL (Z / E) := by
      rw [← Int64.toInt_inj, Int64.toInt_div, eZ, eE, Int.tdiv_eq_ediv_of_nonneg h0, oL_toInt (by omega) (by omega)]
      generalize Z / E = q at q1 q2
      exact Int.bmod_eq_of_le (by omega) (by omega)
    rw [if_pos (by rw [cmp_nn, z0]; omega), e]
  · rw [if_neg (by rw [cmp_nn, z0]; omega)]
    have p0 : 0 ≤ -Z := by omega
    have q1 : 0 ≤ (-Z) / E := Int.ediv_nonneg p0 (by omega)
    have q2 : (-Z) / E ≤ -Z := Int.ediv_le_self E p0
    have et : Z.tdiv E = -((-Z) / E) := by
      rw [← Int.tdiv_eq_ediv_of_nonneg p0, Int.neg_tdiv, Int.neg_neg]
    have r1 := Int.emod_nonneg (-Z) (show E ≠ 0 by omega)
    have r2 := Int.emod_lt_of_pos (-Z) (show 0 < E by omega)
    have r3 := Int.mul_ediv_add_emod (-Z) E
    have e : oL Z / oL E = oL (-((-Z) / E)) := by
      rw [← Int64.toInt_inj, Int64.toInt_div, eZ, eE, et, oL_toInt (by omega) (by omega)]
      generalize (-Z) / E = q at q1 q2
      exact Int.bmod_eq_of_le (by omega) (by omega)
    rw [e, oL_mul]
    have em : -((-Z) / E) * E = -(E * ((-Z) / E)) := by rw [Int.neg_mul, Int.mul_comm]
    have hc : (lg_cmp (oL (-((-Z) / E) * E)) (oL Z) = 0) ↔ (-Z) % E = 0 := by
      rw [cmp_eq, ← Int64.toInt_inj, eZ, em]
      generalize E * ((-Z) / E) = t at r3
      rw [oL_toInt (by omega) (by omega)]
      omega
    have hd : ∀ q : Int, q * E ≤ Z → Z < (q + 1) * E → Z / E = q := by
      intro q a b
      have h1 : q ≤ Z / E := (Int.le_ediv_iff_mul_le (by omega)).mpr a
      have h2 : Z / E < q + 1 := (Int.ediv_lt_iff_lt_mul (by omega)).mpr b
      omega
    by_cases hr : (-Z) % E = 0
    · rw [if_pos (hc.mpr hr), hd (-((-Z) / E)) (by rw [em]; generalize E * ((-Z) / E) = t at r3; omega) (by rw [Int.add_mul, em, Int.one_mul]; generalize E * ((-Z) / E) = t at r3; omega)]
    · rw [if_neg (fun q => hr (hc.mp q)), hd (-((-Z) / E) - 1) (by rw [Int.sub_mul, em, Int.one_mul]; generalize E * ((-Z) / E) = t at r3; omega) (by rw [Int.sub_add_cancel, em]; generalize E * ((-Z) / E) = t at r3; omega)]
      rw [show (1 : Int64) = oL 1 from rfl, oL_sub]
theorem q_threshold {X : cc_X} {T : Nat → Nat} {sm : mm_S} {sc : cc_S} {fu : Nat} (hfu : 1100 < fu) (h : Rel X T sm sc) (x : Int32) : Eq2 X T (M_threshold fu x sm) (C_X11_threshold X fu 0 x sc) := by
  have hfu7 : 700 < fu := by omega
  obtain ⟨N, y, D, K, ⟨hN, h0⟩, ⟨hy, h3⟩, ⟨hD, h1⟩, hYY⟩ := Rel_Y h
  obtain ⟨i9, i13, -⟩ := Rel_I h
  unfold M_threshold C_X11_threshold
  rw [px_go h.1 (by decide), px_go h.1 (by decide), px_go h.1 (by decide), i9, i13, h0, h1]
  simp only [gd_true]
  rcases in18 x with ⟨a1, a2⟩ | ⟨a1, a2, a3⟩ | ⟨a1, a2, ⟨n, hn1, hn, rfl⟩, a3⟩
  · rw [a2, bn_some, if_pos rfl, if_pos a1]
    exact Eq2_same h rfl rfl
  · rw [a3, bn_some, if_pos rfl, if_neg a1, if_neg a2]
    exact Eq2_same h rfl rfl
  rw [a3, bn_some, if_neg n10, if_neg a1, if_pos a2, h0, h1]
  by_cases hD0 : D = 0
  · subst hD0
    rw [if_pos (show nI 0 = 0 from rfl), if_pos (show nI 0 = 0 from rfl)]
    split
    · exact Eq2_same h rfl rfl
    · exact Eq2_same h rfl rfl
  have nD : ¬ nI D = 0 := fun e => hD0 ((nI_eq_iff (b := 0) (by omega) (by omega)).mp e)
  rw [if_neg nD, if_neg nD]
  by_cases hN0 : N = 0
  · subst hN0
    rw [if_pos (show nI 0 = 0 from rfl), if_pos (show nI 0 = 0 from rfl)]
    exact Eq2_same h rfl rfl
  have nN : ¬ nI N = 0 := fun e => hN0 ((nI_eq_iff (b := 0) (by omega) (by omega)).mp e)
  rw [if_neg nN, if_neg nN]
  have hY := hYY n hn
  obtain ⟨hK, hKe⟩ := hY.2.2.2.2.1
  obtain ⟨n', rfl⟩ : ∃ r, n = r + 1 := ⟨n - 1, by omega⟩
  obtain ⟨D', rfl⟩ : ∃ r, D = r + 1 := ⟨D - 1, by omega⟩
  obtain ⟨sa, s', ea, e2, l1, l2, l3⟩ := h_ask (M := D' + 1) (how := 0) (set := 0) hfu7 h hY hD (by omega)
  have e2' : C_X10_weigh X fu 3 (nI (n' + 1)) 0 0 sa = some s' := e2
  have c13 : cc_I s' 1 13 = nI (D' + 1) := ((l2.1 1 (by decide)).1 13).trans (i13.trans h1)
  obtain ⟨s5, e1, m1, m2⟩ := h_lay (how := 0) (set := 0) hfu7 hY mq_rf (by omega) (fun q => by omega)
  have e1' : M_layGains fu 0 (nI (n' + 1)) sm = some s5 := e1
  have q5 : mq sm s5 := mqs_q mq_rf m1
  have g1 : ∀ d, d ≤ 8 → mm_L s5 26 (10 * (0 + 1) + d) = oL (gtI (wJ sm y) K N (n' + 1) 0 0 n' d) := fun d hd => by
    have := m2 1 d hn1 hd
    rw [Nat.add_sub_cancel] at this
    exact this
  have sp := h_spared (g := gtI (wJ sm y) K N (n' + 1) 0 0 n') (k := 0) (d := D' + 1) hfu7 hY q5 (by omega) hD (g1 (D' + 1) hD)
  have sp' : M_ifSpared fu 0 (nI (n' + 1)) (nI (D' + 1)) s5 = _ := sp
  obtain ⟨b1, b2⟩ := gt_i (how := 0) (set := 0) (left := n') hY (by omega) hD
  obtain ⟨b3, b4⟩ := gt_i (how := 0) (set := 0) (left := n') (d := D') hY (by omega) (by omega)
  obtain ⟨p1, p2⟩ := pw_1 (N := N) (n := n') (by omega) hN (by omega)
  have sb := sp_i (how := 0) (set := 0) (left := n') hY (by omega) hD
  have kb := kd_b hK (show D' ≤ 9 by omega)
  have kb1 := kd_b hK (show D' + 1 ≤ 9 by omega)
  have eSp : spI K N (gtI (wJ sm y) K N (n' + 1) 0 0 n') (n' + 1 - 0) (D' + 1) = gtI (wJ sm y) K N (n' + 1) 0 0 n' (D' + 1) - ((K * (D' + 1) : Nat) : Int) * (N : Int) ^ n' := by
    unfold spI
    rw [Nat.sub_zero, Nat.add_sub_cancel, Int.natCast_mul]
  rw [Nat.sub_zero] at eSp
  rw [eSp] at sb
  have ew : ∀ k, k ≤ n' + 1 → cc_J s' 3 1 k = oL ((N : Int) ^ k) := fun k hk => by
    rw [l1.2.1 k hk, oL_nat, Int.natCast_pow]
  have w1 : (if oL ((N : Int) ^ n') < (1 : Int64) then (1 : Int64) else oL ((N : Int) ^ n')) = oL ((N : Int) ^ n') := by
    rw [if_neg]
    rw [Int64.lt_iff_toInt_lt, oL_toInt (by omega) (by omega)]
    have : (1 : Int64).toInt = 1 := rfl
    omega
  generalize hE : (N : Int) ^ n' = E at p1 p2 w1 sb eSp
  generalize hg1' : gtI (wJ sm y) K N (n' + 1) 0 0 n' (D' + 1) = ga at b1 b2 sb eSp
  generalize hg2' : gtI (wJ sm y) K N (n' + 1) 0 0 n' D' = gb at b3 b4
  have kE : 0 ≤ (K : Int) * E ∧ (K : Int) * E ≤ 200000000 := by
    have h1 : 0 ≤ (K : Int) * E := Int.mul_nonneg (by omega) (by omega)
    have h2 : (K : Int) * E ≤ 99 * E := Int.mul_le_mul_of_nonneg_right (by omega) (by omega)
    omega
  -- the class
  have cl : C_X10_leastWise X fu 3 (nI (n' + 1)) (nI (D' + 1)) s' = some (if oL ((ga - gb - K * E) / E + 1) < 0 then 0 else oL ((ga - gb - K * E) / E + 1), s') := by
    unfold C_X10_leastWise
    rw [px_go h.1 (i := 3) (c := 12) (by decide), gd_true, nI_pred, nI_pred, yr_ga h.1 (k := 1) (t := 2) (a := n') (by omega) rfl, gd_true, nI_clamp (show n' < 2 ^ 31 by omega), ew n' (by omega), hE, w1, nm_eq, yr_ga h.1 (k := 2) (t := 5) (a := n') (by omega) rfl, gd_true, yr_gr h.1 (q := 2) (r := n') (a := D' + 1) (Or.inl rfl) (by omega) (by omega) rfl, gd_true, gd_true, yr_gr h.1 (q := 2) (r := n') (a := D') (Or.inl rfl) (by omega) (by omega) rfl, gd_true, nm_eq, nI_clamp (show D' < 2 ^ 31 by omega), nI_clamp (show D' + 1 < 2 ^ 31 by omega), l3 n' (D' + 1) (by omega) (Nat.le_refl _), l3 n' D' (by omega) (by omega), hg1', hg2', l1.1.2.2.1, hKe, oL_of (nI_toInt (show K < 2 ^ 31 by omega)), oL_sub, oL_mul, oL_sub, e_floorDiv (by omega) (by omega) p1 p2, bn_some, show (1 : Int64) = oL 1 from rfl, oL_add]
  rw [e1', bv_some, q5.1 1 (by decide), h1, sp', bn_some, ea, bv_some, e2', bv_some, c13, cl, bn_some]
  have hZb : -1000000000000 ≤ ga - gb - K * E ∧ ga - gb - K * E ≤ 1000000000000 := by omega
  have hfl : ∀ v : Int, (ga - gb - K * E) / E < v ↔ ga - gb - K * E < v * E := fun v => Int.ediv_lt_iff_lt_mul (by omega)
  have hQ : -1000000000000 ≤ (ga - gb - K * E) / E ∧ (ga - gb - K * E) / E ≤ 1000000000000 := by
    refine ⟨?_, ?_⟩
    · refine (Int.le_ediv_iff_mul_le (by omega)).mpr (Int.le_trans ?_ hZb.1)
      have := Int.mul_le_mul_of_nonpos_left (a := -1000000000000) (b := E) (c := 1) (by omega) p1
      omega
    · have := (hfl 1000000000001).mpr (by have := Int.mul_le_mul_of_nonneg_left p1 (show (0 : Int) ≤ 1000000000001 by omega); omega)
      omega
  generalize hQe : (ga - gb - K * E) / E = Q at hfl hQ
  have z0 : (0 : Int64).toInt = 0 := rfl
  have eQ : (oL (Q + 1)).toInt = Q + 1 := oL_toInt (by omega) (by omega)
  obtain ⟨L, hL⟩ : ∃ L : Nat, (L : Int) = if Q + 1 < 0 then 0 else Q + 1 := ⟨(if Q + 1 < 0 then 0 else Q + 1).toNat, by split <;> omega⟩
  have hLQ : ∀ v : Nat, (L ≤ v ↔ Q < (v : Int)) := fun v => by
    split at hL <;> omega
  have eLL : (if oL (Q + 1) < 0 then (0 : Int64) else oL (Q + 1)) = lN L := by
    rw [oL_nat, hL]
    by_cases hq : Q + 1 < 0
    · rw [if_pos hq, if_pos (by rw [Int64.lt_iff_toInt_lt, eQ, z0]; exact hq)]
      rfl
    · rw [if_neg hq, if_neg (by rw [Int64.lt_iff_toInt_lt, eQ, z0]; exact hq)]
  have hLb : (L : Int) ≤ 1000000000001 := by
    split at hL <;> omega
  rw [eLL]
  -- the reference's search
  have loop : ∀ m v f, v + m = 1000 → v ≤ L → m < f → M_threshold_b51 fu f (nI (n' + 1)) (oL (spI K N (gtI (wJ sm y) K N (n' + 1) 0 0 n') (n' + 1) (D' + 1))) (nI v) s5 = some (if L ≤ 999 then nI L else -5, s5) := by
    intro m
    induction m with
    | zero =>
      intro v f hvm hv hm
      obtain ⟨f, rfl⟩ : ∃ g, f = g + 1 := ⟨f - 1, by omega⟩
      rw [show M_threshold_b51 fu (f + 1) (nI (n' + 1)) (oL (spI K N (gtI (wJ sm y) K N (n' + 1) 0 0 n') (n' + 1) (D' + 1))) (nI v) s5 = M_threshold_b51F fu (fun a b c t => M_threshold_b51 fu f a b c t) (nI (n' + 1)) (oL (spI K N (gtI (wJ sm y) K N (n' + 1) 0 0 n') (n' + 1) (D' + 1))) (nI v) s5 from rfl]
      unfold M_threshold_b51F
      rw [if_pos (show (1000 : Int32) ≤ nI v from (nI_le_iff (a := 1000) (by omega) (by omega)).mpr (by omega)), if_neg (by omega)]
    | succ m ih =>
      intro v f hvm hv hm
      obtain ⟨f, rfl⟩ : ∃ g, f = g + 1 := ⟨f - 1, by omega⟩
      rw [show M_threshold_b51 fu (f + 1) (nI (n' + 1)) (oL (spI K N (gtI (wJ sm y) K N (n' + 1) 0 0 n') (n' + 1) (D' + 1))) (nI v) s5 = M_threshold_b51F fu (fun a b c t => M_threshold_b51 fu f a b c t) (nI (n' + 1)) (oL (spI K N (gtI (wJ sm y) K N (n' + 1) 0 0 n') (n' + 1) (D' + 1))) (nI v) s5 from rfl]
      have eI : (nI v - nI K * nI D').toInt = (v : Int) - ((K * D' : Nat) : Int) := i3_sub (nI_toInt (by omega)) (by rw [nI_mul, nI_toInt (by omega)]) (by omega) (by omega)
      have e10 : (10 : Int32) + nI (D' + 1) - 1 = nI (10 * (0 + 1) + D') := by
        rw [show (10 : Int32) = nI 10 from rfl, nI_add, show 10 + (D' + 1) = (10 * (0 + 1) + D') + 1 by omega, nI_pred]
      unfold M_threshold_b51F
      rw [if_neg (show ¬ (1000 : Int32) ≤ nI v from fun q => by have := (nI_le_iff (a := 1000) (by omega) (by omega)).mp q; omega), nI_pred, h_ways (sm := sm) hfu7 ((q5.1 0 (by decide)).trans h0) hN (show n' ≤ 8 by omega), bn_some, h_keep fu hfu7 hY.1 q5, bn_some, q5.1 1 (by decide), h1, e10, nI_pred, hKe, nI_ix (by omega) (by decide), gd_true, nI_clamp (show 10 * (0 + 1) + D' < 2 ^ 31 by omega), g1 D' (by omega), oL_of eI, hE, hg2', oL_mul, oL_add, eSp, nI_1]
      have hEv : E * ((v : Int) - ((K * D' : Nat) : Int)) = v * E - ((K * D' : Nat) : Int) * E := by
        rw [Int.mul_comm, Int.sub_mul]
      have hKD : ((K * (D' + 1) : Nat) : Int) * E = ((K * D' : Nat) : Int) * E + K * E := by
        rw [Nat.mul_succ, Int.natCast_add, Int.add_mul]
      have vE : 0 ≤ (v : Int) * E ∧ (v : Int) * E ≤ 2000000000 := by
        have h1 : 0 ≤ (v : Int) * E := Int.mul_nonneg (by omega) (by omega)
        have h2 : (v : Int) * E ≤ 1000 * E := Int.mul_le_mul_of_nonneg_right (by omega) (by omega)
        omega
      have kdE : 0 ≤ ((K * D' : Nat) : Int) * E ∧ ((K * D' : Nat) : Int) * E ≤ 2000000000 := by
        have h1 : 0 ≤ ((K * D' : Nat) : Int) * E := Int.mul_nonneg (by omega) (by omega)
        have h2 : ((K * D' : Nat) : Int) * E ≤ 891 * E := Int.mul_le_mul_of_nonneg_right (by omega) (by omega)
        omega
      have hih : v + 1 ≤ L → _ := fun q => ih (v + 1) f (by omega) q (by omega)
      rw [eSp] at hih
      rw [hKD] at sb hih ⊢
      rw [hEv]
      have hfv := hfl v
      generalize (v : Int) * E = vv at hfv vE ⊢
      generalize ((K * D' : Nat) : Int) * E = kk at sb kdE hih ⊢
      have hLv := hLQ v
      by_cases hc : L ≤ v
      · have hLv2 : L = v := by omega
        rw [if_neg (by
          rw [cmp_le, oL_toInt (by omega) (by omega), oL_toInt (by omega) (by omega)]
          have := hfv.mp (hLv.mp hc)
          omega), if_pos (by omega), hLv2]
      · rw [if_pos (by
          rw [cmp_le, oL_toInt (by omega) (by omega), oL_toInt (by omega) (by omega)]
          have : ¬ (ga - gb - ↑K * E < vv) := fun q => hc (hLv.mpr (hfv.mpr q))
          omega), nm_eq]
        exact hih (by omega)
  have lp := loop 1000 0 fu (by omega) (by omega) (by omega)
  have lp' : M_threshold_b51 fu fu (nI (n' + 1)) (oL (spI K N (gtI (wJ sm y) K N (n' + 1) 0 0 n') (n' + 1 - 0) (D' + 1))) 0 s5 = some (if L ≤ 999 then nI L else -5, s5) := lp
  rw [lp']
  have hR : Rel X T s5 s' := Rel_q q5 (Rel_3 h l2)
  have e9 : lg_cmp (lN L) 999 ≤ 0 ↔ L ≤ 999 := by
    rw [cmp_le, oL_nat, oL_toInt (by omega) (by omega)]
    have : (999 : Int64).toInt = 999 := rfl
    omega
  by_cases hc : L ≤ 999
  · rw [if_pos hc, if_pos (e9.mpr hc), lN_i]
    exact ⟨_, s5, s', rfl, rfl, hR⟩
  · rw [if_neg hc, if_neg (fun q => hc (e9.mp q))]
    exact ⟨_, s5, s', rfl, rfl, hR⟩
