/-! wise, chosen, threshold -/
theorem in18 (x : Int32) : (x < 1 ∧ ∀ fu st, M_in fu x 1 8 st = some (0, st)) ∨ (¬ x < 1 ∧ ¬ x ≤ 8 ∧ ∀ fu st, M_in fu x 1 8 st = some (0, st)) ∨ (¬ x < 1 ∧ x ≤ 8 ∧ (∃ n, 1 ≤ n ∧ n ≤ 8 ∧ x = nI n) ∧ ∀ fu st, M_in fu x 1 8 st = some (1, st)) := by
  have e1 : (1 : Int32).toInt = 1 := rfl
  have e8 : (8 : Int32).toInt = 8 := rfl
  by_cases h1 : x < 1
  · refine Or.inl ⟨h1, fun fu st => ?_⟩
    unfold M_in
    rw [if_pos h1]
  · by_cases h2 : x ≤ 8
    · refine Or.inr (Or.inr ⟨h1, h2, ?_, fun fu st => ?_⟩)
      · rw [Int32.lt_iff_toInt_lt] at h1
        rw [Int32.le_iff_toInt_le] at h2
        obtain ⟨n, hn, rfl, en⟩ := nI_ex (x := x) (by omega)
        exact ⟨n, by omega, by omega, rfl⟩
      · unfold M_in
        rw [if_neg h1, if_neg]
        rw [Int32.le_iff_toInt_le] at h2
        rw [Int32.lt_iff_toInt_lt]
        omega
    · refine Or.inr (Or.inl ⟨h1, h2, fun fu st => ?_⟩)
      unfold M_in
      rw [if_neg h1, if_pos]
      rw [Int32.le_iff_toInt_le] at h2
      rw [Int32.lt_iff_toInt_lt]
      omega
theorem q_wise {X : cc_X} {T : Nat → Nat} {sm : mm_S} {sc : cc_S} {fu : Nat} (hfu : 700 < fu) (h : Rel X T sm sc) (x w : Int32) : Eq2 X T (M_wise fu x w sm) (C_X11_wise X fu 0 x w sc) := by
  obtain ⟨N, y, D, K, ⟨hN, h0⟩, ⟨hy, h3⟩, ⟨hD, h1⟩, hYY⟩ := Rel_Y h
  obtain ⟨i9, i13, -⟩ := Rel_I h
  have h9 : cc_I sc 1 9 = nI N := i9.trans h0
  unfold M_wise C_X11_wise
  rw [px_go h.1 (by decide), px_go h.1 (by decide), px_go h.1 (by decide)]
  simp only [gd_true]
  rcases need_cases x hN with ⟨i, hi, rfl⟩ | hx
  rotate_left
  · rw [e_isNeed0 h0 hN hx, e_has0 (px_go h.1 (by decide)) h9 hx, bn_some, bn_some, if_pos rfl, if_pos rfl]
    exact Eq2_same h rfl rfl
  rw [e_isNeed1 h0 hi hN, e_has1 (px_go h.1 (by decide)) h9 hi hN, bn_some, bn_some, if_neg n10, if_neg n10]
  rcases in18 w with ⟨a1, a2⟩ | ⟨a1, a2, a3⟩ | ⟨a1, a2, ⟨n, hn1, hn, rfl⟩, a3⟩
  · rw [a2, bn_some, if_pos rfl, if_pos a1]
    exact Eq2_same h rfl rfl
  · rw [a3, bn_some, if_pos rfl, if_neg a1, if_neg a2]
    exact Eq2_same h rfl rfl
  rw [a3, bn_some, if_neg n10, if_neg a1, if_pos a2, i13, h1]
  have hY := hYY n hn
  obtain ⟨sa, s', ea, e2, l1, l2, l3⟩ := h_ask (M := D) (how := 0) (set := 0) hfu h hY hD (by omega)
  have e2' : C_X10_weigh X fu 3 (nI n) 0 0 sa = some s' := e2
  have c13 : cc_I s' 1 13 = nI D := ((l2.1 1 (by decide)).1 13).trans (i13.trans h1)
  have hs := c_serves (how := 0) (set := 0) (left := n) (d := D) (i := i) (fu := fu) h.1 hY l1 hD (by omega) hn1 (Nat.le_refl n) (Nat.le_refl D) hi (fun d hd => l3 (n - 1) d (by omega) hd)
  have hs' : C_X10_serves X fu 3 (nI i) (nI n) (nI D) 0 0 s' = _ := hs
  rw [ea, bv_some, e2', bv_some, c13, hs', bn_some]
  by_cases hD0 : D = 0
  · subst hD0
    rw [if_pos (show nI 0 = 0 from rfl)]
    unfold srvI
    rw [if_pos rfl, if_neg (show ¬ (false = true) by decide), if_pos rfl]
    exact ⟨0, sm, s', rfl, rfl, Rel_3 h l2⟩
  rw [if_neg (show ¬ nI D = 0 from fun e => hD0 ((nI_eq_iff (b := 0) (by omega) (by omega)).mp e))]
  obtain ⟨s5, e1, m1, m2⟩ := h_lay (how := 0) (set := 0) hfu hY mq_rf (by omega) (fun q => by omega)
  have e1' : M_layGains fu 0 (nI n) sm = some s5 := e1
  have q5 : mq sm s5 := mqs_q mq_rf m1
  have g1 : ∀ d, d ≤ 8 → mm_L s5 26 (10 * (0 + 1) + d) = oL (gtI (wJ sm y) K N n 0 0 (n - 1) d) := fun d hd => m2 1 d hn1 hd
  obtain ⟨⟨r, s6⟩, f1, f2, f3⟩ := h_served (g := gtI (wJ sm y) K N n 0 0 (n - 1)) (k := 0) (d := D) hfu hY q5 hi (by omega) (by omega) hD (g1 (D - 1) (by omega))
  obtain rfl : r = oL (svI (wJ sm y) K N n (gtI (wJ sm y) K N n 0 0 (n - 1)) (n - 0) D i) := f2
  have f3 : mq5 s5 s6 := f3
  have f1' : M_ifServed fu (nI i) 0 (nI n) (nI D) s5 = _ := f1
  have q6 : mq sm s6 := mq_of5 q5 f3
  have sp := h_spared (g := gtI (wJ sm y) K N n 0 0 (n - 1)) (k := 0) (d := D) hfu hY q6 (by omega) hD (by rw [f3.2.2 26]; exact g1 D hD)
  have sp' : M_ifSpared fu 0 (nI n) (nI D) s6 = _ := sp
  rw [e1', bv_some, q5.1 1 (by decide), h1, f1', bn_some, q6.1 1 (by decide), h1, sp', bn_some]
  obtain ⟨n', rfl⟩ : ∃ r, n = r + 1 := ⟨n - 1, by omega⟩
  rw [Nat.sub_zero, Nat.add_sub_cancel]
  have b1 := sv_i (how := 0) (set := 0) (i := i) hY (show n' ≤ 7 by omega) (show 1 ≤ D by omega) hD hi
  have b2 := sp_i (how := 0) (set := 0) hY (show n' ≤ 7 by omega) hD
  unfold srvI
  rw [if_neg hD0, if_pos rfl]
  generalize svI (wJ sm y) K N (n' + 1) (gtI (wJ sm y) K N (n' + 1) 0 0 n') (n' + 1) D i = a at b1
  generalize spI K N (gtI (wJ sm y) K N (n' + 1) 0 0 n') (n' + 1) D = b at b2
  have hR : Rel X T s6 s' := Rel_q q6 (Rel_3 h l2)
  by_cases hc : b < a
  · rw [if_neg (by rw [cmp_le, oL_toInt (by omega) (by omega), oL_toInt (by omega) (by omega)]; omega), if_pos (show decide (b < a) = true from decide_eq_true hc), if_neg n10]
    exact ⟨1, s6, s', rfl, rfl, hR⟩
  · rw [if_pos (by rw [cmp_le, oL_toInt (by omega) (by omega), oL_toInt (by omega) (by omega)]; omega), if_neg (show ¬ (decide (b < a) = true) by rw [decide_eq_true_eq]; exact hc), if_pos rfl]
    exact ⟨0, s6, s', rfl, rfl, hR⟩
theorem q_chosen {X : cc_X} {T : Nat → Nat} {sm : mm_S} {sc : cc_S} {fu : Nat} (hfu : 700 < fu) (h : Rel X T sm sc) (x : Int32) : Eq2 X T (M_chosen fu x sm) (C_X11_chosen X fu 0 x sc) := by
  obtain ⟨N, y, D, K, ⟨hN, h0⟩, ⟨hy, h3⟩, ⟨hD, h1⟩, hYY⟩ := Rel_Y h
  obtain ⟨i9, i13, -⟩ := Rel_I h
  unfold M_chosen C_X11_chosen
  rw [e_isYears, bn_some, e_win, bn_some, px_go h.1 (by decide), px_go h.1 (by decide), px_go h.1 (by decide)]
  simp only [gd_true]
  rcases inw_c x (m := 8) (by decide) with e | ⟨e, n, hn, rfl⟩
  · rw [show inw x 8 = 0 from e, if_pos rfl, if_pos rfl]
    exact Eq2_same h rfl rfl
  rw [show inw (nI n) 8 = 1 from e, if_neg n10, if_neg n10, i9, h0]
  by_cases hN0 : N = 0
  · subst hN0
    rw [if_pos (show nI 0 = 0 from rfl), if_pos (show nI 0 = 0 from rfl)]
    exact Eq2_same h rfl rfl
  rw [if_neg (show ¬ nI N = 0 from fun e => hN0 ((nI_eq_iff (b := 0) (by omega) (by omega)).mp e)), if_neg (show ¬ nI N = 0 from fun e => hN0 ((nI_eq_iff (b := 0) (by omega) (by omega)).mp e)), i13, h1]
  have hY := hYY n hn
  have hnn := hn
  obtain ⟨s1, e1, hL, hy3⟩ := h_look hfu h h0 hN h3 hy hn hD
  have c13 : cc_I s1 1 13 = nI D := ((hy3.1 1 (by decide)).1 13).trans (i13.trans h1)
  rw [e1, bv_some, c13]
  have h2N : 2 ^ N ≤ 64 := Nat.pow_le_pow_right (show 2 > 0 by decide) hN
  -- one set: both sides
  have one : ∀ set st s, mq sm st → Lk sm N y n D s → Y3 sc s → ∃ st' s', M_layGains fu 2 (nI n) (mm_sI st 27 set) = some st' ∧ mq sm st' ∧ mm_L st' 26 D = oL (gtI (wJ sm y) K N n 2 set n D) ∧ C_X10_weigh X fu 3 (nI n) 2 set s = some s' ∧ Lk sm N y n D s' ∧ Y3 sc s' ∧ cc_J s' 3 (100 * 2 + n) D = oL (gtI (wJ sm y) K N n 2 set n D) := by
    intro set st s hq hL hs
    obtain ⟨s5, f1, m1, m2⟩ := h_lay (how := 2) (set := set) (st := mm_sI st 27 set) hfu hY (mq_27 hq) (by omega) (fun _ => rfl)
    obtain ⟨s', g1, g2, g3, g4⟩ := h_weigh (how := 2) (set := set) hfu h.1 hY hL hD (by omega) (fun d hd => (hs.2 d hd).trans (Rel_z h d hd))
    have m3 := m2 0 D (by omega) hD
    rw [Nat.mul_zero, Nat.zero_add, Nat.sub_zero] at m3
    exact ⟨s5, s', f1, mqs_q (mq_27 hq) m1, m3, g1, g2, Y3_tr hs g3, g4 n D (Nat.le_refl n) (Nat.le_refl D)⟩
  have gJ : ∀ {s}, cc_ga X 3 2 5 (nI n) = true ∧ cc_ga X 3 (100 * 2 + n) 2 (nI D) = true := fun {_ : cc_S} => ⟨yr_ga h.1 (k := 2) (t := 5) (a := n) (by omega) rfl, yr_gr h.1 (q := 2) (r := n) (a := D) (Or.inl rfl) (by omega) (by omega) rfl⟩
  have loop : ∀ m k f found most st s, k + m = 2 ^ N → 1 ≤ k → m < f → mq sm st → Lk sm N y n D s → Y3 sc s → found < 64 → ∃ r st' s', M_chosen_b29 fu f (nI n) (nI found) most (nI k) st = some (r, st') ∧ mq sm st' ∧ C_X10_bestSet_b8 X fu f 3 (nI n) (nI D) (nI found) most (nI k) s = some (r, s') ∧ Y3 sc s' := by
    intro m
    induction m with
    | zero =>
      intro k f found most st s hkm hk1 hm hq hL hs hf
      obtain ⟨f, rfl⟩ : ∃ g, f = g + 1 := ⟨f - 1, by omega⟩
      rw [show M_chosen_b29 fu (f + 1) (nI n) (nI found) most (nI k) st = M_chosen_b29F fu (fun a b c d t => M_chosen_b29 fu f a b c d t) (nI n) (nI found) most (nI k) st from rfl, show C_X10_bestSet_b8 X fu (f + 1) 3 (nI n) (nI D) (nI found) most (nI k) s = C_X10_bestSet_b8F X fu (fun a b c d e g t => C_X10_bestSet_b8 X fu f a b c d e g t) 3 (nI n) (nI D) (nI found) most (nI k) s from rfl]
      unfold M_chosen_b29F C_X10_bestSet_b8F
      rw [hq.1 0 (by decide), h0, shl_t N (by omega), if_pos ((nI_le_iff (by omega) (by omega)).mpr (by omega)), px_go h.1 (i := 3) (c := 12) (by decide), gd_true, hL.1.1, shl_t N (by omega), if_pos ((nI_le_iff (by omega) (by omega)).mpr (by omega))]
      exact ⟨nI found, st, s, rfl, hq, rfl, hs⟩
    | succ m ih =>
      intro k f found most st s hkm hk1 hm hq hL hs hf
      obtain ⟨f, rfl⟩ : ∃ g, f = g + 1 := ⟨f - 1, by omega⟩
      have hle : ¬ nI (2 ^ N) ≤ nI k := fun q => by have := (nI_le_iff (by omega) (by omega)).mp q; omega
      rw [show M_chosen_b29 fu (f + 1) (nI n) (nI found) most (nI k) st = M_chosen_b29F fu (fun a b c d t => M_chosen_b29 fu f a b c d t) (nI n) (nI found) most (nI k) st from rfl, show C_X10_bestSet_b8 X fu (f + 1) 3 (nI n) (nI D) (nI found) most (nI k) s = C_X10_bestSet_b8F X fu (fun a b c d e g t => C_X10_bestSet_b8 X fu f a b c d e g t) 3 (nI n) (nI D) (nI found) most (nI k) s from rfl]
      unfold M_chosen_b29F C_X10_bestSet_b8F M_chosen_b73 M_chosen_b86 C_X10_bestSet_b46 C_X10_bestSet_b59
      obtain ⟨st', s', f1, f2, f3, f4, f5, f6, f7⟩ := one (nI k) st s hq hL hs
      rw [hq.1 0 (by decide), h0, shl_t N (by omega), if_neg hle, px_go h.1 (i := 3) (c := 12) (by decide), gd_true, hL.1.1, shl_t N (by omega), if_neg hle, nm_eq, f1, bv_some, f4, bv_some, if_neg (i3_neg (show found < 2 ^ 31 by omega)), f2.1 1 (by decide), h1, nI_ix (by omega) (by decide), nI_clamp (show D < 2 ^ 31 by omega), f3, if_neg (show ¬ nI k = 0 from fun e => by have := (nI_eq_iff (b := 0) (by omega) (by omega)).mp e; omega), nI_clamp (show n < 2 ^ 31 by omega), (gJ (s := s)).1, (gJ (s := s)).2, f7, nI_1]
      simp only [gd_true, nm_eq]
      by_cases hc : lg_cmp (oL (gtI (wJ sm y) K N n 2 (nI k) n D)) most ≤ 0
      · have hc2 : ¬ 0 < lg_cmp (oL (gtI (wJ sm y) K N n 2 (nI k) n D)) most := by
          rw [cmp_pos]
          rw [cmp_le] at hc
          omega
        rw [if_neg hc2, if_pos hc]
        exact ih (k + 1) f found most st' s' (by omega) (by omega) (by omega) f2 f5 f6 hf
      · have hc2 : 0 < lg_cmp (oL (gtI (wJ sm y) K N n 2 (nI k) n D)) most := by
          rw [cmp_pos]
          rw [cmp_le] at hc
          omega
        rw [if_pos hc2, if_neg hc]
        exact ih (k + 1) f k _ st' s' (by omega) (by omega) (by omega) f2 f5 f6 (by omega)
  obtain ⟨fu', hfu'⟩ : ∃ g, fu = g + 1 := ⟨fu - 1, by omega⟩
  have hpos := Nat.two_pow_pos N
  obtain ⟨st', s', f1, f2, f3, f4, f5, f6, f7⟩ := one 0 sm s1 mq_rf hL hy3
  obtain ⟨r, st2, s2, g1, g2, g3, g4⟩ := loop (2 ^ N - 1) 1 fu' 0 (oL (gtI (wJ sm y) K N n 2 0 n D)) st' s' (by omega) (by omega) (by omega) f2 f5 f6 (by omega)
  have hle : ¬ nI (2 ^ N) ≤ 0 := nI_nle (by omega) (by omega)
  have A1 : M_chosen_b29 fu fu (nI n) (-5) 0 0 sm = some (r, st2) := by
    rw [← g1, show M_chosen_b29 fu fu (nI n) (-5) 0 0 sm = M_chosen_b29 fu (fu' + 1) (nI n) (-5) 0 0 sm by rw [← hfu'], show M_chosen_b29 fu (fu' + 1) (nI n) (-5) 0 0 sm = M_chosen_b29F fu (fun a b c d t => M_chosen_b29 fu fu' a b c d t) (nI n) (-5) 0 0 sm from rfl]
    unfold M_chosen_b29F M_chosen_b73 M_chosen_b86
    rw [h0, shl_t N (by omega), if_neg hle, nm_eq, f1, bv_some, if_pos (by decide), f2.1 1 (by decide), h1, nI_ix (by omega) (by decide), nI_clamp (show D < 2 ^ 31 by omega), f3, gd_true, nm_eq, nm_eq]
    rfl
  have A2 : C_X10_bestSet X fu 3 (nI n) (nI D) s1 = some (r, s2) := by
    unfold C_X10_bestSet
    rw [← g3, show C_X10_bestSet_b8 X fu fu 3 (nI n) (nI D) 0 0 0 s1 = C_X10_bestSet_b8 X fu (fu' + 1) 3 (nI n) (nI D) 0 0 0 s1 by rw [← hfu'], show C_X10_bestSet_b8 X fu (fu' + 1) 3 (nI n) (nI D) 0 0 0 s1 = C_X10_bestSet_b8F X fu (fun a b c d e g t => C_X10_bestSet_b8 X fu fu' a b c d e g t) 3 (nI n) (nI D) 0 0 0 s1 from rfl]
    unfold C_X10_bestSet_b8F C_X10_bestSet_b46 C_X10_bestSet_b59
    rw [px_go h.1 (i := 3) (c := 12) (by decide), gd_true, hL.1.1, shl_t N (by omega), if_neg hle, f4, bv_some, if_pos rfl, gd_true, (gJ (s := s')).1, gd_true, nI_clamp (show n < 2 ^ 31 by omega), (gJ (s := s')).2, gd_true, nI_clamp (show D < 2 ^ 31 by omega), f7, nm_eq, nm_eq]
    rfl
  rw [A1, A2, bn_some]
  exact ⟨r, st2, s2, rfl, rfl, Rel_q g2 (Rel_3 h g4)⟩
