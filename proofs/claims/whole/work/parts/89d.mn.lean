/-! fractions -/
theorem L_rem {P Q : Nat} (hP : P ≤ 1000000000000000000) (hQ : 0 < Q) (hQ2 : Q ≤ 1000000000000000000) : lN P - lN P / lN Q * lN Q = lN (P % Q) := by
  have hd : P / Q ≤ P := Nat.div_le_self P Q
  have t3 : ∀ q : Nat, q ≤ P → (oL (q : Int)).toInt = q := fun q hq => oL_toInt (by omega) (by omega)
  have e : lN P / lN Q = lN (P / Q) := by
    rw [oL_nat, oL_nat, oL_nat, ← Int64.toInt_inj, Int64.toInt_div, t3 P (Nat.le_refl P), oL_toInt (by omega) (by omega), t3 _ hd, Int.tdiv_eq_ediv_of_nonneg (by omega), ← Int.natCast_ediv]
    generalize P / Q = q at hd
    exact Int.bmod_eq_of_le (by omega) (by omega)
  rw [e, lN_mul, lN_sub (Nat.div_mul_le_self P Q)]
  congr 1
  have h := Nat.div_add_mod P Q
  rw [Nat.mul_comm] at h
  omega
theorem lN_0 {n : Nat} (h : n ≤ 1000000000000000000) : lN n = 0 ↔ n = 0 := by
  rw [← Int64.toInt_inj, oL_nat, oL_toInt (by omega) (by omega)]
  have : (0 : Int64).toInt = 0 := rfl
  omega
theorem h_euclid {X : cc_X} {fu : Nat} : ∀ (j P Q k f f' : Nat), Q < 2 ^ j → k + 2 * j + 1 ≤ 1000 → 2 * j + 2 ≤ f → 2 * j + 2 ≤ f' → 0 < P ∨ 0 < Q → P ≤ 1000000000000000000 → Q ≤ 1000000000000000000 → ∃ g, 0 < g ∧ g ≤ 1000000000000000000 ∧ (∀ st, M_divisor_b17 fu f (lN P) (lN Q) st = some (lN g, st)) ∧ ∀ sc, C_X11_commonOf_b9 X fu f' (lN P) (lN Q) (nI k) sc = some (lN g, sc) := by
  have stop : ∀ P k f f' : Nat, 0 < P → P ≤ 1000000000000000000 → k < 1000 → 1 ≤ f → 1 ≤ f' → ∃ g, 0 < g ∧ g ≤ 1000000000000000000 ∧ (∀ st, M_divisor_b17 fu f (lN P) (lN 0) st = some (lN g, st)) ∧ ∀ sc, C_X11_commonOf_b9 X fu f' (lN P) (lN 0) (nI k) sc = some (lN g, sc) := by
    intro P k f f' hP hP2 hk hf hf'
    obtain ⟨f, rfl⟩ : ∃ g, f = g + 1 := ⟨f - 1, by omega⟩
    obtain ⟨f', rfl⟩ : ∃ g, f' = g + 1 := ⟨f' - 1, by omega⟩
    refine ⟨P, hP, hP2, fun st => ?_, fun sc => ?_⟩
    · rw [show M_divisor_b17 fu (f + 1) (lN P) (lN 0) st = M_divisor_b17F fu (fun a b s => M_divisor_b17 fu f a b s) (lN P) (lN 0) st from rfl]
      unfold M_divisor_b17F
      rw [if_pos ((cmp_eq (lN 0) 0).mpr rfl)]
    · rw [show C_X11_commonOf_b9 X fu (f' + 1) (lN P) (lN 0) (nI k) sc = C_X11_commonOf_b9F X fu (fun a b c s => C_X11_commonOf_b9 X fu f' a b c s) (lN P) (lN 0) (nI k) sc from rfl]
      unfold C_X11_commonOf_b9F
      rw [if_neg (show ¬ (1000 : Int32) ≤ nI k from fun q => by have := (nI_le_iff (a := 1000) (by omega) (by omega)).mp q; omega), if_pos ((cmp_eq (lN 0) 0).mpr rfl)]
  have step : ∀ P Q k f f' : Nat, 0 < Q → P ≤ 1000000000000000000 → Q ≤ 1000000000000000000 → k < 1000 → (∀ st, M_divisor_b17 fu (f + 1) (lN P) (lN Q) st = M_divisor_b17 fu f (lN Q) (lN (P % Q)) st) ∧ (∀ sc, C_X11_commonOf_b9 X fu (f' + 1) (lN P) (lN Q) (nI k) sc = C_X11_commonOf_b9 X fu f' (lN Q) (lN (P % Q)) (nI (k + 1)) sc) := by
    intro P Q k f f' hQ hP hQ2 hk
    have hne : ¬ lN Q = 0 := fun e => by
      have := (lN_0 hQ2).mp e
      omega
    have hz : fc_nzl (lN Q) = true := decide_eq_true hne
    refine ⟨fun st => ?_, fun sc => ?_⟩
    · rw [show M_divisor_b17 fu (f + 1) (lN P) (lN Q) st = M_divisor_b17F fu (fun a b s => M_divisor_b17 fu f a b s) (lN P) (lN Q) st from rfl]
      unfold M_divisor_b17F
      rw [if_neg (fun e => hne ((cmp_eq _ _).mp e)), hz, gd_true, nm_eq, L_rem hP hQ hQ2]
    · rw [show C_X11_commonOf_b9 X fu (f' + 1) (lN P) (lN Q) (nI k) sc = C_X11_commonOf_b9F X fu (fun a b c s => C_X11_commonOf_b9 X fu f' a b c s) (lN P) (lN Q) (nI k) sc from rfl]
      unfold C_X11_commonOf_b9F
      rw [if_neg (show ¬ (1000 : Int32) ≤ nI k from fun q => by have := (nI_le_iff (a := 1000) (by omega) (by omega)).mp q; omega), if_neg (fun e => hne ((cmp_eq _ _).mp e)), hz, gd_true, nm_eq, nm_eq, L_rem hP hQ hQ2, nI_1]
  intro j
  induction j with
  | zero =>
    intro P Q k f f' hQ hk hf hf' hp hP hQ2
    have h0 : Q = 0 := by
      rw [Nat.pow_zero] at hQ
      omega
    subst h0
    exact stop P k f f' (by omega) hP (by omega) (by omega) (by omega)
  | succ j ih =>
    intro P Q k f f' hQ hk hf hf' hp hP hQ2
    by_cases h0 : Q = 0
    · subst h0
      exact stop P k f f' (by omega) hP (by omega) (by omega) (by omega)
    obtain ⟨f, rfl⟩ : ∃ g, f = g + 1 + 1 := ⟨f - 2, by omega⟩
    obtain ⟨f', rfl⟩ : ∃ g, f' = g + 1 + 1 := ⟨f' - 2, by omega⟩
    obtain ⟨a1, a2⟩ := step P Q k (f + 1) (f' + 1) (by omega) hP hQ2 (by omega)
    have hr : P % Q < Q := Nat.mod_lt P (by omega)
    by_cases h1 : P % Q = 0
    · rw [h1] at a1 a2
      obtain ⟨g, g1, g2, e1, e2⟩ := stop Q (k + 1) (f + 1) (f' + 1) (by omega) hQ2 (by omega) (by omega) (by omega)
      exact ⟨g, g1, g2, fun st => (a1 st).trans (e1 st), fun sc => (a2 sc).trans (e2 sc)⟩
    obtain ⟨b1, b2⟩ := step Q (P % Q) (k + 1) f f' (by omega) hQ2 (by omega) (by omega)
    have h2 : Q % (P % Q) < P % Q := Nat.mod_lt Q (by omega)
    have h3 : Q % (P % Q) + P % Q ≤ Q := by
      have h4 := Nat.div_add_mod Q (P % Q)
      have h5 : 1 ≤ Q / (P % Q) := Nat.div_pos (by omega) (by omega)
      have h6 : P % Q * 1 ≤ P % Q * (Q / (P % Q)) := Nat.mul_le_mul_left _ h5
      omega
    have h7 : 2 ^ (j + 1) = 2 * 2 ^ j := by rw [Nat.pow_succ, Nat.mul_comm]
    obtain ⟨g, g1, g2, e1, e2⟩ := ih (P % Q) (Q % (P % Q)) (k + 1 + 1) f f' (by omega) (by omega) (by omega) (by omega) (by omega) (by omega) (by omega)
    exact ⟨g, g1, g2, fun st => (a1 st).trans ((b1 st).trans (e1 st)), fun sc => (a2 sc).trans ((b2 sc).trans (e2 sc))⟩
theorem h_frac {X : cc_X} {fu : Nat} (hfu : 700 < fu) {A B : Int} {part : Int32} (hA : -1000000000000 ≤ A) (hA2 : A ≤ 1000000000000) (hB : 1 ≤ B) (hB2 : B ≤ 1679616) : ∃ v, (∀ st, M_lowest fu (oL A) (oL B) part st = some (v, st)) ∧ ∀ sc, C_X11_fraction X fu (oL A) (oL B) part sc = some (v, sc) := by
  obtain ⟨b, rfl⟩ : ∃ b : Nat, B = b := ⟨B.toNat, by omega⟩
  have eA : (oL A).toInt = A := oL_toInt (by omega) (by omega)
  have z0 : (0 : Int64).toInt = 0 := rfl
  obtain ⟨g, hg, hg2, e1, e2⟩ := h_euclid (X := X) (fu := fu) 21 A.natAbs b 0 fu fu (by have h21 : 2 ^ 21 = 2097152 := (by decide); omega) (by omega) (by omega) (by omega) (by omega) (by omega) (by omega)
  have eD : ∀ st, M_divisor fu (oL A) (oL b) st = some (lN g, st) := fun st => by
    unfold M_divisor M_divisor_b12
    by_cases h0 : 0 ≤ A
    · rw [if_pos (by rw [cmp_nn, eA, z0]; exact h0)]
      have e : oL A = lN A.natAbs := by
        rw [oL_nat]
        congr 1
        omega
      rw [e]
      exact e1 st
    · rw [if_neg (by rw [cmp_nn, eA, z0]; exact h0), oL_neg]
      have e : oL (-A) = lN A.natAbs := by
        rw [oL_nat]
        congr 1
        omega
      rw [e]
      exact e1 st
  have eC : ∀ sc, C_X11_commonOf X fu (if 0 < oL A then oL A else -oL A) (oL b) sc = some (lN g, sc) := fun sc => by
    unfold C_X11_commonOf
    have e : (if 0 < oL A then oL A else -oL A) = lN A.natAbs := by
      by_cases h0 : 0 < A
      · rw [if_pos (by rw [Int64.lt_iff_toInt_lt, eA, z0]; exact h0), oL_nat]
        congr 1
        omega
      · rw [if_neg (by rw [Int64.lt_iff_toInt_lt, eA, z0]; exact h0), oL_neg, oL_nat]
        congr 1
        omega
    rw [e]
    exact e2 sc
  have hne : ¬ lN g = 0 := fun e => by
    have := (lN_0 hg2).mp e
    omega
  have hz : fc_nzl (lN g) = true := decide_eq_true hne
  have hm : (if lN g < (1 : Int64) then (1 : Int64) else lN g) = lN g := by
    rw [if_neg]
    rw [Int64.lt_iff_toInt_lt, oL_nat, oL_toInt (by omega) (by omega)]
    have : (1 : Int64).toInt = 1 := rfl
    omega
  refine ⟨if part = 0 then oL A / lN g else oL b / lN g, fun st => ?_, fun sc => ?_⟩
  · unfold M_lowest
    rw [eD, bn_some, hz]
    simp only [gd_true]
    split <;> rfl
  · unfold C_X11_fraction
    rw [eC, bn_some, hm, nm_eq, hz]
    simp only [gd_true]
    split <;> rfl
/-! mean, greedy, only, price, wise -/
theorem Rel_z {X : cc_X} {T : Nat → Nat} {sm : mm_S} {sc : cc_S} (h : Rel X T sm sc) : ∀ d, d < 9 → cc_J sc 3 200 d = 0 := by
  obtain ⟨A, -, -, -, -, -, -, hz⟩ := Rel_m h
  exact hz
theorem Rel_Y {X : cc_X} {T : Nat → Nat} {sm : mm_S} {sc : cc_S} (h : Rel X T sm sc) : ∃ N y D K, (N ≤ 6 ∧ mm_I sm 0 = nI N) ∧ (y ≤ 9999 ∧ mm_I sm 3 = nI y) ∧ (D ≤ 8 ∧ mm_I sm 1 = nI D) ∧ ∀ n, n ≤ 8 → Yq sm N y D K n := by
  obtain ⟨N, D, y, c, s, b, ⟨hN, h0⟩, ⟨hD, h1⟩, ⟨hy, h3⟩, -, -, -, -, -, -, -, hr⟩ := Rel_R h
  obtain ⟨N', hN', h0', -, hk⟩ := Rel_n h
  have e : N' = N := (nI_eq_iff (by omega) (by omega)).mp (h0'.symm.trans h0)
  subst e
  obtain ⟨K, hK, eK⟩ := keep_b (Rel_M h)
  refine ⟨N', y, D, K, ⟨hN, h0⟩, ⟨hy, h3⟩, ⟨hD, h1⟩, fun n hn => ⟨Rel_M h, ⟨hN, h0⟩, ⟨hy, h3⟩, ⟨hD, h1⟩, ⟨hK, eK⟩, hn, fun t d i hi => ?_⟩⟩
  unfold wJ
  split
  · refine wI_any (Rel_M h) hN hy (fun i hi => ?_) (fun k hk => ?_) t d i hi (by omega)
    · obtain ⟨z, κ, ν, a1, a2, a3, a4, a5, a6, a7, a8, -⟩ := hk i hi
      exact ⟨ν, a6, a8⟩
    · obtain ⟨w, hw, e, -⟩ := hr k hk
      exact ⟨w, hw, e⟩
  · omega
theorem h_ask {X : cc_X} {T : Nat → Nat} {fu N y D K n M how : Nat} {sm : mm_S} {sc : cc_S} {set : Int32} (hfu : 700 < fu) (h : Rel X T sm sc) (hY : Yq sm N y D K n) (hM : M ≤ 8) (hhow : how ≤ 2) :
    ∃ sa s, C_X10_look X fu 3 1 (nI n) (nI M) sc = some sa ∧ C_X10_weigh X fu 3 (nI n) (nI how) set sa = some s ∧ Lk sm N y n M s ∧ Y3 sc s ∧ ∀ l d, l ≤ n → d ≤ M → cc_J s 3 (200 + l) d = oL (gtI (wJ sm y) K N n how set l d) := by
  obtain ⟨sa, ea, hL, hy3⟩ := h_look hfu h hY.2.1.2 hY.2.1.1 hY.2.2.1.2 hY.2.2.1.1 hY.2.2.2.2.2.1 hM
  obtain ⟨s', e, h1, h2, h3⟩ := h_weigh (set := set) hfu h.1 hY hL hM hhow (fun d hd => (hy3.2 d hd).trans (Rel_z h d hd))
  exact ⟨sa, s', ea, e, h1, Y3_tr hy3 h2, h3⟩
def askv (N x p : Int32) : Int32 := if inw x 8 = 0 then 0 else if inw p 1 = 0 then 0 else if N ≤ 0 then 0 else 1
theorem e_askedM {fu : Nat} {x p : Int32} {st : mm_S} : M_isAsked fu x p st = some (askv (mm_I st 0) x p, st) := by
  unfold M_isAsked askv
  rw [e_isYears, bn_some]
  split
  · rfl
  rw [e_in, bn_some]
  split
  · rfl
  split <;> rfl
theorem e_askedC {X : cc_X} {fu : Nat} {x p : Int32} {sc : cc_S} (hX : px_X X) : C_X11_isAsked X fu 0 x p sc = some (askv (cc_I sc 1 9) x p, sc) := by
  unfold C_X11_isAsked askv
  rw [e_win, bn_some, px_go hX (by decide), px_go hX (by decide)]
  split
  · rfl
  rw [e_win, bn_some]
  split
  · rfl
  simp only [gd_true]
  split <;> rfl
theorem askv_c {N : Nat} {x p : Int32} (hN : N ≤ 6) : askv (nI N) x p = 0 ∨ askv (nI N) x p = 1 ∧ 1 ≤ N ∧ (∃ n, n ≤ 8 ∧ x = nI n) ∧ ∃ q, q ≤ 1 ∧ p = nI q := by
  unfold askv
  rcases inw_c x (m := 8) (by decide) with e | ⟨e, n, hn, rfl⟩
  · rw [show inw x 8 = 0 from e, if_pos rfl]
    exact Or.inl rfl
  rw [show inw (nI n) 8 = 1 from e, if_neg n10]
  rcases inw_c p (m := 1) (by decide) with e | ⟨e, q, hq, rfl⟩
  · rw [show inw p 1 = 0 from e, if_pos rfl]
    exact Or.inl rfl
  rw [show inw (nI q) 1 = 1 from e, if_neg n10]
  by_cases h0 : N = 0
  · subst h0
    rw [if_pos (by decide)]
    exact Or.inl rfl
  · rw [if_neg (nI_nle (by omega) (by omega))]
    exact Or.inr ⟨rfl, by omega, ⟨n, hn, rfl⟩, q, hq, rfl⟩
theorem pw_1 {N n : Nat} (h1 : 1 ≤ N) (hN : N ≤ 6) (hn : n ≤ 8) : 1 ≤ (N : Int) ^ n ∧ (N : Int) ^ n ≤ 1679616 := by
  obtain ⟨a, b⟩ := pw_b hN hn
  refine ⟨?_, b⟩
  have := Nat.pow_pos (n := n) (show 0 < N by omega)
  rw [← Int.natCast_pow]
  omega
theorem h_onMean {X : cc_X} {T : Nat → Nat} {fu how : Nat} {sm st : mm_S} {sc : cc_S} {set x p : Int32} (hfu : 700 < fu) (h : Rel X T sm sc) (hq : mq sm st) (hhow : how ≤ 2) (h27 : how = 2 → mm_I st 27 = set) (ha : askv (mm_I sm 0) x p = 1) :
    Eq2 X T (fc_bv (M_layGains fu (nI how) x st) fun st5 => fc_gd (fc_ix (mm_I st5 1) 90) <| fc_bn (M_ways fu x st5) fun r10 st8 => fc_bn (M_lowest fu (mm_L st5 26 (mm_I st5 1).toNatClampNeg) r10 p st8) fun r13 st11 => some (r13, st11)) (C_X11_onTheMean X fu 0 x (nI how) set p sc) := by
  obtain ⟨N, y, D, K, ⟨hN, h0⟩, ⟨hy, h3⟩, ⟨hD, h1⟩, hYY⟩ := Rel_Y h
  obtain ⟨i9, i13, -⟩ := Rel_I h
  unfold C_X11_onTheMean
  rw [e_askedC h.1, i9, ha, bn_some, if_neg n10, px_go h.1 (by decide), px_go h.1 (by decide), px_go h.1 (by decide), i13, h1]
  simp only [gd_true]
  rw [h0] at ha
  obtain ⟨hN1, ⟨n, hn, rfl⟩, -⟩ := (askv_c (x := x) (p := p) hN).resolve_left (fun e => by rw [ha] at e; exact n10 e) |>.2
  have hY := hYY n hn
  obtain ⟨s5, e1, m1, m2⟩ := h_lay (set := set) hfu hY hq hhow h27
  obtain ⟨sa, s', ea, e2, l1, l2, l3⟩ := h_ask (set := set) hfu h hY hD hhow
  have q5 : mq sm s5 := mqs_q hq m1
  have g5 : mm_L s5 26 D = oL (gtI (wJ sm y) K N n how set n D) := by
    have := m2 0 D (by omega) hD
    rw [Nat.mul_zero, Nat.zero_add, Nat.sub_zero] at this
    exact this
  have c13 : cc_I s' 1 13 = nI D := ((l2.1 1 (by decide)).1 13).trans (i13.trans h1)
  obtain ⟨b1, b2⟩ := gt_i (how := how) (set := set) hY hn hD
  obtain ⟨p1, p2⟩ := pw_1 hN1 hN hn
  obtain ⟨v, f1, f2⟩ := h_frac (X := X) hfu (part := p) (show -1000000000000 ≤ gtI (wJ sm y) K N n how set n D by omega) (by omega) p1 p2
  have ej : cc_J s' 3 1 n = oL ((N : Int) ^ n) := by
    rw [l1.2.1 n (Nat.le_refl n), oL_nat, Int.natCast_pow]
  rw [e1, bv_some, q5.1 1 (by decide), h1, nI_ix (by omega) (by decide), gd_true, h_ways (sm := sm) hfu ((q5.1 0 (by decide)).trans h0) hN hn, bn_some, nI_clamp (show D < 2 ^ 31 by omega), g5, f1, bn_some, ea, bv_some, e2, bv_some, c13, yr_ga h.1 (k := 2) (t := 5) (a := n) (j := nI n) (by omega) rfl, gd_true, nI_clamp (show n < 2 ^ 31 by omega), nI_clamp (show D < 2 ^ 31 by omega), yr_gr h.1 (q := 2) (r := n) (a := D) (Or.inl rfl) (by omega) (by omega) rfl, gd_true, yr_ga h.1 (k := 1) (t := 2) (a := n) (j := nI n) (by omega) rfl, gd_true, l3 n D (Nat.le_refl n) (Nat.le_refl D), ej, f2, bn_some]
  exact ⟨v, s5, s', rfl, rfl, Rel_q q5 (Rel_3 h l2)⟩
theorem h_notMean {X : cc_X} {T : Nat → Nat} {fu : Nat} {sm : mm_S} {sc : cc_S} {how set x p : Int32} (h : Rel X T sm sc) (ha : askv (mm_I sm 0) x p = 0) : C_X11_onTheMean X fu 0 x how set p sc = some (-9223372036854775808, sc) := by
  obtain ⟨i9, -⟩ := Rel_I h
  unfold C_X11_onTheMean
  rw [e_askedC h.1, i9, ha, bn_some, if_pos rfl, px_go h.1 (by decide), gd_true]
theorem ask_2 {N : Nat} {x p : Int32} (hN : N ≤ 6) : askv (nI N) x p = 0 ∨ askv (nI N) x p = 1 := (askv_c hN).imp id (fun e => e.1)
theorem q_mean {X : cc_X} {T : Nat → Nat} {sm : mm_S} {sc : cc_S} {fu : Nat} (hfu : 700 < fu) (h : Rel X T sm sc) (x p : Int32) : Eq2 X T (M_mean fu x p sm) (C_X11_mean X fu 0 x p sc) := by
  obtain ⟨N, y, D, K, ⟨hN, h0⟩, -⟩ := Rel_Y h
  unfold M_mean C_X11_mean
  rw [e_askedM, bn_some, px_go h.1 (by decide), gd_true, bn_id]
  rcases ask_2 (x := x) (p := p) hN with e | e
  · rw [← h0] at e
    rw [e, if_pos rfl, h_notMean h e]
    exact Eq2_same h rfl rfl
  · rw [← h0] at e
    rw [e, if_neg n10]
    exact h_onMean (how := 0) hfu h mq_rf (by omega) (fun q => by omega) e
theorem q_greedy {X : cc_X} {T : Nat → Nat} {sm : mm_S} {sc : cc_S} {fu : Nat} (hfu : 700 < fu) (h : Rel X T sm sc) (x p : Int32) : Eq2 X T (M_greedy fu x p sm) (C_X11_greedy X fu 0 x p sc) := by
  obtain ⟨N, y, D, K, ⟨hN, h0⟩, -⟩ := Rel_Y h
  unfold M_greedy C_X11_greedy
  rw [e_askedM, bn_some, px_go h.1 (by decide), gd_true, bn_id]
  rcases ask_2 (x := x) (p := p) hN with e | e
  · rw [← h0] at e
    rw [e, if_pos rfl, h_notMean h e]
    exact Eq2_same h rfl rfl
  · rw [← h0] at e
    rw [e, if_neg n10]
    exact h_onMean (how := 1) hfu h mq_rf (by omega) (fun q => by omega) e
theorem q_only {X : cc_X} {T : Nat → Nat} {sm : mm_S} {sc : cc_S} {fu : Nat} (hfu : 700 < fu) (h : Rel X T sm sc) (w x p : Int32) : Eq2 X T (M_only fu w x p sm) (C_X11_only X fu 0 w x p sc) := by
  obtain ⟨N, y, D, K, ⟨hN, h0⟩, -⟩ := Rel_Y h
  unfold M_only C_X11_only
  rw [e_in, e_win, bn_some, bn_some]
  split
  · exact Eq2_same h rfl rfl
  rw [e_askedM, bn_some, px_go h.1 (by decide), gd_true, bn_id]
  rcases ask_2 (x := x) (p := p) hN with e | e
  · rw [← h0] at e
    rw [e, if_pos rfl, h_notMean h e]
    exact Eq2_same h rfl rfl
  · rw [← h0] at e
    rw [e, if_neg n10]
    exact h_onMean (how := 2) (st := mm_sI sm 27 w) hfu h (mq_27 mq_rf) (by omega) (fun _ => rfl) e
theorem q_price {X : cc_X} {T : Nat → Nat} {sm : mm_S} {sc : cc_S} {fu : Nat} (hfu : 700 < fu) (h : Rel X T sm sc) (x p : Int32) : Eq2 X T (M_price fu x p sm) (C_X11_price X fu 0 x p sc) := by
  obtain ⟨N, y, D, K, ⟨hN, h0⟩, ⟨hy, h3⟩, ⟨hD, h1⟩, hYY⟩ := Rel_Y h
  obtain ⟨i9, i13, -⟩ := Rel_I h
  unfold M_price C_X11_price
  rw [e_askedM, bn_some, px_go h.1 (by decide), px_go h.1 (by decide), px_go h.1 (by decide), e_askedC h.1, bn_some, i9, i13, h1, h0]
  simp only [gd_true]
  rcases askv_c (x := x) (p := p) hN with e | ⟨e, hN1, ⟨n, hn, rfl⟩, -⟩
  · rw [e, if_pos rfl, if_pos rfl]
    exact Eq2_same h rfl rfl
  rw [e, if_neg n10, if_neg n10]
  by_cases hD8 : D = 8
  · subst hD8
    rw [if_pos (show nI 8 = 8 from rfl), if_neg (show ¬ nI 8 < 8 by decide)]
    exact Eq2_same h rfl rfl
  rw [if_neg (show ¬ nI D = 8 from fun e => hD8 ((nI_eq_iff (b := 8) (by omega) (by omega)).mp e)), if_pos (show nI D < 8 from (nI_lt_iff (b := 8) (by omega) (by omega)).mpr (by omega)), nm_eq, nI_1]
  have hY := hYY n hn
  obtain ⟨s5, e1, m1, m2⟩ := h_lay (how := 0) (set := 0) hfu hY mq_rf (by omega) (fun q => by omega)
  obtain ⟨sa, s', ea, e2, l1, l2, l3⟩ := h_ask (M := D + 1) (how := 0) (set := 0) hfu h hY (by omega) (by omega)
  have q5 : mq sm s5 := mqs_q mq_rf m1
  have g5 : ∀ d, d ≤ 8 → mm_L s5 26 d = oL (gtI (wJ sm y) K N n 0 0 n d) := fun d hd => by
    have := m2 0 d (by omega) hd
    rw [Nat.mul_zero, Nat.zero_add, Nat.sub_zero] at this
    exact this
  have c13 : cc_I s' 1 13 = nI D := ((l2.1 1 (by decide)).1 13).trans (i13.trans h1)
  obtain ⟨b1, b2⟩ := gt_i (how := 0) (set := 0) hY hn hD
  obtain ⟨b3, b4⟩ := gt_i (how := 0) (set := 0) hY hn (show D + 1 ≤ 8 by omega)
  obtain ⟨p1, p2⟩ := pw_1 hN1 hN hn
  obtain ⟨v, f1, f2⟩ := h_frac (X := X) hfu (part := p) (show -1000000000000 ≤ gtI (wJ sm y) K N n 0 0 n (D + 1) - gtI (wJ sm y) K N n 0 0 n D by omega) (by omega) p1 p2
  have ej : cc_J s' 3 1 n = oL ((N : Int) ^ n) := by
    rw [l1.2.1 n (Nat.le_refl n), oL_nat, Int.natCast_pow]
  have e1' : M_layGains fu 0 (nI n) sm = some s5 := e1
  have e2' : C_X10_weigh X fu 3 (nI n) 0 0 sa = some s' := e2
  rw [e1', bv_some, q5.1 1 (by decide), h1, nI_1, nI_ix (by omega) (by decide), nI_ix (by omega) (by decide), gd_true, gd_true, h_ways (sm := sm) hfu ((q5.1 0 (by decide)).trans h0) hN hn, bn_some, nI_clamp (show D < 2 ^ 31 by omega), nI_clamp (show D + 1 < 2 ^ 31 by omega), g5 D hD, g5 (D + 1) (by omega), oL_sub, f1, bn_some, ea, bv_some, e2', bv_some, c13, yr_ga h.1 (k := 2) (t := 5) (a := n) (j := nI n) (by omega) rfl, nI_clamp (show n < 2 ^ 31 by omega), nI_clamp (show D < 2 ^ 31 by omega), yr_gr h.1 (q := 2) (r := n) (a := D) (j := nI D) (Or.inl rfl) (by omega) (by omega) rfl, yr_gr h.1 (q := 2) (r := n) (a := D + 1) (j := nI (D + 1)) (Or.inl rfl) (by omega) (by omega) rfl, yr_ga h.1 (k := 1) (t := 2) (a := n) (j := nI n) (by omega) rfl, l3 n D (Nat.le_refl n) (by omega), l3 n (D + 1) (Nat.le_refl n) (Nat.le_refl _), ej, oL_sub, f2, bn_some]
  simp only [gd_true]
  exact ⟨v, s5, s', rfl, rfl, Rel_q q5 (Rel_3 h l2)⟩
