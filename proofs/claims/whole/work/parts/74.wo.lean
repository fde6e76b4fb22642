/-! the class's worth, of a need -/
theorem i3_neg {n : Nat} (h : n < 2 ^ 31) : ¬ nI n < 0 := nI_pos h
theorem need_cases (x : Int32) {n : Nat} (hn : n ≤ 6) : (∃ i, i < n ∧ x = nI i) ∨ (x < 0 ∨ nI n ≤ x) := by
  by_cases h : x < 0
  · exact Or.inr (Or.inl h)
  · by_cases h2 : nI n ≤ x
    · exact Or.inr (Or.inr h2)
    · have h3 : 0 ≤ x.toInt := by
        rw [Int32.lt_iff_toInt_lt] at h
        have e : (0 : Int32).toInt = 0 := rfl
        omega
      obtain ⟨j, hj, rfl, -⟩ := nI_ex h3
      rw [nI_le_iff (by omega) hj] at h2
      exact Or.inl ⟨j, by omega, rfl⟩
theorem e_isNeed1 {fu i n : Nat} {st : mm_S} (h0 : mm_I st 0 = nI n) (hi : i < n) (hn : n ≤ 6) : M_isNeed fu (nI i) st = some (1, st) := by
  unfold M_isNeed M_in
  have e : nI n - 1 = nI (n - 1) := by
    obtain ⟨k, rfl⟩ : ∃ k, n = k + 1 := ⟨n - 1, by omega⟩
    exact nI_pred k
  rw [h0, e, if_neg (i3_neg (by omega)), if_neg (by rw [nI_lt_iff (by omega) (by omega)]; omega), bn_some]
  rfl
theorem e_isNeed0 {fu n : Nat} {x : Int32} {st : mm_S} (h0 : mm_I st 0 = nI n) (hn : n ≤ 6) (hx : x < 0 ∨ nI n ≤ x) : M_isNeed fu x st = some (0, st) := by
  unfold M_isNeed M_in
  by_cases h : x < 0
  · rw [if_pos h, bn_some]
    rfl
  · have h2 : nI n ≤ x := hx.resolve_left h
    have h3 : (nI n - 1).toInt = (n : Int) - 1 := i3_sub (nI_toInt (by omega)) rfl (by omega) (by omega)
    rw [if_neg h, h0, if_pos (by rw [Int32.lt_iff_toInt_lt, h3]; rw [Int32.le_iff_toInt_le, nI_toInt (by omega)] at h2; omega), bn_some]
    rfl
theorem e_has1 {X : cc_X} {fu i n o : Nat} {sc : cc_S} (go : cc_go X o [9] = true) (h0 : cc_I sc o 9 = nI n) (hi : i < n) (hn : n ≤ 6) : C_X7_has X fu o (nI i) sc = some (1, sc) := by
  unfold C_X7_has
  rw [if_neg (i3_neg (by omega)), go, gd_true, h0, if_neg (by rw [nI_le_iff (by omega) (by omega)]; omega)]
theorem e_has0 {X : cc_X} {fu n o : Nat} {x : Int32} {sc : cc_S} (go : cc_go X o [9] = true) (h0 : cc_I sc o 9 = nI n) (hx : x < 0 ∨ nI n ≤ x) : C_X7_has X fu o x sc = some (0, sc) := by
  unfold C_X7_has
  by_cases h : x < 0
  · rw [if_pos h]
  · rw [if_neg h, go, gd_true, h0, if_pos (hx.resolve_left h)]
theorem e_needOf1 {X : cc_X} {fu i n y : Nat} {sc : cc_S} (hX : px_X X) (h0 : cc_I sc 1 9 = nI n) (hi : i < n) (hn : n ≤ 6) (hP : cc_P sc 1 0 i = some y) : C_X7_needOf X fu 1 (nI i) sc = some (some y, sc) := by
  unfold C_X7_needOf
  rw [px_go hX (by decide), gd_true, e_has1 (px_go hX (by decide)) h0 hi hn, bn_some, if_neg (by decide), px_ga hX (c := 9) (i := 1) (k := 0) (t := 3) (a := i) (by decide) (by decide) rfl rfl (by show i < 6; omega) (by decide), gd_true, nI_clamp (by omega), hP, mt_some]
theorem e_needOf0 {X : cc_X} {fu n : Nat} {x : Int32} {sc : cc_S} (hX : px_X X) (h0 : cc_I sc 1 9 = nI n) (hx : x < 0 ∨ nI n ≤ x) : C_X7_needOf X fu 1 x sc = some (none, sc) := by
  unfold C_X7_needOf
  rw [px_go hX (by decide), gd_true, e_has0 (px_go hX (by decide)) h0 hx, bn_some, if_pos rfl]
theorem e_floorMod {X : cc_X} {fu y : Nat} {sc : cc_S} (hy : y < 2 ^ 31) : C_J9_floorMod_7cf53 X fu (nI y) 4 sc = some (nI (y % 4), sc) := by
  unfold C_J9_floorMod_7cf53
  have e : (0 : Int32) ≤ nI y ^^^ 4 := by
    rw [show (4 : Int32) = nI 4 from rfl, nI_xor]
    exact i3_0le (Nat.xor_lt_two_pow hy (by decide))
  rw [show fc_nz 4 = true from rfl, gd_true, nm_eq, if_pos e, show (4 : Int32) = nI 4 from rfl, nI_rem hy (by decide)]
theorem e_gives {X : cc_X} {fu y i yy κ : Nat} {sm : mm_S} {sc : cc_S} {n v d : Int32} (ho : y ∈ cx_o X) (hK : cx_K X y = kcl κ) (hκ : κ ≤ 6) (hi : i < 6) (h4 : mm_G sm 4 i = nI κ) (hv : mm_G sm 5 i = v) (hy : yy < 2 ^ 31) :
    D_gives_3_4_5_6_7_8_11 X fu y n v (nI yy) d (mm_G sm 7 (4 * i + yy % 4)) sc = some (kindv sm (nI i) (nI yy) d n, sc) := by
  have e4 : (4 : Int32) * nI i + (nI yy - nI yy / 4 * 4) = nI (4 * i + yy % 4) := by
    rw [show (4 : Int32) = nI 4 from rfl, nI_rem hy (by decide), nI_mul, nI_add]
  have e2 : nI yy - nI yy / 2 * 2 = nI (yy % 2) := nI_rem hy (by decide)
  have eg : C_X3_gives X fu y n v (nI yy) d (mm_G sm 7 (4 * i + yy % 4)) sc = some (if nI yy - nI yy / 2 * 2 = 1 then 0 else n, sc) := by
    unfold C_X3_gives
    rw [e2]
    rcases Nat.mod_two_eq_zero_or_one yy with h | h
    · rw [h, if_pos (by decide), if_neg (by decide)]
    · rw [h, if_neg (by decide), if_pos (by decide)]
  have hc : ∀ cs, kcl κ ∈ cs → cc_go X y cs = true := fun cs h => cgo ho hK h
  unfold D_gives_3_4_5_6_7_8_11 kindv
  rw [hK, nI_clamp (show i < 2 ^ 31 by omega), h4, hv, e4, nI_clamp (show 4 * i + yy % 4 < 2 ^ 31 by omega)]
  match κ, hκ with
  | 0, _ => rfl
  | 1, _ => rfl
  | 2, _ => exact eg
  | 3, _ => rfl
  | 4, _ =>
    show C_X2_gives X fu y n v (nI yy) d _ sc = some ((n + (nI yy - nI yy / 8 * 8)) * (if d = 1 then 2 else 1), sc)
    unfold C_X2_gives
    rw [hc _ (by decide), gd_true]
    show (if d = 1 then _ else _) = _
    split
    · rfl
    · rw [Int32.mul_one]
  | 5, _ =>
    show C_X1_gives X fu y n v (nI yy) d _ sc = _
    unfold C_X1_gives
    rw [hc _ (by decide), gd_true, eg, bn_some]
    rfl
  | 6, _ =>
    show C_X9_gives X fu y n v (nI yy) d _ sc = _
    unfold C_X9_gives
    rw [hc _ (by decide), gd_true]
    rfl
theorem pos0_max (x : Int32) : (if (0 : Int32) < x then x else 0) = pos0 x := by
  unfold pos0
  by_cases h : 0 < x
  · rw [if_pos h, if_pos (Int32.le_of_lt h)]
  · rw [if_neg h]
    by_cases h2 : (0 : Int32) ≤ x
    · rw [if_pos h2]
      rw [Int32.lt_iff_toInt_lt] at h
      rw [Int32.le_iff_toInt_le] at h2
      exact Int32.toInt_inj.mp (by omega)
    · rw [if_neg h2]
theorem h_cworthBy {X : cc_X} {fu : Nat} (hfu : 700 < fu) {sm : mm_S} {sc : cc_S} {i n y κ yy : Nat} {v d : Int32} (hX : px_X X) (hA : AO X sm sc 1 (mm_I sm 9)) (h0 : cc_I sc 1 9 = nI n) (hi : i < n) (hn : n ≤ 6) (hP : cc_P sc 1 0 i = some y) (ho : y ∈ cx_o X) (hK : cx_K X y = kcl κ) (hκ : κ ≤ 6) (h4 : mm_G sm 4 i = nI κ) (hk : cc_I sc y 0 = nI κ) (hv : mm_G sm 5 i = v) (hrow : ∀ j, j < 24 → cc_G sc 1 2 j = mm_G sm 7 j) (hy : yy < 2 ^ 31) :
    C_X7_worthBy X fu 1 (nI i) v (nI yy) d sc = some (worthv sm (nI i) (nI yy) d, sc) := by
  have g1 : cc_go X 1 [9] = true := px_go hX (by decide)
  have gn : cc_go X y [3, 4, 5, 6, 7, 8, 11] = true := cgo ho hK (kcl_mem κ)
  have ei : (nI i).toNatClampNeg = i := nI_clamp (by omega)
  have hb : ∀ b, C_X7_worthBy_b43 X fu 1 (nI i) v (nI yy) d y b sc = some (pos0 (kindv sm (nI i) (nI yy) d b), sc) := by
    intro b
    unfold C_X7_worthBy_b43
    have e : nI i * 4 + nI (yy % 4) = nI (4 * i + yy % 4) := by
      rw [show (4 : Int32) = nI 4 from rfl, nI_mul, nI_add, Nat.mul_comm]
    rw [g1, gd_true, e_floorMod hy, bn_some, e, px_ga hX (c := 9) (i := 1) (k := 2) (t := 1) (a := 4 * i + yy % 4) (by decide) (by decide) rfl rfl (by show _ < 24; omega) (by decide), gd_true, nm_eq, gn, gd_true, nI_clamp (by omega), hrow _ (by omega), e_gives ho hK hκ (by omega) h4 hv hy, bn_some, pos0_max]
  unfold C_X7_worthBy worthv
  rw [g1, gd_true, e_needOf1 hX h0 hi hn hP, bn_some, mt_some]
  rcases hA with ⟨h9, hPa⟩ | ⟨a, z, ha, h9, hPa, hAR⟩
  · rw [hPa, mt_none, hb]
    unfold basev
    rw [h9, if_neg i3_m1]
  · obtain ⟨-, hzo, hzK, -⟩ := hAR.1
    rw [hPa, mt_some, mt_some, gn, gd_true, cgo hzo hzK (by decide), gd_true, hk, h_cbase hfu (by rw [ei]; exact h4) (by rw [ei]; exact hv) ha h9 hAR, bn_some, hb]
theorem h_cworthOf {X : cc_X} {fu : Nat} (hfu : 700 < fu) {sm : mm_S} {sc : cc_S} {i n y κ yy : Nat} {d : Int32} (hX : px_X X) (hA : AO X sm sc 1 (mm_I sm 9)) (h0 : cc_I sc 1 9 = nI n) (hi : i < n) (hn : n ≤ 6) (hP : cc_P sc 1 0 i = some y) (ho : y ∈ cx_o X) (hK : cx_K X y = kcl κ) (hκ : κ ≤ 6) (h4 : mm_G sm 4 i = nI κ) (hk : cc_I sc y 0 = nI κ) (hv : mm_G sm 5 i = cc_I sc y 2) (hrow : ∀ j, j < 24 → cc_G sc 1 2 j = mm_G sm 7 j) (hy : yy < 2 ^ 31) :
    C_X7_worthOf X fu 1 (nI i) (nI yy) d sc = some (worthv sm (nI i) (nI yy) d, sc) := by
  unfold C_X7_worthOf
  rw [px_go hX (by decide), gd_true, e_needOf1 hX h0 hi hn hP, bn_some, mt_some, cgo ho hK (kcl_mem κ), gd_true, h_cworthBy hfu hX hA h0 hi hn hP ho hK hκ h4 hk hv hrow hy, bn_some]
