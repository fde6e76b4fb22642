/-! the class's totals -/
section WG
variable {X : cc_X} {fu N y D K n M how left d i : Nat} {sm : mm_S} {s : cc_S} {set : Int32} {g : Nat → Int}
theorem yr_left (h1 : 1 ≤ left) (h2 : left ≤ n) (hn : n ≤ 8) : nI left - 1 = nI (left - 1) ∧ (nI (left - 1)).toNatClampNeg = left - 1 ∧ nI n - nI left = nI (n - left) := by
  obtain ⟨r, rfl⟩ : ∃ r, left = r + 1 := ⟨left - 1, by omega⟩
  refine ⟨nI_pred r, nI_clamp (by omega), nI_subN h2 (by omega)⟩
theorem c_served (hX : px_X X) (hY : Yq sm N y D K n) (hL : Lk sm N y n M s) (hM : M ≤ 8) (h1 : 1 ≤ left) (h2 : left ≤ n) (hd1 : 1 ≤ d) (hd : d ≤ M) (hi : i < N) (hg : cc_J s 3 (200 + (left - 1)) (d - 1) = oL (g (d - 1))) : C_X10_ifServed X fu 3 (nI i) (nI left) (nI d) s = some (oL (svI (wJ sm y) K N n g left d i), s) := by
  have hn := hY.2.2.2.2.2.1
  have hN := hY.2.1.1
  obtain ⟨hK, hKe⟩ := hY.2.2.2.2.1
  obtain ⟨e1, e2, e3⟩ := yr_left h1 h2 hn
  obtain ⟨e4, e5, -⟩ := yr_left (left := d) (n := d) hd1 (Nat.le_refl d) (by omega)
  obtain ⟨⟨l4, l5, l6, l7⟩, lJ, lG⟩ := hL
  have hw : (worthv sm (nI i) (nI (y + (n - left))) (nI d)).toInt = wJ sm y (n - left) d i := Yq_w hY (by omega) hi
  have hwb := hY.2.2.2.2.2.2 (n - left) d i hi
  have kb := kd_b hK (show d - 1 ≤ 9 by omega)
  have e6 : (nI K * nI (d - 1)).toInt = ((K * (d - 1) : Nat) : Int) := by
    rw [nI_mul, nI_toInt (by omega)]
  have e7 : (worthv sm (nI i) (nI (y + (n - left))) (nI d) - nI K * nI (d - 1)).toInt = wJ sm y (n - left) d i - ((K * (d - 1) : Nat) : Int) := i3_sub hw e6 (by omega) (by omega)
  unfold C_X10_ifServed
  rw [px_go hX (by decide), gd_true, l7, e3, e_place, bn_some, yr_ga hX (k := 0) (t := 1) (a := ((n - left) * 9 + d) * 6 + i) (by omega) rfl, gd_true, nm_eq, l6, hKe, e4, nI_clamp (show ((n - left) * 9 + d) * 6 + i < 2 ^ 31 by omega), lG (n - left) d i (by omega) hd1 hd hi, e1, e2, e5, yr_ga hX (k := 2) (t := 5) (a := left - 1) (by omega) rfl, yr_ga hX (k := 1) (t := 2) (a := left - 1) (by omega) rfl, yr_gr hX (q := 2) (r := left - 1) (a := d - 1) (Or.inl rfl) (by omega) (by omega) rfl, lJ (left - 1) (by omega), hg, oL_of e7, oL_nat, oL_mul, oL_add]
  simp only [gd_true]
  congr 3
  unfold svI
  have e8 : (d : Int) - 1 = ((d - 1 : Nat) : Int) := by omega
  rw [e8, Int.natCast_mul, Int.natCast_pow]
theorem c_spared (hX : px_X X) (hY : Yq sm N y D K n) (hL : Lk sm N y n M s) (hM : M ≤ 8) (h1 : 1 ≤ left) (h2 : left ≤ n) (hd : d ≤ M) (hg : cc_J s 3 (200 + (left - 1)) d = oL (g d)) : C_X10_ifSpared X fu 3 (nI left) (nI d) s = some (oL (spI K N g left d), s) := by
  have hn := hY.2.2.2.2.2.1
  obtain ⟨hK, hKe⟩ := hY.2.2.2.2.1
  obtain ⟨e1, e2, e3⟩ := yr_left h1 h2 hn
  obtain ⟨⟨l4, l5, l6, l7⟩, lJ, lG⟩ := hL
  have kb := kd_b hK (show d ≤ 9 by omega)
  have e6 : (nI K * nI d).toInt = ((K * d : Nat) : Int) := by
    rw [nI_mul, nI_toInt (by omega)]
  unfold C_X10_ifSpared
  rw [px_go hX (by decide), e1, e2, yr_ga hX (k := 2) (t := 5) (a := left - 1) (by omega) rfl, yr_ga hX (k := 1) (t := 2) (a := left - 1) (by omega) rfl, yr_gr hX (q := 2) (r := left - 1) (a := d) (Or.inl rfl) (by omega) (by omega) rfl, nI_clamp (show d < 2 ^ 31 by omega), hg, l6, hKe, lJ (left - 1) (by omega), oL_of e6, oL_nat, oL_mul, oL_sub]
  simp only [gd_true]
  unfold spI
  rw [Int.natCast_mul, Int.natCast_pow]
theorem c_serves (hX : px_X X) (hY : Yq sm N y D K n) (hL : Lk sm N y n M s) (hM : M ≤ 8) (hhow : how ≤ 2) (h1 : 1 ≤ left) (h2 : left ≤ n) (hd : d ≤ M) (hi : i < N) (hg : ∀ d, d ≤ M → cc_J s 3 (200 + (left - 1)) d = oL (gtI (wJ sm y) K N n how set (left - 1) d)) : C_X10_serves X fu 3 (nI i) (nI left) (nI d) (nI how) set s = some (if srvI (wJ sm y) K N n how set (gtI (wJ sm y) K N n how set (left - 1)) left d i = true then 1 else 0, s) := by
  have hn := hY.2.2.2.2.2.1
  have hN := hY.2.1.1
  unfold C_X10_serves srvI
  by_cases hd0 : d = 0
  · subst hd0
    rw [if_neg (show ¬ (1 : Int32) ≤ nI 0 by decide), if_pos rfl]
    rfl
  rw [if_pos (show (1 : Int32) ≤ nI d from (nI_le_iff (a := 1) (by omega) (by omega)).mpr (by omega)), if_neg hd0]
  obtain ⟨left, rfl⟩ : ∃ r, left = r + 1 := ⟨left - 1, by omega⟩
  rw [Nat.add_sub_cancel] at hg ⊢
  have h3 : how = 0 ∨ how = 1 ∨ how = 2 := by omega
  rcases h3 with rfl | rfl | rfl
  · rw [if_pos (show nI 0 = 0 from rfl), if_pos rfl, px_go hX (by decide), gd_true, c_served hX hY hL hM h1 h2 (by omega) hd hi (by rw [Nat.add_sub_cancel]; exact hg (d - 1) (by omega)), bn_some, c_spared hX hY hL hM h1 h2 hd (by rw [Nat.add_sub_cancel]; exact hg d hd), bn_some]
    have b1 := sv_i (how := 0) (set := set) (i := i) hY (show left ≤ 7 by omega) (show 1 ≤ d by omega) (show d ≤ 8 by omega) hi
    have b2 := sp_i (how := 0) (set := set) hY (show left ≤ 7 by omega) (show d ≤ 8 by omega)
    generalize svI (wJ sm y) K N n (gtI (wJ sm y) K N n 0 set left) (left + 1) d i = a at b1
    generalize spI K N (gtI (wJ sm y) K N n 0 set left) (left + 1) d = b at b2
    by_cases hc : b < a
    · rw [if_neg (by rw [cmp_le, oL_toInt (by omega) (by omega), oL_toInt (by omega) (by omega)]; omega), if_pos (decide_eq_true hc)]
    · rw [if_pos (by rw [cmp_le, oL_toInt (by omega) (by omega), oL_toInt (by omega) (by omega)]; omega), if_neg (by rw [decide_eq_true_eq]; exact hc)]
  · obtain ⟨-, -, e3⟩ := yr_left h1 h2 hn
    obtain ⟨⟨l4, l5, l6, l7⟩, lJ, lG⟩ := hL
    have hw : (worthv sm (nI i) (nI (y + (n - (left + 1)))) (nI d)).toInt = wJ sm y (n - (left + 1)) d i := Yq_w hY (by omega) hi
    have z0 : (0 : Int32).toInt = 0 := rfl
    rw [if_neg (show ¬ nI 1 = 0 by decide), if_pos (show nI 1 = 1 from rfl), if_neg (show ¬ (1 : Nat) = 0 by decide), if_pos rfl, px_go hX (by decide), gd_true, l7, e3, e_place, bn_some, yr_ga hX (k := 0) (t := 1) (a := ((n - (left + 1)) * 9 + d) * 6 + i) (by omega) rfl, gd_true, nI_clamp (show ((n - (left + 1)) * 9 + d) * 6 + i < 2 ^ 31 by omega), lG (n - (left + 1)) d i (by omega) (by omega) hd hi]
    by_cases hc : 0 < wJ sm y (n - (left + 1)) d i
    · rw [if_neg (by rw [Int32.le_iff_toInt_le, hw, z0]; omega), if_pos (decide_eq_true hc)]
    · rw [if_pos (by rw [Int32.le_iff_toInt_le, hw, z0]; omega), if_neg (by rw [decide_eq_true_eq]; exact hc)]
  · rw [if_neg (show ¬ nI 2 = 0 by decide), if_neg (show ¬ nI 2 = 1 by decide), if_neg (show ¬ (2 : Nat) = 0 by decide), if_neg (show ¬ (2 : Nat) = 1 by decide)]
    by_cases hb : ((set >>> (nI i &&& 31)) &&& (1 : Int32)) = (1 : Int32)
    · rw [if_pos hb, if_pos (decide_eq_true hb)]
    · rw [if_neg hb, if_neg (by rw [decide_eq_true_eq]; exact hb)]
theorem c_weighYear (hfu : 700 < fu) (hX : px_X X) (hY : Yq sm N y D K n) (hL : Lk sm N y n M s) (hM : M ≤ 8) (hhow : how ≤ 2) (h1 : 1 ≤ left) (h2 : left ≤ n) (hd : d ≤ M) (hg : ∀ d, d ≤ M → cc_J s 3 (200 + (left - 1)) d = oL (gtI (wJ sm y) K N n how set (left - 1) d)) : C_X10_weighYear X fu 3 (nI left) (nI d) (nI how) set s = some (oL (gtI (wJ sm y) K N n how set left d), s) := by
  have hN := hY.2.1.1
  have hL2 := hL
  obtain ⟨⟨l4, l5, l6, l7⟩, lJ, lG⟩ := hL2
  obtain ⟨q, hq⟩ : ∃ q, left = q + 1 := ⟨left - 1, by omega⟩
  have e0 : gtI (wJ sm y) K N n how set left d = sumN (oneI sm y K N n how set (left - 1) d) N := by
    rw [hq, gt_one, Nat.add_sub_cancel]
  rw [e0]
  unfold C_X10_weighYear C_X10_weighYear_b6
  refine ok_to (ok_lp (fun z => ∃ i, i ≤ N ∧ z = (3, nI left, nI d, nI how, set, oL (sumN (oneI sm y K N n how set (left - 1) d) i), nI i, s)) (fun z => N - z.2.2.2.2.2.2.1.toNatClampNeg) _ ?_ fu _ ⟨0, by omega, rfl⟩ (by show N - _ < fu; omega))
  rintro z KK ⟨i, hi, rfl⟩ hK
  show fc_ok (C_X10_weighYear_b6F X fu (fun x0 x1 x2 x3 x4 x5 x7 st => KK (x0, x1, x2, x3, x4, x5, x7, st)) _ _ _ _ _ _ _ _) _
  unfold C_X10_weighYear_b6F
  rw [px_go hX (i := 3) (c := 12) (by decide), gd_true, l4]
  refine ok_if.mpr ⟨fun hle => ?_, fun hle => ?_⟩
  · have hle := (nI_le_iff (by omega) (by omega)).mp hle
    have : i = N := by omega
    subst this
    exact ok_some.mpr rfl
  have hlt : i < N := Nat.not_le.mp (fun q => hle ((nI_le_iff (by omega) (by omega)).mpr q))
  have next : ∀ v, v = oL (oneI sm y K N n how set (left - 1) d i) → fc_ok (C_X10_weighYear_b48 X fu (fun x0 x1 x2 x3 x4 x5 x7 st => KK (x0, x1, x2, x3, x4, x5, x7, st)) 3 (nI left) (nI d) (nI how) set (nI i) v (oL (sumN (oneI sm y K N n how set (left - 1) d) i)) s) (fun q => q = (oL (sumN (oneI sm y K N n how set (left - 1) d) N), s)) := by
    rintro v rfl
    unfold C_X10_weighYear_b48
    rw [nm_eq, nm_eq, oL_add, nI_1]
    refine hK _ ⟨i + 1, by omega, rfl⟩ ?_
    show N - (nI (i + 1)).toNatClampNeg < N - (nI i).toNatClampNeg
    rw [nI_clamp (by omega), nI_clamp (by omega)]
    omega
  have eo : oneI sm y K N n how set (left - 1) d i = if srvI (wJ sm y) K N n how set (gtI (wJ sm y) K N n how set (left - 1)) left d i = true then svI (wJ sm y) K N n (gtI (wJ sm y) K N n how set (left - 1)) left d i else spI K N (gtI (wJ sm y) K N n how set (left - 1)) left d := by
    unfold oneI
    rw [show left - 1 + 1 = left by omega]
  rw [c_serves hX hY hL hM hhow h1 h2 hd hlt hg, bn_some]
  by_cases hs : srvI (wJ sm y) K N n how set (gtI (wJ sm y) K N n how set (left - 1)) left d i = true
  · rw [if_pos hs] at eo
    have hd0 : d ≠ 0 := fun q => by
      unfold srvI at hs
      rw [if_pos q] at hs
      cases hs
    rw [if_pos hs, if_neg n10, c_served hX hY hL hM h1 h2 (by omega) hd hlt (hg (d - 1) (by omega)), bn_some]
    exact next _ (by rw [eo])
  · rw [if_neg hs] at eo
    rw [if_neg hs, if_pos rfl, c_spared hX hY hL hM h1 h2 hd (hg d hd), bn_some]
    exact next _ (by rw [eo])
end WG
theorem Lk_J {sm : mm_S} {N y n M k j : Nat} {s : cc_S} {v : Int64} (h : Lk sm N y n M s) (hk : k ≠ 1) : Lk sm N y n M (cc_sJ s 3 k j v) := ⟨h.1, fun q hq => by rw [cJ_sJ, if_neg (fun e => hk e.2.symm)]; exact h.2.1 q hq, h.2.2⟩
theorem h_weigh {X : cc_X} {fu N y D K n M how : Nat} {sm : mm_S} {s : cc_S} {set : Int32} (hfu : 700 < fu) (hX : px_X X) (hY : Yq sm N y D K n) (hL : Lk sm N y n M s) (hM : M ≤ 8) (hhow : how ≤ 2) (hz : ∀ d, d < 9 → cc_J s 3 200 d = 0) :
    fc_ok (C_X10_weigh X fu 3 (nI n) (nI how) set s) (fun s' => Lk sm N y n M s' ∧ Y3 s s' ∧ ∀ l d, l ≤ n → d ≤ M → cc_J s' 3 (200 + l) d = oL (gtI (wJ sm y) K N n how set l d)) := by
  have hn := hY.2.2.2.2.2.1
  unfold C_X10_weigh C_X10_weigh_b3
  refine ok_lp (fun z => ∃ left s', 1 ≤ left ∧ left ≤ n + 1 ∧ z = (3, nI n, nI how, set, nI left, s') ∧ Lk sm N y n M s' ∧ Y3 s s' ∧ ∀ l d, l < left → d ≤ M → cc_J s' 3 (200 + l) d = oL (gtI (wJ sm y) K N n how set l d)) (fun z => n + 1 - z.2.2.2.2.1.toNatClampNeg) _ ?_ fu _ ⟨1, s, by omega, by omega, rfl, hL, Y3_rf, fun l d hl hd => ?_⟩ (by show n + 1 - _ < fu; omega)
  rotate_left
  · have : l = 0 := by omega
    subst this
    exact hz d (by omega)
  rintro z K3 ⟨left, s1, hl1, hln, rfl, hL1, hY1, hg1⟩ hK3
  show fc_ok (C_X10_weigh_b3F X fu (fun x0 x1 x2 x3 x4 st => K3 (x0, x1, x2, x3, x4, st)) _ _ _ _ _ _) _
  unfold C_X10_weigh_b3F
  refine ok_if.mpr ⟨fun hlt => ?_, fun hlt => ?_⟩
  · have hlt := (nI_lt_iff (by omega) (by omega)).mp hlt
    exact ok_some.mpr ⟨hL1, hY1, fun l d hl hd => hg1 l d (by omega) hd⟩
  have hle : left ≤ n := Nat.not_lt.mp (fun q => hlt ((nI_lt_iff (by omega) (by omega)).mpr q))
  unfold C_X10_weigh_b12
  refine ok_lp (fun z => ∃ d s', d ≤ M + 1 ∧ z = (3, nI n, nI how, set, nI left, nI d, s') ∧ Lk sm N y n M s' ∧ Y3 s s' ∧ (∀ l d', l < left → d' ≤ M → cc_J s' 3 (200 + l) d' = oL (gtI (wJ sm y) K N n how set l d')) ∧ ∀ d', d' < d → cc_J s' 3 (200 + left) d' = oL (gtI (wJ sm y) K N n how set left d')) (fun z => M + 1 - z.2.2.2.2.2.1.toNatClampNeg) _ ?_ fu _ ⟨0, s1, by omega, rfl, hL1, hY1, hg1, fun d hd => absurd hd (Nat.not_lt_zero d)⟩ (by show M + 1 - _ < fu; omega)
  rintro z K12 ⟨d, s2, hd, rfl, hL2, hY2, hg2, hgd⟩ hK12
  show fc_ok (C_X10_weigh_b12F X fu (fun x0 x1 x2 x3 x4 st => K3 (x0, x1, x2, x3, x4, st)) (fun x0 x1 x2 x3 x4 x5 st => K12 (x0, x1, x2, x3, x4, x5, st)) _ _ _ _ _ _ _) _
  unfold C_X10_weigh_b12F
  rw [px_go hX (i := 3) (c := 12) (by decide), gd_true, hL2.1.2.1]
  refine ok_if.mpr ⟨fun hlt => ?_, fun hlt => ?_⟩
  · have hlt := (nI_lt_iff (by omega) (by omega)).mp hlt
    rw [nm_eq, nI_1]
    refine hK3 _ ⟨left + 1, s2, by omega, by omega, rfl, hL2, hY2, fun l d' hl hd' => ?_⟩ ?_
    · by_cases hll : l = left
      · subst hll
        exact hgd d' (by omega)
      · exact hg2 l d' (by omega) hd'
    · show n + 1 - (nI (left + 1)).toNatClampNeg < n + 1 - (nI left).toNatClampNeg
      rw [nI_clamp (by omega), nI_clamp (by omega)]
      omega
  have hdl : d ≤ M := Nat.not_lt.mp (fun q => hlt ((nI_lt_iff (by omega) (by omega)).mpr q))
  rw [yr_ga hX (k := 2) (t := 5) (a := left) (j := nI left) (by omega) rfl, gd_true, c_weighYear hfu hX hY hL2 hM hhow hl1 hle hdl (fun d' hd' => hg2 (left - 1) d' (by omega) hd'), bn_some, nI_clamp (show left < 2 ^ 31 by omega), nI_clamp (show d < 2 ^ 31 by omega), yr_gr hX (q := 2) (r := left) (a := d) (Or.inl rfl) (by omega) (by omega) rfl, gd_true, nm_eq, nm_eq, nI_1]
  refine hK12 _ ⟨d + 1, _, by omega, rfl, Lk_J hL2 (by omega), Y3_J hY2 (by omega), fun l d' hl hd' => ?_, fun d' hd' => ?_⟩ ?_
  · rw [cJ_sJ, if_neg (by omega)]
    exact hg2 l d' hl hd'
  · rw [cJ_sJ, if_pos ⟨rfl, rfl⟩]
    by_cases hdd : d' = d
    · rw [if_pos hdd, hdd]
    · rw [if_neg hdd]
      exact hgd d' (by omega)
  · show M + 1 - (nI (d + 1)).toNatClampNeg < M + 1 - (nI d).toNatClampNeg
    rw [nI_clamp (by omega), nI_clamp (by omega)]
    omega
