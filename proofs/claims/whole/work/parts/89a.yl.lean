/-! the reference's gains -/
def wI (sm : mm_S) (y t d i : Nat) : Int := (worthv sm (nI i) (nI (y + t)) (nI d)).toInt
/-- what a question about years rests on -/
def Yr (sm : mm_S) (N y D K n : Nat) : Prop := MAr sm (mm_I sm 9) ∧ (N ≤ 6 ∧ mm_I sm 0 = nI N) ∧ (y ≤ 9999 ∧ mm_I sm 3 = nI y) ∧ (D ≤ 8 ∧ mm_I sm 1 = nI D) ∧ (K < 100 ∧ keepv sm = nI K) ∧ n ≤ 8 ∧ ∀ t d i, i < N → 0 ≤ wI sm y t d i ∧ wI sm y t d i ≤ 2100
theorem wI_any {sm : mm_S} (hA : MAr sm (mm_I sm 9)) {N y : Nat} (hN : N ≤ 6) (hy : y ≤ 9999) (hv : ∀ i, i < N → ∃ v, v ≤ 9 ∧ mm_G sm 5 i = nI v) (hr : ∀ k, k < 24 → ∃ w, w ≤ 9 ∧ mm_G sm 7 k = nI w) (t d i : Nat) (hi : i < N) (ht : t < 100) : 0 ≤ wI sm y t d i ∧ wI sm y t d i ≤ 2100 := worth_b hA (by omega) (by omega) (hv i hi) hr
/-- a worth as wI, held for any year -/
def wJ (sm : mm_S) (y t d i : Nat) : Int := if t < 100 then wI sm y t d i else 0
def Yq (sm : mm_S) (N y D K n : Nat) : Prop := MAr sm (mm_I sm 9) ∧ (N ≤ 6 ∧ mm_I sm 0 = nI N) ∧ (y ≤ 9999 ∧ mm_I sm 3 = nI y) ∧ (D ≤ 8 ∧ mm_I sm 1 = nI D) ∧ (K < 100 ∧ keepv sm = nI K) ∧ n ≤ 8 ∧ ∀ t d i, i < N → 0 ≤ wJ sm y t d i ∧ wJ sm y t d i ≤ 2100
theorem Yq_w {sm : mm_S} {N y D K n : Nat} (h : Yq sm N y D K n) {t d i : Nat} (ht : t < 100) (hi : i < N) : (worthv sm (nI i) (nI (y + t)) (nI d)).toInt = wJ sm y t d i := by
  unfold wJ
  rw [if_pos ht]
  rfl
theorem h_ways {sm st : mm_S} {fu N k : Nat} (hfu : 700 < fu) (h0 : mm_I st 0 = nI N) (hN : N ≤ 6) (hk : k ≤ 8) : M_ways fu (nI k) st = some (oL ((N : Int) ^ k), st) := by
  unfold M_ways M_ways_b5
  have e0 : oL ((N : Int) ^ k) = lN (N ^ k) := by rw [oL_nat, Int.natCast_pow]
  rw [e0]
  refine ok_to (ok_lp (fun z => ∃ c, c ≤ k ∧ z = (nI k, lN (N ^ c), nI c, st)) (fun z => k - z.2.2.1.toNatClampNeg) _ ?_ fu _ ⟨0, by omega, rfl⟩ (by show k - _ < fu; omega))
  rintro z K ⟨c, hc, rfl⟩ hK
  show fc_ok (M_ways_b5F fu (fun x1 x2 x4 st => K (x1, x2, x4, st)) _ _ _ _) _
  unfold M_ways_b5F
  refine ok_if.mpr ⟨fun hle => ?_, fun hle => ?_⟩
  · have hle := (nI_le_iff (by omega) (by omega)).mp hle
    have : c = k := by omega
    subst this
    exact ok_some.mpr rfl
  · have hlt : c < k := Nat.not_le.mp (fun q => hle ((nI_le_iff (by omega) (by omega)).mpr q))
    rw [nm_eq, nm_eq, h0, nI_l (show N < 2 ^ 31 by omega), lN_mul, nI_1, ← Nat.pow_succ]
    refine hK _ ⟨c + 1, by omega, rfl⟩ ?_
    show k - (nI (c + 1)).toNatClampNeg < k - (nI c).toNatClampNeg
    rw [nI_clamp (by omega), nI_clamp (by omega)]
    omega
theorem kd_b {K d : Nat} (hK : K < 100) (hd : d ≤ 9) : K * d ≤ 891 := Nat.le_trans (Nat.mul_le_mul (show K ≤ 99 by omega) hd) (by omega)
theorem h_served {sm st : mm_S} {fu N y D K n k d i : Nat} {g : Nat → Int} (hfu : 700 < fu) (hY : Yq sm N y D K n) (hq : mq sm st) (hi : i < N) (hk : k < n) (hd1 : 1 ≤ d) (hd : d ≤ 8) (hg : mm_L st 26 (10 * (k + 1) + (d - 1)) = oL (g (d - 1))) :
    fc_ok (M_ifServed fu (nI i) (nI k) (nI n) (nI d) st) (fun q => q.1 = oL (svI (wJ sm y) K N n g (n - k) d i) ∧ mq5 st q.2) := by
  have hY' : Yq sm N y D K n := hY
  obtain ⟨hA, ⟨hN, h0⟩, ⟨hy, h3⟩, -, ⟨hK, hKe⟩, hn, hw⟩ := hY
  have e1 : nI n - nI k - 1 = nI (n - k - 1) := by
    obtain ⟨q, hq'⟩ : ∃ q, n = k + 1 + q := ⟨n - k - 1, by omega⟩
    rw [nI_subN (by omega) (by omega)]
    obtain ⟨r, hr⟩ : ∃ r, n - k = r + 1 := ⟨n - k - 1, by omega⟩
    rw [hr, nI_pred]
    rfl
  have e2 : (10 : Int32) * nI k + 10 + nI d - 1 = nI (10 * (k + 1) + (d - 1)) := by
    obtain ⟨r, rfl⟩ : ∃ r, d = r + 1 := ⟨d - 1, by omega⟩
    rw [show (10 : Int32) = nI 10 from rfl, nI_mul, nI_add, nI_add, show 10 * k + 10 + (r + 1) = (10 * (k + 1) + (r + 1 - 1)) + 1 by omega, nI_pred]
  unfold M_ifServed
  rw [e1, h_ways (sm := sm) (N := N) hfu ((hq.1 0 (by decide)).trans h0) hN (by omega), bn_some, hq.1 3 (by decide), h3, nI_add, e2]
  refine ok_bn.mpr (ok_mono (h_worthL fu hfu hA hq (by omega) (by omega)) ?_)
  rintro ⟨r, st'⟩ ⟨hr, hq5⟩
  obtain rfl : r = worthv sm (nI i) (nI (y + k)) (nI d) := hr
  have hq' : mq sm st' := mq_of5 hq hq5
  show fc_ok (fc_bn (M_keep fu st') _) _
  rw [h_keep fu hfu hA hq', bn_some, hKe, nI_ix (by omega) (by decide), gd_true, nI_clamp (by omega)]
  refine ok_some.mpr ⟨?_, hq5⟩
  show _ * (worthv sm (nI i) (nI (y + k)) (nI d) - nI K * (nI d - 1)).toInt64 + mm_L st' 26 _ = _
  have L : mm_L st' 26 (10 * (k + 1) + (d - 1)) = mm_L st 26 (10 * (k + 1) + (d - 1)) := hq5.2.2 26 _
  rw [L, hg]
  have hwe : (worthv sm (nI i) (nI (y + k)) (nI d)).toInt = wJ sm y k d i := Yq_w hY' (by omega) hi
  have hwb := hw k d i hi
  obtain ⟨r, rfl⟩ : ∃ r, d = r + 1 := ⟨d - 1, by omega⟩
  have kb := kd_b hK (show r ≤ 9 by omega)
  have e3 : (nI K * (nI (r + 1) - 1)).toInt = ((K * r : Nat) : Int) := by
    rw [nI_pred, nI_mul, nI_toInt (by omega)]
  have e4 : (worthv sm (nI i) (nI (y + k)) (nI (r + 1)) - nI K * (nI (r + 1) - 1)).toInt = wJ sm y k (r + 1) i - ((K * r : Nat) : Int) := i3_sub hwe e3 (by omega) (by omega)
  rw [oL_of e4, oL_mul, oL_add]
  congr 1
  unfold svI
  rw [show n - (n - k) = k by omega, show n - k - 1 = n - k - 1 from rfl, Nat.add_sub_cancel, Int.natCast_mul, Int.natCast_succ, Int.add_sub_cancel, Int.mul_comm, Int.add_comm]
theorem h_spared {sm st : mm_S} {fu N y D K n k d : Nat} {g : Nat → Int} (hfu : 700 < fu) (hY : Yq sm N y D K n) (hq : mq sm st) (hk : k < n) (hd : d ≤ 8) (hg : mm_L st 26 (10 * (k + 1) + d) = oL (g d)) :
    M_ifSpared fu (nI k) (nI n) (nI d) st = some (oL (spI K N g (n - k) d), st) := by
  obtain ⟨hA, ⟨hN, h0⟩, ⟨hy, h3⟩, -, ⟨hK, hKe⟩, hn, hw⟩ := hY
  have e1 : nI n - nI k - 1 = nI (n - k - 1) := by
    rw [nI_subN (by omega) (by omega)]
    obtain ⟨r, hr⟩ : ∃ r, n - k = r + 1 := ⟨n - k - 1, by omega⟩
    rw [hr, nI_pred]
    rfl
  have e2 : (10 : Int32) * nI k + 10 + nI d = nI (10 * (k + 1) + d) := by
    rw [show (10 : Int32) = nI 10 from rfl, nI_mul, nI_add, nI_add]
    rfl
  have kb := kd_b hK (show d ≤ 9 by omega)
  have e3 : (-nI K).toInt = -(K : Int) := i3_neg2 (nI_toInt (by omega)) (by omega) (by omega)
  have e5 : -(K : Int) * (d : Int) = -((K * d : Nat) : Int) := by rw [Int.neg_mul, Int.natCast_mul]
  have e4 : (-nI K * nI d).toInt = -((K * d : Nat) : Int) := by
    rw [← e5]
    exact i3_mul e3 (nI_toInt (by omega)) (by rw [e5]; omega) (by rw [e5]; omega)
  unfold M_ifSpared
  rw [e1, h_ways (sm := sm) (N := N) hfu ((hq.1 0 (by decide)).trans h0) hN (by omega), bn_some, e2, h_keep fu hfu hA hq, bn_some, hKe, nI_ix (by omega) (by decide), gd_true, nI_clamp (by omega), hg, oL_of e4, oL_mul, oL_add]
  congr 3
  unfold spI
  rw [Int.natCast_mul, Int.mul_neg, Int.mul_comm]
  omega
theorem gt_i {sm : mm_S} {N y D K n : Nat} (hY : Yq sm N y D K n) {how : Nat} {set : Int32} {left d : Nat} (hl : left ≤ 8) (hd : d ≤ 8) : -100000000000 ≤ gtI (wJ sm y) K N n how set left d ∧ gtI (wJ sm y) K N n how set left d ≤ 100000000000 := gt_s hY.2.2.2.2.2.2 hY.2.2.2.2.1.1 hY.2.1.1 hl hd
theorem pw_b {N l : Nat} (hN : N ≤ 6) (hl : l ≤ 8) : 0 ≤ (N : Int) ^ l ∧ (N : Int) ^ l ≤ 1679616 := by
  have h6 : N ^ l ≤ 6 ^ 8 := Nat.le_trans (Nat.pow_le_pow_left hN l) (Nat.pow_le_pow_right (by decide) hl)
  rw [← Int.natCast_pow]
  have : 6 ^ 8 = 1679616 := by decide
  omega
theorem mul_b {z p : Int} (h1 : -3000 ≤ z) (h2 : z ≤ 3000) (p1 : 0 ≤ p) (p2 : p ≤ 1679616) : -5038848000 ≤ z * p ∧ z * p ≤ 5038848000 := by
  have a := Int.mul_le_mul_of_nonneg_right h1 p1
  have b := Int.mul_le_mul_of_nonneg_right h2 p1
  constructor
  · refine Int.le_trans ?_ a
    omega
  · refine Int.le_trans b ?_
    omega
theorem sv_i {sm : mm_S} {N y D K n : Nat} (hY : Yq sm N y D K n) {how : Nat} {set : Int32} {left d i : Nat} (hl : left ≤ 7) (hd1 : 1 ≤ d) (hd : d ≤ 8) (hi : i < N) : -200000000000 ≤ svI (wJ sm y) K N n (gtI (wJ sm y) K N n how set left) (left + 1) d i ∧ svI (wJ sm y) K N n (gtI (wJ sm y) K N n how set left) (left + 1) d i ≤ 200000000000 := by
  have h1 := gt_i (how := how) (set := set) hY (show left ≤ 8 by omega) (show d - 1 ≤ 8 by omega)
  have hw := hY.2.2.2.2.2.2 (n - (left + 1)) d i hi
  have hK := hY.2.2.2.2.1.1
  obtain ⟨p1, p2⟩ := pw_b hY.2.1.1 (show left ≤ 8 by omega)
  obtain ⟨r, rfl⟩ : ∃ r, d = r + 1 := ⟨d - 1, by omega⟩
  have kb := kd_b hK (show r ≤ 9 by omega)
  have e : (K : Int) * (((r + 1 : Nat) : Int) - 1) = ((K * r : Nat) : Int) := by rw [Int.natCast_succ, Int.add_sub_cancel, Int.natCast_mul]
  unfold svI
  rw [e]
  simp only [Nat.add_sub_cancel] at h1 ⊢
  have := mul_b (z := wJ sm y (n - (left + 1)) (r + 1) i - ((K * r : Nat) : Int)) (by omega) (by omega) p1 p2
  omega
theorem sp_i {sm : mm_S} {N y D K n : Nat} (hY : Yq sm N y D K n) {how : Nat} {set : Int32} {left d : Nat} (hl : left ≤ 7) (hd : d ≤ 8) : -200000000000 ≤ spI K N (gtI (wJ sm y) K N n how set left) (left + 1) d ∧ spI K N (gtI (wJ sm y) K N n how set left) (left + 1) d ≤ 200000000000 := by
  have h1 := gt_i (how := how) (set := set) hY (show left ≤ 8 by omega) hd
  have hK := hY.2.2.2.2.1.1
  obtain ⟨p1, p2⟩ := pw_b hY.2.1.1 (show left ≤ 8 by omega)
  have kb := kd_b hK (show d ≤ 9 by omega)
  have := mul_b (z := ((K * d : Nat) : Int)) (by omega) (by omega) p1 p2
  rw [Int.natCast_mul] at this
  unfold spI
  rw [Nat.add_sub_cancel]
  omega
/-- one need in one year -/
def oneI (sm : mm_S) (y K N n how : Nat) (set : Int32) (left d i : Nat) : Int := if srvI (wJ sm y) K N n how set (gtI (wJ sm y) K N n how set left) (left + 1) d i = true then svI (wJ sm y) K N n (gtI (wJ sm y) K N n how set left) (left + 1) d i else spI K N (gtI (wJ sm y) K N n how set left) (left + 1) d
theorem h_gainOf {sm st : mm_S} {fu N y D K n k d i how : Nat} {set : Int32} (hfu : 700 < fu) (hY : Yq sm N y D K n) (hq : mq sm st) (hhow : how ≤ 2) (h27 : how = 2 → mm_I st 27 = set) (hi : i < N) (hk : k < n) (hd : d ≤ 8) (hg : ∀ d, d ≤ 8 → mm_L st 26 (10 * (k + 1) + d) = oL (gtI (wJ sm y) K N n how set (n - k - 1) d)) :
    fc_ok (M_gainOf fu (nI how) (nI i) (nI k) (nI n) (nI d) st) (fun q => q.1 = oL (oneI sm y K N n how set (n - k - 1) d i) ∧ mq5 st q.2) := by
  have hN := hY.2.1.1
  have hn8 := hY.2.2.2.2.2.1
  have en : n - k = (n - k - 1) + 1 := by omega
  unfold M_gainOf
  rw [h_spared hfu hY hq hk hd (hg d hd), bn_some]
  by_cases hd0 : d = 0
  · subst hd0
    rw [if_pos (show nI 0 = 0 from rfl)]
    refine ok_some.mpr ⟨?_, mq5_rf⟩
    unfold oneI srvI
    rw [if_pos rfl, if_neg (by decide), ← en]
  rw [if_neg (show ¬ nI d = 0 from fun e => hd0 ((nI_eq_iff (b := 0) (by omega) (by omega)).mp e))]
  refine ok_bn.mpr (ok_mono (h_served hfu hY hq hi hk (by omega) hd (hg (d - 1) (by omega))) ?_)
  rintro ⟨r, st'⟩ ⟨hr, hq5⟩
  obtain rfl : r = oL (svI (wJ sm y) K N n (gtI (wJ sm y) K N n how set (n - k - 1)) (n - k) d i) := hr
  have hq5 : mq5 st st' := hq5
  have b1 := sv_i (how := how) (set := set) (i := i) hY (show n - k - 1 ≤ 7 by omega) (show 1 ≤ d by omega) hd hi
  have b2 := sp_i (how := how) (set := set) hY (show n - k - 1 ≤ 7 by omega) hd
  rw [← en] at b1 b2
  unfold oneI srvI
  rw [if_neg hd0, ← en]
  generalize svI (wJ sm y) K N n (gtI (wJ sm y) K N n how set (n - k - 1)) (n - k) d i = a at b1
  generalize spI K N (gtI (wJ sm y) K N n how set (n - k - 1)) (n - k) d = b at b2
  have h3 : how = 0 ∨ how = 1 ∨ how = 2 := by omega
  show fc_ok (if nI how = 0 then _ else _) _
  rcases h3 with rfl | rfl | rfl
  · rw [if_pos (show nI 0 = 0 from rfl), if_pos rfl]
    refine ok_if.mpr ⟨fun hc => ok_some.mpr ⟨?_, hq5⟩, fun hc => ok_some.mpr ⟨?_, hq5⟩⟩
    · rw [cmp_le, oL_toInt (by omega) (by omega), oL_toInt (by omega) (by omega)] at hc
      rw [if_neg (by rw [decide_eq_true_eq]; omega)]
    · rw [cmp_le, oL_toInt (by omega) (by omega), oL_toInt (by omega) (by omega)] at hc
      rw [if_pos (by rw [decide_eq_true_eq]; omega)]
  · rw [if_neg (show ¬ nI 1 = 0 by decide), if_pos (show nI 1 = 1 from rfl), if_neg (show ¬ (1 : Nat) = 0 by decide), if_pos rfl, mq5_I hq5 3, hq.1 3 (by decide), hY.2.2.1.2, nI_add]
    refine ok_bn.mpr (ok_mono (h_worthL fu hfu hY.1 (mq_of5 hq hq5) (by omega) (by have := hY.2.2.1.1; omega)) ?_)
    rintro ⟨r2, st2⟩ ⟨hr2, hq52⟩
    obtain rfl : r2 = worthv sm (nI i) (nI (y + k)) (nI d) := hr2
    have hfin : mq5 st st2 := ⟨fun q hq' => (hq52.1 q hq').trans (hq5.1 q hq'), fun q j hq' => (hq52.2.1 q j hq').trans (hq5.2.1 q j hq'), fun q j => (hq52.2.2 q j).trans (hq5.2.2 q j)⟩
    have hw : (worthv sm (nI i) (nI (y + k)) (nI d)).toInt = wJ sm y k d i := Yq_w hY (by omega) hi
    have z0 : (0 : Int32).toInt = 0 := rfl
    unfold M_gainOf_b89
    show fc_ok (if worthv sm (nI i) (nI (y + k)) (nI d) ≤ 0 then _ else _) _
    rw [show n - (n - k) = k by omega]
    refine ok_if.mpr ⟨fun hc => ?_, fun hc => ?_⟩
    · rw [if_pos rfl]
      refine ok_some.mpr ⟨?_, hfin⟩
      rw [Int32.le_iff_toInt_le, hw, z0] at hc
      rw [if_neg (by rw [decide_eq_true_eq]; omega)]
    · rw [if_neg n10]
      refine ok_some.mpr ⟨?_, hfin⟩
      rw [Int32.le_iff_toInt_le, hw, z0] at hc
      rw [if_pos (by rw [decide_eq_true_eq]; omega)]
  · rw [if_neg (show ¬ nI 2 = 0 by decide), if_neg (show ¬ nI 2 = 1 by decide), if_neg (show ¬ (2 : Nat) = 0 by decide), if_neg (show ¬ (2 : Nat) = 1 by decide), mq5_I hq5 27, h27 rfl, e_hasbit, bn_some]
    unfold M_gainOf_b89
    by_cases hb : ((set >>> (nI i &&& 31)) &&& (1 : Int32)) = (1 : Int32)
    · rw [if_pos hb, if_neg n10, if_pos (by rw [decide_eq_true_eq]; exact hb)]
      exact ok_some.mpr ⟨rfl, hq5⟩
    · rw [if_neg hb, if_pos rfl, if_neg (by rw [decide_eq_true_eq]; exact hb)]
      exact ok_some.mpr ⟨rfl, hq5⟩
