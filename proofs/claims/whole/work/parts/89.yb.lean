/-! long numbers, worths held small -/
def oL (z : Int) : Int64 := Int64.ofInt z
theorem oL_add (a b : Int) : oL a + oL b = oL (a + b) := (Int64.ofInt_add a b).symm
theorem oL_mul (a b : Int) : oL a * oL b = oL (a * b) := (Int64.ofInt_mul a b).symm
theorem oL_sub (a b : Int) : oL a - oL b = oL (a - b) := (Int64.ofInt_sub a b).symm
theorem oL_neg (a : Int) : -(oL a) = oL (-a) := (Int64.ofInt_neg a).symm
theorem oL_toInt {z : Int} (h1 : -1000000000000000000 ≤ z) (h2 : z ≤ 1000000000000000000) : (oL z).toInt = z := Int64.toInt_ofInt_of_le (by omega) (by omega)
theorem oL_nat (n : Nat) : lN n = oL (n : Int) := rfl
theorem oL_32 (x : Int32) : x.toInt64 = oL x.toInt := by
  have h1 := Int32.le_toInt x
  have h2 := Int32.toInt_lt x
  rw [← Int64.toInt_inj, Int32.toInt_toInt64, oL_toInt (by omega) (by omega)]
theorem oL_of {x : Int32} {z : Int} (h : x.toInt = z) : x.toInt64 = oL z := by rw [oL_32, h]
theorem cmp_le (a b : Int64) : lg_cmp a b ≤ 0 ↔ a.toInt ≤ b.toInt := by
  unfold lg_cmp
  by_cases h : a > b
  · rw [if_pos h]
    have h : b < a := h
    rw [Int64.lt_iff_toInt_lt] at h
    exact ⟨fun q => absurd q (by decide), fun q => by omega⟩
  · rw [if_neg h]
    have h3 : ¬ b < a := h
    rw [Int64.lt_iff_toInt_lt] at h3
    refine ⟨fun _ => by omega, fun _ => ?_⟩
    split <;> decide
theorem cmp_eq (a b : Int64) : lg_cmp a b = 0 ↔ a = b := by
  unfold lg_cmp
  by_cases h : a > b
  · rw [if_pos h]
    refine ⟨fun q => absurd q (by decide), fun q => ?_⟩
    subst q
    exact absurd h (Int64.lt_irrefl (a := a))
  · rw [if_neg h]
    by_cases h2 : a = b
    · rw [if_pos h2]
      exact ⟨fun _ => h2, fun _ => rfl⟩
    · rw [if_neg h2]
      exact ⟨fun q => absurd q (by decide), fun q => absurd q h2⟩
theorem cmp_pos (a b : Int64) : 0 < lg_cmp a b ↔ b.toInt < a.toInt := by
  have h := cmp_le a b
  rw [Int32.le_iff_toInt_le] at h
  rw [Int32.lt_iff_toInt_lt]
  have e : (0 : Int32).toInt = 0 := rfl
  omega
theorem cmp_nn (a b : Int64) : 0 ≤ lg_cmp a b ↔ b.toInt ≤ a.toInt := by
  unfold lg_cmp
  by_cases h : a > b
  · rw [if_pos h]
    have h : b < a := h
    rw [Int64.lt_iff_toInt_lt] at h
    exact ⟨fun _ => by omega, fun _ => by decide⟩
  · rw [if_neg h]
    by_cases h2 : a = b
    · rw [if_pos h2]
      subst h2
      exact ⟨fun _ => by omega, fun _ => by decide⟩
    · rw [if_neg h2]
      refine ⟨fun q => absurd q (by decide), fun q => ?_⟩
      have h3 : ¬ b < a := h
      rw [Int64.lt_iff_toInt_lt] at h3
      exact absurd (Int64.toInt_inj.mp (by omega)) h2
theorem i3_neg2 {a : Int32} {x : Int} (ha : a.toInt = x) (h1 : -2147483648 < x) (h2 : x ≤ 2147483647) : (-a).toInt = -x := by
  rw [Int32.toInt_neg, ha]
  exact Int.bmod_eq_of_le (by omega) (by omega)
theorem bsum_b {W N : Nat → Int32} {H : Nat → Bool} {n : Nat} (hN : ∀ c, c < n → ∃ m, m < 100 ∧ N c = nI m) (hn : n ≤ 10) : ∀ c, c ≤ n → 10 - 99 * (c : Int) ≤ (bsum W N H c).toInt ∧ (bsum W N H c).toInt ≤ 10 + 99 * (c : Int)
  | 0, _ => by
    show 10 - 99 * ((0 : Nat) : Int) ≤ (10 : Int32).toInt ∧ (10 : Int32).toInt ≤ 10 + 99 * ((0 : Nat) : Int)
    decide
  | c + 1, hc => by
    obtain ⟨h1, h2⟩ := bsum_b (W := W) (H := H) hN hn c (by omega)
    obtain ⟨m, hm, em⟩ := hN c (by omega)
    have e1 : (nI m).toInt = m := nI_toInt (by omega)
    have e2 : (-nI m).toInt = -(m : Int) := i3_neg2 e1 (by omega) (by omega)
    have e3 : (bsum W N H c + nI m).toInt = (bsum W N H c).toInt + m := i3_add rfl e1 (by omega) (by omega)
    have e4 : (bsum W N H c + -nI m).toInt = (bsum W N H c).toInt + -(m : Int) := i3_add rfl e2 (by omega) (by omega)
    unfold bsum
    rw [em]
    split
    · omega
    · split
      · split
        · rw [e3]; omega
        · rw [e4]; omega
      · omega
theorem base_b {sm : mm_S} (hA : MAr sm (mm_I sm 9)) (i y d : Int32) : -980 ≤ (basev sm i y d).toInt ∧ (basev sm i y d).toInt ≤ 1000 := by
  unfold basev
  rcases hA with h | ⟨a, ha, h, n, hn, h14, hc⟩
  · rw [h, if_neg i3_m1]
    decide
  · rw [h, if_pos (i3_0le (by omega)), nI_clamp (show a < 2 ^ 31 by omega), h14, nI_clamp (show n < 2 ^ 31 by omega)]
    have := bsum_b (W := fun c => mm_G sm 15 (10 * a + c)) (N := fun c => mm_G sm 16 (10 * a + c)) (H := fun c => hdv sm i y d (10 * a + c)) (n := n) (fun c hcn => (hc c hcn).2.1) hn n (Nat.le_refl n)
    omega
theorem half_b {x : Int32} (h1 : -980 ≤ x.toInt) (h2 : x.toInt ≤ 1000) : -490 ≤ (x / 2).toInt ∧ (x / 2).toInt ≤ 500 := by
  have key : -490 ≤ x.toInt.tdiv 2 ∧ x.toInt.tdiv 2 ≤ 500 := by
    generalize x.toInt = z at h1 h2
    by_cases hz : 0 ≤ z
    · rw [Int.tdiv_eq_ediv_of_nonneg hz]
      omega
    · have e : z.tdiv 2 = -((-z).tdiv 2) := by rw [Int.neg_tdiv, Int.neg_neg]
      rw [e, Int.tdiv_eq_ediv_of_nonneg (by omega)]
      omega
  have e : (x / 2).toInt = x.toInt.tdiv 2 := by
    rw [Int32.toInt_div]
    have e2 : (2 : Int32).toInt = 2 := rfl
    rw [e2]
    generalize x.toInt.tdiv 2 = q at key
    refine Int.bmod_eq_of_le ?_ ?_ <;> omega
  rw [e]
  exact key
theorem worth_b {sm : mm_S} (hA : MAr sm (mm_I sm 9)) {i yy : Nat} {d : Int32} (hi : i < 6) (hy : yy < 2 ^ 31) (hv : ∃ v, v ≤ 9 ∧ mm_G sm 5 i = nI v) (hr : ∀ k, k < 24 → ∃ w, w ≤ 9 ∧ mm_G sm 7 k = nI w) : 0 ≤ (worthv sm (nI i) (nI yy) d).toInt ∧ (worthv sm (nI i) (nI yy) d).toInt ≤ 2100 := by
  have e4 : (4 : Int32) * nI i + (nI yy - nI yy / 4 * 4) = nI (4 * i + yy % 4) := by
    rw [show (4 : Int32) = nI 4 from rfl, nI_rem hy (by decide), nI_mul, nI_add]
  have e8 : nI yy - nI yy / 8 * 8 = nI (yy % 8) := nI_rem hy (by decide)
  obtain ⟨b1, b2⟩ := base_b hA (nI i) (nI yy) d
  obtain ⟨v, hv, ev⟩ := hv
  obtain ⟨w, hw, ew⟩ := hr (4 * i + yy % 4) (by omega)
  unfold worthv
  generalize basev sm (nI i) (nI yy) d = n at b1 b2
  have k : -3000 ≤ (kindv sm (nI i) (nI yy) d n).toInt ∧ (kindv sm (nI i) (nI yy) d n).toInt ≤ 2100 := by
    have s8 : (n + nI (yy % 8)).toInt = n.toInt + (yy % 8 : Nat) := i3_add rfl (nI_toInt (by omega)) (by omega) (by omega)
    have s82 : ((n + nI (yy % 8)) * 2).toInt = (n.toInt + (yy % 8 : Nat)) * 2 := i3_mul s8 rfl (by omega) (by omega)
    have c00 : ((0 : Int32) + nI v).toInt = v := by rw [Int32.zero_add, nI_toInt (by omega)]
    have c0n : (n + nI v).toInt = n.toInt + v := i3_add rfl (nI_toInt (by omega)) (by omega) (by omega)
    obtain ⟨q1, q2⟩ := half_b b1 b2
    have ch : (n / 2 + nI w).toInt = (n / 2).toInt + w := i3_add rfl (nI_toInt (by omega)) (by omega) (by omega)
    have z0 : (0 : Int32).toInt = 0 := rfl
    unfold kindv
    rw [e4, e8, nI_clamp (show i < 2 ^ 31 by omega), nI_clamp (show 4 * i + yy % 4 < 2 ^ 31 by omega), ev, ew]
    split
    · rw [s8]; omega
    split
    · split <;> omega
    split
    · omega
    split
    · split
      · rw [s82]; omega
      · rw [Int32.mul_one, s8]; omega
    split
    · split
      · rw [c00]; omega
      · rw [c0n]; omega
    split
    · rw [ch]; omega
    omega
  unfold pos0
  have z0 : (0 : Int32).toInt = 0 := rfl
  split
  · rename_i h
    rw [Int32.le_iff_toInt_le] at h
    omega
  · omega
theorem kpf_b {W N : Nat → Int32} {n : Nat} (hN : ∀ c, c < n → ∃ m, m < 100 ∧ N c = nI m) : ∀ c, c ≤ n → ∃ m, m < 100 ∧ kpf W N c = nI m
  | 0, _ => ⟨1, by omega, rfl⟩
  | c + 1, hc => by
    unfold kpf
    split
    · exact hN c (by omega)
    · exact kpf_b hN c (by omega)
theorem keep_b {sm : mm_S} (hA : MAr sm (mm_I sm 9)) : ∃ K, K < 100 ∧ keepv sm = nI K := by
  unfold keepv
  rcases hA with h | ⟨a, ha, h, n, hn, h14, hc⟩
  · rw [h, if_neg i3_m1]
    exact ⟨1, by omega, rfl⟩
  · rw [h, if_pos (i3_0le (by omega)), nI_clamp (show a < 2 ^ 31 by omega), h14, nI_clamp (show n < 2 ^ 31 by omega)]
    exact kpf_b (fun c hcn => (hc c hcn).2.1) n (Nat.le_refl n)
/-! what the years bring: whole numbers -/
def sumN (f : Nat → Int) : Nat → Int
  | 0 => 0
  | n + 1 => sumN f n + f n
theorem sumN_b {f : Nat → Int} {B : Int} {N : Nat} (h : ∀ i, i < N → -B ≤ f i ∧ f i ≤ B) : ∀ n, n ≤ N → -(B * n) ≤ sumN f n ∧ sumN f n ≤ B * n
  | 0, _ => by
    show -(B * ((0 : Nat) : Int)) ≤ 0 ∧ (0 : Int) ≤ B * ((0 : Nat) : Int)
    simp
  | n + 1, hn => by
    have h1 := sumN_b h n (by omega)
    have h2 := h n (by omega)
    show -(B * ((n + 1 : Nat) : Int)) ≤ sumN f n + f n ∧ sumN f n + f n ≤ B * ((n + 1 : Nat) : Int)
    have e : B * ((n + 1 : Nat) : Int) = B * n + B := by
      rw [Int.natCast_succ, Int.mul_add, Int.mul_one]
    omega
theorem sumN_c {f g : Nat → Int} : ∀ {n : Nat}, (∀ i, i < n → f i = g i) → sumN f n = sumN g n
  | 0, _ => rfl
  | n + 1, h => by
    show sumN f n + f n = sumN g n + g n
    rw [sumN_c (fun i hi => h i (by omega)), h n (by omega)]
/-- w: what a need is worth so many years ahead, with so many darks -/
def svI (w : Nat → Nat → Nat → Int) (K N n : Nat) (g : Nat → Int) (left d i : Nat) : Int := g (d - 1) + (w (n - left) d i - K * ((d : Int) - 1)) * (N : Int) ^ (left - 1)
def spI (K N : Nat) (g : Nat → Int) (left d : Nat) : Int := g d - (K * d) * (N : Int) ^ (left - 1)
def srvI (w : Nat → Nat → Nat → Int) (K N n : Nat) (how : Nat) (set : Int32) (g : Nat → Int) (left d i : Nat) : Bool :=
  if d = 0 then false else if how = 0 then decide (spI K N g left d < svI w K N n g left d i) else if how = 1 then decide (0 < w (n - left) d i) else decide (((set >>> (nI i &&& 31)) &&& (1 : Int32)) = (1 : Int32))
def gtI (w : Nat → Nat → Nat → Int) (K N n : Nat) (how : Nat) (set : Int32) : Nat → Nat → Int
  | 0, _ => 0
  | left + 1, d => sumN (fun i => if srvI w K N n how set (gtI w K N n how set left) (left + 1) d i = true then svI w K N n (gtI w K N n how set left) (left + 1) d i else spI K N (gtI w K N n how set left) (left + 1) d) N
theorem pw_pos (N l : Nat) : 0 ≤ (N : Int) ^ l := by
  rw [← Int.natCast_pow]
  omega
theorem gt_b {w : Nat → Nat → Nat → Int} {K N n : Nat} {how : Nat} {set : Int32} (hw : ∀ t d i, i < N → 0 ≤ w t d i ∧ w t d i ≤ 2100) (hK : K < 100) : ∀ left d, d ≤ 8 → -(3000 * left * (N : Int) ^ left) ≤ gtI w K N n how set left d ∧ gtI w K N n how set left d ≤ 3000 * left * (N : Int) ^ left
  | 0, d, _ => by
    show -(3000 * ((0 : Nat) : Int) * _) ≤ 0 ∧ (0 : Int) ≤ _
    simp
  | left + 1, d, hd => by
    have ih := gt_b (n := n) (how := how) (set := set) hw hK left
    have hp := pw_pos N left
    have hB : ∀ i, i < N → -(3000 * ((left + 1 : Nat) : Int) * (N : Int) ^ left) ≤ (if srvI w K N n how set (gtI w K N n how set left) (left + 1) d i = true then svI w K N n (gtI w K N n how set left) (left + 1) d i else spI K N (gtI w K N n how set left) (left + 1) d) ∧ (if srvI w K N n how set (gtI w K N n how set left) (left + 1) d i = true then svI w K N n (gtI w K N n how set left) (left + 1) d i else spI K N (gtI w K N n how set left) (left + 1) d) ≤ 3000 * ((left + 1 : Nat) : Int) * (N : Int) ^ left := by
      intro i hi
      have hwi := hw (n - (left + 1)) d i hi
      have e : 3000 * ((left + 1 : Nat) : Int) * (N : Int) ^ left = 3000 * (left : Int) * (N : Int) ^ left + 3000 * (N : Int) ^ left := by
        rw [Int.natCast_succ, Int.mul_add, Int.add_mul, Int.mul_one]
      have kd : (0 : Int) ≤ (K : Int) * d ∧ (K : Int) * d ≤ 99 * 8 := by
        refine ⟨by rw [← Int.natCast_mul]; omega, ?_⟩
        have : K * d ≤ 99 * 8 := Nat.mul_le_mul (by omega) hd
        rw [← Int.natCast_mul]
        omega
      have mulb : ∀ z : Int, -3000 ≤ z → z ≤ 3000 → -(3000 * (N : Int) ^ left) ≤ z * (N : Int) ^ left ∧ z * (N : Int) ^ left ≤ 3000 * (N : Int) ^ left := by
        intro z h1 h2
        refine ⟨?_, Int.mul_le_mul_of_nonneg_right h2 hp⟩
        have := Int.mul_le_mul_of_nonneg_right h1 hp
        rw [Int.neg_mul] at this
        exact this
      split
      · rename_i hs
        have hd0 : d ≠ 0 := fun q => by
          unfold srvI at hs
          rw [if_pos q] at hs
          cases hs
        have h1 := ih (d - 1) (by omega)
        have kd1 : (K : Int) * ((d : Int) - 1) = (K : Int) * d - K := by rw [Int.mul_sub, Int.mul_one]
        have h2 := mulb (w (n - (left + 1)) d i - K * ((d : Int) - 1)) (by rw [kd1]; omega) (by rw [kd1]; have : (K : Int) ≤ K * d := by { rw [← Int.natCast_mul]; have := Nat.le_mul_of_pos_right K (Nat.pos_of_ne_zero hd0); omega }; omega)
        unfold svI
        rw [Nat.add_sub_cancel, e]
        omega
      · have h1 := ih d hd
        have h2 := mulb (-((K : Int) * d)) (by omega) (by omega)
        rw [Int.neg_mul] at h2
        unfold spI
        rw [Nat.add_sub_cancel, e]
        omega
    have h := sumN_b hB N (Nat.le_refl N)
    have e2 : 3000 * ((left + 1 : Nat) : Int) * (N : Int) ^ (left + 1) = 3000 * ((left + 1 : Nat) : Int) * (N : Int) ^ left * (N : Int) := by
      rw [Int.pow_succ, Int.mul_assoc, Int.mul_assoc, Int.mul_assoc]
    rw [e2]
    exact h
theorem gt_s {w : Nat → Nat → Nat → Int} {K N n : Nat} {how : Nat} {set : Int32} (hw : ∀ t d i, i < N → 0 ≤ w t d i ∧ w t d i ≤ 2100) (hK : K < 100) (hN : N ≤ 6) {left d : Nat} (hl : left ≤ 8) (hd : d ≤ 8) : -100000000000 ≤ gtI w K N n how set left d ∧ gtI w K N n how set left d ≤ 100000000000 := by
  have h := gt_b (n := n) (how := how) (set := set) hw hK left d hd
  have h6 : N ^ left ≤ 6 ^ 8 := Nat.le_trans (Nat.pow_le_pow_left hN left) (Nat.pow_le_pow_right (by decide) hl)
  have h7 : 3000 * left * N ^ left ≤ 3000 * 8 * 6 ^ 8 := Nat.mul_le_mul (by omega) h6
  have e : (3000 : Int) * left * (N : Int) ^ left = ((3000 * left * N ^ left : Nat) : Int) := by
    rw [Int.natCast_mul, Int.natCast_mul, Int.natCast_pow]
    rfl
  rw [e] at h
  have e8 : 3000 * 8 * 6 ^ 8 = 40310784000 := by decide
  omega
