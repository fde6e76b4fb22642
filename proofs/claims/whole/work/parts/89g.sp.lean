/-! spent -/
def swI (w : Nat → Nat → Nat → Int) (K N n : Nat) : Nat → Nat → Int
  | 0, d => if d = 0 then 1 else 0
  | left + 1, d => sumN (fun i => swI w K N n left (if srvI w K N n 0 0 (gtI w K N n 0 0 left) (left + 1) d i = true then d - 1 else d)) N
theorem sumN_nn {f : Nat → Int} {B : Int} {N : Nat} (h : ∀ i, i < N → 0 ≤ f i ∧ f i ≤ B) : ∀ n, n ≤ N → 0 ≤ sumN f n ∧ sumN f n ≤ B * n
  | 0, _ => by
    show (0 : Int) ≤ 0 ∧ (0 : Int) ≤ B * ((0 : Nat) : Int)
    simp
  | n + 1, hn => by
    have h1 := sumN_nn h n (by omega)
    have h2 := h n (by omega)
    show 0 ≤ sumN f n + f n ∧ sumN f n + f n ≤ B * ((n + 1 : Nat) : Int)
    have e : B * ((n + 1 : Nat) : Int) = B * n + B := by
      rw [Int.natCast_succ, Int.mul_add, Int.mul_one]
    omega
theorem sw_b {w : Nat → Nat → Nat → Int} {K N n : Nat} : ∀ left d, 0 ≤ swI w K N n left d ∧ swI w K N n left d ≤ (N : Int) ^ left
  | 0, d => by
    show 0 ≤ (if d = 0 then (1 : Int) else 0) ∧ (if d = 0 then (1 : Int) else 0) ≤ (N : Int) ^ 0
    rw [Int.pow_zero]
    split <;> omega
  | left + 1, d => by
    have h := sumN_nn (f := fun i => swI w K N n left (if srvI w K N n 0 0 (gtI w K N n 0 0 left) (left + 1) d i = true then d - 1 else d)) (B := (N : Int) ^ left) (fun i _ => sw_b left _) N (Nat.le_refl N)
    rw [Int.pow_succ]
    exact h
def stp (sm : mm_S) (y K N n left d i : Nat) : Nat := if srvI (wJ sm y) K N n 0 0 (gtI (wJ sm y) K N n 0 0 left) (left + 1) d i = true then d - 1 else d
def oneS (sm : mm_S) (y K N n left d i : Nat) : Int := swI (wJ sm y) K N n left (stp sm y K N n left d i)
theorem sw_one {sm : mm_S} {y K N n left d : Nat} : swI (wJ sm y) K N n (left + 1) d = sumN (oneS sm y K N n left d) N := rfl
theorem stp_le {sm : mm_S} {y K N n left d i : Nat} : stp sm y K N n left d i ≤ d := by
  unfold stp
  split <;> omega
/-- only the ways are written -/
def m28 (st s : mm_S) : Prop := (∀ k, mm_I s k = mm_I st k) ∧ (∀ k j, k ≠ 25 → mm_G s k j = mm_G st k j) ∧ ∀ k j, k ≠ 28 → mm_L s k j = mm_L st k j
theorem m28_rf {st : mm_S} : m28 st st := ⟨fun _ => rfl, fun _ _ _ => rfl, fun _ _ _ => rfl⟩
theorem m28_5 {a b c : mm_S} (h : m28 a b) (h2 : mq5 b c) : m28 a c := ⟨fun k => (mq5_I h2 k).trans (h.1 k), fun k j hk => (h2.2.1 k j hk).trans (h.2.1 k j hk), fun k j hk => (h2.2.2 k j).trans (h.2.2 k j hk)⟩
theorem m28_w {a b : mm_S} {j : Nat} {v : Int64} (h : m28 a b) : m28 a (mm_sL b 28 j v) := ⟨h.1, h.2.1, fun k q hk => by rw [mL_sL, if_neg hk]; exact h.2.2 k q hk⟩
theorem m28_q {a b c : mm_S} (h : mq a b) (h2 : m28 b c) : mq a c := mq_tr h ⟨fun k _ => h2.1 k, h2.2.1, fun k j _ hk => h2.2.2 k j hk⟩
theorem h_spentM {sm s5 : mm_S} {fu N y D K n : Nat} {part : Int32} {v : Int64} (hfu : 700 < fu) (hY : Yq sm N y D K n) (hq : mq sm s5) (hg : ∀ k d, k ≤ n → d ≤ 8 → mm_L s5 26 (10 * k + d) = oL (gtI (wJ sm y) K N n 0 0 (n - k) d)) (hv : ∀ st, M_lowest fu (oL (swI (wJ sm y) K N n n D)) (oL ((N : Int) ^ n)) part st = some (v, st)) :
    fc_ok (M_spent_b21 fu fu (nI n) part 0 s5) (fun q => q.1 = v ∧ mq sm q.2) := by
  have hN := hY.2.1.1
  have h0 := hY.2.1.2
  have hn8 := hY.2.2.2.2.2.1
  have hD := hY.2.2.2.1.1
  have h1 := hY.2.2.2.1.2
  have e10 : ∀ a b : Nat, (10 : Int32) * nI a + nI b = nI (10 * a + b) := fun a b => by
    rw [show (10 : Int32) = nI 10 from rfl, nI_mul, nI_add]
  unfold M_spent_b21
  refine ok_lp (fun z => ∃ c s, c ≤ 9 ∧ z = (nI n, part, nI c, s) ∧ m28 s5 s ∧ ∀ d, d < c → mm_L s 28 (10 * n + d) = oL (swI (wJ sm y) K N n 0 d)) (fun z => 9 - z.2.2.1.toNatClampNeg) _ ?_ fu _ ⟨0, s5, by omega, rfl, m28_rf, fun d hd => absurd hd (Nat.not_lt_zero d)⟩ (by show 9 - _ < fu; omega)
  rintro z KK ⟨c, s, hc, rfl, hs, hz⟩ hK
  show fc_ok (M_spent_b21F fu (fun x1 x2 x3 st => KK (x1, x2, x3, st)) _ _ _ _) _
  unfold M_spent_b21F
  refine ok_if.mpr ⟨fun hle => ?_, fun hle => ?_⟩
  rotate_left
  · have hlt : c < 9 := Nat.not_le.mp (fun q => hle ((nI_le_iff (a := 9) (by omega) (by omega)).mpr q))
    have next : ∀ x, x = oL (swI (wJ sm y) K N n 0 c) → fc_ok (M_spent_b46 fu (fun x1 x2 x3 st => KK (x1, x2, x3, st)) (nI n) part (nI c) x (10 * nI n + nI c) s) (fun q => q.1 = v ∧ mq sm q.2) := by
      rintro x rfl
      unfold M_spent_b46
      rw [e10, nI_ix (by omega) (by decide), gd_true, nI_clamp (by omega), nm_eq, nm_eq, nI_1]
      refine hK _ ⟨c + 1, _, by omega, rfl, m28_w hs, fun d hd => ?_⟩ ?_
      · rw [mL_sL, if_pos rfl]
        by_cases hdc : d = c
        · rw [if_pos (by omega), hdc]
        · rw [if_neg (by omega)]
          exact hz d (by omega)
      · show 9 - (nI (c + 1)).toNatClampNeg < 9 - (nI c).toNatClampNeg
        rw [nI_clamp (by omega), nI_clamp (by omega)]
        omega
    refine ok_if.mpr ⟨fun hc0 => next _ ?_, fun hc0 => next _ ?_⟩
    · have := (nI_eq_iff (b := 0) (by omega) (by omega)).mp hc0
      subst this
      rfl
    · have : c ≠ 0 := fun q => hc0 (by rw [q]; rfl)
      unfold swI
      rw [if_neg this]
      rfl
  have hle := (nI_le_iff (a := 9) (by omega) (by omega)).mp hle
  clear hK
  rw [nm_eq]
  unfold M_spent_b57
  refine ok_lp (fun z => ∃ m s, m ≤ n ∧ z = (nI n, part, dn m, s) ∧ m28 s5 s ∧ ∀ k d, m ≤ k → k ≤ n → d ≤ 8 → mm_L s 28 (10 * k + d) = oL (swI (wJ sm y) K N n (n - k) d)) (fun z => (z.2.2.1 + 1).toNatClampNeg) _ ?_ fu _ ⟨n, s, Nat.le_refl n, rfl, hs, fun k d h1 h2 h3 => ?_⟩ ?_
  rotate_left
  · have : k = n := by omega
    subst this
    rw [hz d (by omega), Nat.sub_self]
  · show (dn n + 1).toNatClampNeg < fu
    rw [dn_k, nI_clamp (by omega)]
    omega
  clear hz hs
  rintro z K57 ⟨m, s, hm, rfl, hs, hw⟩ hK57
  show fc_ok (M_spent_b57F fu (fun x1 x2 x3 st => K57 (x1, x2, x3, st)) _ _ _ _) _
  unfold M_spent_b57F
  have hqs : mq sm s := m28_q hq hs
  refine ok_if.mpr ⟨fun hlt => ?_, fun hlt => ?_⟩
  · have hm0 : m = 0 := by
      cases m with
      | zero => rfl
      | succ m =>
        rw [dn_s] at hlt
        exact absurd hlt (i3_neg (by omega))
    subst hm0
    have := hw 0 D (by omega) (by omega) hD
    rw [Nat.mul_zero, Nat.zero_add, Nat.sub_zero] at this
    rw [hqs.1 1 (by decide), h1, nI_ix (by omega) (by decide), gd_true, h_ways (sm := sm) hfu ((hqs.1 0 (by decide)).trans h0) hN hn8, bn_some, nI_clamp (show D < 2 ^ 31 by omega), this, hv, bn_some]
    exact ok_some.mpr ⟨rfl, hqs⟩
  obtain ⟨k, rfl⟩ : ∃ k, m = k + 1 := ⟨m - 1, by
    cases m with
    | zero => exact absurd dn_0 hlt
    | succ m => omega⟩
  have hK57 : ∀ s', m28 s5 s' → (∀ k' d, k ≤ k' → k' ≤ n → d ≤ 8 → mm_L s' 28 (10 * k' + d) = oL (swI (wJ sm y) K N n (n - k') d)) → fc_ok (K57 (nI n, part, dn k, s')) (fun q => q.1 = v ∧ mq sm q.2) := by
    intro s' a1 a2
    refine hK57 _ ⟨k, s', by omega, rfl, a1, a2⟩ ?_
    show (dn k + 1).toNatClampNeg < (dn (k + 1) + 1).toNatClampNeg
    rw [dn_k, dn_k, nI_clamp (by omega), nI_clamp (by omega)]
    omega
  rw [dn_s]
  unfold M_spent_b64
  refine ok_lp (fun z => ∃ d s', d ≤ 9 ∧ z = (nI n, part, nI k, nI d, s') ∧ m28 s5 s' ∧ (∀ k' d', k + 1 ≤ k' → k' ≤ n → d' ≤ 8 → mm_L s' 28 (10 * k' + d') = oL (swI (wJ sm y) K N n (n - k') d')) ∧ ∀ d', d' < d → mm_L s' 28 (10 * k + d') = oL (swI (wJ sm y) K N n (n - k) d')) (fun z => 9 - z.2.2.2.1.toNatClampNeg) _ ?_ fu _ ⟨0, s, by omega, rfl, hs, hw, fun d hd => absurd hd (Nat.not_lt_zero d)⟩ (by show 9 - _ < fu; omega)
  clear hs hw hqs
  rintro z K64 ⟨d, s, hd, rfl, hs, hw, hwd⟩ hK64
  show fc_ok (M_spent_b64F fu (fun x1 x2 x3 st => K57 (x1, x2, x3, st)) (fun x1 x2 x3 x4 st => K64 (x1, x2, x3, x4, st)) _ _ _ _ _) _
  unfold M_spent_b64F
  refine ok_if.mpr ⟨fun hle => ?_, fun hle => ?_⟩
  · have hle := (nI_le_iff (a := 9) (by omega) (by omega)).mp hle
    rw [nm_eq, dn_n]
    refine hK57 s hs (fun k' d' h1 h2 h3 => ?_)
    by_cases hkk : k' = k
    · subst hkk
      exact hwd d' (by omega)
    · exact hw k' d' (by omega) h2 h3
  have hdl : d < 9 := Nat.not_le.mp (fun q => hle ((nI_le_iff (a := 9) (by omega) (by omega)).mpr q))
  unfold M_spent_b77
  refine ok_lp (fun z => ∃ i s', i ≤ N ∧ z = (nI n, part, nI k, nI d, oL (sumN (oneS sm y K N n (n - k - 1) d) i), nI i, s') ∧ m28 s5 s' ∧ (∀ k' d', k + 1 ≤ k' → k' ≤ n → d' ≤ 8 → mm_L s' 28 (10 * k' + d') = oL (swI (wJ sm y) K N n (n - k') d')) ∧ ∀ d', d' < d → mm_L s' 28 (10 * k + d') = oL (swI (wJ sm y) K N n (n - k) d')) (fun z => N - z.2.2.2.2.2.1.toNatClampNeg) _ ?_ fu _ ⟨0, s, by omega, rfl, hs, hw, hwd⟩ (by show N - _ < fu; omega)
  clear hs hw hwd
  rintro z K77 ⟨i, s, hi, rfl, hs, hw, hwd⟩ hK77
  show fc_ok (M_spent_b77F fu (fun x1 x2 x3 st => K57 (x1, x2, x3, st)) (fun x1 x2 x3 x4 st => K64 (x1, x2, x3, x4, st)) (fun x1 x2 x3 x4 x5 x7 st => K77 (x1, x2, x3, x4, x5, x7, st)) _ _ _ _ _ _ _) _
  unfold M_spent_b77F
  have hqs : mq sm s := m28_q hq hs
  rw [hqs.1 0 (by decide), h0]
  refine ok_if.mpr ⟨fun hle => ?_, fun hle => ?_⟩
  · have hle := (nI_le_iff (by omega) (by omega)).mp hle
    have : i = N := by omega
    subst this
    rw [e10, nI_ix (by omega) (by decide), gd_true, nI_clamp (by omega), nm_eq, nm_eq, nI_1]
    refine hK64 _ ⟨d + 1, _, by omega, rfl, m28_w hs, fun k' d' h1 h2 h3 => ?_, fun d' hd' => ?_⟩ ?_
    · rw [mL_sL, if_pos rfl, if_neg (by omega)]
      exact hw k' d' h1 h2 h3
    · rw [mL_sL, if_pos rfl]
      by_cases hdd : d' = d
      · subst hdd
        rw [if_pos rfl]
        obtain ⟨q, hq'⟩ : ∃ q, n - k = q + 1 := ⟨n - k - 1, by omega⟩
        rw [hq', sw_one, Nat.add_sub_cancel]
      · rw [if_neg (by omega)]
        exact hwd d' (by omega)
    · show 9 - (nI (d + 1)).toNatClampNeg < 9 - (nI d).toNatClampNeg
      rw [nI_clamp (by omega), nI_clamp (by omega)]
      omega
  have hlt : i < N := Nat.not_le.mp (fun q => hle ((nI_le_iff (by omega) (by omega)).mpr q))
  have eb : (10 : Int32) * nI k + 10 = nI (10 * (k + 1)) := by
    rw [show (10 : Int32) = nI 10 from rfl, nI_mul, nI_add]
    rfl
  have next : ∀ x s', m28 s5 s' → mm_L s' 28 = mm_L s 28 → x = stp sm y K N n (n - k - 1) d i → fc_ok (M_spent_b135 fu (fun x1 x2 x3 st => K57 (x1, x2, x3, st)) (fun x1 x2 x3 x4 st => K64 (x1, x2, x3, x4, st)) (fun x1 x2 x3 x4 x5 x7 st => K77 (x1, x2, x3, x4, x5, x7, st)) (nI n) part (nI k) (nI d) (nI i) (nI x) (10 * nI k + 10) (oL (sumN (oneS sm y K N n (n - k - 1) d) i)) s') (fun q => q.1 = v ∧ mq sm q.2) := by
    rintro x s' a1 a2 rfl
    have hx := stp_le (sm := sm) (y := y) (K := K) (N := N) (n := n) (left := n - k - 1) (d := d) (i := i)
    unfold M_spent_b135
    rw [eb, nI_add, nI_ix (by omega) (by decide), gd_true, nI_clamp (by omega), a2, hw (k + 1) _ (Nat.le_refl _) (by omega) (by omega), oL_add, nm_eq, nm_eq, nI_1]
    have e1 : n - (k + 1) = n - k - 1 := by omega
    rw [e1]
    refine hK77 _ ⟨i + 1, s', by omega, rfl, a1, by rw [a2]; exact hw, by rw [a2]; exact hwd⟩ ?_
    show N - (nI (i + 1)).toNatClampNeg < N - (nI i).toNatClampNeg
    rw [nI_clamp (by omega), nI_clamp (by omega)]
    omega
  by_cases hd0 : d = 0
  · subst hd0
    rw [if_pos (show nI 0 ≤ 0 by decide)]
    unfold M_spent_b133
    refine next 0 s hs rfl ?_
    unfold stp srvI
    rw [if_pos rfl, if_neg (show ¬ (false = true) by decide)]
  rw [if_neg (nI_nle (by omega) (by omega))]
  have g26 : ∀ {s'}, m28 s5 s' → ∀ d', d' ≤ 8 → mm_L s' 26 (10 * (k + 1) + d') = oL (gtI (wJ sm y) K N n 0 0 (n - k - 1) d') := fun hs d' hd' => by
    rw [hs.2.2 26 _ (by decide), hg (k + 1) d' (by omega) hd', show n - (k + 1) = n - k - 1 by omega]
  refine ok_bn.mpr (ok_mono (h_served (g := gtI (wJ sm y) K N n 0 0 (n - k - 1)) hfu hY hqs hlt (show k < n by omega) (by omega) (by omega) (g26 hs (d - 1) (by omega))) ?_)
  rintro ⟨r, s'⟩ ⟨hr, hq5⟩
  obtain rfl : r = oL (svI (wJ sm y) K N n (gtI (wJ sm y) K N n 0 0 (n - k - 1)) (n - k) d i) := hr
  have hq5 : mq5 s s' := hq5
  have hs' : m28 s5 s' := m28_5 hs hq5
  have hL' : mm_L s' 28 = mm_L s 28 := funext fun j => hq5.2.2 28 j
  show fc_ok (fc_bn (M_ifSpared fu (nI k) (nI n) (nI d) s') _) _
  rw [h_spared (g := gtI (wJ sm y) K N n 0 0 (n - k - 1)) hfu hY (m28_q hq hs') (by omega) (by omega) (g26 hs' d (by omega)), bn_some]
  have en : n - k = (n - k - 1) + 1 := by omega
  have b1 := sv_i (how := 0) (set := 0) (i := i) hY (show n - k - 1 ≤ 7 by omega) (show 1 ≤ d by omega) (by omega) hlt
  have b2 := sp_i (how := 0) (set := 0) (d := d) hY (show n - k - 1 ≤ 7 by omega) (by omega)
  rw [← en] at b1 b2
  have es : stp sm y K N n (n - k - 1) d i = if spI K N (gtI (wJ sm y) K N n 0 0 (n - k - 1)) (n - k) d < svI (wJ sm y) K N n (gtI (wJ sm y) K N n 0 0 (n - k - 1)) (n - k) d i then d - 1 else d := by
    unfold stp srvI
    rw [if_neg hd0, if_pos rfl, ← en]
    simp only [decide_eq_true_eq]
  generalize svI (wJ sm y) K N n (gtI (wJ sm y) K N n 0 0 (n - k - 1)) (n - k) d i = a at b1 es
  generalize spI K N (gtI (wJ sm y) K N n 0 0 (n - k - 1)) (n - k) d = b at b2 es
  refine ok_if.mpr ⟨fun hc => ?_, fun hc => ?_⟩
  · rw [cmp_le, oL_toInt (by omega) (by omega), oL_toInt (by omega) (by omega)] at hc
    unfold M_spent_b133
    exact next d s' hs' hL' (by rw [es, if_neg (by omega)])
  · rw [cmp_le, oL_toInt (by omega) (by omega), oL_toInt (by omega) (by omega)] at hc
    obtain ⟨d', rfl⟩ : ∃ r, d = r + 1 := ⟨d - 1, by omega⟩
    rw [nI_pred]
    exact next d' s' hs' hL' (by rw [es, if_pos (by omega), Nat.add_sub_cancel])
