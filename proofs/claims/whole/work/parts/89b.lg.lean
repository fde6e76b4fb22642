/-! the reference's gains laid -/
def mqs (st s : mm_S) : Prop := (∀ k, mm_I s k = mm_I st k) ∧ (∀ k j, k ≠ 25 → mm_G s k j = mm_G st k j) ∧ ∀ k j, k ≠ 26 → mm_L s k j = mm_L st k j
theorem mqs_rf {st : mm_S} : mqs st st := ⟨fun _ => rfl, fun _ _ _ => rfl, fun _ _ _ => rfl⟩
theorem mqs_5 {a b c : mm_S} (h : mqs a b) (h2 : mq5 b c) : mqs a c := ⟨fun k => (mq5_I h2 k).trans (h.1 k), fun k j hk => (h2.2.1 k j hk).trans (h.2.1 k j hk), fun k j hk => (h2.2.2 k j).trans (h.2.2 k j hk)⟩
theorem mqs_26 {a b : mm_S} {j : Nat} {v : Int64} (h : mqs a b) : mqs a (mm_sL b 26 j v) := ⟨h.1, h.2.1, fun k q hk => by rw [mL_sL, if_neg hk]; exact h.2.2 k q hk⟩
theorem mqs_q {a b c : mm_S} (h : mq a b) (h2 : mqs b c) : mq a c := mq_tr h ⟨fun k _ => h2.1 k, h2.2.1, fun k j hk _ => h2.2.2 k j hk⟩
theorem gt_one {sm : mm_S} {y K N n how : Nat} {set : Int32} {left d : Nat} : gtI (wJ sm y) K N n how set (left + 1) d = sumN (oneI sm y K N n how set left d) N := rfl
theorem dn_k (k : Nat) : dn k + 1 = nI k := by
  show nI k - 1 + 1 = _
  rw [Int32.sub_add_cancel]
theorem h_lay {sm st : mm_S} {fu N y D K n how : Nat} {set : Int32} (hfu : 700 < fu) (hY : Yq sm N y D K n) (hq : mq sm st) (hhow : how ≤ 2) (h27 : how = 2 → mm_I st 27 = set) :
    fc_ok (M_layGains fu (nI how) (nI n) st) (fun s => mqs st s ∧ ∀ k d, k ≤ n → d ≤ 8 → mm_L s 26 (10 * k + d) = oL (gtI (wJ sm y) K N n how set (n - k) d)) := by
  have hN := hY.2.1.1
  have hn8 := hY.2.2.2.2.2.1
  have e10 : ∀ a b : Nat, (10 : Int32) * nI a + nI b = nI (10 * a + b) := fun a b => by
    rw [show (10 : Int32) = nI 10 from rfl, nI_mul, nI_add]
  unfold M_layGains M_layGains_b2
  refine ok_lp (fun z => ∃ c s, c ≤ 9 ∧ z = (nI how, nI n, nI c, s) ∧ mqs st s ∧ ∀ d, d < c → mm_L s 26 (10 * n + d) = oL 0) (fun z => 9 - z.2.2.1.toNatClampNeg) _ ?_ fu _ ⟨0, st, by omega, rfl, mqs_rf, fun d hd => absurd hd (Nat.not_lt_zero d)⟩ (by show 9 - _ < fu; omega)
  rintro z KK ⟨c, s, hc, rfl, hs, hz⟩ hK
  show fc_ok (M_layGains_b2F fu (fun x1 x2 x3 st => KK (x1, x2, x3, st)) _ _ _ _) _
  unfold M_layGains_b2F
  refine ok_if.mpr ⟨fun hle => ?_, fun hle => ?_⟩
  rotate_left
  · have hlt : c < 9 := Nat.not_le.mp (fun q => hle ((nI_le_iff (a := 9) (by omega) (by omega)).mpr q))
    rw [e10, nI_ix (by omega) (by decide), gd_true, nI_clamp (by omega), nm_eq, nm_eq, nI_1]
    refine hK _ ⟨c + 1, _, by omega, rfl, mqs_26 hs, fun d hd => ?_⟩ ?_
    · rw [mL_sL, if_pos rfl]
      split
      · rfl
      · exact hz d (by omega)
    · show 9 - (nI (c + 1)).toNatClampNeg < 9 - (nI c).toNatClampNeg
      rw [nI_clamp (by omega), nI_clamp (by omega)]
      omega
  have hle := (nI_le_iff (a := 9) (by omega) (by omega)).mp hle
  clear hK
  rw [nm_eq]
  unfold M_layGains_b30
  refine ok_lp (fun z => ∃ m s, m ≤ n ∧ z = (nI how, nI n, dn m, s) ∧ mqs st s ∧ ∀ k d, m ≤ k → k ≤ n → d ≤ 8 → mm_L s 26 (10 * k + d) = oL (gtI (wJ sm y) K N n how set (n - k) d)) (fun z => (z.2.2.1 + 1).toNatClampNeg) _ ?_ fu _ ⟨n, s, Nat.le_refl n, rfl, hs, fun k d h1 h2 h3 => ?_⟩ ?_
  rotate_left
  · have : k = n := by omega
    subst this
    rw [hz d (by omega), Nat.sub_self]
    rfl
  · show (dn n + 1).toNatClampNeg < fu
    rw [dn_k, nI_clamp (by omega)]
    omega
  clear hz hs
  rintro z K30 ⟨m, s, hm, rfl, hs, hg⟩ hK30
  show fc_ok (M_layGains_b30F fu (fun x1 x2 x3 st => K30 (x1, x2, x3, st)) _ _ _ _) _
  unfold M_layGains_b30F
  refine ok_if.mpr ⟨fun hlt => ?_, fun hlt => ?_⟩
  · have hm0 : m = 0 := by
      cases m with
      | zero => rfl
      | succ m =>
        rw [dn_s] at hlt
        exact absurd hlt (i3_neg (by omega))
    subst hm0
    exact ok_some.mpr ⟨hs, fun k d hk hd => hg k d (by omega) hk hd⟩
  obtain ⟨k, rfl⟩ : ∃ k, m = k + 1 := ⟨m - 1, by
    cases m with
    | zero => exact absurd dn_0 hlt
    | succ m => omega⟩
  have hK30 : ∀ s', mqs st s' → (∀ k' d, k ≤ k' → k' ≤ n → d ≤ 8 → mm_L s' 26 (10 * k' + d) = oL (gtI (wJ sm y) K N n how set (n - k') d)) → fc_ok (K30 (nI how, nI n, dn k, s')) (fun s => mqs st s ∧ ∀ k d, k ≤ n → d ≤ 8 → mm_L s 26 (10 * k + d) = oL (gtI (wJ sm y) K N n how set (n - k) d)) := by
    intro s' a1 a2
    refine hK30 _ ⟨k, s', by omega, rfl, a1, a2⟩ ?_
    show (dn k + 1).toNatClampNeg < (dn (k + 1) + 1).toNatClampNeg
    rw [dn_k, dn_k, nI_clamp (by omega), nI_clamp (by omega)]
    omega
  rw [dn_s]
  unfold M_layGains_b37
  refine ok_lp (fun z => ∃ d s', d ≤ 9 ∧ z = (nI how, nI n, nI k, nI d, s') ∧ mqs st s' ∧ (∀ k' d', k + 1 ≤ k' → k' ≤ n → d' ≤ 8 → mm_L s' 26 (10 * k' + d') = oL (gtI (wJ sm y) K N n how set (n - k') d')) ∧ ∀ d', d' < d → mm_L s' 26 (10 * k + d') = oL (gtI (wJ sm y) K N n how set (n - k) d')) (fun z => 9 - z.2.2.2.1.toNatClampNeg) _ ?_ fu _ ⟨0, s, by omega, rfl, hs, hg, fun d hd => absurd hd (Nat.not_lt_zero d)⟩ (by show 9 - _ < fu; omega)
  clear hs hg
  rintro z K37 ⟨d, s, hd, rfl, hs, hg, hgd⟩ hK37
  show fc_ok (M_layGains_b37F fu (fun x1 x2 x3 st => K30 (x1, x2, x3, st)) (fun x1 x2 x3 x4 st => K37 (x1, x2, x3, x4, st)) _ _ _ _ _) _
  unfold M_layGains_b37F
  refine ok_if.mpr ⟨fun hle => ?_, fun hle => ?_⟩
  · have hle := (nI_le_iff (a := 9) (by omega) (by omega)).mp hle
    rw [nm_eq, dn_n]
    refine hK30 s hs (fun k' d' h1 h2 h3 => ?_)
    by_cases hkk : k' = k
    · subst hkk
      exact hgd d' (by omega)
    · exact hg k' d' (by omega) h2 h3
  have hdl : d < 9 := Nat.not_le.mp (fun q => hle ((nI_le_iff (a := 9) (by omega) (by omega)).mpr q))
  unfold M_layGains_b50
  refine ok_lp (fun z => ∃ i s', i ≤ N ∧ z = (nI how, nI n, nI k, nI d, oL (sumN (oneI sm y K N n how set (n - k - 1) d) i), nI i, s') ∧ mqs st s' ∧ (∀ k' d', k + 1 ≤ k' → k' ≤ n → d' ≤ 8 → mm_L s' 26 (10 * k' + d') = oL (gtI (wJ sm y) K N n how set (n - k') d')) ∧ ∀ d', d' < d → mm_L s' 26 (10 * k + d') = oL (gtI (wJ sm y) K N n how set (n - k) d')) (fun z => N - z.2.2.2.2.2.1.toNatClampNeg) _ ?_ fu _ ⟨0, s, by omega, rfl, hs, hg, hgd⟩ (by show N - _ < fu; omega)
  clear hs hg hgd
  rintro z K50 ⟨i, s, hi, rfl, hs, hg, hgd⟩ hK50
  show fc_ok (M_layGains_b50F fu (fun x1 x2 x3 st => K30 (x1, x2, x3, st)) (fun x1 x2 x3 x4 st => K37 (x1, x2, x3, x4, st)) (fun x1 x2 x3 x4 x5 x7 st => K50 (x1, x2, x3, x4, x5, x7, st)) _ _ _ _ _ _ _) _
  unfold M_layGains_b50F
  have hqs : mq sm s := mqs_q hq hs
  rw [hqs.1 0 (by decide), hY.2.1.2]
  refine ok_if.mpr ⟨fun hle => ?_, fun hle => ?_⟩
  · have hle := (nI_le_iff (by omega) (by omega)).mp hle
    have : i = N := by omega
    subst this
    rw [e10, nI_ix (by omega) (by decide), gd_true, nI_clamp (by omega), nm_eq, nm_eq, nI_1]
    refine hK37 _ ⟨d + 1, _, by omega, rfl, mqs_26 hs, fun k' d' h1 h2 h3 => ?_, fun d' hd' => ?_⟩ ?_
    · rw [mL_sL, if_pos rfl, if_neg (by omega)]
      exact hg k' d' h1 h2 h3
    · rw [mL_sL, if_pos rfl]
      by_cases hdd : d' = d
      · subst hdd
        rw [if_pos rfl]
        obtain ⟨q, hq'⟩ : ∃ q, n - k = q + 1 := ⟨n - k - 1, by omega⟩
        rw [hq', gt_one, Nat.add_sub_cancel]
      · rw [if_neg (by omega)]
        exact hgd d' (by omega)
    · show 9 - (nI (d + 1)).toNatClampNeg < 9 - (nI d).toNatClampNeg
      rw [nI_clamp (by omega), nI_clamp (by omega)]
      omega
  · have hlt : i < N := Nat.not_le.mp (fun q => hle ((nI_le_iff (by omega) (by omega)).mpr q))
    refine ok_bn.mpr (ok_mono (h_gainOf (set := set) hfu hY hqs hhow (fun e => (hs.1 27).trans (h27 e)) hlt (by omega) (by omega) (fun d' hd' => by rw [hg (k + 1) d' (Nat.le_refl _) (by omega) hd', show n - (k + 1) = n - k - 1 by omega])) ?_)
    rintro ⟨r, s'⟩ ⟨hr, hq5⟩
    obtain rfl : r = oL (oneI sm y K N n how set (n - k - 1) d i) := hr
    have hq5 : mq5 s s' := hq5
    show fc_ok (fc_nm _ _) _
    rw [nm_eq, nm_eq, oL_add, nI_1]
    refine hK50 _ ⟨i + 1, s', by omega, rfl, mqs_5 hs hq5, fun k' d' h1 h2 h3 => ?_, fun d' hd' => ?_⟩ ?_
    · rw [hq5.2.2 26]
      exact hg k' d' h1 h2 h3
    · rw [hq5.2.2 26]
      exact hgd d' hd'
    · show N - (nI (i + 1)).toNatClampNeg < N - (nI i).toNatClampNeg
      rw [nI_clamp (by omega), nI_clamp (by omega)]
      omega
