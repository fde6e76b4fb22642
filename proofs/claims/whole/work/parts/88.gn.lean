/-! the century's gain -/
def gnv (sm : mm_S) (y : Nat) (set : Int32) : Nat → Nat → Nat → Int32 → Int32
  | 0, _, _, sum => sum
  | m + 1, k, l, sum => if ((set >>> (nI k &&& 31)) &&& (1 : Int32)) = (1 : Int32) ∧ 0 < l then gnv sm y set m (k + 1) (l - 1) (sum + worthv sm (mm_G sm 30 k) (nI (y + k)) (nI l) - keepv sm * nI (l - 1)) else gnv sm y set m (k + 1) l (sum - keepv sm * nI l)
theorem e_hasbit {fu : Nat} {x k : Int32} {st : mm_S} : M_has fu x k st = some (if ((x >>> (k &&& 31)) &&& (1 : Int32)) = (1 : Int32) then 1 else 0, st) := by
  unfold M_has
  split <;> rfl
theorem h_gain {X : cc_X} {T : Nat → Nat} {sm : mm_S} {sc s : cc_S} {fu N y D c : Nat} (hfu : 700 < fu) (h : Rel X T sm sc) (h0 : mm_I sm 0 = nI N) (hN : N ≤ 6) (h3 : mm_I sm 3 = nI y) (hy : y ≤ 9999) (h1 : mm_I sm 1 = nI D) (hD : D ≤ 8) (h29 : mm_I sm 29 = nI c) (hc : c ≤ 8) (hcn : ∀ k, k < c → ∃ i, i < N ∧ mm_G sm 30 k = nI i) (hL : Lk sm N y c D s) (hY : Y3 sc s) (set : Int32) :
    C_X10_gain X fu 3 1 set s = some (gnv sm y set c 0 D 0, s) ∧ ∀ st, mq sm st → fc_ok (M_gainBy fu set st) (fun q => q.1 = gnv sm y set c 0 D 0 ∧ mq sm q.2) := by
  have go1 : cc_go X 1 [9] = true := px_go h.1 (by decide)
  have go3 : cc_go X 3 [12] = true := px_go h.1 (by decide)
  have c10 : cc_I s 1 10 = nI c := ((hY.1 1 (by decide)).1 10).trans ((Rel_I h).2.2.2.2.1.trans h29)
  have c13 : cc_I s 1 13 = nI D := ((hY.1 1 (by decide)).1 13).trans ((Rel_I h).2.1.trans h1)
  have c3 : ∀ k, k < 8 → cc_G s 1 3 k = mm_G sm 30 k := fun k hk => ((hY.1 1 (by decide)).2.1 3 k).trans ((Rel_G h).2.2.1 k hk)
  obtain ⟨⟨l4, l5, l6, l7⟩, lJ, lG⟩ := hL
  have e1 : ∀ l : Nat, nI (l + 1) + -1 = nI l := fun l => by
    rw [← Int32.sub_eq_add_neg]
    exact nI_pred l
  constructor
  · have loop : ∀ m k l sum f, k + m = c → l ≤ D → m < f → C_X10_gain_b11 X fu f 3 1 set (nI l) sum (nI k) s = some (gnv sm y set m k l sum, s) := by
      intro m
      induction m with
      | zero =>
        intro k l sum f hkm hl hm
        obtain ⟨f, rfl⟩ : ∃ g, f = g + 1 := ⟨f - 1, by omega⟩
        rw [show C_X10_gain_b11 X fu (f + 1) 3 1 set (nI l) sum (nI k) s = C_X10_gain_b11F X fu (fun a b d e g i t => C_X10_gain_b11 X fu f a b d e g i t) 3 1 set (nI l) sum (nI k) s from rfl]
        unfold C_X10_gain_b11F
        rw [go1, gd_true, c10, if_pos ((nI_le_iff (by omega) (by omega)).mpr (by omega))]
        rfl
      | succ m ih =>
        intro k l sum f hkm hl hm
        obtain ⟨f, rfl⟩ : ∃ g, f = g + 1 := ⟨f - 1, by omega⟩
        rw [show C_X10_gain_b11 X fu (f + 1) 3 1 set (nI l) sum (nI k) s = C_X10_gain_b11F X fu (fun a b d e g i t => C_X10_gain_b11 X fu f a b d e g i t) 3 1 set (nI l) sum (nI k) s from rfl]
        have b60 : ∀ l sum, l ≤ D → C_X10_gain_b60 X fu (fun a b d e g i t => C_X10_gain_b11 X fu f a b d e g i t) 3 1 set (nI l) sum (nI k) s = some (gnv sm y set m (k + 1) l (sum - keepv sm * nI l), s) := by
          intro l sum hl
          unfold C_X10_gain_b60
          rw [go3, gd_true, nm_eq, nm_eq, l6, nI_1]
          exact ih (k + 1) l _ f (by omega) hl (by omega)
        unfold C_X10_gain_b11F gnv
        rw [go1, gd_true, c10, if_neg (fun q => by have := (nI_le_iff (by omega) (by omega)).mp q; omega)]
        by_cases hb : ((set >>> (nI k &&& 31)) &&& (1 : Int32)) = (1 : Int32)
        · rw [if_pos hb]
          by_cases hl0 : l = 0
          · subst hl0
            rw [if_pos (show nI 0 ≤ 0 by decide), if_neg (fun q => absurd q.2 (Nat.lt_irrefl 0)), b60 0 sum hl]
          · obtain ⟨l', rfl⟩ : ∃ l', l = l' + 1 := ⟨l - 1, by omega⟩
            obtain ⟨i, hi, ei⟩ := hcn k (by omega)
            rw [if_neg (nI_nle (by omega) (by omega)), if_pos ⟨hb, by omega⟩, go3, gd_true, px_ga h.1 (c := 9) (i := 1) (k := 3) (t := 1) (a := k) (j := nI k) (by decide) (by decide) rfl rfl (by show k < 8; omega) (by decide), gd_true, nI_clamp (show k < 2 ^ 31 by omega), c3 k (by omega), ei, e_place, bn_some, yr_ga h.1 (k := 0) (t := 1) (a := (k * 9 + (l' + 1)) * 6 + i) (by omega) rfl, gd_true, nI_clamp (show (k * 9 + (l' + 1)) * 6 + i < 2 ^ 31 by omega), lG k (l' + 1) i (by omega) (by omega) (by omega) hi, nm_eq, nm_eq, e1, b60 l' _ (by omega)]
            rfl
        · rw [if_neg hb, if_neg (fun q => hb q.1), b60 l sum hl]
    unfold C_X10_gain
    rw [go1, gd_true, nm_eq, c13]
    exact loop c 0 D 0 fu (by omega) (by omega) (by omega)
  · have loop : ∀ m k l sum f st, k + m = c → l ≤ D → m < f → mq sm st → fc_ok (M_gainBy_b10 fu f set (nI l) sum (nI k) st) (fun q => q.1 = gnv sm y set m k l sum ∧ mq sm q.2) := by
      intro m
      induction m with
      | zero =>
        intro k l sum f st hkm hl hm hq
        obtain ⟨f, rfl⟩ : ∃ g, f = g + 1 := ⟨f - 1, by omega⟩
        rw [show M_gainBy_b10 fu (f + 1) set (nI l) sum (nI k) st = M_gainBy_b10F fu (fun a b d e t => M_gainBy_b10 fu f a b d e t) set (nI l) sum (nI k) st from rfl]
        unfold M_gainBy_b10F
        rw [hq.1 29 (by decide), h29, if_pos ((nI_le_iff (by omega) (by omega)).mpr (by omega))]
        exact ok_some.mpr ⟨rfl, hq⟩
      | succ m ih =>
        intro k l sum f st hkm hl hm hq
        obtain ⟨f, rfl⟩ : ∃ g, f = g + 1 := ⟨f - 1, by omega⟩
        rw [show M_gainBy_b10 fu (f + 1) set (nI l) sum (nI k) st = M_gainBy_b10F fu (fun a b d e t => M_gainBy_b10 fu f a b d e t) set (nI l) sum (nI k) st from rfl]
        have b58 : ∀ l sum st, l ≤ D → mq sm st → fc_ok (M_gainBy_b58 fu (fun a b d e t => M_gainBy_b10 fu f a b d e t) set (nI l) sum (nI k) st) (fun q => q.1 = gnv sm y set m (k + 1) l (sum - keepv sm * nI l) ∧ mq sm q.2) := by
          intro l sum st hl hq
          unfold M_gainBy_b58
          rw [Rel_K hfu h hq, bn_some, nm_eq, nm_eq, nI_1]
          exact ih (k + 1) l _ f st (by omega) hl (by omega) hq
        unfold M_gainBy_b10F gnv
        rw [hq.1 29 (by decide), h29, if_neg (fun q => by have := (nI_le_iff (by omega) (by omega)).mp q; omega), e_hasbit, bn_some]
        by_cases hb : ((set >>> (nI k &&& 31)) &&& (1 : Int32)) = (1 : Int32)
        · rw [if_pos hb, if_neg n10]
          by_cases hl0 : l = 0
          · subst hl0
            rw [if_pos (show nI 0 ≤ 0 by decide), if_neg (fun q => absurd q.2 (Nat.lt_irrefl 0))]
            exact b58 0 sum st hl hq
          · obtain ⟨l', rfl⟩ : ∃ l', l = l' + 1 := ⟨l - 1, by omega⟩
            obtain ⟨i, hi, ei⟩ := hcn k (by omega)
            rw [if_neg (nI_nle (by omega) (by omega)), if_pos ⟨hb, by omega⟩, nI_ix (show k < 8 by omega) (by decide), gd_true, nI_clamp (show k < 2 ^ 31 by omega), hq.2.1 30 k (by decide), ei, hq.1 3 (by decide), h3, nI_add]
            refine ok_bn.mpr (ok_mono (Rel_W hfu h hq hN hi (by omega)) ?_)
            rintro ⟨r, st'⟩ ⟨hr, hq'⟩
            obtain rfl : r = _ := hr
            show fc_ok (fc_nm _ _) _
            rw [nm_eq, nm_eq, e1]
            exact b58 l' _ st' (by omega) hq'
        · rw [if_neg hb, if_pos rfl, if_neg (fun q => hb q.1)]
          exact b58 l sum st hl hq
    intro st hq
    unfold M_gainBy
    rw [nm_eq, hq.1 1 (by decide), h1]
    exact loop c 0 D 0 fu st (by omega) (by omega) (by omega) hq
def bcv (x : Int32) : Int32 := (fun v1 : Int32 => (fun v2 : Int32 => (fun v3 : Int32 => (fun v4 : Int32 => (fun v5 : Int32 => v5 &&& 63) (v4 + ((v4).toUInt32 >>> (((16 : Int32)).toUInt32 &&& Int32.toUInt32 31)).toInt32)) (v3 + ((v3).toUInt32 >>> (((8 : Int32)).toUInt32 &&& Int32.toUInt32 31)).toInt32)) ((v2 + ((v2).toUInt32 >>> (((4 : Int32)).toUInt32 &&& Int32.toUInt32 31)).toInt32) &&& (252645135 : Int32))) ((v1 &&& (858993459 : Int32)) + (((v1).toUInt32 >>> (((2 : Int32)).toUInt32 &&& Int32.toUInt32 31)).toInt32 &&& (858993459 : Int32)))) (x - (((x).toUInt32 >>> (((1 : Int32)).toUInt32 &&& Int32.toUInt32 31)).toInt32 &&& (1431655765 : Int32)))
theorem e_bitCount {X : cc_X} {fu : Nat} {x : Int32} {s : cc_S} : C_J6_bitCount_0f7a4 X fu x s = some (bcv x, s) := rfl
def bsf (x : Int32) : Nat → Nat → Int32 → Int32
  | 0, _, n => n
  | m + 1, k, n => bsf x m (k + 1) (n + if ((x >>> (nI k &&& 31)) &&& (1 : Int32)) = (1 : Int32) then 1 else 0)
theorem e_bits {fu : Nat} (hfu : 700 < fu) {x : Int32} {st : mm_S} : M_bits fu x st = some (bsf x 8 0 0, st) := by
  have loop : ∀ m k n f, k + m = 8 → m < f → M_bits_b4 fu f x n (nI k) st = some (bsf x m k n, st) := by
    intro m
    induction m with
    | zero =>
      intro k n f hkm hm
      obtain ⟨f, rfl⟩ : ∃ g, f = g + 1 := ⟨f - 1, by omega⟩
      rw [show M_bits_b4 fu (f + 1) x n (nI k) st = M_bits_b4F fu (fun a b d t => M_bits_b4 fu f a b d t) x n (nI k) st from rfl]
      unfold M_bits_b4F
      rw [if_pos (show (8 : Int32) ≤ nI k from (nI_le_iff (a := 8) (by omega) (by omega)).mpr (by omega))]
      rfl
    | succ m ih =>
      intro k n f hkm hm
      obtain ⟨f, rfl⟩ : ∃ g, f = g + 1 := ⟨f - 1, by omega⟩
      rw [show M_bits_b4 fu (f + 1) x n (nI k) st = M_bits_b4F fu (fun a b d t => M_bits_b4 fu f a b d t) x n (nI k) st from rfl]
      unfold M_bits_b4F M_bits_b25 bsf
      rw [if_neg (fun q => by have := (nI_le_iff (a := 8) (by omega) (by omega)).mp q; omega), e_hasbit, bn_some]
      simp only [nm_eq, nI_1]
      by_cases hb : ((x >>> (nI k &&& 31)) &&& (1 : Int32)) = (1 : Int32)
      · rw [if_pos hb, if_neg n10]
        exact ih (k + 1) _ f (by omega) (by omega)
      · rw [if_neg hb, if_pos rfl]
        exact ih (k + 1) _ f (by omega) (by omega)
  exact loop 8 0 0 fu (by omega) (by omega)
theorem bits_t : ∀ v, v < 256 → bcv (nI v) = bsf (nI v) 8 0 0 := by decide +kernel
theorem shl_t : ∀ c, c < 9 → (1 : Int32) <<< (nI c &&& 31) = nI (2 ^ c) := by decide +kernel
theorem h_plan {X : cc_X} {T : Nat → Nat} {sm : mm_S} {sc s : cc_S} {fu y D c : Nat} (hfu : 700 < fu) (h : Rel X T sm sc) (h1 : mm_I sm 1 = nI D) (hD : D ≤ 8) (h29 : mm_I sm 29 = nI c) (hc : c ≤ 8) (hY : Y3 sc s) (hg : ∀ set, C_X10_gain X fu 3 1 set s = some (gnv sm y set c 0 D 0, s) ∧ ∀ st, mq sm st → fc_ok (M_gainBy fu set st) (fun q => q.1 = gnv sm y set c 0 D 0 ∧ mq sm q.2)) :
    ∃ best st', M_bestSet fu sm = some (best, st') ∧ mq sm st' ∧ C_X10_bestPlan X fu 3 1 s = some (best, s) := by
  have go1 : cc_go X 1 [9] = true := px_go h.1 (by decide)
  have go3 : cc_go X 3 [12] = true := px_go h.1 (by decide)
  have c10 : cc_I s 1 10 = nI c := ((hY.1 1 (by decide)).1 10).trans ((Rel_I h).2.2.2.2.1.trans h29)
  have c13 : cc_I s 1 13 = nI D := ((hY.1 1 (by decide)).1 13).trans ((Rel_I h).2.1.trans h1)
  have h2c : 2 ^ c ≤ 256 := Nat.pow_le_pow_right (show 2 > 0 by decide) hc
  have loop : ∀ m k f found st, k + m = 2 ^ c → m < f → mq sm st → ∃ best st', M_bestSet_b4 fu f found (nI k) st = some (best, st') ∧ mq sm st' ∧ C_X10_bestPlan_b12 X fu f 3 1 found (gnv sm y found c 0 D 0) (nI k) s = some (best, s) := by
    intro m
    induction m with
    | zero =>
      intro k f found st hkm hm hq
      obtain ⟨f, rfl⟩ : ∃ g, f = g + 1 := ⟨f - 1, by omega⟩
      rw [show M_bestSet_b4 fu (f + 1) found (nI k) st = M_bestSet_b4F fu (fun a b t => M_bestSet_b4 fu f a b t) found (nI k) st from rfl, show C_X10_bestPlan_b12 X fu (f + 1) 3 1 found (gnv sm y found c 0 D 0) (nI k) s = C_X10_bestPlan_b12F X fu (fun a b d e g t => C_X10_bestPlan_b12 X fu f a b d e g t) 3 1 found (gnv sm y found c 0 D 0) (nI k) s from rfl]
      unfold M_bestSet_b4F C_X10_bestPlan_b12F
      rw [hq.1 29 (by decide), h29, shl_t c (by omega), if_pos ((nI_le_iff (by omega) (by omega)).mpr (by omega)), go1, gd_true, c10, shl_t c (by omega), if_pos ((nI_le_iff (by omega) (by omega)).mpr (by omega))]
      exact ⟨found, st, rfl, hq, rfl⟩
    | succ m ih =>
      intro k f found st hkm hm hq
      obtain ⟨f, rfl⟩ : ∃ g, f = g + 1 := ⟨f - 1, by omega⟩
      rw [show M_bestSet_b4 fu (f + 1) found (nI k) st = M_bestSet_b4F fu (fun a b t => M_bestSet_b4 fu f a b t) found (nI k) st from rfl, show C_X10_bestPlan_b12 X fu (f + 1) 3 1 found (gnv sm y found c 0 D 0) (nI k) s = C_X10_bestPlan_b12F X fu (fun a b d e g t => C_X10_bestPlan_b12 X fu f a b d e g t) 3 1 found (gnv sm y found c 0 D 0) (nI k) s from rfl]
      have hle : ¬ nI (2 ^ c) ≤ nI k := fun q => by have := (nI_le_iff (by omega) (by omega)).mp q; omega
      unfold M_bestSet_b4F C_X10_bestPlan_b12F M_bestSet_b41 C_X10_bestPlan_b56
      rw [hq.1 29 (by decide), h29, shl_t c (by omega), if_neg hle, go1, gd_true, c10, shl_t c (by omega), if_neg hle, e_bits hfu, e_bitCount, bn_some, bn_some, bits_t k (by omega), hq.1 1 (by decide), h1, c13, nI_1]
      simp only [nm_eq]
      by_cases hd : nI D < bsf (nI k) 8 0 0
      · rw [if_pos hd, if_pos hd]
        exact ih (k + 1) f found st (by omega) (by omega) hq
      rw [if_neg hd, if_neg hd, go3, gd_true, (hg (nI k)).1, bn_some]
      obtain ⟨⟨r1, st1⟩, e1, e2, e3⟩ := (hg (nI k)).2 st hq
      obtain rfl : r1 = _ := e2
      obtain ⟨⟨r2, st2⟩, f1, f2, f3⟩ := (hg found).2 st1 e3
      obtain rfl : r2 = _ := f2
      have f3 : mq sm st2 := f3
      rw [e1, bn_some, f1, bn_some]
      split
      · exact ih (k + 1) f found st2 (by omega) (by omega) f3
      · exact ih (k + 1) f (nI k) st2 (by omega) (by omega) f3
  unfold M_bestSet C_X10_bestPlan
  rw [go3, gd_true, (hg 0).1, bn_some]
  exact loop (2 ^ c - 1) 1 fu 0 sm (by have := Nat.two_pow_pos c; omega) (by omega) mq_rf
theorem q_plan {X : cc_X} {T : Nat → Nat} {sm : mm_S} {sc : cc_S} {fu : Nat} (hfu : 700 < fu) (h : Rel X T sm sc) (x : Int32) : Eq2 X T (M_plan fu x sm) (C_X11_plan X fu 0 x sc) := by
  obtain ⟨N, D, y, c, s, b, ⟨hN, h0⟩, ⟨hD, h1⟩, ⟨hy, h3⟩, ⟨hc, h29⟩, -, -, hcn, -⟩ := Rel_R h
  obtain ⟨-, i13, -, -, i10, -⟩ := Rel_I h
  unfold M_plan C_X11_plan
  rw [e_in, e_win, bn_some, bn_some]
  split
  · exact Eq2_same h rfl rfl
  rw [px_go h.1 (by decide), px_go h.1 (by decide), px_go h.1 (by decide), gd_true, gd_true, gd_true, i10, i13, h29, h1]
  obtain ⟨s1, e1, hL, hY⟩ := h_look hfu h h0 hN h3 hy hc hD
  have hg := h_gain hfu h h0 hN h3 hy h1 hD h29 hc hcn hL hY
  obtain ⟨best, st', e2, e3, e4⟩ := h_plan hfu h h1 hD h29 hc hY hg
  rw [e1, bv_some, e4, bn_some, e2]
  simp only [bn_some, bn_id]
  have hR : Rel X T sm s1 := Rel_3 h hY
  split
  · exact ⟨best, st', s1, rfl, rfl, Rel_q e3 hR⟩
  · obtain ⟨⟨r, st2⟩, f1, f2, f3⟩ := (hg best).2 st' e3
    obtain rfl : r = _ := f2
    exact ⟨_, st2, s1, f1, (hg best).1, Rel_q f3 hR⟩
theorem q_ends {X : cc_X} {T : Nat → Nat} {sm : mm_S} {sc : cc_S} {fu : Nat} (hfu : 700 < fu) (h : Rel X T sm sc) (x : Int32) : Eq2 X T (M_ends fu x sm) (C_X11_ends X fu 0 x sc) := by
  obtain ⟨N, D, y, c, s, b, ⟨hN, h0⟩, ⟨hD, h1⟩, ⟨hy, h3⟩, ⟨hc, h29⟩, -, -, hcn, -⟩ := Rel_R h
  obtain ⟨-, i13, -, -, i10, -⟩ := Rel_I h
  unfold M_ends C_X11_ends C_X11_ends_b55
  rw [e_in, e_win, bn_some, bn_some]
  split
  · exact Eq2_same h rfl rfl
  rw [px_go h.1 (by decide), px_go h.1 (by decide), px_go h.1 (by decide), gd_true, gd_true, gd_true, i10, i13, h29, h1]
  obtain ⟨s1, e1, hL, hY⟩ := h_look hfu h h0 hN h3 hy hc hD
  have hg := h_gain hfu h h0 hN h3 hy h1 hD h29 hc hcn hL hY
  have hR : Rel X T sm s1 := Rel_3 h hY
  rw [e1, bv_some]
  simp only [bn_id, gd_true]
  have fin : ∀ set, Eq2 X T (M_gainBy fu set sm) (C_X10_gain X fu 3 1 set s1) := by
    intro set
    obtain ⟨⟨r, st2⟩, f1, f2, f3⟩ := (hg set).2 sm mq_rf
    obtain rfl : r = _ := f2
    exact ⟨_, st2, s1, f1, (hg set).1, Rel_q f3 hR⟩
  split
  · exact fin 0
  · exact fin 255
