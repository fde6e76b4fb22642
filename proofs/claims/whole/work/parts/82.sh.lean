/-! shift, judge -/
theorem e_hasRun {X : cc_X} {fu t l : Nat} {i n : Int32} {sc : cc_S} (hX : px_X X) (ht : t < 6) (hl : cc_I sc (4 + t) 2 = nI l) (hl6 : l ≤ 60) : C_X8_hasRun X fu (4 + t) i n sc = some (if 0 ≤ n.toInt ∧ 0 ≤ i.toInt ∧ n.toInt + i.toInt ≤ l then 1 else 0, sc) := by
  have e0 : (0 : Int32).toInt = 0 := rfl
  have hlt : (nI l).toInt = l := nI_toInt (by omega)
  have bn := Int32.toInt_lt n
  have bi' := Int32.toInt_lt i
  unfold C_X8_hasRun
  rw [tp_go hX ht, gd_true, hl]
  by_cases h1 : n < 0
  · rw [if_pos h1, if_neg (fun q => by rw [Int32.lt_iff_toInt_lt] at h1; omega)]
  rw [if_neg h1]
  rw [Int32.lt_iff_toInt_lt] at h1
  by_cases h2 : i < 0
  · rw [if_pos h2, if_neg (fun q => by rw [Int32.lt_iff_toInt_lt] at h2; omega)]
  rw [if_neg h2]
  rw [Int32.lt_iff_toInt_lt] at h2
  by_cases h3 : nI l < n
  · rw [if_pos h3, if_neg (fun q => by rw [Int32.lt_iff_toInt_lt] at h3; omega)]
  rw [if_neg h3]
  rw [Int32.lt_iff_toInt_lt] at h3
  have h4 : (nI l - n).toInt = l - n.toInt := i3_sub hlt rfl (by omega) (by omega)
  by_cases h5 : nI l - n < i
  · rw [if_pos h5, if_neg (fun q => by rw [Int32.lt_iff_toInt_lt] at h5; omega)]
  · rw [if_neg h5, if_pos (by rw [Int32.lt_iff_toInt_lt] at h5; exact ⟨by omega, by omega, by omega⟩)]
theorem h_aside {fu t i o j n : Nat} (hfu : 700 < fu) {sm : mm_S} (ht : t < 6) (ho : o < 6) (hi : i + n ≤ 60) (hj : j + n ≤ 60) : fc_ok (M_shift_b104 fu fu (nI t) (nI i) (nI o) (nI j) (nI n) 0 sm) (fun q => q.1 = nI n ∧ (∀ k, mm_I q.2 k = mm_I sm k) ∧ (∀ k a, mm_G q.2 k a = mm_G sm k a) ∧ ∀ a, mm_L q.2 61 a = if 60 * o + j ≤ a ∧ a < 60 * o + j + n then mm_L sm 61 (60 * t + i + (a - (60 * o + j))) else mm_L sm 61 a) := by
  have e1 : ∀ (a b c : Nat), (60 : Int32) * nI a + nI b + nI c = nI (60 * a + b + c) := fun a b c => by
    rw [show (60 : Int32) = nI 60 from rfl, nI_mul, nI_add, nI_add]
  unfold M_shift_b104
  refine ok_lp (fun z => ∃ c st, c ≤ n ∧ z = (nI t, nI i, nI o, nI j, nI n, nI c, st) ∧ (∀ k, mm_I st k = mm_I sm k) ∧ (∀ k a, mm_G st k a = mm_G sm k a) ∧ (∀ a, mm_L st 61 a = mm_L sm 61 a) ∧ ∀ k, k < c → mm_L st 62 k = mm_L sm 61 (60 * t + i + k)) (fun z => n - z.2.2.2.2.2.1.toNatClampNeg) _ ?_ fu _ ⟨0, sm, by omega, rfl, fun _ => rfl, fun _ _ => rfl, fun _ => rfl, fun k hk => absurd hk (Nat.not_lt_zero k)⟩ (by show n - _ < fu; omega)
  rintro z K ⟨c, st, hc, rfl, f1, f2, f3, f4⟩ hK
  show fc_ok (M_shift_b104F fu (fun x1 x2 x3 x4 x5 x6 st => K (x1, x2, x3, x4, x5, x6, st)) _ _ _ _ _ _ _) _
  unfold M_shift_b104F
  refine ok_if.mpr ⟨fun hle => ?_, fun hle => ?_⟩
  · have hle := (nI_le_iff (by omega) (by omega)).mp hle
    have hcn : c = n := by omega
    subst hcn
    unfold M_shift_b141
    refine ok_lp (fun z => ∃ d s, d ≤ c ∧ z = (nI o, nI j, nI c, nI d, s) ∧ (∀ k, mm_I s k = mm_I sm k) ∧ (∀ k a, mm_G s k a = mm_G sm k a) ∧ (∀ a, mm_L s 61 a = if 60 * o + j ≤ a ∧ a < 60 * o + j + d then mm_L sm 61 (60 * t + i + (a - (60 * o + j))) else mm_L sm 61 a) ∧ ∀ k, k < c → mm_L s 62 k = mm_L sm 61 (60 * t + i + k)) (fun z => c - z.2.2.2.1.toNatClampNeg) _ ?_ fu _ ⟨0, st, by omega, rfl, f1, f2, fun a => by rw [if_neg (by omega)]; exact f3 a, f4⟩ (by show c - _ < fu; omega)
    rintro z K' ⟨d, s, hd, rfl, g1, g2, g3, g4⟩ hK'
    show fc_ok (M_shift_b141F fu (fun x3 x4 x5 x6 st => K' (x3, x4, x5, x6, st)) _ _ _ _ _) _
    unfold M_shift_b141F
    refine ok_if.mpr ⟨fun hle => ?_, fun hle => ?_⟩
    · have hle := (nI_le_iff (by omega) (by omega)).mp hle
      have hdc : d = c := by omega
      subst hdc
      exact ok_some.mpr ⟨rfl, g1, g2, g3⟩
    · have hlt : d < c := Nat.not_le.mp (fun q => hle ((nI_le_iff (by omega) (by omega)).mpr q))
      rw [e1]
      refine ok_gd.mpr ⟨nI_ix (by omega) (by decide), ok_gd.mpr ⟨nI_ix (by omega) (by decide), ?_⟩⟩
      rw [nm_eq, nm_eq, nI_1, nI_clamp (show d < 2 ^ 31 by omega), nI_clamp (show 60 * o + j + d < 2 ^ 31 by omega), g4 d hlt]
      refine hK' _ ⟨d + 1, _, by omega, rfl, g1, g2, fun a => ?_, fun k hk => ?_⟩ ?_
      · rw [mL_sL, if_pos rfl]
        by_cases ha : a = 60 * o + j + d
        · subst ha
          rw [if_pos rfl, if_pos (by omega)]
          congr 1
          omega
        · rw [if_neg ha, g3 a]
          by_cases hb : 60 * o + j ≤ a ∧ a < 60 * o + j + d
          · rw [if_pos hb, if_pos (by omega)]
          · rw [if_neg hb, if_neg (by omega)]
      · rw [mL_sL, if_neg (by decide)]
        exact g4 k hk
      · show c - (nI (d + 1)).toNatClampNeg < c - (nI d).toNatClampNeg
        rw [nI_clamp (by omega), nI_clamp (by omega)]
        omega
  · have hlt : c < n := Nat.not_le.mp (fun q => hle ((nI_le_iff (by omega) (by omega)).mpr q))
    rw [e1]
    refine ok_gd.mpr ⟨nI_ix (by omega) (by decide), ok_gd.mpr ⟨nI_ix (by omega) (by decide), ?_⟩⟩
    rw [nm_eq, nm_eq, nI_1, nI_clamp (show c < 2 ^ 31 by omega), nI_clamp (show 60 * t + i + c < 2 ^ 31 by omega), f3]
    refine hK _ ⟨c + 1, _, by omega, rfl, f1, f2, fun a => ?_, fun k hk => ?_⟩ ?_
    · rw [mL_sL, if_neg (by decide)]
      exact f3 a
    · rw [mL_sL, if_pos rfl]
      by_cases hkc : k = c
      · subst hkc
        rw [if_pos rfl]
      · rw [if_neg hkc]
        exact f4 k (by omega)
    · show n - (nI (c + 1)).toNatClampNeg < n - (nI c).toNatClampNeg
      rw [nI_clamp (by omega), nI_clamp (by omega)]
      omega
theorem cJ_cJ {st : cc_S} {i0 k0 i k sp dp n a b d : Nat} : cc_J (cc_cJ st i0 k0 i k sp dp n) a b d = if a = i ∧ b = k then (if dp ≤ d ∧ d < dp + n then cc_J st i0 k0 (sp + (d - dp)) else cc_J st i k d) else cc_J st a b d := by
  show (if a = i ∧ b = k then va_cpy (st.2.2.1 i0 k0) (st.2.2.1 i k) sp dp n else st.2.2.1 a b) d = _
  by_cases h : a = i ∧ b = k
  · rw [if_pos h, if_pos h]; rfl
  · rw [if_neg h, if_neg h]; rfl
theorem q_shift {X : cc_X} {T : Nat → Nat} {sm : mm_S} {sc : cc_S} {fu : Nat} (hfu : 700 < fu) (h : Rel X T sm sc) (x i z j n : Int32) : Eq2 X T (M_shift fu x i z j n sm) (C_X11_shift X fu 0 x i z j n sc) := by
  have e0 : (0 : Int32).toInt = 0 := rfl
  unfold M_shift C_X11_shift
  rw [e_isTape, bn_some, px_go h.1 (by decide), gd_true]
  rcases inw_c x (m := 5) (by decide) with e | ⟨e, t, ht, rfl⟩
  · rw [show inw x 5 = 0 from e, if_pos rfl, e_tapeOf0 e, bn_some, mt_none]
    rcases inw_c z (m := 5) (by decide) with e2 | ⟨e2, o, ho, rfl⟩
    · rw [e_tapeOf0 e2, bn_some, mt_none]
      exact Eq2_same h rfl rfl
    · rw [e_tapeOf1 h.1 (by omega) (Rel_t h (t := o) (by omega)).1, bn_some, mt_some]
      exact Eq2_same h rfl rfl
  have ht6 : t < 6 := by omega
  obtain ⟨b1, b2, b3, b4, l, hl, b5, b6⟩ := Rel_t h ht6
  rw [show inw (nI t) 5 = 1 from e, if_neg n10, e_tapeOf1 h.1 ht6 b1, bn_some, mt_some, e_isTape, bn_some]
  rcases inw_c z (m := 5) (by decide) with e2 | ⟨e2, o, ho, rfl⟩
  · rw [show inw z 5 = 0 from e2, if_pos rfl, e_tapeOf0 e2, bn_some, mt_none]
    exact Eq2_same h rfl rfl
  have ho6 : o < 6 := by omega
  obtain ⟨d1, d2, d3, d4, q, hq, d5, d6⟩ := Rel_t h ho6
  rw [show inw (nI o) 5 = 1 from e2, if_neg n10, e_tapeOf1 h.1 ho6 d1, bn_some, mt_some, tp_go h.1 ht6, tp_go h.1 ho6, nI_ix ht6 (by decide), nI_ix ho6 (by decide), nI_clamp (show t < 2 ^ 31 by omega), nI_clamp (show o < 2 ^ 31 by omega), e_holds h.1 ht6, bn_some, e_holds h.1 ho6]
  simp only [gd_true, bn_some]
  rcases b6 with ⟨b6, rfl⟩ | ⟨s, hs, b6⟩
  · rw [b2, b6, if_pos (show (-1 : Int32) < 0 by decide), if_pos rfl, if_pos rfl]
    exact Eq2_same h rfl rfl
  rw [b2, b6, if_neg (i3_neg (by omega)), if_neg (nI_ne_m1 (by omega)), if_neg n10]
  rcases d6 with ⟨d6, rfl⟩ | ⟨s2, hs2, d6⟩
  · rw [d2, d6, if_neg (show ¬ (0 : Int32) ≤ -1 by decide), if_pos rfl, if_pos rfl]
    exact Eq2_same h rfl rfl
  rw [d2, d6, if_pos (i3_0le (by omega)), if_neg (nI_ne_m1 (by omega)), if_neg n10]
  by_cases hss : nI s = nI s2
  rotate_left
  · rw [if_neg hss, if_neg hss]
    exact Eq2_same h rfl rfl
  rw [if_pos hss, if_pos hss, b5, d5, e_hasRun h.1 ht6 (b3.trans b5) hl, bn_some, e_hasRun h.1 ho6 (d3.trans d5) hq, bn_some]
  have hlI : (nI l).toInt = l := nI_toInt (by omega)
  have hqI : (nI q).toInt = q := nI_toInt (by omega)
  have bn := Int32.toInt_lt n
  by_cases hn : n < 0
  · rw [if_pos hn]
    rw [Int32.lt_iff_toInt_lt] at hn
    rw [if_neg (show ¬ (0 ≤ n.toInt ∧ 0 ≤ i.toInt ∧ n.toInt + i.toInt ≤ l) by omega), if_pos rfl]
    exact Eq2_same h rfl rfl
  rw [if_neg hn]
  rw [Int32.lt_iff_toInt_lt] at hn
  have h4 : (nI l - n).toInt = l - n.toInt := i3_sub hlI rfl (by omega) (by omega)
  have h5 : (nI q - n).toInt = q - n.toInt := i3_sub hqI rfl (by omega) (by omega)
  by_cases hi : i < 0
  · rw [if_pos hi]
    rw [Int32.lt_iff_toInt_lt] at hi
    rw [if_neg (show ¬ (0 ≤ n.toInt ∧ 0 ≤ i.toInt ∧ n.toInt + i.toInt ≤ l) by omega), if_pos rfl]
    exact Eq2_same h rfl rfl
  rw [if_neg hi]
  rw [Int32.lt_iff_toInt_lt] at hi
  by_cases hil : n.toInt + i.toInt ≤ l
  rotate_left
  · rw [if_neg (show ¬ (0 ≤ n.toInt ∧ 0 ≤ i.toInt ∧ n.toInt + i.toInt ≤ l) by omega), if_pos rfl]
    by_cases hj : j < 0
    · rw [if_pos hj]
      exact Eq2_same h rfl rfl
    · rw [if_neg hj, if_pos (show nI l - n < i by rw [Int32.lt_iff_toInt_lt, h4]; omega)]
      exact Eq2_same h rfl rfl
  rw [if_pos (show 0 ≤ n.toInt ∧ 0 ≤ i.toInt ∧ n.toInt + i.toInt ≤ l from ⟨by omega, by omega, hil⟩), if_neg n10]
  by_cases hj : j < 0
  · rw [if_pos hj]
    rw [Int32.lt_iff_toInt_lt] at hj
    rw [if_neg (show ¬ (0 ≤ n.toInt ∧ 0 ≤ j.toInt ∧ n.toInt + j.toInt ≤ q) by omega), if_pos rfl]
    exact Eq2_same h rfl rfl
  rw [if_neg hj, if_neg (show ¬ nI l - n < i by rw [Int32.lt_iff_toInt_lt, h4]; omega)]
  rw [Int32.lt_iff_toInt_lt] at hj
  by_cases hjq : n.toInt + j.toInt ≤ q
  rotate_left
  · rw [if_neg (show ¬ (0 ≤ n.toInt ∧ 0 ≤ j.toInt ∧ n.toInt + j.toInt ≤ q) by omega), if_pos rfl, if_neg (show ¬ j ≤ nI q - n by rw [Int32.le_iff_toInt_le, h5]; omega)]
    exact Eq2_same h rfl rfl
  rw [if_pos (show 0 ≤ n.toInt ∧ 0 ≤ j.toInt ∧ n.toInt + j.toInt ≤ q from ⟨by omega, by omega, hjq⟩), if_neg n10, if_pos (show j ≤ nI q - n by rw [Int32.le_iff_toInt_le, h5]; omega)]
  obtain ⟨n', -, rfl, en⟩ := nI_ex (x := n) (by omega)
  obtain ⟨i', -, rfl, ei⟩ := nI_ex (x := i) (by omega)
  obtain ⟨j', -, rfl, ej⟩ := nI_ex (x := j) (by omega)
  rw [tp_gc h.1 ht6 (by omega), tp_gc h.1 ho6 (by omega), gd_true, gd_true, nI_clamp (show n' < 2 ^ 31 by omega), nI_clamp (show i' < 2 ^ 31 by omega), nI_clamp (show j' < 2 ^ 31 by omega), nm_eq]
  obtain ⟨⟨r, sm'⟩, g1, g2, g3, g4, g5⟩ := h_aside hfu (sm := sm) ht6 ho6 (i := i') (j := j') (n := n') (by omega) (by omega)
  obtain rfl : r = nI n' := g2
  have g3 : ∀ k, mm_I sm' k = mm_I sm k := g3
  have g4 : ∀ k a, mm_G sm' k a = mm_G sm k a := g4
  have g5 : ∀ a, mm_L sm' 61 a = if 60 * o + j' ≤ a ∧ a < 60 * o + j' + n' then mm_L sm 61 (60 * t + i' + (a - (60 * o + j'))) else mm_L sm 61 a := g5
  refine ⟨nI n', sm', _, g1, rfl, Rel_tp h ho6 ⟨g3, fun k j _ => g4 k j, fun k _ => ⟨g4 59 k, g4 60 k⟩, fun a ha => ?_⟩ ⟨fun _ _ _ => rfl, fun _ _ _ => rfl, fun a b c hac => ?_, fun _ _ _ => rfl⟩ ⟨d1, d2.trans (g4 59 o).symm, d3.trans (g4 60 o).symm, fun k hk => ?_, q, hq, (g4 60 o).trans d5, Or.inr ⟨s2, hs2, (g4 59 o).trans d6⟩⟩⟩
  · rw [g5, if_neg (by omega)]
  · rw [cJ_cJ, if_neg (by omega)]
  · rw [cJ_cJ, if_pos ⟨rfl, rfl⟩, g5]
    by_cases hb : j' ≤ k ∧ k < j' + n'
    · rw [if_pos hb, if_pos (by omega), b4 _ (by omega)]
      congr 1
      omega
    · rw [if_neg hb, if_neg (by omega)]
      exact d4 k hk
theorem q_judge {X : cc_X} {T : Nat → Nat} {sm : mm_S} {sc : cc_S} {fu : Nat} (hfu : 700 < fu) (h : Rel X T sm sc) (x i : Int32) : Eq2 X T (M_judge fu x i sm) (C_X11_judge X fu 0 x i sc) := by
  have e0 : (0 : Int32).toInt = 0 := rfl
  obtain ⟨n, hn, h0, h9, hk⟩ := Rel_n h
  obtain ⟨-, i13, -, i15, -⟩ := Rel_I h
  obtain ⟨-, dd, y, -, -, -, -, r2, r3, -⟩ := Rel_R h
  unfold M_judge C_X11_judge
  rw [e_isTape, bn_some, px_go h.1 (by decide), gd_true]
  rcases inw_c x (m := 5) (by decide) with e | ⟨e, t, ht, rfl⟩
  · rw [show inw x 5 = 0 from e, if_pos rfl, e_tapeOf0 e, bn_some, mt_none]
    exact Eq2_same h rfl rfl
  have ht6 : t < 6 := by omega
  obtain ⟨b1, b2, b3, b4, l, hl, b5, b6⟩ := Rel_t h ht6
  rw [show inw (nI t) 5 = 1 from e, if_neg n10, e_tapeOf1 h.1 ht6 b1, bn_some, mt_some, tp_go h.1 ht6, nI_ix ht6 (by decide), nI_clamp (show t < 2 ^ 31 by omega), e_holds h.1 ht6]
  simp only [gd_true, bn_some]
  have e60 : ∀ (a b c : Nat), (60 : Int32) * nI a + nI b + nI c = nI (60 * a + b + c) := fun a b c => by
    rw [show (60 : Int32) = nI 60 from rfl, nI_mul, nI_add, nI_add]
  have loop : ∀ m k n' st, k + m = n → m < n' → mq sm st → ∃ r st', M_judge_b34 fu n' (nI t) i (nI k) st = some (r, st') ∧ mq sm st' ∧ C_X11_judge_b33 X fu n' 0 i (4 + t) (nI k) sc = some (r, sc) := by
    intro m
    induction m with
    | zero =>
      intro k n' st hkm hm hqs
      obtain ⟨f, rfl⟩ : ∃ f, n' = f + 1 := ⟨n' - 1, by omega⟩
      rw [show M_judge_b34 fu (f + 1) (nI t) i (nI k) st = M_judge_b34F fu (fun a b c s => M_judge_b34 fu f a b c s) (nI t) i (nI k) st from rfl, show C_X11_judge_b33 X fu (f + 1) 0 i (4 + t) (nI k) sc = C_X11_judge_b33F X fu (fun a b c d s => C_X11_judge_b33 X fu f a b c d s) 0 i (4 + t) (nI k) sc from rfl]
      unfold M_judge_b34F C_X11_judge_b33F
      rw [hqs.1 0 (by decide), h0, if_pos ((nI_le_iff (by omega) (by omega)).mpr (by omega)), px_go h.1 (by decide), px_go h.1 (by decide), gd_true, gd_true, h9, if_pos ((nI_le_iff (by omega) (by omega)).mpr (by omega))]
      exact ⟨-5, st, rfl, hqs, rfl⟩
    | succ m ih =>
      intro k n' st hkm hm hqs
      obtain ⟨f, rfl⟩ : ∃ f, n' = f + 1 := ⟨n' - 1, by omega⟩
      have hle : ¬ nI n ≤ nI k := fun q => by have := (nI_le_iff (by omega) (by omega)).mp q; omega
      rw [show M_judge_b34 fu (f + 1) (nI t) i (nI k) st = M_judge_b34F fu (fun a b c s => M_judge_b34 fu f a b c s) (nI t) i (nI k) st from rfl, show C_X11_judge_b33 X fu (f + 1) 0 i (4 + t) (nI k) sc = C_X11_judge_b33F X fu (fun a b c d s => C_X11_judge_b33 X fu f a b c d s) 0 i (4 + t) (nI k) sc from rfl]
      unfold M_judge_b34F C_X11_judge_b33F
      rw [hqs.1 0 (by decide), h0, if_neg hle, px_go h.1 (by decide), px_go h.1 (by decide), gd_true, gd_true, h9, if_neg hle, nI_ix ht6 (by decide), nI_clamp (show t < 2 ^ 31 by omega), hqs.2.1 59 _ (by decide), hqs.2.1 60 _ (by decide), b5, tp_go h.1 ht6, b3, b5]
      simp only [gd_true]
      have hlI : (nI l).toInt = l := nI_toInt (by omega)
      have hkI : (nI k).toInt = k := nI_toInt (by omega)
      have h1 : (nI l - nI k).toInt = (l : Int) - k := i3_sub hlI hkI (by omega) (by omega)
      have h2 : (nI l - nI k - 1).toInt = (l : Int) - k - 1 := i3_sub h1 rfl (by omega) (by omega)
      by_cases hi : i < 0
      · rw [if_pos hi, if_pos hi]
        split
        · exact ⟨_, st, rfl, hqs, rfl⟩
        · exact ⟨_, st, rfl, hqs, rfl⟩
      rw [if_neg hi, if_neg hi]
      rw [Int32.lt_iff_toInt_lt] at hi
      rcases b6 with ⟨b6, rfl⟩ | ⟨s, hs, b6⟩
      · rw [b6, if_pos (show (-1 : Int32) < 0 by decide), if_neg (show ¬ i < nI 0 - nI k by rw [Int32.lt_iff_toInt_lt, h1]; omega)]
        exact ⟨_, st, rfl, hqs, rfl⟩
      rw [b6, if_neg (i3_neg (by omega))]
      by_cases hil : i < nI l - nI k
      rotate_left
      · rw [if_neg hil, if_neg (show ¬ i ≤ nI l - nI k - 1 by rw [Int32.le_iff_toInt_le, h2]; rw [Int32.lt_iff_toInt_lt, h1] at hil; omega)]
        exact ⟨_, st, rfl, hqs, rfl⟩
      rw [if_pos hil, if_pos (show i ≤ nI l - nI k - 1 by rw [Int32.le_iff_toInt_le, h2]; rw [Int32.lt_iff_toInt_lt, h1] at hil; omega)]
      rw [Int32.lt_iff_toInt_lt, h1] at hil
      obtain ⟨i', -, rfl, ei⟩ := nI_ex (x := i) (by omega)
      rw [e60, nI_ix (by omega) (by decide), nI_add, tp_ga h.1 ht6 rfl (show i' + k < 60 by omega), gd_true, gd_true, hqs.1 3 (by decide), hqs.1 1 (by decide), i13, i15, r3.2, r2.2, nI_clamp (show 60 * t + i' + k < 2 ^ 31 by omega), nI_clamp (show i' + k < 2 ^ 31 by omega), Rel_w hfu h h0 hn (show k < n by omega) (by omega), bn_some]
      obtain ⟨⟨r, st'⟩, w1, w2, w3⟩ := Rel_W hfu h hqs hn (show k < n by omega) (d := nI dd) (y := y) (by omega)
      obtain rfl : r = _ := w2
      have w3 : mq sm st' := w3
      rw [w1, bn_some, hqs.2.2 61 _ (by decide) (by decide), Nat.add_assoc, ← b4 _ (show i' + k < 60 by omega), nm_eq, nm_eq, nI_1]
      split
      · exact ih (k + 1) f st' (by omega) (by omega) w3
      · exact ⟨_, st', rfl, w3, rfl⟩
  have fin : Eq2 X T (M_judge_b32 fu (nI t) i sm) (C_X11_judge_b30 X fu 0 i (4 + t) sc) := by
    obtain ⟨r, st', e1, hq, e2⟩ := loop n 0 fu sm (by omega) (by omega) mq_rf
    exact ⟨r, st', sc, e1, e2, Rel_q hq h⟩
  rcases b6 with ⟨b6, -⟩ | ⟨s, hs, b6⟩
  · rw [b2, b6, if_pos (show (-1 : Int32) < 0 by decide), if_pos rfl, if_pos rfl]
    exact fin
  · rw [b2, b6, if_neg (i3_neg (by omega)), if_neg (nI_ne_m1 (by omega)), if_neg n10]
    split
    · exact fin
    · exact Eq2_same h rfl rfl
