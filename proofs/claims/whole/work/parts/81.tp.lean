/-! tapes -/
theorem PS_cong {X : cc_X} {sm sm' : mm_S} {sc sc' : cc_S} {A o : Nat} {I I' : Nat → Int32} {G G' : Nat → Nat → Int32} (hm : Ar sm sm') (hc : Hi sc sc') (cI : ∀ k, cc_I sc' o k = cc_I sc o k) (cG : ∀ k j, cc_G sc' o k j = cc_G sc o k j) (cP : ∀ k j, cc_P sc' o k j = cc_P sc o k j)
    (fI : ∀ k, k = 0 ∨ k = 1 ∨ k = 2 ∨ k = 3 ∨ k = 29 ∨ k = 31 ∨ k = 32 ∨ k = 9 → I' k = I k) (fG : ∀ k, k = 4 ∨ k = 5 ∨ k = 6 ∨ k = 7 ∨ k = 30 ∨ k = 33 ∨ k = 34 ∨ k = 35 ∨ k = 36 ∨ k = 37 → G' k = G k) (h : PS X sm sc A o I G) : PS X sm' sc' A o I' G' := by
  obtain ⟨h1, h2, h3, h4, h5⟩ := h
  refine ⟨?_, ?_, ?_, ?_, ?_⟩
  · unfold PI
    simp only [fI 0 (by simp), fI 1 (by simp), fI 2 (by simp), fI 3 (by simp), fI 29 (by simp), fI 31 (by simp), fI 32 (by simp), cI]
    exact h1
  · unfold PG
    simp only [fG 6 (by simp), fG 7 (by simp), fG 30 (by simp), fG 33 (by simp), fG 34 (by simp), fG 35 (by simp), fG 36 (by simp), fG 37 (by simp), cG]
    exact h2
  · exact PN_mv hc (fun k => cP 0 k) (fI 0 (by simp)) (fun k => by rw [fG 4 (by simp)]) (fun k => by rw [fG 5 (by simp)]) h3
  · rw [fI 9 (by simp)]
    exact PA_mv hm hc (cP 16 0) h4
  · unfold PR
    simp only [fI 0 (by simp), fI 1 (by simp), fI 3 (by simp), fI 29 (by simp), fI 31 (by simp), fI 32 (by simp), fG 6 (by simp), fG 7 (by simp), fG 30 (by simp), fG 33 (by simp), fG 34 (by simp), fG 35 (by simp), fG 36 (by simp)]
    exact h5
theorem im_Iv (k : Nat) (hk : k = 0 ∨ k = 1 ∨ k = 2 ∨ k = 3 ∨ k = 29 ∨ k = 31 ∨ k = 32 ∨ k = 9) : 39 ≤ im_I k ∧ im_I k ≤ 46 := by
  rcases hk with rfl | rfl | rfl | rfl | rfl | rfl | rfl | rfl <;> decide
theorem im_Gv (k : Nat) (hk : k = 4 ∨ k = 5 ∨ k = 6 ∨ k = 7 ∨ k = 30 ∨ k = 33 ∨ k = 34 ∨ k = 35 ∨ k = 36 ∨ k = 37) : 47 ≤ im_G k ∧ im_G k ≤ 56 := by
  rcases hk with rfl | rfl | rfl | rfl | rfl | rfl | rfl | rfl | rfl | rfl <;> decide
def Tp (t : Nat) (sm sm' : mm_S) : Prop := (∀ k, mm_I sm' k = mm_I sm k) ∧ (∀ k j, k < 59 → mm_G sm' k j = mm_G sm k j) ∧ (∀ j, j ≠ t → mm_G sm' 59 j = mm_G sm 59 j ∧ mm_G sm' 60 j = mm_G sm 60 j) ∧ ∀ j, ¬ (60 * t ≤ j ∧ j < 60 * t + 60) → mm_L sm' 61 j = mm_L sm 61 j
def Ct (t : Nat) (sc sc' : cc_S) : Prop := (∀ i k, i ≠ 4 + t → cc_I sc' i k = cc_I sc i k) ∧ (∀ i k j, cc_G sc' i k j = cc_G sc i k j) ∧ (∀ i k j, i ≠ 4 + t → cc_J sc' i k j = cc_J sc i k j) ∧ ∀ i k j, cc_P sc' i k j = cc_P sc i k j
theorem Rel_tp {X : cc_X} {T : Nat → Nat} {sm sm' : mm_S} {sc sc' : cc_S} {t : Nat} (h : Rel X T sm sc) (ht : t < 6) (hm : Tp t sm sm') (hc : Ct t sc sc') (hr : Rt1 sm' sc' t) : Rel X T sm' sc' := by
  obtain ⟨hX, A, h1, h2, ⟨m1, m2, m3, m4, m5, m6⟩, h4⟩ := h
  obtain ⟨mI, mG, mG2, mL⟩ := hm
  obtain ⟨cI, cG, cJ, cP⟩ := hc
  have hh : Hi sc sc' := fun y hy => ⟨fun k => cI y k (by omega), fun k j => cG y k j⟩
  have ha : Ar sm sm' := fun k j h1 h2 => mG k j (by omega)
  have eG : ∀ k, k < 59 → mm_G sm' k = mm_G sm k := fun k hk => funext fun j => mG k j hk
  refine ⟨hX, A, PS_cong ha hh (fun k => cI 1 k (by omega)) (fun k j => cG 1 k j) (fun k j => cP 1 k j) (fun k hk => mI k) (fun k hk => eG k (by omega)) h1, ?_, ⟨?_, ?_, ?_, ?_, ?_, ?_⟩, fun q hq => ?_⟩
  · rw [mI 38]
    rcases h2 with h2 | ⟨h2, h2'⟩
    · exact Or.inl h2
    · exact Or.inr ⟨h2, PS_cong ha hh (fun k => cI 2 k (by omega)) (fun k j => cG 2 k j) (fun k j => cP 2 k j) (fun k hk => mI _) (fun k hk => eG _ (by have := im_Gv k hk; omega)) h2'⟩
  · rw [mI 8, cI 0 6 (by omega)]
    exact m1
  · rw [mI 10, eG 13 (by decide), cI 40 3 (by omega), cI 40 1 (by omega)]
    exact m2
  · rw [mI 38, cI 0 7 (by omega)]
    exact m3
  · rw [mI 57, cG]
    exact m4
  · simp only [cG, eG 58 (by decide)]
    exact m5
  · rw [eG 24 (by decide)]
    exact ⟨m6.1, fun d hd => (cJ 3 200 d (by omega)).trans (m6.2 d hd)⟩
  · by_cases hqt : q = t
    · subst hqt
      exact hr
    · have := h4 q hq
      obtain ⟨b1, b2, b3, b4, b5⟩ := this
      refine ⟨(cP 0 3 q).trans b1, ?_, ?_, fun k hk => ?_, ?_⟩
      · rw [cI _ _ (by omega), (mG2 q hqt).1]
        exact b2
      · rw [cI _ _ (by omega), (mG2 q hqt).2]
        exact b3
      · rw [cJ _ _ _ (by omega), mL _ (by omega)]
        exact b4 k hk
      · rw [(mG2 q hqt).1, (mG2 q hqt).2]
        exact b5
theorem e_isTape {fu : Nat} {x : Int32} {st : mm_S} : M_isTape fu x st = some (inw x 5, st) := by
  unfold M_isTape
  rw [e_in, bn_some, inw_zb, gd_true]
theorem e_tapeOf0 {X : cc_X} {fu : Nat} {x : Int32} {sc : cc_S} (h : inw x 5 = 0) : C_X11_tapeOf X fu 0 x sc = some (none, sc) := by
  unfold C_X11_tapeOf
  rw [e_win, bn_some, h, if_pos rfl]
theorem e_tapeOf1 {X : cc_X} {fu t : Nat} {sc : cc_S} (hX : px_X X) (ht : t < 6) (hP : cc_P sc 0 3 t = some (4 + t)) : C_X11_tapeOf X fu 0 (nI t) sc = some (some (4 + t), sc) := by
  have e : inw (nI t) 5 = 1 := by
    unfold inw
    rw [if_neg (i3_neg (by omega)), if_neg (fun e => by have := (nI_lt_iff (a := 5) (by omega) (by omega)).mp e; omega)]
  unfold C_X11_tapeOf
  rw [e_win, bn_some, e, if_neg n10, px_go hX (by decide), gd_true, px_ga hX (c := 13) (i := 0) (k := 3) (t := 4) (a := t) (j := nI t) (by decide) (by decide) rfl rfl (by show t < 6; omega) (by decide), gd_true, nI_clamp (by omega), hP, mt_some]
theorem tp_go {X : cc_X} (hX : px_X X) {t : Nat} (ht : t < 6) : cc_go X (4 + t) [10] = true := px_go hX (by
  have h6 : t = 0 ∨ t = 1 ∨ t = 2 ∨ t = 3 ∨ t = 4 ∨ t = 5 := by omega
  rcases h6 with rfl | rfl | rfl | rfl | rfl | rfl <;> decide)
theorem tp_ga {X : cc_X} (hX : px_X X) {t a : Nat} {j : Int32} (ht : t < 6) (hj : j = nI a) (ha : a < 60) : cc_ga X (4 + t) 0 2 j = true := by
  have h6 : t = 0 ∨ t = 1 ∨ t = 2 ∨ t = 3 ∨ t = 4 ∨ t = 5 := by omega
  exact px_ga hX (c := 10) (i := 4 + t) (k := 0) (t := 2) (a := a) (by rcases h6 with rfl | rfl | rfl | rfl | rfl | rfl <;> decide) (by rcases h6 with rfl | rfl | rfl | rfl | rfl | rfl <;> decide) rfl hj ha (by decide)
theorem tp_gc {X : cc_X} (hX : px_X X) {t a n : Nat} (ht : t < 6) (ha : a + n ≤ 60) : cc_gc X (4 + t) 0 2 (nI a) (nI n) = true := by
  have h6 : t = 0 ∨ t = 1 ∨ t = 2 ∨ t = 3 ∨ t = 4 ∨ t = 5 := by omega
  unfold cc_gc
  rw [px_K hX (i := 4 + t) (c := 10) (by rcases h6 with rfl | rfl | rfl | rfl | rfl | rfl <;> decide), nI_toInt (by omega), nI_toInt (by omega)]
  refine decide_eq_true ⟨hX.2 _ (by rcases h6 with rfl | rfl | rfl | rfl | rfl | rfl <;> decide), rfl, by omega, by omega, ?_⟩
  show (a : Int) + n ≤ ((60 : Nat) : Int)
  omega
theorem e_holds {X : cc_X} {fu t : Nat} {sc : cc_S} (hX : px_X X) (ht : t < 6) : C_X8_holds X fu (4 + t) sc = some (if cc_I sc (4 + t) 1 = -1 then 0 else 1, sc) := by
  unfold C_X8_holds
  rw [tp_go hX ht, gd_true]
  split <;> rfl
theorem e_hasPlace {X : cc_X} {fu t l : Nat} {x : Int32} {sc : cc_S} (hX : px_X X) (ht : t < 6) (hl : cc_I sc (4 + t) 2 = nI l) (hl6 : l ≤ 60) : C_X8_hasPlace X fu (4 + t) x sc = some (inw x (nI l - 1), sc) := by
  have h1 : (nI l - 1).toInt = (l : Int) - 1 := i3_sub (nI_toInt (by omega)) rfl (by omega) (by omega)
  have h2 : (nI l).toInt = l := nI_toInt (by omega)
  unfold C_X8_hasPlace inw
  split
  · rfl
  · rw [tp_go hX ht, gd_true, hl]
    by_cases h3 : nI l ≤ x
    · rw [if_pos h3, if_pos (by rw [Int32.lt_iff_toInt_lt, h1]; rw [Int32.le_iff_toInt_le, h2] at h3; omega)]
    · rw [if_neg h3, if_neg (by rw [Int32.lt_iff_toInt_lt, h1]; rw [Int32.le_iff_toInt_le, h2] at h3; omega)]
theorem inw_l (x : Int32) {l : Nat} (hl : l ≤ 60) : inw x (nI l - 1) = 0 ∨ inw x (nI l - 1) = 1 ∧ ∃ j, j < l ∧ x = nI j := by
  by_cases h0 : l = 0
  · subst h0
    left
    unfold inw
    by_cases h : x < 0
    · rw [if_pos h]
    · rw [if_neg h, if_pos]
      rw [Int32.lt_iff_toInt_lt] at h ⊢
      have e : (0 : Int32).toInt = 0 := rfl
      have e2 : (nI 0 - 1).toInt = -1 := rfl
      omega
  · obtain ⟨k, rfl⟩ : ∃ k, l = k + 1 := ⟨l - 1, by omega⟩
    rw [nI_pred]
    rcases inw_c x (m := k) (by omega) with e | ⟨e, j, hj, e2⟩
    · exact Or.inl e
    · exact Or.inr ⟨e, j, by omega, e2⟩
theorem nI_ne_m1 {n : Nat} (h : n < 2 ^ 31) : nI n ≠ -1 := fun e => by
  have h1 := nI_toInt h
  rw [e] at h1
  have e2 : (-1 : Int32).toInt = -1 := rfl
  omega
theorem q_read {X : cc_X} {T : Nat → Nat} {sm : mm_S} {sc : cc_S} {fu : Nat} (h : Rel X T sm sc) (x i : Int32) : Eq2 X T (M_read fu x i sm) (C_X11_read X fu 0 x i sc) := by
  unfold M_read C_X11_read
  rw [e_isTape, bn_some, px_go h.1 (by decide), gd_true]
  rcases inw_c x (m := 5) (by decide) with e | ⟨e, t, ht, rfl⟩
  · rw [show inw x 5 = 0 from e, if_pos rfl, e_tapeOf0 e, bn_some, mt_none]
    exact Eq2_same h rfl rfl
  obtain ⟨b1, b2, b3, b4, l, hl, b5, b6⟩ := Rel_t h (t := t) (by omega)
  rw [show inw (nI t) 5 = 1 from e, if_neg n10, e_tapeOf1 h.1 (by omega) b1, bn_some, mt_some, nI_ix (by omega) (by decide), nI_clamp (show t < 2 ^ 31 by omega), tp_go h.1 (by omega), gd_true, gd_true, gd_true, e_hasPlace h.1 (by omega) (b3.trans b5) hl, bn_some, e_in, bn_some, b5]
  rcases b6 with ⟨b6, rfl⟩ | ⟨s, hs, b6⟩
  · rw [b6, if_pos (by decide)]
    rcases inw_l i (l := 0) (by omega) with e2 | ⟨e2, j, hj, rfl⟩
    · rw [e2, if_pos rfl]
      exact Eq2_same h rfl rfl
    · exact absurd hj (Nat.not_lt_zero j)
  · rw [b6, if_neg (i3_neg (by omega))]
    rcases inw_l i hl with e2 | ⟨e2, j, hj, rfl⟩
    · rw [e2, if_pos rfl, if_pos rfl]
      exact Eq2_same h rfl rfl
    · have e1 : (60 : Int32) * nI t + nI j = nI (60 * t + j) := by
        rw [show (60 : Int32) = nI 60 from rfl, nI_mul, nI_add]
      rw [e2, if_neg n10, if_neg n10, e1, nI_ix (by omega) (by decide), nI_clamp (show 60 * t + j < 2 ^ 31 by omega), nI_clamp (show j < 2 ^ 31 by omega), tp_ga h.1 (by omega) rfl (show j < 60 by omega), gd_true, gd_true, b4 j (by omega)]
      exact Eq2_same h rfl rfl
def narv (s : Int32) (z : Int64) : Int64 := if s = 0 then ((z.toInt32.toInt8).toInt32).toInt64 else if s = 1 then ((z.toInt32.toInt16).toInt32).toInt64 else if s = 2 then (z.toInt32).toInt64 else if s = 4 then (if lg_cmp z 0 = 0 then 0 else 1) else z
theorem e_narrow {fu : Nat} {s : Int32} {z : Int64} {st : mm_S} : M_narrow fu s z st = some (narv s z, st) := by
  unfold M_narrow narv
  repeat' split
  all_goals first | rfl | contradiction
theorem e_narrowed {X : cc_X} {fu t s : Nat} {z : Int64} {sc : cc_S} (hX : px_X X) (ht : t < 6) (hs : cc_I sc (4 + t) 1 = nI s) (hs4 : s ≤ 4) : C_X8_narrowed X fu (4 + t) z sc = some (narv (nI s) z, sc) := by
  unfold C_X8_narrowed narv
  rw [tp_go hX ht, gd_true, nm_eq, hs]
  have h5 : s = 0 ∨ s = 1 ∨ s = 2 ∨ s = 3 ∨ s = 4 := by omega
  rcases h5 with rfl | rfl | rfl | rfl | rfl
  · rfl
  · rfl
  · rfl
  · rfl
  · show (if lg_cmp z 0 = 0 then _ else _) = some ((if lg_cmp z 0 = 0 then _ else _), _)
    split <;> rfl
theorem q_item {X : cc_X} {T : Nat → Nat} {sm : mm_S} {sc : cc_S} {fu : Nat} (h : Rel X T sm sc) (x i : Int32) (z : Int64) : Eq2 X T (M_item fu x i z sm) (C_X11_item X fu 0 x i z sc) := by
  unfold M_item C_X11_item
  rw [e_isTape, bn_some, px_go h.1 (by decide), gd_true]
  rcases inw_c x (m := 5) (by decide) with e | ⟨e, t, ht, rfl⟩
  · rw [show inw x 5 = 0 from e, if_pos rfl, e_tapeOf0 e, bn_some, mt_none]
    exact Eq2_same h rfl rfl
  obtain ⟨b1, b2, b3, b4, l, hl, b5, b6⟩ := Rel_t h (t := t) (by omega)
  rw [show inw (nI t) 5 = 1 from e, if_neg n10, e_tapeOf1 h.1 (by omega) b1, bn_some, mt_some, nI_ix (by omega) (by decide), nI_clamp (show t < 2 ^ 31 by omega), tp_go h.1 (by omega), gd_true, gd_true, e_holds h.1 (by omega), bn_some, b2]
  rcases b6 with ⟨b6, rfl⟩ | ⟨s, hs, b6⟩
  · rw [b6, if_neg (show ¬ (0 : Int32) ≤ -1 by decide), if_pos rfl, if_pos rfl]
    exact Eq2_same h rfl rfl
  · rw [b6, if_pos (i3_0le (by omega)), if_neg (nI_ne_m1 (by omega)), if_neg n10, gd_true, e_in, bn_some, e_hasPlace h.1 (by omega) (b3.trans b5) hl, bn_some, b5]
    rcases inw_l i hl with e2 | ⟨e2, j, hj, rfl⟩
    · rw [e2, if_pos rfl, if_pos rfl]
      exact Eq2_same h rfl rfl
    · have e1 : (60 : Int32) * nI t + nI j = nI (60 * t + j) := by
        rw [show (60 : Int32) = nI 60 from rfl, nI_mul, nI_add]
      rw [e2, if_neg n10, if_neg n10, gd_true, b6, e_narrow, bn_some, e_narrowed h.1 (by omega) (b2.trans b6) hs, bn_some, e1, nI_ix (by omega) (by decide), nI_clamp (show 60 * t + j < 2 ^ 31 by omega), nI_clamp (show j < 2 ^ 31 by omega), tp_ga h.1 (by omega) rfl (show j < 60 by omega), gd_true, gd_true, nm_eq, nm_eq]
      refine ⟨_, _, _, rfl, rfl, Rel_tp h (t := t) (by omega) ⟨fun _ => rfl, fun _ _ _ => rfl, fun _ _ => ⟨rfl, rfl⟩, fun q hq => ?_⟩ ⟨fun _ _ _ => rfl, fun _ _ _ => rfl, fun a b q hq => ?_, fun _ _ _ => rfl⟩ ⟨b1, b2, b3, fun k hk => ?_, l, hl, b5, Or.inr ⟨s, hs, b6⟩⟩⟩
      · rw [mL_sL, if_pos rfl, if_neg (by omega)]
      · rw [cJ_sJ, if_neg (by omega)]
      · rw [cJ_sJ, if_pos ⟨rfl, rfl⟩, mL_sL, if_pos rfl]
        by_cases hkj : k = j
        · rw [if_pos hkj, if_pos (by omega)]
        · rw [if_neg hkj, if_neg (by omega)]
          exact b4 k hk
theorem h_become {X : cc_X} {fu t : Nat} (hfu : 700 < fu) {s n : Int32} {sc : cc_S} (hX : px_X X) (ht : t < 6) : fc_ok (C_X8_become X fu (4 + t) s n sc) (fun st => cc_I st (4 + t) 1 = s ∧ cc_I st (4 + t) 2 = n ∧ (∀ k, k < 60 → cc_J st (4 + t) 0 k = 0) ∧ Ct t sc st) := by
  unfold C_X8_become
  rw [tp_go hX ht, gd_true, nm_eq, nm_eq]
  unfold C_X8_become_b12
  refine ok_lp (fun z => ∃ c st, c ≤ 60 ∧ z = (4 + t, nI c, st) ∧ cc_I st (4 + t) 1 = s ∧ cc_I st (4 + t) 2 = n ∧ (∀ k, k < c → cc_J st (4 + t) 0 k = 0) ∧ Ct t sc st) (fun z => 60 - z.2.1.toNatClampNeg) _ ?_ fu _ ⟨0, _, by omega, rfl, ?_, ?_, fun k hk => absurd hk (Nat.not_lt_zero k), ?_⟩ (by show 60 - _ < fu; omega)
  · rintro z K ⟨c, st, hc, rfl, e1, e2, e3, e4⟩ hK
    show fc_ok (C_X8_become_b12F X fu (fun x0 x3 st => K (x0, x3, st)) _ _ _) _
    unfold C_X8_become_b12F
    refine ok_if.mpr ⟨fun hle => ?_, fun hle => ?_⟩
    · have hle := (nI_le_iff (a := 60) (by omega) (by omega)).mp hle
      exact ok_some.mpr ⟨e1, e2, fun k hk => e3 k (by omega), e4⟩
    · have hlt : c < 60 := Nat.not_le.mp (fun q => hle ((nI_le_iff (a := 60) (by omega) (by omega)).mpr q))
      refine ok_gd.mpr ⟨tp_go hX ht, ok_gd.mpr ⟨tp_ga hX ht rfl hlt, ?_⟩⟩
      rw [nm_eq, nm_eq, nI_1, nI_clamp (by omega)]
      refine hK _ ⟨c + 1, _, by omega, rfl, e1, e2, fun k hk => ?_, e4.1, e4.2.1, fun a b q hq => ?_, e4.2.2.2⟩ ?_
      · rw [cJ_sJ, if_pos ⟨rfl, rfl⟩]
        split
        · rfl
        · exact e3 k (by omega)
      · rw [cJ_sJ, if_neg (by omega)]
        exact e4.2.2.1 a b q hq
      · show 60 - (nI (c + 1)).toNatClampNeg < 60 - (nI c).toNatClampNeg
        rw [nI_clamp (by omega), nI_clamp (by omega)]
        omega
  · show cc_I (cc_sI (cc_sI sc (4 + t) 1 s) (4 + t) 2 n) (4 + t) 1 = s
    rw [cI_sI, if_neg (by omega), cI_sI, if_pos ⟨rfl, rfl⟩]
  · show cc_I (cc_sI (cc_sI sc (4 + t) 1 s) (4 + t) 2 n) (4 + t) 2 = n
    rw [cI_sI, if_pos ⟨rfl, rfl⟩]
  · exact ⟨fun a b hab => by rw [cI_sI, if_neg (by omega), cI_sI, if_neg (by omega)], fun _ _ _ => rfl, fun _ _ _ _ => rfl, fun _ _ _ => rfl⟩
theorem h_tapeM {fu t : Nat} (hfu : 700 < fu) {s n : Int32} {sm : mm_S} (ht : t < 6) : fc_ok (M_tape_b65 fu (nI t) n (nI t) (mm_sG sm 59 t s)) (fun q => q.1 = 1 ∧ mm_G q.2 59 t = s ∧ mm_G q.2 60 t = n ∧ (∀ k, k < 60 → mm_L q.2 61 (60 * t + k) = 0) ∧ Tp t sm q.2) := by
  unfold M_tape_b65
  rw [nI_ix ht (by decide), gd_true, nm_eq, nI_clamp (by omega)]
  unfold M_tape_b69
  refine ok_lp (fun z => ∃ c st, c ≤ 60 ∧ z = (nI t, nI c, st) ∧ mm_G st 59 t = s ∧ mm_G st 60 t = n ∧ (∀ k, k < c → mm_L st 61 (60 * t + k) = 0) ∧ Tp t sm st) (fun z => 60 - z.2.1.toNatClampNeg) _ ?_ fu _ ⟨0, _, by omega, rfl, ?_, ?_, fun k hk => absurd hk (Nat.not_lt_zero k), ?_⟩ (by show 60 - _ < fu; omega)
  · rintro z K ⟨c, st, hc, rfl, e1, e2, e3, e4⟩ hK
    show fc_ok (M_tape_b69F fu (fun x1 x4 st => K (x1, x4, st)) _ _ _) _
    unfold M_tape_b69F
    refine ok_if.mpr ⟨fun hle => ?_, fun hle => ?_⟩
    · have hle := (nI_le_iff (a := 60) (by omega) (by omega)).mp hle
      exact ok_some.mpr ⟨rfl, e1, e2, fun k hk => e3 k (by omega), e4⟩
    · have hlt : c < 60 := Nat.not_le.mp (fun q => hle ((nI_le_iff (a := 60) (by omega) (by omega)).mpr q))
      have e60 : (60 : Int32) * nI t + nI c = nI (60 * t + c) := by
        rw [show (60 : Int32) = nI 60 from rfl, nI_mul, nI_add]
      rw [e60]
      refine ok_gd.mpr ⟨nI_ix (by omega) (by decide), ?_⟩
      rw [nm_eq, nm_eq, nI_1, nI_clamp (by omega)]
      refine hK _ ⟨c + 1, _, by omega, rfl, e1, e2, fun k hk => ?_, e4.1, e4.2.1, e4.2.2.1, fun q hq => ?_⟩ ?_
      · rw [mL_sL, if_pos rfl]
        split
        · rfl
        · exact e3 k (by omega)
      · rw [mL_sL, if_pos rfl, if_neg (by omega)]
        exact e4.2.2.2 q hq
      · show 60 - (nI (c + 1)).toNatClampNeg < 60 - (nI c).toNatClampNeg
        rw [nI_clamp (by omega), nI_clamp (by omega)]
        omega
  · show mm_G (mm_sG (mm_sG sm 59 t s) 60 t n) 59 t = s
    rw [mG_sG, if_neg (by decide), mG_sG, if_pos rfl, if_pos rfl]
  · show mm_G (mm_sG (mm_sG sm 59 t s) 60 t n) 60 t = n
    rw [mG_sG, if_pos rfl, if_pos rfl]
  · refine ⟨fun _ => rfl, fun k j hk => by rw [mG_sG, if_neg (by omega), mG_sG, if_neg (by omega)], fun j hj => ⟨?_, ?_⟩, fun _ _ => rfl⟩
    · rw [mG_sG, if_neg (by decide), mG_sG, if_pos rfl, if_neg hj]
    · rw [mG_sG, if_pos rfl, if_neg hj, mG_sG, if_neg (by decide)]
theorem q_tape {X : cc_X} {T : Nat → Nat} {sm : mm_S} {sc : cc_S} {fu : Nat} (hfu : 700 < fu) (h : Rel X T sm sc) (x s n : Int32) : Eq2 X T (M_tape fu x s n sm) (C_X11_tape X fu 0 x s n sc) := by
  unfold M_tape C_X11_tape
  rw [e_isTape, bn_some, px_go h.1 (by decide), gd_true]
  rcases inw_c x (m := 5) (by decide) with e | ⟨e, t, ht, rfl⟩
  · rw [show inw x 5 = 0 from e, if_pos rfl, e_tapeOf0 e, bn_some, mt_none]
    exact Eq2_same h rfl rfl
  have ht6 : t < 6 := by omega
  obtain ⟨b1, -⟩ := Rel_t h ht6
  rw [show inw (nI t) 5 = 1 from e, if_neg n10, e_tapeOf1 h.1 ht6 b1, bn_some, mt_some, tp_go h.1 ht6]
  simp only [gd_true]
  have fin : ∀ (s n : Int32), (∃ l, l ≤ 60 ∧ n = nI l ∧ (s = -1 ∧ l = 0 ∨ ∃ q, q ≤ 4 ∧ s = nI q)) → Eq2 X T (M_tape_b65 fu (nI t) n (nI t) (mm_sG sm 59 t s)) (fc_bv (C_X8_become X fu (4 + t) s n sc) fun st => some ((1 : Int32), st)) := by
    rintro s n ⟨l, hl, rfl, hs⟩
    obtain ⟨⟨r, sm'⟩, e1, e2, m1, m2, m3, m4⟩ := h_tapeM hfu (s := s) (n := nI l) (sm := sm) ht6
    obtain ⟨sc', f1, f2, f3, f4, f5⟩ := h_become hfu (s := s) (n := nI l) (sc := sc) h.1 ht6
    obtain rfl : r = 1 := e2
    refine ⟨1, sm', sc', e1, by rw [f1]; rfl, Rel_tp h ht6 m4 f5 ⟨(f5.2.2.2 0 3 t).trans b1, f2.trans m1.symm, f3.trans m2.symm, fun k hk => (f4 k hk).trans (m3 k hk).symm, l, hl, m2, ?_⟩⟩
    have m1 : mm_G sm' 59 t = s := m1
    rw [m1]
    exact hs
  by_cases h1 : s = -1
  · subst h1
    have e0 : M_in fu (-1 : Int32) (-1) 4 sm = some (1, sm) := rfl
    rw [e0, bn_some, if_neg n10, if_pos (show (-1 : Int32) < 0 by decide), if_pos rfl]
    unfold M_tape_b33 M_tape_b44
    rw [if_pos (show (-1 : Int32) < 0 by decide), nI_ix ht6 (by decide), gd_true, nm_eq, nI_clamp (by omega), if_neg (show ¬ (0 : Int32) ≤ -1 by decide)]
    exact fin (-1) 0 ⟨0, by omega, rfl, Or.inl ⟨rfl, rfl⟩⟩
  rw [if_neg h1, e_win, bn_some]
  have em : (-1 : Int32).toInt = -1 := rfl
  rcases inw_c s (m := 4) (by decide) with e | ⟨e, q, hq, rfl⟩
  · have e0 : M_in fu s (-1) 4 sm = some (0, sm) := by
      have e' : inw s (nI 4) = 0 := e
      unfold M_in
      unfold inw at e'
      by_cases hs : s < 0
      · rw [if_pos]
        rw [Int32.lt_iff_toInt_lt] at hs ⊢
        have h2 : s.toInt ≠ -1 := fun q => h1 (Int32.toInt_inj.mp q)
        have e3 : (0 : Int32).toInt = 0 := rfl
        omega
      · rw [if_neg hs] at e'
        split
        · rfl
        · by_cases h3 : nI 4 < s
          · rw [if_pos (show (4 : Int32) < s from h3)]
          · rw [if_neg h3] at e'
            exact absurd e' n10
    rw [e0, bn_some, if_pos rfl, show inw s 4 = 0 from e, if_pos rfl]
    exact Eq2_same h rfl rfl
  · have e0 : M_in fu (nI q) (-1) 4 sm = some (1, sm) := by
      unfold M_in
      rw [if_neg, if_neg]
      · exact fun e => by have := (nI_lt_iff (a := 4) (by omega) (by omega)).mp e; omega
      · rw [Int32.lt_iff_toInt_lt, nI_toInt (by omega)]
        omega
    rw [e0, bn_some, if_neg n10, if_neg (i3_neg (by omega)), show inw (nI q) 4 = 1 from e, if_neg n10]
    by_cases hn : n ≤ 60
    · rw [if_pos hn, if_pos hn]
      unfold M_tape_b33
      rw [if_neg (i3_neg (by omega))]
      by_cases hn0 : 0 ≤ n
      · rw [if_pos hn0, if_pos hn0]
        unfold M_tape_b44
        rw [nI_ix ht6 (by decide), gd_true, nm_eq, nI_clamp (show t < 2 ^ 31 by omega), if_pos (i3_0le (by omega))]
        obtain ⟨l, hl, rfl, -⟩ := nI_ex (x := n) (by rw [Int32.le_iff_toInt_le] at hn0; exact hn0)
        exact fin _ _ ⟨l, by have := (nI_le_iff (b := 60) hl (by omega)).mp hn; omega, rfl, Or.inr ⟨q, hq, rfl⟩⟩
      · rw [if_neg hn0, if_neg hn0]
        exact Eq2_same h rfl rfl
    · rw [if_neg hn, if_neg hn]
      exact Eq2_same h rfl rfl
