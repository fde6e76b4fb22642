/-! acts -/
def Bd (sm0 : mm_S) (sc0 : cc_S) (r : Nat) (sm : mm_S) (sc : cc_S) : Prop := (mm_I sm 57 = nI r ∧ cc_G sc 0 5 0 = nI r ∧ ∀ k, k < 20 → cc_G sc 0 5 (k + 1) = mm_G sm 58 k) ∧ ((∀ k, k ≠ 57 → mm_I sm k = mm_I sm0 k) ∧ (∀ k j, k ≠ 58 → mm_G sm k j = mm_G sm0 k j) ∧ ∀ k j, mm_L sm k j = mm_L sm0 k j) ∧ (∀ i k, cc_I sc i k = cc_I sc0 i k) ∧ (∀ i k j, ¬ (i = 0 ∧ k = 5) → cc_G sc i k j = cc_G sc0 i k j) ∧ (∀ i k j, cc_J sc i k j = cc_J sc0 i k j) ∧ ∀ i k j, cc_P sc i k j = cc_P sc0 i k j
def Nf (X : cc_X) (sm0 : mm_S) (sc0 : cc_S) (i y κ : Nat) : Prop := px_X X ∧ i < 6 ∧ y ∈ cx_o X ∧ cx_K X y = kcl κ ∧ κ ≤ 6 ∧ mm_G sm0 4 i = nI κ ∧ cc_I sc0 y 1 = nI i ∧ cc_I sc0 y 2 = mm_G sm0 5 i
def Ac (sm0 : mm_S) (sc0 : cc_S) (n : Nat) (x : Option (Int32 × mm_S)) (y : Option (Int32 × cc_S)) : Prop := ∃ v sm' sc' r', x = some (v, sm') ∧ y = some (v, sc') ∧ r' ≤ n ∧ Bd sm0 sc0 r' sm' sc'
theorem h_body {X : cc_X} {fu r y κ i : Nat} {sm0 sm : mm_S} {sc0 sc : cc_S} (hN : Nf X sm0 sc0 i y κ) (b : Int32) (hB : Bd sm0 sc0 r sm sc) (hr : r ≤ 900) : ∃ sm' sc', M_body fu b sm = some sm' ∧ C_X4_began X fu y b sc = some sc' ∧ Bd sm0 sc0 (r + 1) sm' sc' := by
  obtain ⟨hX, hi, ho, hK, hκ, -⟩ := hN
  obtain ⟨⟨h57, c50, c5⟩, ⟨mI, mG, mL⟩, cI, cG, cJ, cP⟩ := hB
  have gg : ∀ a, a < 21 → cc_ga X 0 5 1 (nI a) = true := fun a ha => px_ga hX (c := 13) (i := 0) (k := 5) (t := 1) (a := a) (j := nI a) (by decide) (by decide) rfl rfl (by show a < 21; omega) (by decide)
  have g0 : cc_ga X 0 5 1 0 = true := gg 0 (by decide)
  have hal : cc_al (cx_K X 0) 5 = 21 := by
    rw [px_K hX (i := 0) (c := 13) (by decide)]
    rfl
  unfold M_body C_X4_began M_body_b19
  rw [cgo ho hK (kcl_mem κ), g0, h57, hal, show (0 : Int32).toNatClampNeg = 0 from rfl, c50, nI_1, show Int32.ofNat 21 = nI 21 from rfl]
  simp only [gd_true, nm_eq]
  rw [if_neg (show ¬ nI (r + 1) ≤ 0 from nI_nle (by omega) (by omega))]
  by_cases h20 : r < 20
  · rw [if_neg (show ¬ (20 : Int32) ≤ nI r from fun e => by have := (nI_le_iff (a := 20) (by omega) (by omega)).mp e; omega), if_neg (show ¬ nI 21 ≤ nI (r + 1) from fun e => by have := (nI_le_iff (by omega) (by omega)).mp e; omega), gg (r + 1) (by omega), nI_ix h20 (by decide), nI_clamp (show r < 2 ^ 31 by omega), nI_clamp (show r + 1 < 2 ^ 31 by omega)]
    refine ⟨_, _, rfl, rfl, ⟨?_, ?_, fun k hk => ?_⟩, ⟨fun k hk => ?_, fun k j hk => ?_, fun k j => mL k j⟩, fun i k => cI i k, fun i k j hik => ?_, fun i k j => cJ i k j, fun i k j => cP i k j⟩
    · show mm_I sm 57 + 1 = _
      rw [h57, nI_1]
    · rw [cG_sG, if_pos ⟨rfl, rfl⟩, if_neg (by omega), cG_sG, if_pos ⟨rfl, rfl⟩, if_pos rfl]
    · rw [cG_sG, if_pos ⟨rfl, rfl⟩, mG_sI, mG_sG, if_pos rfl]
      by_cases hkr : k = r
      · rw [if_pos (by omega), if_pos hkr]
      · rw [if_neg (by omega), if_neg hkr, cG_sG, if_pos ⟨rfl, rfl⟩, if_neg (by omega)]
        exact c5 k hk
    · rw [mI_sI, if_neg hk]
      exact mI k hk
    · rw [mG_sI, mG_sG, if_neg hk]
      exact mG k j hk
    · rw [cG_sG, if_neg hik, cG_sG, if_neg hik]
      exact cG i k j hik
  · rw [if_pos (show (20 : Int32) ≤ nI r from (nI_le_iff (a := 20) (by omega) (by omega)).mpr (by omega)), if_pos (show nI 21 ≤ nI (r + 1) from (nI_le_iff (by omega) (by omega)).mpr (by omega))]
    refine ⟨_, _, rfl, rfl, ⟨?_, ?_, fun k hk => ?_⟩, ⟨fun k hk => ?_, fun k j hk => mG k j hk, fun k j => mL k j⟩, fun i k => cI i k, fun i k j hik => ?_, fun i k j => cJ i k j, fun i k j => cP i k j⟩
    · rfl
    · rw [cG_sG, if_pos ⟨rfl, rfl⟩, if_pos rfl]
    · rw [cG_sG, if_pos ⟨rfl, rfl⟩, if_neg (by omega)]
      exact c5 k hk
    · rw [mI_sI, if_neg hk]
      exact mI k hk
    · rw [cG_sG, if_neg hik]
      exact cG i k j hik
section ACT
variable {X : cc_X} {fu r y κ i : Nat} {sm0 sm : mm_S} {sc0 sc : cc_S}
theorem Nf_go (hN : Nf X sm0 sc0 i y κ) {cs : List Nat} (h : kcl κ ∈ cs) : cc_go X y cs = true := cgo hN.2.2.1 hN.2.2.2.1 h
theorem a_needDarkens (hN : Nf X sm0 sc0 i y κ) (x : Int32) (hB : Bd sm0 sc0 r sm sc) (hr : r ≤ 900) : Ac sm0 sc0 (r + 1) (M_needDarkens fu (nI i) x sm) (C_X4_darkens X fu y x sc) := by
  unfold M_needDarkens C_X4_darkens
  obtain ⟨sm', sc', e1, e2, hB'⟩ := h_body (fu := fu) hN 10 hB hr
  rw [Nf_go hN (kcl_mem κ), gd_true, e1, e2, bv_some, bv_some, hB'.2.2.1, hN.2.2.2.2.2.2.1]
  exact ⟨_, _, _, _, rfl, rfl, Nat.le_refl _, hB'⟩
theorem a_darkens (hN : Nf X sm0 sc0 i y κ) (x : Int32) (hB : Bd sm0 sc0 r sm sc) (hr : r ≤ 800) : Ac sm0 sc0 (r + 2) (M_darkensAct fu (nI i) x sm) (D_darkens_3_4_5_6_7_8_11 X fu y x sc) := by
  have hN2 := hN
  obtain ⟨hX, hi, ho, hK, hκ, h4, h1, h2⟩ := hN2
  have e4 : mm_G sm 4 i = nI κ := (hB.2.1.2.1 4 i (by decide)).trans h4
  unfold M_darkensAct D_darkens_3_4_5_6_7_8_11
  rw [nI_ix hi (by decide), gd_true, nm_eq, nI_clamp (show i < 2 ^ 31 by omega), e4, hK]
  have plain : Ac sm0 sc0 (r + 2) (M_darkensAct_b89 fu (nI i) x sm) (C_X4_darkens X fu y x sc) := by
    unfold M_darkensAct_b89
    rw [bn_id]
    obtain ⟨v, sm', sc', r', e1, e2, hr', hB'⟩ := a_needDarkens (fu := fu) hN x hB (by omega)
    exact ⟨v, sm', sc', r', e1, e2, by omega, hB'⟩
  have crown : κ = 2 ∨ κ = 5 → Ac sm0 sc0 (r + 2) (M_darkensAct_b40 fu (nI i) x sm) (C_X3_darkens X fu y x sc) := by
    intro hk
    unfold M_darkensAct_b40 C_X3_darkens
    obtain ⟨sm1, sc1, e1, e2, hB1⟩ := h_body (fu := fu) hN 30 hB (by omega)
    obtain ⟨v, sm', sc', r', f1, f2, hr', hB'⟩ := a_needDarkens (fu := fu) hN (x * 3) hB1 (by omega)
    rw [Nf_go hN (by rcases hk with rfl | rfl <;> decide), gd_true, e1, e2, bv_some, bv_some, f1, f2, bn_some, bn_some]
    exact ⟨v, sm', sc', r', rfl, rfl, by omega, hB'⟩
  match κ, hκ with
  | 0, _ => exact plain
  | 1, _ => exact plain
  | 2, _ => exact crown (Or.inl rfl)
  | 3, _ => exact plain
  | 4, _ =>
    show Ac sm0 sc0 (r + 2) (fc_bv (M_body fu 50 sm) _) (C_X2_darkens X fu y x sc)
    unfold C_X2_darkens
    obtain ⟨sm1, sc1, e1, e2, hB1⟩ := h_body (fu := fu) hN 50 hB (by omega)
    obtain ⟨v, sm', sc', r', f1, f2, hr', hB'⟩ := a_needDarkens (fu := fu) hN x hB1 (by omega)
    rw [Nf_go hN (by decide), gd_true, e1, e2, bv_some, bv_some, f1, f2, bn_some, bn_some]
    exact ⟨-v, sm', sc', r', rfl, rfl, by omega, hB'⟩
  | 5, _ => exact crown (Or.inr rfl)
  | 6, _ =>
    show Ac sm0 sc0 (r + 2) (fc_bv (M_body fu 71 sm) _) (C_X9_darkens X fu y x sc)
    unfold C_X9_darkens
    obtain ⟨sm1, sc1, e1, e2, hB1⟩ := h_body (fu := fu) hN 71 hB (by omega)
    obtain ⟨v, sm', sc', r', f1, f2, hr', hB'⟩ := a_needDarkens (fu := fu) hN x hB1 (by omega)
    rw [Nf_go hN (by decide), gd_true, e1, e2, bv_some, bv_some, f1, f2, bn_some, bn_some, gd_true, hB'.2.1.2.1 5 i (by decide), hB'.2.2.1, h2]
    exact ⟨_, sm', sc', r', rfl, rfl, by omega, hB'⟩
theorem a_needPleads (hN : Nf X sm0 sc0 i y κ) (x : Int32) (hB : Bd sm0 sc0 r sm sc) (hr : r ≤ 700) : Ac sm0 sc0 (r + 3) (M_needPleads fu (nI i) x sm) (C_X4_pleads X fu y x sc) := by
  unfold M_needPleads C_X4_pleads
  obtain ⟨sm1, sc1, e1, e2, hB1⟩ := h_body (fu := fu) hN 11 hB (by omega)
  obtain ⟨v, sm', sc', r', f1, f2, hr', hB'⟩ := a_darkens (fu := fu) hN x hB1 (by omega)
  rw [Nf_go hN (kcl_mem κ), gd_true, e1, e2, bv_some, bv_some, f1, f2, bn_some, bn_some, nI_ix hN.2.1 (by decide), gd_true, nI_clamp (by have := hN.2.1; omega), hB'.2.1.2.1 5 i (by decide), hB'.2.2.1, hN.2.2.2.2.2.2.2]
  exact ⟨_, sm', sc', r', rfl, rfl, by omega, hB'⟩
theorem a_siegePleads (hN : Nf X sm0 sc0 i y κ) (hk : κ = 1 ∨ κ = 4) (x : Int32) (hB : Bd sm0 sc0 r sm sc) (hr : r ≤ 600) : Ac sm0 sc0 (r + 4) (M_siegePleads fu (nI i) x sm) (C_X6_pleads X fu y x sc) := by
  unfold M_siegePleads C_X6_pleads
  obtain ⟨sm1, sc1, e1, e2, hB1⟩ := h_body (fu := fu) hN 20 hB (by omega)
  obtain ⟨v, sm', sc', r', f1, f2, hr', hB'⟩ := a_needPleads (fu := fu) hN x hB1 (by omega)
  rw [Nf_go hN (by rcases hk with rfl | rfl <;> decide), gd_true, e1, e2, bv_some, bv_some, f1, f2, bn_some, bn_some]
  exact ⟨_, sm', sc', r', rfl, rfl, by omega, hB'⟩
theorem a_pleads (hN : Nf X sm0 sc0 i y κ) (x : Int32) (hB : Bd sm0 sc0 r sm sc) (hr : r ≤ 500) : Ac sm0 sc0 (r + 5) (M_pleadsAct fu (nI i) x sm) (D_pleads_3_4_5_6_7_8_11 X fu y x sc) := by
  have hN2 := hN
  obtain ⟨hX, hi, ho, hK, hκ, h4, h1, h2⟩ := hN2
  have e4 : mm_G sm 4 i = nI κ := (hB.2.1.2.1 4 i (by decide)).trans h4
  unfold M_pleadsAct D_pleads_3_4_5_6_7_8_11
  rw [nI_ix hi (by decide), gd_true, nm_eq, nI_clamp (show i < 2 ^ 31 by omega), e4, hK, bn_id, bn_id]
  have plain : Ac sm0 sc0 (r + 5) (M_needPleads fu (nI i) x sm) (C_X4_pleads X fu y x sc) := by
    obtain ⟨v, sm', sc', r', e1, e2, hr', hB'⟩ := a_needPleads (fu := fu) hN x hB (by omega)
    exact ⟨v, sm', sc', r', e1, e2, by omega, hB'⟩
  match κ, hκ with
  | 0, _ => exact plain
  | 1, _ =>
    obtain ⟨v, sm', sc', r', e1, e2, hr', hB'⟩ := a_siegePleads (fu := fu) hN (Or.inl rfl) x hB (by omega)
    exact ⟨v, sm', sc', r', e1, e2, by omega, hB'⟩
  | 2, _ => exact plain
  | 3, _ => exact plain
  | 4, _ =>
    show Ac sm0 sc0 (r + 5) (fc_bv (M_body fu 51 sm) _) (C_X2_pleads X fu y x sc)
    unfold C_X2_pleads
    obtain ⟨sm1, sc1, e1, e2, hB1⟩ := h_body (fu := fu) hN 51 hB (by omega)
    obtain ⟨v, sm', sc', r', f1, f2, hr', hB'⟩ := a_siegePleads (fu := fu) hN (Or.inr rfl) (x + 1) hB1 (by omega)
    rw [Nf_go hN (by decide), gd_true, e1, e2, bv_some, bv_some, f1, f2, bn_some, bn_some]
    exact ⟨v, sm', sc', r', rfl, rfl, by omega, hB'⟩
  | 5, _ => exact plain
  | 6, _ =>
    show Ac sm0 sc0 (r + 5) (fc_bv (M_body fu 70 sm) _) (C_X9_pleads X fu y x sc)
    unfold C_X9_pleads
    obtain ⟨sm1, sc1, e1, e2, hB1⟩ := h_body (fu := fu) hN 70 hB (by omega)
    obtain ⟨v, sm2, sc2, r2, f1, f2, hr2, hB2⟩ := a_needPleads (fu := fu) hN x hB1 (by omega)
    obtain ⟨v3, sm', sc', r', f3, f4, hr', hB'⟩ := a_needDarkens (fu := fu) hN 2 hB2 (by omega)
    rw [Nf_go hN (by decide), gd_true, e1, e2, bv_some, bv_some, f1, f2, bn_some, bn_some, f3, f4, bn_some, bn_some]
    exact ⟨_, sm', sc', r', rfl, rfl, by omega, hB'⟩
theorem a_needTells (hN : Nf X sm0 sc0 i y κ) (x : Int32) (hB : Bd sm0 sc0 r sm sc) (hr : r ≤ 400) : Ac sm0 sc0 (r + 6) (M_needTells fu (nI i) x sm) (C_X4_tells X fu y x sc) := by
  unfold M_needTells C_X4_tells
  obtain ⟨sm1, sc1, e1, e2, hB1⟩ := h_body (fu := fu) hN 12 hB (by omega)
  obtain ⟨v, sm', sc', r', f1, f2, hr', hB'⟩ := a_pleads (fu := fu) hN x hB1 (by omega)
  rw [Nf_go hN (kcl_mem κ), gd_true, e1, e2, bv_some, bv_some, f1, f2, bn_some, bn_some]
  exact ⟨_, sm', sc', r', rfl, rfl, by omega, hB'⟩
theorem a_tells (hN : Nf X sm0 sc0 i y κ) (x : Int32) (hB : Bd sm0 sc0 r sm sc) (hr : r ≤ 300) : Ac sm0 sc0 (r + 12) (M_tellsAct fu (nI i) x sm) (D_tells_3_4_5_6_7_8_11 X fu y x sc) := by
  have hN2 := hN
  obtain ⟨hX, hi, ho, hK, hκ, h4, h1, h2⟩ := hN2
  have e4 : mm_G sm 4 i = nI κ := (hB.2.1.2.1 4 i (by decide)).trans h4
  unfold M_tellsAct D_tells_3_4_5_6_7_8_11
  rw [nI_ix hi (by decide), gd_true, nm_eq, nI_clamp (show i < 2 ^ 31 by omega), e4, hK]
  have plain : Ac sm0 sc0 (r + 12) (M_tellsAct_b73 fu (nI i) x sm) (C_X4_tells X fu y x sc) := by
    unfold M_tellsAct_b73
    rw [bn_id]
    obtain ⟨v, sm', sc', r', e1, e2, hr', hB'⟩ := a_needTells (fu := fu) hN x hB (by omega)
    exact ⟨v, sm', sc', r', e1, e2, by omega, hB'⟩
  have photo : κ = 3 ∨ κ = 6 → Ac sm0 sc0 (r + 12) (M_tellsAct_b36 fu (nI i) x sm) (C_X5_tells X fu y x sc) := by
    intro hk
    unfold M_tellsAct_b36 C_X5_tells
    obtain ⟨sm1, sc1, e1, e2, hB1⟩ := h_body (fu := fu) hN 40 hB (by omega)
    obtain ⟨v, sm2, sc2, r2, f1, f2, hr2, hB2⟩ := a_needTells (fu := fu) hN x hB1 (by omega)
    obtain ⟨v3, sm', sc', r', f3, f4, hr', hB'⟩ := a_pleads (fu := fu) hN 1 hB2 (by omega)
    have f5 : D_pleads_7_11 X fu y 1 sc2 = some (v3, sc') := by
      rw [← f4]
      unfold D_pleads_7_11 D_pleads_3_4_5_6_7_8_11
      rw [hK]
      rcases hk with rfl | rfl <;> rfl
    rw [Nf_go hN (by rcases hk with rfl | rfl <;> decide), gd_true, e1, e2, bv_some, bv_some, f1, f2, bn_some, bn_some, f3, f5, bn_some, bn_some]
    exact ⟨_, sm', sc', r', rfl, rfl, by omega, hB'⟩
  match κ, hκ with
  | 0, _ => exact plain
  | 1, _ => exact plain
  | 2, _ => exact plain
  | 3, _ => exact photo (Or.inl rfl)
  | 4, _ => exact plain
  | 5, _ =>
    show Ac sm0 sc0 (r + 12) (fc_bv (M_body fu 60 sm) _) (C_X1_tells X fu y x sc)
    unfold C_X1_tells
    obtain ⟨sm1, sc1, e1, e2, hB1⟩ := h_body (fu := fu) hN 60 hB (by omega)
    obtain ⟨v, sm', sc', r', f1, f2, hr', hB'⟩ := a_needTells (fu := fu) hN (x - nI i) hB1 (by omega)
    rw [Nf_go hN (by decide), gd_true, e1, e2, bv_some, bv_some, hB1.2.2.1, h1, f1, f2, bn_some, bn_some]
    exact ⟨_, sm', sc', r', rfl, rfl, by omega, hB'⟩
  | 6, _ => exact photo (Or.inr rfl)
end ACT
/-- what acts leave -/
theorem Rel_Bd {X : cc_X} {T : Nat → Nat} {sm sm' : mm_S} {sc sc' : cc_S} {r : Nat} (h : Rel X T sm sc) (hr : r ≤ 1000) (hB : Bd sm sc r sm' sc') : Rel X T sm' sc' := by
  obtain ⟨hX, A, h1, h2, ⟨m1, m2, m3, m4, m5, m6⟩, h4⟩ := h
  obtain ⟨⟨h57, c50, c5⟩, ⟨mI, mG, mL⟩, cI, cG, cJ, cP⟩ := hB
  have eI : ∀ k, k ≠ 57 → mm_I sm' k = mm_I sm k := mI
  have eG : ∀ k, k ≠ 58 → mm_G sm' k = mm_G sm k := fun k hk => funext fun j => mG k j hk
  have hc : Hi sc sc' := fun y hy => ⟨fun k => cI y k, fun k j => cG y k j (by omega)⟩
  have hm : Ar sm sm' := fun k j h1 h2 => mG k j (by omega)
  have ps : ∀ o (I I' : Nat → Int32) (G G' : Nat → Nat → Int32), o = 1 ∨ o = 2 → (∀ k, k = 0 ∨ k = 1 ∨ k = 2 ∨ k = 3 ∨ k = 29 ∨ k = 31 ∨ k = 32 ∨ k = 9 → I' k = I k) → (∀ k, k = 4 ∨ k = 5 ∨ k = 6 ∨ k = 7 ∨ k = 30 ∨ k = 33 ∨ k = 34 ∨ k = 35 ∨ k = 36 ∨ k = 37 → G' k = G k) → PS X sm sc A o I G → PS X sm' sc' A o I' G' := by
    intro o I I' G G' ho fI fG ⟨h1, h2, h3, h4, h5⟩
    refine ⟨?_, ?_, ?_, ?_, ?_⟩
    · unfold PI
      simp only [fI 0 (by simp), fI 1 (by simp), fI 2 (by simp), fI 3 (by simp), fI 29 (by simp), fI 31 (by simp), fI 32 (by simp), cI]
      exact h1
    · unfold PG
      have cGo : ∀ k j, cc_G sc' o k j = cc_G sc o k j := fun k j => cG o k j (by omega)
      simp only [fG 6 (by simp), fG 7 (by simp), fG 30 (by simp), fG 33 (by simp), fG 34 (by simp), fG 35 (by simp), fG 36 (by simp), fG 37 (by simp), cGo]
      exact h2
    · exact PN_mv hc (fun k => cP o 0 k) (fI 0 (by simp)) (fun k => by rw [fG 4 (by simp)]) (fun k => by rw [fG 5 (by simp)]) h3
    · rw [fI 9 (by simp)]
      exact PA_mv hm hc (cP o 16 0) h4
    · unfold PR
      simp only [fI 0 (by simp), fI 1 (by simp), fI 3 (by simp), fI 29 (by simp), fI 31 (by simp), fI 32 (by simp), fG 6 (by simp), fG 7 (by simp), fG 30 (by simp), fG 33 (by simp), fG 34 (by simp), fG 35 (by simp), fG 36 (by simp)]
      exact h5
  refine ⟨hX, A, ps 1 _ _ _ _ (Or.inl rfl) (fun k hk => eI k (by omega)) (fun k hk => eG k (by omega)) h1, ?_, ⟨?_, ?_, ?_, ⟨r, hr, h57, c50⟩, c5, ?_⟩, fun t ht => ?_⟩
  · rw [eI 38 (by decide)]
    rcases h2 with h2 | ⟨h2, h2'⟩
    · exact Or.inl h2
    · exact Or.inr ⟨h2, ps 2 _ _ _ _ (Or.inr rfl) (fun k hk => eI _ (by rcases hk with rfl | rfl | rfl | rfl | rfl | rfl | rfl | rfl <;> decide)) (fun k hk => eG _ (by rcases hk with rfl | rfl | rfl | rfl | rfl | rfl | rfl | rfl | rfl | rfl <;> decide)) h2'⟩
  · rw [eI 8 (by decide), cI]
    exact m1
  · rw [eI 10 (by decide), eG 13 (by decide), cI 40 3, cI 40 1]
    exact m2
  · rw [eI 38 (by decide), cI]
    exact m3
  · rw [eG 24 (by decide)]
    exact ⟨m6.1, fun d hd => (cJ 3 200 d).trans (m6.2 d hd)⟩
  · have := h4 t ht
    unfold Rt1 at this ⊢
    simp only [cP, cI, cJ, mL, eG 59 (by decide), eG 60 (by decide)]
    exact this
theorem q_act {X : cc_X} {T : Nat → Nat} {sm : mm_S} {sc : cc_S} {fu : Nat} (h : Rel X T sm sc) (x a v : Int32) : Eq2 X T (M_act fu x a v sm) (C_X11_act X fu 0 x a v sc) := by
  obtain ⟨n, hn, h0, h9, hk⟩ := Rel_n h
  obtain ⟨A, -, -, -, -, c5, -⟩ := Rel_m h
  have hB : Bd sm sc 0 (mm_sI sm 57 0) (cc_sG sc 0 5 0 0) := by
    refine ⟨⟨rfl, ?_, fun k hk => ?_⟩, ⟨fun k hk => ?_, fun _ _ _ => rfl, fun _ _ => rfl⟩, fun _ _ => rfl, fun i k j hik => ?_, fun _ _ _ => rfl, fun _ _ _ => rfl⟩
    · rw [cG_sG, if_pos ⟨rfl, rfl⟩, if_pos rfl]
      rfl
    · rw [cG_sG, if_pos ⟨rfl, rfl⟩, if_neg (by omega)]
      exact c5 k hk
    · rw [mI_sI, if_neg hk]
    · rw [cG_sG, if_neg hik]
  have same : Eq2 X T (some ((0 : Int32), mm_sI sm 57 0)) (some (0, cc_sG sc 0 5 0 0)) := ⟨_, _, _, rfl, rfl, Rel_Bd h (by omega) hB⟩
  have fin : ∀ m x y, m ≤ 1000 → Ac sm sc m x y → Eq2 X T x y := by
    rintro m x y hm ⟨v, sm', sc', r', e1, e2, hr, hB⟩
    exact ⟨v, sm', sc', e1, e2, Rel_Bd h (by omega) hB⟩
  unfold M_act C_X11_act
  rw [px_go h.1 (by decide), px_go h.1 (by decide), px_ga h.1 (c := 13) (i := 0) (k := 5) (t := 1) (a := 0) (j := 0) (by decide) (by decide) rfl rfl (by show 0 < 21; omega) (by decide), show (0 : Int32).toNatClampNeg = 0 from rfl]
  simp only [gd_true, nm_eq, bn_id]
  rcases need_cases x hn with ⟨i, hi, rfl⟩ | hx
  · obtain ⟨z, κ, ν, a1, a2, a3, a4, a5, a6, a7, a8, a9, a10, a11⟩ := hk i hi
    have hN : Nf X sm sc i z κ := ⟨h.1, by omega, a3, a4, a5, a7, a10, a11.trans a8.symm⟩
    rw [e_isNeed1 (st := mm_sI sm 57 0) h0 hi hn, e_needOf1 (sc := cc_sG sc 0 5 0 0) h.1 h9 hi hn a1, bn_some, bn_some, mt_some, if_neg n10, e_in, bn_some, Nf_go hN (kcl_mem κ)]
    simp only [gd_true]
    by_cases a0 : a = 0
    · subst a0
      rw [if_pos rfl, if_neg (show ¬ inw 0 2 = 0 by decide), if_pos rfl]
      exact fin _ _ _ (by omega) (a_darkens hN v hB (by omega))
    by_cases a1' : a = 1
    · subst a1'
      rw [if_neg a0, if_pos rfl, if_neg (show ¬ inw 1 2 = 0 by decide), if_neg a0, if_pos rfl]
      exact fin _ _ _ (by omega) (a_pleads hN v hB (by omega))
    by_cases a2' : a = 2
    · subst a2'
      rw [if_neg (show ¬ inw 2 2 = 0 by decide), if_neg a0, if_neg a1', if_neg a0, if_neg a1', if_pos rfl]
      exact fin _ _ _ (by omega) (a_tells hN v hB (by omega))
    rcases inw_c a (m := 2) (by decide) with e | ⟨e, j, hj, rfl⟩
    · rw [if_pos (show inw a 2 = 0 from e), if_neg a0, if_neg a1', if_neg a2']
      exact same
    · have hj3 : j = 0 ∨ j = 1 ∨ j = 2 := by omega
      rcases hj3 with rfl | rfl | rfl
      · exact absurd rfl a0
      · exact absurd rfl a1'
      · exact absurd rfl a2'
  · rw [e_isNeed0 (st := mm_sI sm 57 0) h0 hn hx, e_needOf0 (sc := cc_sG sc 0 5 0 0) h.1 h9 hx, bn_some, bn_some, mt_none, if_pos rfl]
    exact same
