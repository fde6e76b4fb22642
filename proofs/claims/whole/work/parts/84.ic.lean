/-! the image: the reference's copies, and what is alike behind them -/
def cpm (ps : List (Nat × Nat)) (c : Nat) (st st' : mm_S) : Prop := (∀ k, mm_I st' k = mm_I st k) ∧ (∀ k j, mm_L st' k j = mm_L st k j) ∧ (∀ p ∈ ps, ∀ j, j < c → mm_G st' p.2 j = mm_G st p.1 j) ∧ ∀ k j, (∀ p ∈ ps, k ≠ p.2) → mm_G st' k j = mm_G st k j
theorem cpm_0 {ps : List (Nat × Nat)} {st : mm_S} : cpm ps 0 st st := ⟨fun _ => rfl, fun _ _ => rfl, fun _ _ _ h => absurd h (Nat.not_lt_zero _), fun _ _ _ => rfl⟩
theorem cpm_3 {a1 b1 a2 b2 a3 b3 c : Nat} {st s : mm_S} (hd : b1 ≠ b2 ∧ b1 ≠ b3 ∧ b2 ≠ b3 ∧ a1 ≠ b1 ∧ a1 ≠ b2 ∧ a1 ≠ b3 ∧ a2 ≠ b1 ∧ a2 ≠ b2 ∧ a2 ≠ b3 ∧ a3 ≠ b1 ∧ a3 ≠ b2 ∧ a3 ≠ b3) (h : cpm [(a1, b1), (a2, b2), (a3, b3)] c st s) :
    cpm [(a1, b1), (a2, b2), (a3, b3)] (c + 1) st (mm_sG (mm_sG (mm_sG s b1 c (mm_G s a1 c)) b2 c (mm_G (mm_sG s b1 c (mm_G s a1 c)) a2 c)) b3 c (mm_G (mm_sG (mm_sG s b1 c (mm_G s a1 c)) b2 c (mm_G (mm_sG s b1 c (mm_G s a1 c)) a2 c)) a3 c)) := by
  obtain ⟨d1, d2, d3, e1, e2, e3, e4, e5, e6, e7, e8, e9⟩ := hd
  obtain ⟨h1, h2, h3, h4⟩ := h
  have ha : ∀ a, a ≠ b1 → a ≠ b2 → a ≠ b3 → ∀ j, mm_G s a j = mm_G st a j := fun a q1 q2 q3 j => h4 a j (by simp [q1, q2, q3])
  have f1 := fun j => h3 (a1, b1) (by simp) j
  have f2 := fun j => h3 (a2, b2) (by simp) j
  have f3 := fun j => h3 (a3, b3) (by simp) j
  refine ⟨h1, h2, fun p hp j hj => ?_, fun k j hk => ?_⟩
  · simp only [List.mem_cons, List.not_mem_nil, or_false] at hp
    rcases hp with rfl | rfl | rfl
    · simp only [mG_sG, if_neg d1, if_neg d2, if_pos]
      split
      · rename_i q
        subst q
        exact ha a1 e1 e2 e3 j
      · exact f1 j (by omega)
    · simp only [mG_sG, if_neg d3, if_pos, if_neg (Ne.symm d1), if_neg e4]
      split
      · rename_i q
        subst q
        exact ha a2 e4 e5 e6 j
      · exact f2 j (by omega)
    · simp only [mG_sG, if_pos, if_neg (Ne.symm d2), if_neg (Ne.symm d3), if_neg e7, if_neg e8]
      split
      · rename_i q
        subst q
        exact ha a3 e7 e8 e9 j
      · exact f3 j (by omega)
  · have k1 := hk (a1, b1) (by simp)
    have k2 := hk (a2, b2) (by simp)
    have k3 := hk (a3, b3) (by simp)
    simp only [mG_sG]
    rw [if_neg k3, if_neg k2, if_neg k1]
    exact h4 k j hk
theorem cpm_1 {a1 b1 c : Nat} {st s : mm_S} (hd : a1 ≠ b1) (h : cpm [(a1, b1)] c st s) : cpm [(a1, b1)] (c + 1) st (mm_sG s b1 c (mm_G s a1 c)) := by
  obtain ⟨h1, h2, h3, h4⟩ := h
  have f1 := fun j => h3 (a1, b1) (by simp) j
  refine ⟨h1, h2, fun p hp j hj => ?_, fun k j hk => ?_⟩
  · simp only [List.mem_cons, List.not_mem_nil, or_false] at hp
    subst hp
    simp only [mG_sG, if_pos]
    split
    · rename_i q
      subst q
      exact h4 a1 j (by simp [hd])
    · exact f1 j (by omega)
  · have k1 := hk (a1, b1) (by simp)
    simp only [mG_sG]
    rw [if_neg k1]
    exact h4 k j hk
theorem im_196 {fu : Nat} (hfu : 700 < fu) (st : mm_S) : fc_ok (M_image_b196 fu fu 0 st) (fun q => cpm [(30, 51), (36, 55), (37, 56)] 8 st q.2 ∧ q.1 = mm_I st 0) := by
  unfold M_image_b196
  refine ok_lp (fun z => ∃ c s, c ≤ 8 ∧ z = (nI c, s) ∧ cpm [(30, 51), (36, 55), (37, 56)] c st s) (fun z => 8 - z.1.toNatClampNeg) _ ?_ fu _ ⟨0, st, by omega, rfl, cpm_0⟩ (by show 8 - _ < fu; omega)
  rintro z K ⟨c, s, hc, rfl, h⟩ hK
  show fc_ok (M_image_b196F fu (fun x1 st => K (x1, st)) _ _) _
  unfold M_image_b196F
  refine ok_if.mpr ⟨fun hle => ?_, fun hle => ?_⟩
  · have hle := (nI_le_iff (a := 8) (by omega) (by omega)).mp hle
    have hc6 : c = 8 := by omega
    subst hc6
    exact ok_some.mpr ⟨h, h.1 0⟩
  · have hlt : c < 8 := Nat.not_le.mp (fun q => hle ((nI_le_iff (a := 8) (by omega) (by omega)).mpr q))
    rw [nI_ix hlt (by decide), nI_clamp (show c < 2 ^ 31 by omega)]
    simp only [gd_true, nm_eq]
    rw [nI_1]
    refine hK _ ⟨c + 1, _, by omega, rfl, cpm_3 (by decide) h⟩ ?_
    show 8 - (nI (c + 1)).toNatClampNeg < 8 - (nI c).toNatClampNeg
    rw [nI_clamp (by omega), nI_clamp (by omega)]
    omega
theorem im_147 {fu : Nat} (hfu : 700 < fu) (st : mm_S) : fc_ok (M_image_b147 fu fu 0 st) (fun q => ∃ s5, cpm [(33, 52), (34, 53), (35, 54)] 5 st s5 ∧ cpm [(30, 51), (36, 55), (37, 56)] 8 s5 q.2 ∧ q.1 = mm_I s5 0) := by
  unfold M_image_b147
  refine ok_lp (fun z => ∃ c s, c ≤ 5 ∧ z = (nI c, s) ∧ cpm [(33, 52), (34, 53), (35, 54)] c st s) (fun z => 5 - z.1.toNatClampNeg) _ ?_ fu _ ⟨0, st, by omega, rfl, cpm_0⟩ (by show 5 - _ < fu; omega)
  rintro z K ⟨c, s, hc, rfl, h⟩ hK
  show fc_ok (M_image_b147F fu (fun x1 st => K (x1, st)) _ _) _
  unfold M_image_b147F
  refine ok_if.mpr ⟨fun hle => ?_, fun hle => ?_⟩
  · have hle := (nI_le_iff (a := 5) (by omega) (by omega)).mp hle
    have hc6 : c = 5 := by omega
    subst hc6
    exact ok_mono (im_196 hfu s) (fun q hq => ⟨s, h, hq⟩)
  · have hlt : c < 5 := Nat.not_le.mp (fun q => hle ((nI_le_iff (a := 5) (by omega) (by omega)).mpr q))
    rw [nI_ix hlt (by decide), nI_clamp (show c < 2 ^ 31 by omega)]
    simp only [gd_true, nm_eq]
    rw [nI_1]
    refine hK _ ⟨c + 1, _, by omega, rfl, cpm_3 (by decide) h⟩ ?_
    show 5 - (nI (c + 1)).toNatClampNeg < 5 - (nI c).toNatClampNeg
    rw [nI_clamp (by omega), nI_clamp (by omega)]
    omega
theorem im_121 {fu : Nat} (hfu : 700 < fu) (st : mm_S) : fc_ok (M_image_b121 fu fu 0 st) (fun q => ∃ s24, cpm [(7, 50)] 24 st s24 ∧ ∃ s5, cpm [(33, 52), (34, 53), (35, 54)] 5 s24 s5 ∧ cpm [(30, 51), (36, 55), (37, 56)] 8 s5 q.2 ∧ q.1 = mm_I s5 0) := by
  unfold M_image_b121
  refine ok_lp (fun z => ∃ c s, c ≤ 24 ∧ z = (nI c, s) ∧ cpm [(7, 50)] c st s) (fun z => 24 - z.1.toNatClampNeg) _ ?_ fu _ ⟨0, st, by omega, rfl, cpm_0⟩ (by show 24 - _ < fu; omega)
  rintro z K ⟨c, s, hc, rfl, h⟩ hK
  show fc_ok (M_image_b121F fu (fun x1 st => K (x1, st)) _ _) _
  unfold M_image_b121F
  refine ok_if.mpr ⟨fun hle => ?_, fun hle => ?_⟩
  · have hle := (nI_le_iff (a := 24) (by omega) (by omega)).mp hle
    have hc6 : c = 24 := by omega
    subst hc6
    exact ok_mono (im_147 hfu s) (fun q hq => ⟨s, h, hq⟩)
  · have hlt : c < 24 := Nat.not_le.mp (fun q => hle ((nI_le_iff (a := 24) (by omega) (by omega)).mpr q))
    rw [nI_ix hlt (by decide), nI_clamp (show c < 2 ^ 31 by omega)]
    simp only [gd_true, nm_eq]
    rw [nI_1]
    refine hK _ ⟨c + 1, _, by omega, rfl, cpm_1 (by decide) h⟩ ?_
    show 24 - (nI (c + 1)).toNatClampNeg < 24 - (nI c).toNatClampNeg
    rw [nI_clamp (by omega), nI_clamp (by omega)]
    omega
theorem im_71 {fu : Nat} (hfu : 700 < fu) (st : mm_S) : fc_ok (M_image_b71 fu fu 0 st) (fun q => ∃ s6, cpm [(4, 47), (5, 48), (6, 49)] 6 st s6 ∧ ∃ s24, cpm [(7, 50)] 24 s6 s24 ∧ ∃ s5, cpm [(33, 52), (34, 53), (35, 54)] 5 s24 s5 ∧ cpm [(30, 51), (36, 55), (37, 56)] 8 s5 q.2 ∧ q.1 = mm_I s5 0) := by
  unfold M_image_b71
  refine ok_lp (fun z => ∃ c s, c ≤ 6 ∧ z = (nI c, s) ∧ cpm [(4, 47), (5, 48), (6, 49)] c st s) (fun z => 6 - z.1.toNatClampNeg) _ ?_ fu _ ⟨0, st, by omega, rfl, cpm_0⟩ (by show 6 - _ < fu; omega)
  rintro z K ⟨c, s, hc, rfl, h⟩ hK
  show fc_ok (M_image_b71F fu (fun x1 st => K (x1, st)) _ _) _
  unfold M_image_b71F
  refine ok_if.mpr ⟨fun hle => ?_, fun hle => ?_⟩
  · have hle := (nI_le_iff (a := 6) (by omega) (by omega)).mp hle
    have hc6 : c = 6 := by omega
    subst hc6
    exact ok_mono (im_121 hfu s) (fun q hq => ⟨s, h, hq⟩)
  · have hlt : c < 6 := Nat.not_le.mp (fun q => hle ((nI_le_iff (a := 6) (by omega) (by omega)).mpr q))
    rw [nI_ix hlt (by decide), nI_clamp (show c < 2 ^ 31 by omega)]
    simp only [gd_true, nm_eq]
    rw [nI_1]
    refine hK _ ⟨c + 1, _, by omega, rfl, cpm_3 (by decide) h⟩ ?_
    show 6 - (nI (c + 1)).toNatClampNeg < 6 - (nI c).toNatClampNeg
    rw [nI_clamp (by omega), nI_clamp (by omega)]
    omega
theorem un_201 {fu : Nat} (hfu : 700 < fu) (st : mm_S) : fc_ok (M_undo_b201 fu fu 0 st) (fun q => cpm [(51, 30), (55, 36), (56, 37)] 8 st q.2 ∧ q.1 = mm_I st 0) := by
  unfold M_undo_b201
  refine ok_lp (fun z => ∃ c s, c ≤ 8 ∧ z = (nI c, s) ∧ cpm [(51, 30), (55, 36), (56, 37)] c st s) (fun z => 8 - z.1.toNatClampNeg) _ ?_ fu _ ⟨0, st, by omega, rfl, cpm_0⟩ (by show 8 - _ < fu; omega)
  rintro z K ⟨c, s, hc, rfl, h⟩ hK
  show fc_ok (M_undo_b201F fu (fun x1 st => K (x1, st)) _ _) _
  unfold M_undo_b201F
  refine ok_if.mpr ⟨fun hle => ?_, fun hle => ?_⟩
  · have hle := (nI_le_iff (a := 8) (by omega) (by omega)).mp hle
    have hc6 : c = 8 := by omega
    subst hc6
    exact ok_some.mpr ⟨h, h.1 0⟩
  · have hlt : c < 8 := Nat.not_le.mp (fun q => hle ((nI_le_iff (a := 8) (by omega) (by omega)).mpr q))
    rw [nI_ix hlt (by decide), nI_clamp (show c < 2 ^ 31 by omega)]
    simp only [gd_true, nm_eq]
    rw [nI_1]
    refine hK _ ⟨c + 1, _, by omega, rfl, cpm_3 (by decide) h⟩ ?_
    show 8 - (nI (c + 1)).toNatClampNeg < 8 - (nI c).toNatClampNeg
    rw [nI_clamp (by omega), nI_clamp (by omega)]
    omega
theorem un_152 {fu : Nat} (hfu : 700 < fu) (st : mm_S) : fc_ok (M_undo_b152 fu fu 0 st) (fun q => ∃ s5, cpm [(52, 33), (53, 34), (54, 35)] 5 st s5 ∧ cpm [(51, 30), (55, 36), (56, 37)] 8 s5 q.2 ∧ q.1 = mm_I s5 0) := by
  unfold M_undo_b152
  refine ok_lp (fun z => ∃ c s, c ≤ 5 ∧ z = (nI c, s) ∧ cpm [(52, 33), (53, 34), (54, 35)] c st s) (fun z => 5 - z.1.toNatClampNeg) _ ?_ fu _ ⟨0, st, by omega, rfl, cpm_0⟩ (by show 5 - _ < fu; omega)
  rintro z K ⟨c, s, hc, rfl, h⟩ hK
  show fc_ok (M_undo_b152F fu (fun x1 st => K (x1, st)) _ _) _
  unfold M_undo_b152F
  refine ok_if.mpr ⟨fun hle => ?_, fun hle => ?_⟩
  · have hle := (nI_le_iff (a := 5) (by omega) (by omega)).mp hle
    have hc6 : c = 5 := by omega
    subst hc6
    exact ok_mono (un_201 hfu s) (fun q hq => ⟨s, h, hq⟩)
  · have hlt : c < 5 := Nat.not_le.mp (fun q => hle ((nI_le_iff (a := 5) (by omega) (by omega)).mpr q))
    rw [nI_ix hlt (by decide), nI_clamp (show c < 2 ^ 31 by omega)]
    simp only [gd_true, nm_eq]
    rw [nI_1]
    refine hK _ ⟨c + 1, _, by omega, rfl, cpm_3 (by decide) h⟩ ?_
    show 5 - (nI (c + 1)).toNatClampNeg < 5 - (nI c).toNatClampNeg
    rw [nI_clamp (by omega), nI_clamp (by omega)]
    omega
theorem un_126 {fu : Nat} (hfu : 700 < fu) (st : mm_S) : fc_ok (M_undo_b126 fu fu 0 st) (fun q => ∃ s24, cpm [(50, 7)] 24 st s24 ∧ ∃ s5, cpm [(52, 33), (53, 34), (54, 35)] 5 s24 s5 ∧ cpm [(51, 30), (55, 36), (56, 37)] 8 s5 q.2 ∧ q.1 = mm_I s5 0) := by
  unfold M_undo_b126
  refine ok_lp (fun z => ∃ c s, c ≤ 24 ∧ z = (nI c, s) ∧ cpm [(50, 7)] c st s) (fun z => 24 - z.1.toNatClampNeg) _ ?_ fu _ ⟨0, st, by omega, rfl, cpm_0⟩ (by show 24 - _ < fu; omega)
  rintro z K ⟨c, s, hc, rfl, h⟩ hK
  show fc_ok (M_undo_b126F fu (fun x1 st => K (x1, st)) _ _) _
  unfold M_undo_b126F
  refine ok_if.mpr ⟨fun hle => ?_, fun hle => ?_⟩
  · have hle := (nI_le_iff (a := 24) (by omega) (by omega)).mp hle
    have hc6 : c = 24 := by omega
    subst hc6
    exact ok_mono (un_152 hfu s) (fun q hq => ⟨s, h, hq⟩)
  · have hlt : c < 24 := Nat.not_le.mp (fun q => hle ((nI_le_iff (a := 24) (by omega) (by omega)).mpr q))
    rw [nI_ix hlt (by decide), nI_clamp (show c < 2 ^ 31 by omega)]
    simp only [gd_true, nm_eq]
    rw [nI_1]
    refine hK _ ⟨c + 1, _, by omega, rfl, cpm_1 (by decide) h⟩ ?_
    show 24 - (nI (c + 1)).toNatClampNeg < 24 - (nI c).toNatClampNeg
    rw [nI_clamp (by omega), nI_clamp (by omega)]
    omega
theorem un_76 {fu : Nat} (hfu : 700 < fu) (st : mm_S) : fc_ok (M_undo_b76 fu fu 0 st) (fun q => ∃ s6, cpm [(47, 4), (48, 5), (49, 6)] 6 st s6 ∧ ∃ s24, cpm [(50, 7)] 24 s6 s24 ∧ ∃ s5, cpm [(52, 33), (53, 34), (54, 35)] 5 s24 s5 ∧ cpm [(51, 30), (55, 36), (56, 37)] 8 s5 q.2 ∧ q.1 = mm_I s5 0) := by
  unfold M_undo_b76
  refine ok_lp (fun z => ∃ c s, c ≤ 6 ∧ z = (nI c, s) ∧ cpm [(47, 4), (48, 5), (49, 6)] c st s) (fun z => 6 - z.1.toNatClampNeg) _ ?_ fu _ ⟨0, st, by omega, rfl, cpm_0⟩ (by show 6 - _ < fu; omega)
  rintro z K ⟨c, s, hc, rfl, h⟩ hK
  show fc_ok (M_undo_b76F fu (fun x1 st => K (x1, st)) _ _) _
  unfold M_undo_b76F
  refine ok_if.mpr ⟨fun hle => ?_, fun hle => ?_⟩
  · have hle := (nI_le_iff (a := 6) (by omega) (by omega)).mp hle
    have hc6 : c = 6 := by omega
    subst hc6
    exact ok_mono (un_126 hfu s) (fun q hq => ⟨s, h, hq⟩)
  · have hlt : c < 6 := Nat.not_le.mp (fun q => hle ((nI_le_iff (a := 6) (by omega) (by omega)).mpr q))
    rw [nI_ix hlt (by decide), nI_clamp (show c < 2 ^ 31 by omega)]
    simp only [gd_true, nm_eq]
    rw [nI_1]
    refine hK _ ⟨c + 1, _, by omega, rfl, cpm_3 (by decide) h⟩ ?_
    show 6 - (nI (c + 1)).toNatClampNeg < 6 - (nI c).toNatClampNeg
    rw [nI_clamp (by omega), nI_clamp (by omega)]
    omega
