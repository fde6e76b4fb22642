/-! image, undo: alike -/
theorem PS_copy {X : cc_X} {sm sm' : mm_S} {sc sc' : cc_S} {A o d : Nat} {I I' : Nat → Int32} {G G' : Nat → Nat → Int32} (hm : Ar sm sm') (hc : Hi sc sc') (cI : ∀ k, 9 ≤ k → k ≤ 15 → cc_I sc' d k = cc_I sc o k) (cP0 : ∀ j, j < 6 → cc_P sc' d 0 j = cc_P sc o 0 j) (cP : cc_P sc' d 16 0 = cc_P sc o 16 0)
    (c1 : ∀ j, j < 6 → cc_G sc' d 1 j = cc_G sc o 1 j) (c2 : ∀ j, j < 24 → cc_G sc' d 2 j = cc_G sc o 2 j) (c3 : ∀ j, j < 8 → cc_G sc' d 3 j = cc_G sc o 3 j) (c4 : ∀ j, j < 5 → cc_G sc' d 4 j = cc_G sc o 4 j) (c5 : ∀ j, j < 5 → cc_G sc' d 5 j = cc_G sc o 5 j) (c6 : ∀ j, j < 5 → cc_G sc' d 6 j = cc_G sc o 6 j) (c7 : ∀ j, j < 8 → cc_G sc' d 7 j = cc_G sc o 7 j) (c8 : ∀ j, j < 8 → cc_G sc' d 8 j = cc_G sc o 8 j)
    (fI : ∀ k, k = 0 ∨ k = 1 ∨ k = 2 ∨ k = 3 ∨ k = 29 ∨ k = 31 ∨ k = 32 ∨ k = 9 → I' k = I k) (f4 : ∀ j, j < 6 → G' 4 j = G 4 j) (f5 : ∀ j, j < 6 → G' 5 j = G 5 j) (f6 : ∀ j, j < 6 → G' 6 j = G 6 j) (f7 : ∀ j, j < 24 → G' 7 j = G 7 j) (f30 : ∀ j, j < 8 → G' 30 j = G 30 j) (f33 : ∀ j, j < 5 → G' 33 j = G 33 j) (f34 : ∀ j, j < 5 → G' 34 j = G 34 j) (f35 : ∀ j, j < 5 → G' 35 j = G 35 j) (f36 : ∀ j, j < 8 → G' 36 j = G 36 j) (f37 : ∀ j, j < 8 → G' 37 j = G 37 j)
    (h : PS X sm sc A o I G) : PS X sm' sc' A d I' G' := by
  obtain ⟨⟨a1, a2, a3, a4, a5, a6, a7⟩, ⟨b1, b2, b3, b4, b5, b6, b7, b8⟩, ⟨n0, hn0, h0, hk, hy⟩, hA, n, dd, y, c, s, b, r1, r2, r3, r4, r5, r6, r7, r8, r9, r10, r11⟩ := h
  refine ⟨⟨?_, ?_, ?_, ?_, ?_, ?_, ?_⟩, ⟨fun j hj => ?_, fun j hj => ?_, fun j hj => ?_, fun j hj => ?_, fun j hj => ?_, fun j hj => ?_, fun j hj => ?_, fun j hj => ?_⟩, ⟨n0, hn0, (fI 0 (by simp)).trans h0, fun k hk' => ?_, fun k y h6 hp => hy k y h6 ((cP0 k h6).symm.trans hp)⟩, ?_, n, dd, y, c, s, b, ⟨r1.1, (fI 0 (by simp)).trans r1.2⟩, ⟨r2.1, (fI 1 (by simp)).trans r2.2⟩, ⟨r3.1, (fI 3 (by simp)).trans r3.2⟩, ⟨r4.1, (fI 29 (by simp)).trans r4.2⟩, ⟨r5.1, (fI 31 (by simp)).trans r5.2⟩, ⟨r6.1, (fI 32 (by simp)).trans r6.2⟩, fun k hk => ?_, fun k hk => ?_, fun k hk => ?_, fun k hk => ?_, fun k hk => ?_⟩
  · rw [cI 9 (by omega) (by omega), fI 0 (by simp)]; exact a1
  · rw [cI 13 (by omega) (by omega), fI 1 (by simp)]; exact a2
  · rw [cI 14 (by omega) (by omega), fI 2 (by simp)]; exact a3
  · rw [cI 15 (by omega) (by omega), fI 3 (by simp)]; exact a4
  · rw [cI 10 (by omega) (by omega), fI 29 (by simp)]; exact a5
  · rw [cI 11 (by omega) (by omega), fI 31 (by simp)]; exact a6
  · rw [cI 12 (by omega) (by omega), fI 32 (by simp)]; exact a7
  · rw [c1 j hj, f6 j hj]; exact b1 j hj
  · rw [c2 j hj, f7 j hj]; exact b2 j hj
  · rw [c3 j hj, f30 j hj]; exact b3 j hj
  · rw [c4 j hj, f33 j hj]; exact b4 j hj
  · rw [c5 j hj, f34 j hj]; exact b5 j hj
  · rw [c6 j hj, f35 j hj]; exact b6 j hj
  · rw [c7 j hj, f36 j hj]; exact b7 j hj
  · rw [c8 j hj, f37 j hj]; exact b8 j hj
  · obtain ⟨y, κ, ν, q1, q2, q3, q4, q5, q6, q7, q8, q9, q10, q11⟩ := hk k hk'
    exact ⟨y, κ, ν, (cP0 k (by omega)).trans q1, q2, q3, q4, q5, q6, (f4 k (by omega)).trans q7, (f5 k (by omega)).trans q8, ((hc y q2).1 0).trans q9, ((hc y q2).1 1).trans q10, ((hc y q2).1 2).trans q11⟩
  · rw [fI 9 (by simp)]
    refine ⟨?_, hA.2⟩
    rcases hA.1 with ⟨q1, q2⟩ | ⟨a, y, q1, q2, q3, q4⟩
    · exact Or.inl ⟨q1, cP.trans q2⟩
    · exact Or.inr ⟨a, y, q1, q2, cP.trans q3, AR_mv hm hc q4⟩
  · rw [f30 k (by omega)]; exact r7 k hk
  · rw [f33 k (by omega), f34 k (by omega), f35 k (by omega)]; exact r8 k hk
  · rw [f36 k (by omega)]; exact r9 k hk
  · rw [f6 k hk]; exact r10 k hk
  · rw [f7 k hk]; exact r11 k hk
theorem image_cp {st s s6 s24 s5 : mm_S} (h6 : cpm [(4, 47), (5, 48), (6, 49)] 6 st s6) (h24 : cpm [(7, 50)] 24 s6 s24) (h5 : cpm [(33, 52), (34, 53), (35, 54)] 5 s24 s5) (h8 : cpm [(30, 51), (36, 55), (37, 56)] 8 s5 s) :
    (∀ k, mm_I s k = mm_I st k) ∧ (∀ k j, mm_L s k j = mm_L st k j) ∧ (∀ k j, k < 47 ∨ 56 < k → mm_G s k j = mm_G st k j) ∧ (∀ j, j < 6 → mm_G s 47 j = mm_G st 4 j) ∧ (∀ j, j < 6 → mm_G s 48 j = mm_G st 5 j) ∧ (∀ j, j < 6 → mm_G s 49 j = mm_G st 6 j) ∧ (∀ j, j < 24 → mm_G s 50 j = mm_G st 7 j) ∧ (∀ j, j < 5 → mm_G s 52 j = mm_G st 33 j) ∧ (∀ j, j < 5 → mm_G s 53 j = mm_G st 34 j) ∧ (∀ j, j < 5 → mm_G s 54 j = mm_G st 35 j) ∧ (∀ j, j < 8 → mm_G s 51 j = mm_G st 30 j) ∧ (∀ j, j < 8 → mm_G s 55 j = mm_G st 36 j) ∧ (∀ j, j < 8 → mm_G s 56 j = mm_G st 37 j) := by
  refine ⟨fun k => (h8.1 k).trans ((h5.1 k).trans ((h24.1 k).trans (h6.1 k))), fun k j => (h8.2.1 k j).trans ((h5.2.1 k j).trans ((h24.2.1 k j).trans (h6.2.1 k j))), fun k j hk => ?_, fun j hj => ?_, fun j hj => ?_, fun j hj => ?_, fun j hj => ?_, fun j hj => ?_, fun j hj => ?_, fun j hj => ?_, fun j hj => ?_, fun j hj => ?_, fun j hj => ?_⟩
  · have ne : ∀ q, (q = 47 ∨ q = 48 ∨ q = 49 ∨ q = 50 ∨ q = 52 ∨ q = 53 ∨ q = 54 ∨ q = 51 ∨ q = 55 ∨ q = 56) → k ≠ q := fun q hq => by omega
    refine (h8.2.2.2 k j ?_).trans ((h5.2.2.2 k j ?_).trans ((h24.2.2.2 k j ?_).trans (h6.2.2.2 k j ?_))) <;> (intro p hp; simp only [List.mem_cons, List.not_mem_nil, or_false] at hp)
    · rcases hp with rfl | rfl | rfl <;> exact ne _ (by simp)
    · rcases hp with rfl | rfl | rfl <;> exact ne _ (by simp)
    · subst hp; exact ne _ (by simp)
    · rcases hp with rfl | rfl | rfl <;> exact ne _ (by simp)
  · exact (h8.2.2.2 47 j (by decide)).trans ((h5.2.2.2 47 j (by decide)).trans ((h24.2.2.2 47 j (by decide)).trans (h6.2.2.1 (4, 47) (by simp) j hj)))
  · exact (h8.2.2.2 48 j (by decide)).trans ((h5.2.2.2 48 j (by decide)).trans ((h24.2.2.2 48 j (by decide)).trans (h6.2.2.1 (5, 48) (by simp) j hj)))
  · exact (h8.2.2.2 49 j (by decide)).trans ((h5.2.2.2 49 j (by decide)).trans ((h24.2.2.2 49 j (by decide)).trans (h6.2.2.1 (6, 49) (by simp) j hj)))
  · exact (h8.2.2.2 50 j (by decide)).trans ((h5.2.2.2 50 j (by decide)).trans ((h24.2.2.1 (7, 50) (by simp) j hj).trans (h6.2.2.2 7 j (by decide))))
  · exact (h8.2.2.2 52 j (by decide)).trans ((h5.2.2.1 (33, 52) (by simp) j hj).trans ((h24.2.2.2 33 j (by decide)).trans (h6.2.2.2 33 j (by decide))))
  · exact (h8.2.2.2 53 j (by decide)).trans ((h5.2.2.1 (34, 53) (by simp) j hj).trans ((h24.2.2.2 34 j (by decide)).trans (h6.2.2.2 34 j (by decide))))
  · exact (h8.2.2.2 54 j (by decide)).trans ((h5.2.2.1 (35, 54) (by simp) j hj).trans ((h24.2.2.2 35 j (by decide)).trans (h6.2.2.2 35 j (by decide))))
  · exact (h8.2.2.1 (30, 51) (by simp) j hj).trans ((h5.2.2.2 30 j (by decide)).trans ((h24.2.2.2 30 j (by decide)).trans (h6.2.2.2 30 j (by decide))))
  · exact (h8.2.2.1 (36, 55) (by simp) j hj).trans ((h5.2.2.2 36 j (by decide)).trans ((h24.2.2.2 36 j (by decide)).trans (h6.2.2.2 36 j (by decide))))
  · exact (h8.2.2.1 (37, 56) (by simp) j hj).trans ((h5.2.2.2 37 j (by decide)).trans ((h24.2.2.2 37 j (by decide)).trans (h6.2.2.2 37 j (by decide))))
theorem undo_cp {st s s6 s24 s5 : mm_S} (h6 : cpm [(47, 4), (48, 5), (49, 6)] 6 st s6) (h24 : cpm [(50, 7)] 24 s6 s24) (h5 : cpm [(52, 33), (53, 34), (54, 35)] 5 s24 s5) (h8 : cpm [(51, 30), (55, 36), (56, 37)] 8 s5 s) :
    (∀ k, mm_I s k = mm_I st k) ∧ (∀ k j, mm_L s k j = mm_L st k j) ∧ (∀ k j, 47 ≤ k ∨ k < 4 ∨ (8 ≤ k ∧ k < 30) ∨ k = 31 ∨ k = 32 ∨ 38 ≤ k → mm_G s k j = mm_G st k j) ∧ (∀ j, j < 6 → mm_G s 4 j = mm_G st 47 j) ∧ (∀ j, j < 6 → mm_G s 5 j = mm_G st 48 j) ∧ (∀ j, j < 6 → mm_G s 6 j = mm_G st 49 j) ∧ (∀ j, j < 24 → mm_G s 7 j = mm_G st 50 j) ∧ (∀ j, j < 5 → mm_G s 33 j = mm_G st 52 j) ∧ (∀ j, j < 5 → mm_G s 34 j = mm_G st 53 j) ∧ (∀ j, j < 5 → mm_G s 35 j = mm_G st 54 j) ∧ (∀ j, j < 8 → mm_G s 30 j = mm_G st 51 j) ∧ (∀ j, j < 8 → mm_G s 36 j = mm_G st 55 j) ∧ (∀ j, j < 8 → mm_G s 37 j = mm_G st 56 j) := by
  refine ⟨fun k => (h8.1 k).trans ((h5.1 k).trans ((h24.1 k).trans (h6.1 k))), fun k j => (h8.2.1 k j).trans ((h5.2.1 k j).trans ((h24.2.1 k j).trans (h6.2.1 k j))), fun k j hk => ?_, fun j hj => ?_, fun j hj => ?_, fun j hj => ?_, fun j hj => ?_, fun j hj => ?_, fun j hj => ?_, fun j hj => ?_, fun j hj => ?_, fun j hj => ?_, fun j hj => ?_⟩
  · have ne : ∀ q, (q = 4 ∨ q = 5 ∨ q = 6 ∨ q = 7 ∨ q = 33 ∨ q = 34 ∨ q = 35 ∨ q = 30 ∨ q = 36 ∨ q = 37) → k ≠ q := fun q hq => by omega
    refine (h8.2.2.2 k j ?_).trans ((h5.2.2.2 k j ?_).trans ((h24.2.2.2 k j ?_).trans (h6.2.2.2 k j ?_))) <;> (intro p hp; simp only [List.mem_cons, List.not_mem_nil, or_false] at hp)
    · rcases hp with rfl | rfl | rfl <;> exact ne _ (by simp)
    · rcases hp with rfl | rfl | rfl <;> exact ne _ (by simp)
    · subst hp; exact ne _ (by simp)
    · rcases hp with rfl | rfl | rfl <;> exact ne _ (by simp)
  · exact (h8.2.2.2 4 j (by decide)).trans ((h5.2.2.2 4 j (by decide)).trans ((h24.2.2.2 4 j (by decide)).trans (h6.2.2.1 (47, 4) (by simp) j hj)))
  · exact (h8.2.2.2 5 j (by decide)).trans ((h5.2.2.2 5 j (by decide)).trans ((h24.2.2.2 5 j (by decide)).trans (h6.2.2.1 (48, 5) (by simp) j hj)))
  · exact (h8.2.2.2 6 j (by decide)).trans ((h5.2.2.2 6 j (by decide)).trans ((h24.2.2.2 6 j (by decide)).trans (h6.2.2.1 (49, 6) (by simp) j hj)))
  · exact (h8.2.2.2 7 j (by decide)).trans ((h5.2.2.2 7 j (by decide)).trans ((h24.2.2.1 (50, 7) (by simp) j hj).trans (h6.2.2.2 50 j (by decide))))
  · exact (h8.2.2.2 33 j (by decide)).trans ((h5.2.2.1 (52, 33) (by simp) j hj).trans ((h24.2.2.2 52 j (by decide)).trans (h6.2.2.2 52 j (by decide))))
  · exact (h8.2.2.2 34 j (by decide)).trans ((h5.2.2.1 (53, 34) (by simp) j hj).trans ((h24.2.2.2 53 j (by decide)).trans (h6.2.2.2 53 j (by decide))))
  · exact (h8.2.2.2 35 j (by decide)).trans ((h5.2.2.1 (54, 35) (by simp) j hj).trans ((h24.2.2.2 54 j (by decide)).trans (h6.2.2.2 54 j (by decide))))
  · exact (h8.2.2.1 (51, 30) (by simp) j hj).trans ((h5.2.2.2 51 j (by decide)).trans ((h24.2.2.2 51 j (by decide)).trans (h6.2.2.2 51 j (by decide))))
  · exact (h8.2.2.1 (55, 36) (by simp) j hj).trans ((h5.2.2.2 55 j (by decide)).trans ((h24.2.2.2 55 j (by decide)).trans (h6.2.2.2 55 j (by decide))))
  · exact (h8.2.2.1 (56, 37) (by simp) j hj).trans ((h5.2.2.2 56 j (by decide)).trans ((h24.2.2.2 56 j (by decide)).trans (h6.2.2.2 56 j (by decide))))
theorem q_image {X : cc_X} {T : Nat → Nat} {sm : mm_S} {sc : cc_S} {fu : Nat} (hfu : 700 < fu) (h : Rel X T sm sc) : Eq2 X T (M_image fu sm) (C_X11_image X fu 0 sc) := by
  obtain ⟨hX, A, h1, h2, ⟨m1, m2, m3, m4, m5, m6⟩, h4⟩ := h
  have hy := h1.2.2.1
  obtain ⟨nn, hnn, hn0, hnk, hyy⟩ := hy
  obtain ⟨sc1, e1, hB⟩ := h_becomeS (o := 1) (d := 2) hfu hX (Or.inl ⟨rfl, rfl⟩) hyy
  obtain ⟨Bo, BJ, BI, BP0, BP, B1, B2, B3, B4, B5, B6, B7, B8⟩ := hB
  unfold M_image C_X11_image
  rw [px_go hX (by decide), px_go hX (by decide), e1, bv_some]
  simp only [gd_true, nm_eq]
  generalize hS : mm_sI (mm_sI (mm_sI (mm_sI (mm_sI (mm_sI (mm_sI (mm_sI (mm_sI sm 38 1) 39 (mm_I (mm_sI sm 38 1) 9)) 40 (mm_I (mm_sI (mm_sI sm 38 1) 39 (mm_I (mm_sI sm 38 1) 9)) 0)) 41 _) 42 _) 43 _) 44 _) 45 _) 46 _ = S0
  have I38 : mm_I S0 38 = 1 := by rw [← hS]; rfl
  have Im : ∀ k, k = 0 ∨ k = 1 ∨ k = 2 ∨ k = 3 ∨ k = 29 ∨ k = 31 ∨ k = 32 ∨ k = 9 → mm_I S0 (im_I k) = mm_I sm k := fun k hk => by
    rw [← hS]
    rcases hk with rfl | rfl | rfl | rfl | rfl | rfl | rfl | rfl <;> rfl
  have Io : ∀ k, k < 38 ∨ 46 < k → mm_I S0 k = mm_I sm k := fun k hk => by
    rw [← hS]
    simp only [mI_sI]
    repeat rw [if_neg (by omega)]
  have IG : ∀ k j, mm_G S0 k j = mm_G sm k j := fun k j => by rw [← hS]; rfl
  have IL : ∀ k j, mm_L S0 k j = mm_L sm k j := fun k j => by rw [← hS]; rfl
  clear hS
  obtain ⟨⟨r, s⟩, e2, s6, c6, s24, c24, s5, c5, c8, hr⟩ := im_71 hfu S0
  obtain ⟨g1, g2, g3, p4, p5, p6, p7, p33, p34, p35, p30, p36, p37⟩ := image_cp c6 c24 c5 c8
  have hr : r = mm_I sm 0 := by
    have hr : r = mm_I s5 0 := hr
    rw [hr, c5.1, c24.1, c6.1]
    exact Io 0 (by omega)
  have g1 : ∀ k, mm_I s k = mm_I S0 k := g1
  have g2 : ∀ k j, mm_L s k j = mm_L S0 k j := g2
  have g3 : ∀ k j, k < 47 ∨ 56 < k → mm_G s k j = mm_G S0 k j := g3
  have sI : ∀ k, k < 38 ∨ 46 < k → mm_I s k = mm_I sm k := fun k hk => (g1 k).trans (Io k hk)
  have sG : ∀ k, k < 47 ∨ 56 < k → mm_G s k = mm_G sm k := fun k hk => funext fun j => (g3 k j hk).trans (IG k j)
  have hm : Ar sm s := fun k j h1 h2 => by rw [sG k (by omega)]
  have hc : Hi sc (cc_sI sc1 0 7 1) := fun y hy => ⟨fun k => by rw [cI_sI, if_neg (by omega)]; exact (Bo y (by omega)).1 k, fun k j => (Bo y (by omega)).2.1 k j⟩
  have c2I : ∀ k, cc_I (cc_sI sc1 0 7 1) 2 k = cc_I sc1 2 k := fun k => by rw [cI_sI, if_neg (by omega)]
  have cI' : ∀ i k, i ≠ 2 → ¬ (i = 0 ∧ k = 7) → cc_I (cc_sI sc1 0 7 1) i k = cc_I sc i k := fun i k hi hik => by rw [cI_sI, if_neg hik]; exact (Bo i hi).1 k
  rw [e2]
  refine ⟨r, s, cc_sI sc1 0 7 1, rfl, ?_, hX, A, ?_, Or.inr ⟨(g1 38).trans I38, ?_⟩, ⟨?_, ?_, ?_, ?_, ?_, ?_⟩, fun t ht => ?_⟩
  · rw [c2I 9, BI 9 (by omega) (by omega), h1.1.1, hr]
  · exact PS_cong hm hc (fun k => cI' 1 k (by decide) (by omega)) (fun k j => (Bo 1 (by decide)).2.1 k j) (fun k j => (Bo 1 (by decide)).2.2 k j) (fun k hk => sI k (by omega)) (fun k hk => sG k (by omega)) h1
  · exact PS_copy (o := 1) hm hc (fun k a b => (c2I k).trans (BI k a b)) BP0 BP B1 B2 B3 B4 B5 B6 B7 B8 (fun k hk => (g1 _).trans (Im k hk)) (fun j hj => (p4 j hj).trans (IG 4 j)) (fun j hj => (p5 j hj).trans (IG 5 j)) (fun j hj => (p6 j hj).trans (IG 6 j)) (fun j hj => (p7 j hj).trans (IG 7 j)) (fun j hj => (p30 j hj).trans (IG 30 j)) (fun j hj => (p33 j hj).trans (IG 33 j)) (fun j hj => (p34 j hj).trans (IG 34 j)) (fun j hj => (p35 j hj).trans (IG 35 j)) (fun j hj => (p36 j hj).trans (IG 36 j)) (fun j hj => (p37 j hj).trans (IG 37 j)) h1
  · rw [sI 8 (by omega), cI' 0 6 (by decide) (by omega)]
    exact m1
  · rw [sI 10 (by omega), sG 13 (by omega), cI' 40 3 (by decide) (by omega), cI' 40 1 (by decide) (by omega)]
    exact m2
  · exact ((g1 38).trans I38).symm
  · rw [sI 57 (by omega)]
    obtain ⟨q, q1, q2, q3⟩ := m4
    exact ⟨q, q1, q2, ((Bo 0 (by decide)).2.1 5 0).trans q3⟩
  · intro k hk
    rw [sG 58 (by omega)]
    exact ((Bo 0 (by decide)).2.1 5 _).trans (m5 k hk)
  · rw [sG 24 (by omega)]
    exact ⟨m6.1, fun d hd => (BJ 3 200 d).trans (m6.2 d hd)⟩
  · obtain ⟨b1, b2, b3, b4, b5⟩ := h4 t ht
    refine ⟨((Bo 0 (by decide)).2.2 3 t).trans b1, ?_, ?_, fun k hk => ?_, ?_⟩
    · rw [cI' _ _ (by omega) (by omega), sG 59 (by omega)]; exact b2
    · rw [cI' _ _ (by omega) (by omega), sG 60 (by omega)]; exact b3
    · rw [(g2 61 _).trans (IL 61 _)]
      exact (BJ _ _ _).trans (b4 k hk)
    · rw [sG 59 (by omega), sG 60 (by omega)]; exact b5
theorem q_undo {X : cc_X} {T : Nat → Nat} {sm : mm_S} {sc : cc_S} {fu : Nat} (hfu : 700 < fu) (h : Rel X T sm sc) : Eq2 X T (M_undo fu sm) (C_X11_undo X fu 0 sc) := by
  have h' := h
  obtain ⟨hX, A, h1, h2, ⟨m1, m2, m3, m4, m5, m6⟩, h4⟩ := h'
  unfold M_undo C_X11_undo
  rw [px_go hX (by decide), px_go hX (by decide), m3]
  simp only [gd_true, nm_eq]
  rcases h2 with h38 | ⟨h38, h2⟩
  · rw [h38, if_pos rfl, if_pos rfl]
    exact Eq2_same h rfl rfl
  rw [h38, if_neg n10, if_neg n10]
  have hy := h2.2.2.1
  obtain ⟨nn, hnn, hn0, hnk, hyy⟩ := hy
  obtain ⟨sc1, e1, hB⟩ := h_becomeS (o := 2) (d := 1) hfu hX (Or.inr ⟨rfl, rfl⟩) hyy
  obtain ⟨Bo, BJ, BI, BP0, BP, B1, B2, B3, B4, B5, B6, B7, B8⟩ := hB
  rw [e1, bv_some]
  generalize hS : mm_sI (mm_sI (mm_sI (mm_sI (mm_sI (mm_sI (mm_sI (mm_sI sm 9 (mm_I sm 39)) 0 (mm_I (mm_sI sm 9 (mm_I sm 39)) 40)) 1 _) 2 _) 3 _) 29 _) 31 _) 32 _ = S0
  have Im : ∀ k, k = 0 ∨ k = 1 ∨ k = 2 ∨ k = 3 ∨ k = 29 ∨ k = 31 ∨ k = 32 ∨ k = 9 → mm_I S0 k = mm_I sm (im_I k) := fun k hk => by
    rw [← hS]
    rcases hk with rfl | rfl | rfl | rfl | rfl | rfl | rfl | rfl <;> rfl
  have Io : ∀ k, 33 ≤ k ∨ k = 8 ∨ k = 10 → mm_I S0 k = mm_I sm k := fun k hk => by
    rw [← hS]
    simp only [mI_sI]
    repeat rw [if_neg (by omega)]
  have IG : ∀ k j, mm_G S0 k j = mm_G sm k j := fun k j => by rw [← hS]; rfl
  have IL : ∀ k j, mm_L S0 k j = mm_L sm k j := fun k j => by rw [← hS]; rfl
  clear hS
  obtain ⟨⟨r, s⟩, e2, s6, c6, s24, c24, s5, c5, c8, hr⟩ := un_76 hfu S0
  obtain ⟨g1, g2, g3, p4, p5, p6, p7, p33, p34, p35, p30, p36, p37⟩ := undo_cp c6 c24 c5 c8
  have hr : r = mm_I S0 0 := by
    have hr : r = mm_I s5 0 := hr
    rw [hr, c5.1, c24.1, c6.1]
  have g1 : ∀ k, mm_I s k = mm_I S0 k := g1
  have g2 : ∀ k j, mm_L s k j = mm_L S0 k j := g2
  have g3 : ∀ k j, 47 ≤ k ∨ k < 4 ∨ (8 ≤ k ∧ k < 30) ∨ k = 31 ∨ k = 32 ∨ 38 ≤ k → mm_G s k j = mm_G S0 k j := g3
  have sI : ∀ k, 33 ≤ k ∨ k = 8 ∨ k = 10 → mm_I s k = mm_I sm k := fun k hk => (g1 k).trans (Io k hk)
  have sG : ∀ k, 47 ≤ k ∨ (8 ≤ k ∧ k < 30) → mm_G s k = mm_G sm k := fun k hk => funext fun j => (g3 k j (by omega)).trans (IG k j)
  have hm : Ar sm s := fun k j h1 h2 => by rw [sG k (by omega)]
  have hc : Hi sc sc1 := fun y hy => ⟨fun k => (Bo y (by omega)).1 k, fun k j => (Bo y (by omega)).2.1 k j⟩
  rw [e2]
  refine ⟨r, s, sc1, rfl, ?_, hX, A, ?_, Or.inr ⟨(sI 38 (by omega)).trans h38, ?_⟩, ⟨?_, ?_, ?_, ?_, ?_, ?_⟩, fun t ht => ?_⟩
  · rw [BI 9 (by omega) (by omega), h2.1.1, hr, Im 0 (by simp)]
    rfl
  · exact PS_copy (o := 2) hm hc (fun k a b => BI k a b) BP0 BP B1 B2 B3 B4 B5 B6 B7 B8 (fun k hk => (g1 _).trans (Im k hk)) (fun j hj => (p4 j hj).trans (IG 47 j)) (fun j hj => (p5 j hj).trans (IG 48 j)) (fun j hj => (p6 j hj).trans (IG 49 j)) (fun j hj => (p7 j hj).trans (IG 50 j)) (fun j hj => (p30 j hj).trans (IG 51 j)) (fun j hj => (p33 j hj).trans (IG 52 j)) (fun j hj => (p34 j hj).trans (IG 53 j)) (fun j hj => (p35 j hj).trans (IG 54 j)) (fun j hj => (p36 j hj).trans (IG 55 j)) (fun j hj => (p37 j hj).trans (IG 56 j)) h2
  · exact PS_cong hm hc (fun k => (Bo 2 (by decide)).1 k) (fun k j => (Bo 2 (by decide)).2.1 k j) (fun k j => (Bo 2 (by decide)).2.2 k j) (fun k hk => sI _ (by have := im_Iv k hk; omega)) (fun k hk => sG _ (by have := im_Gv k hk; omega)) h2
  · rw [sI 8 (by omega), (Bo 0 (by decide)).1 6]
    exact m1
  · rw [sI 10 (by omega), sG 13 (by omega), (Bo 40 (by decide)).1 3, (Bo 40 (by decide)).1 1]
    exact m2
  · rw [sI 38 (by omega), (Bo 0 (by decide)).1 7]
    exact m3
  · rw [sI 57 (by omega)]
    obtain ⟨q, q1, q2, q3⟩ := m4
    exact ⟨q, q1, q2, ((Bo 0 (by decide)).2.1 5 0).trans q3⟩
  · intro k hk
    rw [sG 58 (by omega)]
    exact ((Bo 0 (by decide)).2.1 5 _).trans (m5 k hk)
  · rw [sG 24 (by omega)]
    exact ⟨m6.1, fun d hd => (BJ 3 200 d).trans (m6.2 d hd)⟩
  · obtain ⟨b1, b2, b3, b4, b5⟩ := h4 t ht
    refine ⟨((Bo 0 (by decide)).2.2 3 t).trans b1, ?_, ?_, fun k hk => ?_, ?_⟩
    · rw [(Bo _ (by omega)).1, sG 59 (by omega)]; exact b2
    · rw [(Bo _ (by omega)).1, sG 60 (by omega)]; exact b3
    · rw [(g2 61 _).trans (IL 61 _)]
      exact (BJ _ _ _).trans (b4 k hk)
    · rw [sG 59 (by omega), sG 60 (by omega)]; exact b5
