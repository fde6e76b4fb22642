/-! the clauses of a text -/
theorem kpf_cg {W N W' N' : Nat → Int32} : ∀ {n : Nat}, (∀ c, c < n → W' c = W c ∧ N' c = N c) → kpf W' N' n = kpf W N n
  | 0, _ => rfl
  | n + 1, h => by
    have e := kpf_cg (n := n) (fun c hc => h c (Nat.lt_succ_of_lt hc))
    obtain ⟨e1, e2⟩ := h n (Nat.lt_succ_self n)
    unfold kpf
    rw [e1, e2, e]
def Fa (a : Nat) (sm sm' : mm_S) : Prop := (∀ k, k ≠ 11 → k ≠ 12 → k ≠ 21 → k ≠ 22 → k ≠ 23 → mm_I sm' k = mm_I sm k) ∧ (∀ k j, k < 14 ∨ 20 < k → mm_G sm' k j = mm_G sm k j) ∧ (∀ j, j ≠ a → mm_G sm' 14 j = mm_G sm 14 j) ∧ (∀ k j, 15 ≤ k → k ≤ 18 → ¬ (10 * a ≤ j ∧ j < 10 * a + 10) → mm_G sm' k j = mm_G sm k j) ∧ (∀ j, ¬ (100 * a ≤ j ∧ j < 100 * a + 100) → mm_G sm' 19 j = mm_G sm 19 j) ∧ ∀ k j, mm_L sm' k j = mm_L sm k j
theorem Fa_tr {a : Nat} {x y z : mm_S} (h : Fa a x y) (h2 : Fa a y z) : Fa a x z := ⟨fun k a1 a2 a3 a4 a5 => (h2.1 k a1 a2 a3 a4 a5).trans (h.1 k a1 a2 a3 a4 a5), fun k j a1 => (h2.2.1 k j a1).trans (h.2.1 k j a1), fun j a1 => (h2.2.2.1 j a1).trans (h.2.2.1 j a1), fun k j a1 a2 a3 => (h2.2.2.2.1 k j a1 a2 a3).trans (h.2.2.2.1 k j a1 a2 a3), fun j hj => (h2.2.2.2.2.1 j hj).trans (h.2.2.2.2.1 j hj), fun k j => (h2.2.2.2.2.2 k j).trans (h.2.2.2.2.2 k j)⟩
theorem Fa_Gm {a n : Nat} {x y : mm_S} (hn : n < 10) (h : Gm a (10 * a + n) x y) : Fa a x y := ⟨h.1, fun k j hk => h.2.1 k j (by omega), fun j _ => h.2.1 14 j (by omega), fun k j h1 h2 h3 => h.2.2.1 k j h1 h2 (by omega), h.2.2.2.1, h.2.2.2.2⟩
theorem Fa_14 {a : Nat} {v : Int32} {x : mm_S} : Fa a x (mm_sG x 14 a v) := ⟨fun _ _ _ _ _ _ => rfl, fun k j hk => by rw [mG_sG, if_neg (by omega)], fun j hj => by rw [mG_sG, if_pos rfl, if_neg hj], fun k j h1 h2 _ => by rw [mG_sG, if_neg (by omega)], fun j _ => by rw [mG_sG, if_neg (by decide)], fun _ _ => rfl⟩
theorem Fa_11 {a : Nat} {v : Int32} {x : mm_S} : Fa a x (mm_sI x 11 v) := ⟨fun k a1 _ _ _ _ => by rw [mI_sI, if_neg a1], fun _ _ _ => rfl, fun _ _ => rfl, fun _ _ _ _ _ => rfl, fun _ _ => rfl, fun _ _ => rfl⟩
def CLd (a : Nat) (s : Nat → Nat) (sm st : mm_S) (c : Nat) : Prop :=
  (∃ w, w ≤ 2 ∧ mm_G sm 15 (10 * a + c) = nI w ∧ mm_G st 3 c = srt w ∧ (w ≠ 2 → mm_G sm 17 (10 * a + c) = nI (100 * a + s c) ∧ mm_G sm 18 (10 * a + c) = nI (100 * a + s (c + 1)) ∧ wfn 12 (mm_G sm 19) (100 * a + s c) (s (c + 1) - s c) 0 1)) ∧
  (∃ m, m < 100 ∧ mm_G sm 16 (10 * a + c) = nI m ∧ mm_G st 4 c = nI m) ∧ mm_G st 5 c = nI (s c) ∧ mm_G st 5 (c + 1) = nI (s (c + 1)) ∧ s c ≤ s (c + 1)
def CLs (a n : Nat) (s : Nat → Nat) (L : List Int32) (sm st : mm_S) : Prop := mm_I st 7 = nI n ∧ s n = L.length ∧ mm_G st 5 n = nI L.length ∧ mm_I st 9 = kpf (fun c => mm_G sm 15 (10 * a + c)) (fun c => mm_G sm 16 (10 * a + c)) n ∧ (∀ c, c < n → CLd a s sm st c) ∧ ∀ c, c ≤ n → s c ≤ L.length
section CZ
variable {z : pp_Z} {F a n fu : Nat} {T : Nat → Nat}
theorem cls_next (hn : n < 10) {s : Nat → Nat} {L X : List Int32} {sm st sm' st' : mm_S} {w m : Nat} (hw : w ≤ 2) (hm : m < 100) (h : CLs a n s L sm st) (hS : SGs a sm L) (hS' : SGs a sm' (L ++ X)) (hG : Gm a (10 * a + n) sm sm') (hH : Hc n st st') (hX : CLn a n w m L X sm' st st') : CLs a (n + 1) (fun c => if c ≤ n then s c else (L ++ X).length) (L ++ X) sm' st' := by
  obtain ⟨h7, hs, h5, h9, hc, hle⟩ := h
  obtain ⟨⟨x15, x3, x16, x4⟩, x7, x5, x9, xw⟩ := hX
  have hlen : L.length ≤ (L ++ X).length := by
    rw [List.length_append]
    omega
  have e5 : mm_G st' 5 n = nI L.length := by
    rw [hH.2 5 n (by decide) (fun q => absurd q.1 (by decide)) (fun q => absurd q.1 (by decide)) (fun q => absurd q.2 (by omega))]
    exact h5
  refine ⟨x7, if_neg (by omega), x5, ?_, fun c hcn => ?_, fun c hcn => ?_⟩
  · rw [x9]
    show _ = (if mm_G sm' 15 (10 * a + n) = 2 then mm_G sm' 16 (10 * a + n) else kpf _ _ n)
    rw [x15, x16]
    by_cases e : w = 2
    · rw [if_pos e, if_pos ((nw_2 hw).mpr e)]
    · rw [if_neg e, if_neg (fun q => e ((nw_2 hw).mp q)), h9]
      exact (kpf_cg (fun c hc => ⟨hG.2.2.1 15 _ (by decide) (by decide) (by omega), hG.2.2.1 16 _ (by decide) (by decide) (by omega)⟩)).symm
  · by_cases e : c = n
    · subst e
      refine ⟨⟨w, hw, x15, x3, fun hw2 => ?_⟩, ⟨m, hm, x16, x4⟩, ?_, ?_, ?_⟩
      · obtain ⟨y17, y18, yh⟩ := xw hw2
        show mm_G sm' 17 _ = nI (100 * a + if c ≤ c then s c else _) ∧ mm_G sm' 18 _ = nI (100 * a + if c + 1 ≤ c then _ else _) ∧ wfn 12 _ (100 * a + if c ≤ c then s c else _) ((if c + 1 ≤ c then _ else _) - if c ≤ c then s c else _) 0 1
        rw [if_pos (Nat.le_refl c), if_neg (by omega), hs]
        refine ⟨y17, y18, ?_⟩
        have e1 : (L ++ X).length - L.length = X.length := by
          rw [List.length_append]
          omega
        rw [e1]
        refine wl_wfn (yh 12 0 (by decide)) (fun j hj => ?_)
        have e2 := hS'.2 (L.length + j) (by rw [List.length_append]; omega)
        rw [Nat.add_assoc, e2, List.getD_eq_getElem?_getD, List.getElem?_append_right (by omega), Nat.add_sub_cancel_left, ← List.getD_eq_getElem?_getD]
      · show _ = nI (if c ≤ c then s c else _)
        rw [if_pos (Nat.le_refl c), hs]
        exact e5
      · show _ = nI (if c + 1 ≤ c then _ else _)
        rw [if_neg (by omega)]
        exact x5
      · show (if c ≤ c then s c else _) ≤ if c + 1 ≤ c then _ else _
        rw [if_pos (Nat.le_refl c), if_neg (by omega), hs]
        exact hlen
    · obtain ⟨⟨w', hw', a1, a2, a3⟩, ⟨m', hm', a4, a5⟩, a6, a7, a8⟩ := hc c (by omega)
      refine ⟨⟨w', hw', ?_, ?_, fun hw2 => ?_⟩, ⟨m', hm', ?_, ?_⟩, ?_, ?_, ?_⟩
      · rw [hG.2.2.1 15 _ (by decide) (by decide) (by omega)]
        exact a1
      · rw [hH.2 3 c (by decide) (by omega) (by omega) (by omega)]
        exact a2
      · obtain ⟨b1, b2, b3⟩ := a3 hw2
        show mm_G sm' 17 _ = nI (100 * a + if c ≤ n then s c else _) ∧ mm_G sm' 18 _ = nI (100 * a + if c + 1 ≤ n then s (c + 1) else _) ∧ wfn 12 _ (100 * a + if c ≤ n then s c else _) ((if c + 1 ≤ n then s (c + 1) else _) - if c ≤ n then s c else _) 0 1
        rw [if_pos (show c ≤ n by omega), if_pos (show c + 1 ≤ n by omega), hG.2.2.1 17 _ (by decide) (by decide) (by omega), hG.2.2.1 18 _ (by decide) (by decide) (by omega)]
        refine ⟨b1, b2, wfn_cg b3 (fun j h1 h2 => ?_)⟩
        have hl1 := hle (c + 1) (by omega)
        obtain ⟨q, rfl⟩ : ∃ q, j = 100 * a + q := ⟨j - 100 * a, by omega⟩
        rw [hS.2 q (by omega), hS'.2 q (by omega), List.getD_eq_getElem?_getD, List.getElem?_append_left (by omega), ← List.getD_eq_getElem?_getD]
      · rw [hG.2.2.1 16 _ (by decide) (by decide) (by omega)]
        exact a4
      · rw [hH.2 4 c (by decide) (by omega) (by omega) (by omega)]
        exact a5
      · show _ = nI (if c ≤ n then s c else _)
        rw [if_pos (show c ≤ n by omega), hH.2 5 c (by decide) (by omega) (by omega) (by omega)]
        exact a6
      · show _ = nI (if c + 1 ≤ n then s (c + 1) else _)
        rw [if_pos (show c + 1 ≤ n by omega), hH.2 5 (c + 1) (by decide) (by omega) (by omega) (by omega)]
        exact a7
      · show (if c ≤ n then s c else _) ≤ if c + 1 ≤ n then s (c + 1) else _
        rw [if_pos (show c ≤ n by omega), if_pos (show c + 1 ≤ n by omega)]
        exact a8
  · show (if c ≤ n then s c else _) ≤ _
    by_cases e : c ≤ n
    · rw [if_pos e]
      exact Nat.le_trans (hle c e) hlen
    · rw [if_neg e]
      exact Nat.le_refl _
/-- what reading a text comes to, both sides -/
def GoT (F a : Nat) (x y : Option (Int32 × mm_S)) (sm : mm_S) : Prop :=
  (∃ p' st' sm', x = some (0, st') ∧ mm_I st' 2 = nI p' ∧ p' ≤ F ∧ y = some (0, sm') ∧ mm_I sm' 11 = nI p' ∧ Fa a sm sm') ∨
  (∃ st' sm' N s L, N ≤ 10 ∧ x = some (1, st') ∧ y = some (1, sm') ∧ Fa a sm sm' ∧ mm_G sm' 14 a = nI N ∧ CLs a N s L sm' st' ∧ L.length ≤ 100 ∧ SGs a sm' L ∧ CGs st' L)
theorem p_clauses (hfu : 700 < fu) (ha : a < 6) (hz : zOK z F T) : ∀ (m n f g p : Nat) (s : Nat → Nat) (L : List Int32) (st sm : mm_S), n + m = 9 → m < f → m < g → Rd F T sm p → SGs a sm L → CS st p L → CLs a n s L sm st → (∀ k, k < 13 → mm_G sm 24 k = nI (lts.getD k 0)) → p ≤ F → L.length ≤ p →
    GoT F a (P_X0_takesClauses_b2 z fu f (nI n) st) (M_goesText_b15 fu g (nI a) (nI n) sm) sm := by
  have hF : F ≤ 100 := hz.2.2.1
  intro m
  induction m with
  | zero =>
    intro n f g p s L st sm hm hf hg hR hS hC hc h24 hp hl
    obtain ⟨f, rfl⟩ : ∃ q, f = q + 1 := ⟨f - 1, by omega⟩
    obtain ⟨g, rfl⟩ : ∃ q, g = q + 1 := ⟨g - 1, by omega⟩
    obtain rfl : n = 9 := by omega
    rw [show P_X0_takesClauses_b2 z fu (f + 1) (nI 9) st = P_X0_takesClauses_b2F z fu (fun a b => P_X0_takesClauses_b2 z fu f a b) (nI 9) st from rfl, show M_goesText_b15 fu (g + 1) (nI a) (nI 9) sm = M_goesText_b15F fu (fun a b c => M_goesText_b15 fu g a b c) (nI a) (nI 9) sm from rfl]
    unfold P_X0_takesClauses_b2F M_goesText_b15F
    rw [if_neg (show ¬ (10 : Int32) ≤ nI 9 by decide), show (10 : Int32) * nI a + nI 9 = nI (10 * a + 9) from by rw [show (10 : Int32) = nI 10 from rfl, nI_mul, nI_add]]
    rcases p_clause (n := 9) hfu ha (by decide) hz hR hS hC hc.1 h24 hp hl with ⟨q1, q2, q3, b1, b2, b3, b4, b5, b6⟩ | ⟨q1, q2, q3, X, w, mv, hw2, hmv, b1, b2, b3, b4, b5, b6, b7, b8, b9, b10⟩
    · rw [b1, b4, bn_some, bn_some, if_pos rfl, if_pos rfl]
      exact Or.inl ⟨q1, q2, q3, rfl, b2, b3, rfl, b5, Fa_Gm (by decide) b6⟩
    · have hc' := cls_next (by decide) hw2 hmv hc hS b5 b8 b9 b10
      rw [b1, b2, bn_some, bn_some, if_neg n10, if_neg n10, e_len, bv_some, hz.1, nI_1, nm_eq, nI_ix (a := a) (by omega) (by decide), gd_true, nI_clamp (by omega), nm_eq, b3.1]
      have r11 : mm_I (mm_sG q3 14 a (nI (9 + 1))) 11 = nI q1 := b4.1
      have r10 : mm_I (mm_sG q3 14 a (nI (9 + 1))) 10 = nI F := b4.2.1
      rw [r11, r10]
      by_cases e : q1 = F
      · rw [if_pos (by rw [e]), if_pos (by rw [e])]
        refine Or.inr ⟨q2, mm_sG q3 14 a (nI (9 + 1)), 9 + 1, (fun c => if c ≤ 9 then s c else (L ++ X).length), L ++ X, by decide, rfl, rfl, Fa_tr (Fa_Gm (by decide) b8) Fa_14, by rw [mG_sG, if_pos rfl, if_pos rfl], ?_, by omega, ⟨b5.1, fun j hj => by rw [mG_sG, if_neg (by decide)]; exact b5.2 j hj⟩, b3.2⟩
        exact hc'
      · have hne : ¬ nI q1 = nI F := fun q => e ((nI_eq_iff (by omega) (by omega)).mp q)
        rw [if_neg hne, if_neg hne, if_pos (show nI 9 = 9 from rfl), if_pos (show nI (9 + 1) = 10 from rfl)]
        exact Or.inl ⟨q1, q2, _, rfl, b3.1, b6, rfl, r11, Fa_tr (Fa_Gm (by decide) b8) Fa_14⟩
  | succ m ih =>
    intro n f g p s L st sm hm hf hg hR hS hC hc h24 hp hl
    obtain ⟨f, rfl⟩ : ∃ q, f = q + 1 := ⟨f - 1, by omega⟩
    obtain ⟨g, rfl⟩ : ∃ q, g = q + 1 := ⟨g - 1, by omega⟩
    have hn9 : n < 9 := by omega
    rw [show P_X0_takesClauses_b2 z fu (f + 1) (nI n) st = P_X0_takesClauses_b2F z fu (fun a b => P_X0_takesClauses_b2 z fu f a b) (nI n) st from rfl, show M_goesText_b15 fu (g + 1) (nI a) (nI n) sm = M_goesText_b15F fu (fun a b c => M_goesText_b15 fu g a b c) (nI a) (nI n) sm from rfl]
    unfold P_X0_takesClauses_b2F M_goesText_b15F
    rw [if_neg (show ¬ (10 : Int32) ≤ nI n from fun q => by have := (nI_le_iff (a := 10) (by omega) (by omega)).mp q; omega), show (10 : Int32) * nI a + nI n = nI (10 * a + n) from by rw [show (10 : Int32) = nI 10 from rfl, nI_mul, nI_add]]
    rcases p_clause (n := n) hfu ha (by omega) hz hR hS hC hc.1 h24 hp hl with ⟨q1, q2, q3, b1, b2, b3, b4, b5, b6⟩ | ⟨q1, q2, q3, X, w, mv, hw2, hmv, b1, b2, b3, b4, b5, b6, b7, b8, b9, b10⟩
    · rw [b1, b4, bn_some, bn_some, if_pos rfl, if_pos rfl]
      exact Or.inl ⟨q1, q2, q3, rfl, b2, b3, rfl, b5, Fa_Gm (by omega) b6⟩
    · have hc' := cls_next (by omega) hw2 hmv hc hS b5 b8 b9 b10
      rw [b1, b2, bn_some, bn_some, if_neg n10, if_neg n10, e_len, bv_some, hz.1, nI_1, nm_eq, nI_ix (a := a) (by omega) (by decide), gd_true, nI_clamp (by omega), nm_eq, b3.1]
      generalize hs4 : mm_sG q3 14 a (nI (n + 1)) = sm4
      have r4 : Rd F T sm4 q1 := by
        rw [← hs4]
        refine ⟨b4.1, b4.2.1, fun k hk => ?_⟩
        rw [mG_sG, if_neg (by decide)]
        exact b4.2.2 k hk
      have s4 : SGs a sm4 (L ++ X) := by
        rw [← hs4]
        exact ⟨b5.1, fun j hj => by rw [mG_sG, if_neg (by decide)]; exact b5.2 j hj⟩
      have f4 : Fa a sm sm4 := by
        rw [← hs4]
        exact Fa_tr (Fa_Gm (by omega) b8) Fa_14
      have c4 : CLs a (n + 1) (fun c => if c ≤ n then s c else (L ++ X).length) (L ++ X) sm4 q2 := by
        rw [← hs4]
        exact hc'
      have g14 : mm_G sm4 14 a = nI (n + 1) := by
        rw [← hs4, mG_sG, if_pos rfl, if_pos rfl]
      rw [r4.1, r4.2.1]
      by_cases e : q1 = F
      · rw [if_pos (by rw [e]), if_pos (by rw [e])]
        exact Or.inr ⟨q2, sm4, n + 1, (fun c => if c ≤ n then s c else (L ++ X).length), L ++ X, by omega, rfl, rfl, f4, g14, c4, by omega, s4, b3.2⟩
      · have hne : ¬ nI q1 = nI F := fun q => e ((nI_eq_iff (by omega) (by omega)).mp q)
        rw [if_neg hne, if_neg hne, if_neg (show ¬ nI n = 9 from fun q => by have := (nI_eq_iff (b := 9) (by omega) (by omega)).mp q; omega), if_neg (show ¬ nI (n + 1) = 10 from fun q => by have := (nI_eq_iff (b := 10) (by omega) (by omega)).mp q; omega), show (59 : Int32) = nI 59 from rfl, tk_i hz b3.1 b6 (by decide), m_takes r4 b6 hF]
        by_cases e2 : chv F T q1 = nI 59
        · have hlt := chv_lt hz (ch := 59) (by decide) e2
          rw [if_pos e2, if_pos e2, bn_some, bn_some, if_neg n10, if_neg n10]
          rcases ih (n + 1) f g (q1 + 1) (fun c => if c ≤ n then s c else (L ++ X).length) (L ++ X) (mm_sI q2 2 (nI (q1 + 1))) (mm_sI sm4 11 (nI (q1 + 1))) (by omega) (by omega) (by omega) (Rd_at r4 _) s4 (CS_2 b3) c4 (fun k hk => by
            show mm_G sm4 24 k = _
            rw [f4.2.1 24 k (by omega)]
            exact h24 k hk) (by omega) (by omega) with ⟨x1, x2, x3, y1, y2, y3, y4, y5, y6⟩ | ⟨x2, x3, N, s', L', y1, y2, y3, y4, y5, y6, y7, y8, y9⟩
          · exact Or.inl ⟨x1, x2, x3, y1, y2, y3, y4, y5, Fa_tr f4 (Fa_tr Fa_11 y6)⟩
          · exact Or.inr ⟨x2, x3, N, s', L', y1, y2, y3, Fa_tr f4 (Fa_tr Fa_11 y4), y5, y6, y7, y8, y9⟩
        · rw [if_neg e2, if_neg e2, bn_some, bn_some, if_pos rfl, if_pos rfl]
          exact Or.inl ⟨q1, q2, sm4, rfl, b3.1, b6, rfl, r4.1, f4⟩
end CZ
