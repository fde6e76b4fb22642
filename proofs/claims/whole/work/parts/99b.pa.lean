/-! archive -/
theorem q_archA {fu : Nat} {sm : mm_S} (h : mm_I sm 8 = nI 6) : M_archive fu sm = some (-4, sm) := by
  unfold M_archive
  rw [if_pos (show mm_I sm 8 = 6 from h)]
theorem Hi_P {a b : cc_S} {i k j : Nat} {v : Option Nat} (h : Hi a b) : Hi a (cc_sP b i k j v) := Hi_tr h (fun _ _ => ⟨fun _ => rfl, fun _ _ => rfl⟩)
theorem q_archB {X : cc_X} {T : Nat → Nat} {sm : mm_S} {sc : cc_S} {fu A n y : Nat} {zz : pp_Z} (hfu : 700 < fu) (h : Rel X T sm sc) (hA : mm_I sm 8 = nI A) (hA6 : A < 6) (hn : mm_I sm 10 = nI n) (hn1 : n ≤ 100) (hz : zOK zz n T) (hF : ex_F X sc y) :
    (∃ st1 sm', P_X0_takesClauses zz fu ar_st0 = some (0, st1) ∧ M_archive fu sm = some (-10 - mm_I st1 2, sm') ∧ ∀ v, Rel X T sm' (cc_sI (cc_sI sc 40 3 (nI 0)) 40 2 v)) ∨
    (∃ st1 sm', P_X0_takesClauses zz fu ar_st0 = some (1, st1) ∧ M_archive fu sm = some (nI A, sm') ∧ ∀ a ad v, Rel (ar_X X y a ad) T sm' (cc_sI (cc_sI (cc_sI (cc_sP (ar_S sc y (mm_sI st1 1 1)) 1 16 0 (some y)) 0 6 (nI A + 1)) 40 3 (nI 0)) 40 2 v)) := by
  have h0 := h
  obtain ⟨hX, A', h1, h2, ⟨⟨a1, a2, a3⟩, ⟨f, hf, b1, ⟨b2, b3⟩, b4⟩, c1, c2, c3, c4, c5⟩, h4⟩ := h
  obtain rfl : A' = A := (nI_eq_iff (by omega) (by omega)).mp (a2.symm.trans hA)
  obtain rfl : f = n := (nI_eq_iff (by omega) (by omega)).mp (b1.symm.trans hn)
  generalize hs1 : mm_sI (mm_sI sm 11 0) 21 (nI (100 * A')) = sm1
  have F1 : Fa A' sm sm1 := by
    rw [← hs1]
    exact ⟨fun k e1 e2 e3 e4 e5 => by rw [mI_sI, if_neg e3, mI_sI, if_neg e1], fun _ _ _ => rfl, fun _ _ => rfl, fun _ _ _ _ _ => rfl, fun _ _ => rfl, fun _ _ => rfl⟩
  have hRd : Rd f T sm1 0 := by
    rw [← hs1]
    exact ⟨rfl, b1, b4⟩
  have hSG : SGs A' sm1 [] := by
    rw [← hs1]
    exact ⟨rfl, fun j hj => absurd hj (Nat.not_lt_zero j)⟩
  have hCS : CS ar_st0 0 [] := ⟨rfl, rfl, fun j hj => absurd hj (Nat.not_lt_zero j)⟩
  have hCL : CLs A' 0 (fun _ => 0) [] sm1 ar_st0 := ⟨rfl, rfl, rfl, rfl, fun c hc => absurd hc (Nat.not_lt_zero c), fun _ _ => Nat.le_refl 0⟩
  have h24 : ∀ k, k < 13 → mm_G sm1 24 k = nI (lts.getD k 0) := fun k hk => by
    rw [F1.2.1 24 k (by omega)]
    exact c4 k hk
  have hG := p_clauses hfu hA6 hz 9 0 fu fu 0 (fun _ => 0) [] ar_st0 sm1 rfl (by omega) (by omega) hRd hSG hCS hCL h24 (Nat.zero_le _) (Nat.zero_le _)
  have eG : M_goesText fu (nI A') sm = M_goesText_b15 fu fu (nI A') (nI 0) sm1 := by
    unfold M_goesText
    simp only [nm_eq]
    rw [show (100 : Int32) * nI A' = nI (100 * A') from nI_mul 100 A', show mm_sI (mm_sI sm 11 0) 21 (nI (100 * A')) = sm1 from hs1]
    rfl
  have eM : M_archive fu sm = fc_bn (M_goesText_b15 fu fu (nI A') (nI 0) sm1) (fun r4 st2 => if r4 = 0 then some ((-10 : Int32) - mm_I (mm_sI st2 10 0) 11, mm_sI st2 10 0) else some (mm_I (mm_sI (mm_sI (mm_sI st2 10 0) 9 (mm_I (mm_sI st2 10 0) 8)) 8 (mm_I (mm_sI (mm_sI st2 10 0) 9 (mm_I (mm_sI st2 10 0) 8)) 8 + 1)) 9, mm_sI (mm_sI (mm_sI st2 10 0) 9 (mm_I (mm_sI st2 10 0) 8)) 8 (mm_I (mm_sI (mm_sI st2 10 0) 9 (mm_I (mm_sI st2 10 0) 8)) 8 + 1))) := by
    unfold M_archive
    rw [a2, if_neg (show ¬ nI A' = 6 from fun e => by have := (nI_eq_iff (b := 6) (by omega) (by omega)).mp e; omega), eG]
    rfl
  have cI : ∀ (st : cc_S) (v : Int32) (i k : Nat), i ≠ 40 → cc_I (cc_sI (cc_sI st 40 3 (nI 0)) 40 2 v) i k = cc_I st i k := fun st v i k hi => by rw [cI_sI, if_neg (fun e => hi e.1), cI_sI, if_neg (fun e => hi e.1)]
  rcases hG with ⟨p', st', sm2, e1, e2, e3, e4, e5, F2⟩ | ⟨st', sm2, N, s, L, hN, e1, e4, F2, g14, hC, hL, hS2, hC2⟩
  · have F3 := Fa_tr F1 F2
    refine Or.inl ⟨st', mm_sI sm2 10 0, e1, ?_, fun v => ?_⟩
    · rw [eM, e4, bn_some, if_pos rfl, show mm_I (mm_sI sm2 10 0) 11 = nI p' from e5, e2]
    · generalize hs3 : mm_sI sm2 10 0 = sm3
      have eI : ∀ k, k ≠ 10 → k ≠ 11 → k ≠ 12 → k ≠ 21 → k ≠ 22 → k ≠ 23 → mm_I sm3 k = mm_I sm k := fun k q1 q2 q3 q4 q5 q6 => by
        rw [← hs3, mI_sI, if_neg q1]
        exact F3.1 k q2 q3 q4 q5 q6
      have eGg : ∀ k j, k < 14 ∨ 20 < k → mm_G sm3 k j = mm_G sm k j := fun k j hk => by
        rw [← hs3]
        exact F3.2.1 k j hk
      have eL : ∀ k j, mm_L sm3 k j = mm_L sm k j := fun k j => by
        rw [← hs3]
        exact F3.2.2.2.2.2 k j
      have hHi : Hi sc (cc_sI (cc_sI sc 40 3 (nI 0)) 40 2 v) := Hi_I (Hi_I Hi_rf (by decide)) (by decide)
      have pa : ∀ o x, PA X sm sc A' o x → PA X sm3 (cc_sI (cc_sI sc 40 3 (nI 0)) 40 2 v) A' o x := fun o x hp => by
        have := PA_Fa F3 (by omega) (Nat.le_refl A') hp
        rw [← hs3]
        exact PA_mv (sm := sm2) (fun _ _ _ _ => rfl) hHi rfl this
      refine ⟨hX, A', PS_mw (by rw [eI 9 (by decide) (by decide) (by decide) (by decide) (by decide) (by decide)]; exact pa 1 _ h1.2.2.2.1) hHi (fun k => cI sc v 1 k (by decide)) (fun _ _ => rfl) (fun _ => rfl) (fun k hk => eI k (by omega) (by omega) (by omega) (by omega) (by omega) (by omega)) (fun k hk => funext fun j => eGg k j (by omega)) h1, ?_, ?_, fun t ht => ?_⟩
      · rw [eI 38 (by decide) (by decide) (by decide) (by decide) (by decide) (by decide)]
        rcases h2 with h2 | ⟨h2, h2'⟩
        · exact Or.inl h2
        · have ew := imI_w (sm := sm) (sm' := sm3) (fun k hk => eI k (by omega) (by omega) (by omega) (by omega) (by omega) (by omega))
          exact Or.inr ⟨h2, PS_mw (by rw [ew 9 (by omega)]; exact pa 2 _ h2'.2.2.2.1) hHi (fun k => cI sc v 2 k (by decide)) (fun _ _ => rfl) (fun _ => rfl) (fun k hk => ew k (by omega)) (imG_w (fun k j hk => eGg k j (by omega))) h2'⟩
      · refine ⟨⟨a1, by rw [eI 8 (by decide) (by decide) (by decide) (by decide) (by decide) (by decide)]; exact a2, (cI sc v 0 6 (by decide)).trans a3⟩, ⟨0, Nat.zero_le _, by rw [← hs3]; rfl, ⟨by rw [cI_sI, if_neg (by decide), cI_sI, if_pos ⟨rfl, rfl⟩], by rw [cI_sI, if_neg (by decide), cI_sI, if_neg (by decide)]; exact b3⟩, fun k hk => absurd hk (Nat.not_lt_zero k)⟩, by rw [eI 38 (by decide) (by decide) (by decide) (by decide) (by decide) (by decide)]; exact (cI sc v 0 7 (by decide)).trans c1, ?_, ?_, ?_, c5⟩
        · rw [eI 57 (by decide) (by decide) (by decide) (by decide) (by decide) (by decide)]
          exact c2
        · intro k hk
          rw [eGg 58 _ (by decide)]
          exact c3 k hk
        · intro k hk
          rw [eGg 24 _ (by decide)]
          exact c4 k hk
      · have := h4 t ht
        unfold Rt1 at this ⊢
        simp only [eGg 59 _ (by decide), eGg 60 _ (by decide), eL, cI sc v (4 + t) _ (show 4 + t ≠ 40 by omega)]
        exact this
  · have F3 := Fa_tr F1 F2
    have e8 : mm_I sm2 8 = nI A' := (F3.1 8 (by decide) (by decide) (by decide) (by decide) (by decide)).trans a2
    refine Or.inr ⟨st', mm_sI (mm_sI (mm_sI sm2 10 0) 9 (nI A')) 8 (nI (A' + 1)), e1, ?_, fun a ad v => ?_⟩
    · have q1 : mm_I (mm_sI sm2 10 0) 8 = nI A' := e8
      have q2 : mm_I (mm_sI (mm_sI sm2 10 0) 9 (nI A')) 8 = nI A' := e8
      rw [eM, e4, bn_some, if_neg n10, q1, q2, nI_1]
      rfl
    · generalize hs3 : mm_sI (mm_sI (mm_sI sm2 10 0) 9 (nI A')) 8 (nI (A' + 1)) = sm3
      have eI : ∀ k, k ≠ 8 → k ≠ 9 → k ≠ 10 → k ≠ 11 → k ≠ 12 → k ≠ 21 → k ≠ 22 → k ≠ 23 → mm_I sm3 k = mm_I sm k := fun k p1 p2 q1 q2 q3 q4 q5 q6 => by
        rw [← hs3, mI_sI, if_neg p1, mI_sI, if_neg p2, mI_sI, if_neg q1]
        exact F3.1 k q2 q3 q4 q5 q6
      have e9 : mm_I sm3 9 = nI A' := by rw [← hs3]; rfl
      have e8' : mm_I sm3 8 = nI (A' + 1) := by rw [← hs3]; rfl
      have eGg : ∀ k j, k < 14 ∨ 20 < k → mm_G sm3 k j = mm_G sm k j := fun k j hk => by
        rw [← hs3]
        exact F3.2.1 k j hk
      have eL : ∀ k j, mm_L sm3 k j = mm_L sm k j := fun k j => by
        rw [← hs3]
        exact F3.2.2.2.2.2 k j
      have h50 := hF.1
      generalize hst : ar_S sc y (mm_sI st' 1 1) = st
      have hRx : Rel (ar_X X y a ad) T sm st := by
        rw [← hst]
        exact Rel_ex hF h0
      generalize hsc : cc_sI (cc_sI (cc_sI (cc_sP st 1 16 0 (some y)) 0 6 (nI A' + 1)) 40 3 (nI 0)) 40 2 v = sc'
      have hHi : Hi st sc' := by
        rw [← hsc]
        exact Hi_I (Hi_I (Hi_I (Hi_P Hi_rf) (by decide)) (by decide)) (by decide)
      have xI : ∀ i k, i ≠ 40 → ¬ (i = 0 ∧ k = 6) → cc_I sc' i k = cc_I st i k := fun i k hi h6 => by
        rw [← hsc, cI _ v i k hi, cI_sI, if_neg h6]
        rfl
      have xI6 : cc_I sc' 0 6 = nI (A' + 1) := by
        rw [← hsc, cI _ v 0 6 (by decide), cI_sI, if_pos ⟨rfl, rfl⟩, nI_1]
      have xG : ∀ i k j, cc_G sc' i k j = cc_G st i k j := fun i k j => by rw [← hsc]; rfl
      have xJ : ∀ i k j, cc_J sc' i k j = cc_J st i k j := fun i k j => by rw [← hsc]; rfl
      have xP : ∀ i k j, ¬ (i = 1 ∧ k = 16) → cc_P sc' i k j = cc_P st i k j := fun i k j hi => by
        rw [← hsc]
        show (if i = 1 ∧ k = 16 then _ else st.2.2.2 i k) j = _
        rw [if_neg hi]
        rfl
      have xP16 : cc_P sc' 1 16 0 = some y := by
        rw [← hsc]
        show (if (1 : Nat) = 1 ∧ (16 : Nat) = 16 then va_up (st.2.2.2 1 16) 0 (some y) else st.2.2.2 1 16) 0 = _
        rw [if_pos ⟨rfl, rfl⟩]
        exact if_pos rfl
      have sI : ∀ k, cc_I st y k = mm_I (mm_sI st' 1 1) k := fun k => by rw [← hst]; exact if_pos rfl
      have sG : ∀ k j, cc_G st y k j = mm_G st' k j := fun k j => by
        rw [← hst]
        show (if y = y then mm_G (mm_sI st' 1 1) k else sc.2.1 y k) j = _
        rw [if_pos rfl]
        rfl
      have hAR : AR (ar_X X y a ad) sm3 sc' A' y := by
        obtain ⟨d7, ds, d5, d9, dc, dl⟩ := hC
        refine ⟨⟨h50, List.mem_append_right _ List.mem_cons_self, if_pos rfl, fun k hk => List.mem_append_right _ (List.mem_map.mpr ⟨k, hk, rfl⟩)⟩, N, s, hN, by rw [← hs3]; exact g14, by rw [xI y 7 (by omega) (by omega), sI]; exact d7, by rw [xI y 9 (by omega) (by omega), sI, ← hs3]; exact d9, fun cl hcl => ?_⟩
        obtain ⟨⟨w, hw, q1, q2, q3⟩, ⟨m', hm', q4, q5⟩, q6, q7, q8⟩ := dc cl hcl
        have hle := dl (cl + 1) (by omega)
        refine ⟨⟨w, hw, by rw [← hs3]; exact q1, by rw [xG, sG]; exact q2, fun hw2 => by rw [← hs3]; exact q3 hw2⟩, ⟨m', hm', by rw [← hs3]; exact q4, by rw [xG, sG]; exact q5⟩, by rw [xG, sG]; exact q6, by rw [xG, sG]; exact q7, q8, by omega, fun j hj1 hj2 => ?_⟩
        rw [xG, sG]
        have e19 : mm_G sm3 19 (100 * A' + j) = L.getD j 0 := by
          rw [← hs3]
          exact hS2.2 j (by omega)
        rw [e19]
        exact hC2.2 j (by omega)
      obtain ⟨hX', A2, k1, k2, ⟨⟨l1, l2, l3⟩, ⟨f2, hf2, m1, ⟨m2, m3⟩, m4⟩, n1, n2, n3, n4, n5⟩, k4⟩ := hRx
      obtain rfl : A2 = A' := (nI_eq_iff (by omega) (by omega)).mp (l2.symm.trans hA)
      refine ⟨hX', A2 + 1, PS_mw (by rw [e9]; exact ⟨Or.inr ⟨A2, y, hA6, rfl, xP16, hAR⟩, Or.inr ⟨A2, Nat.lt_succ_self _, rfl⟩⟩) hHi (fun k => xI 1 k (by decide) (by omega)) (fun k j => xG 1 k j) (fun j => xP 1 0 j (by decide)) (fun k hk => eI k (by omega) (by omega) (by omega) (by omega) (by omega) (by omega) (by omega) (by omega)) (fun k hk => funext fun j => eGg k j (by omega)) k1, ?_, ?_, fun t ht => ?_⟩
      · rw [eI 38 (by decide) (by decide) (by decide) (by decide) (by decide) (by decide) (by decide) (by decide)]
        rcases k2 with k2 | ⟨k2, k2'⟩
        · exact Or.inl k2
        · have ew : ∀ k, k < 4 ∨ k = 9 ∨ 29 ≤ k → imI sm3 k = imI sm k := fun k hk => by
            refine eI (im_I k) ?_ ?_ ?_ ?_ ?_ ?_ ?_ ?_ <;> (unfold im_I; repeat' split) <;> omega
          refine Or.inr ⟨k2, PS_mw ?_ hHi (fun k => xI 2 k (by decide) (by omega)) (fun k j => xG 2 k j) (fun j => xP 2 0 j (by decide)) (fun k hk => ew k (by omega)) (imG_w (fun k j hk => eGg k j (by omega))) k2'⟩
          rw [ew 9 (by omega)]
          have := PA_Fa F3 (by omega) (Nat.le_succ A2) k2'.2.2.2.1
          rw [← hs3]
          exact PA_mv (sm := sm2) (fun _ _ _ _ => rfl) hHi (xP 2 16 0 (by decide)) this
      · refine ⟨⟨by omega, e8', xI6⟩, ⟨0, Nat.zero_le _, by rw [← hs3]; rfl, ⟨by rw [← hsc, cI_sI, if_neg (by decide), cI_sI, if_pos ⟨rfl, rfl⟩], by rw [← hsc, cI_sI, if_neg (by decide), cI_sI, if_neg (by decide), cI_sI, if_neg (by decide)]; exact m3⟩, fun k hk => absurd hk (Nat.not_lt_zero k)⟩, by rw [eI 38 (by decide) (by decide) (by decide) (by decide) (by decide) (by decide) (by decide) (by decide), xI 0 7 (by decide) (by decide)]; exact n1, ?_, ?_, ?_, ?_⟩
        · rw [eI 57 (by decide) (by decide) (by decide) (by decide) (by decide) (by decide) (by decide) (by decide), xG]
          exact n2
        · intro k hk
          rw [eGg 58 _ (by decide), xG]
          exact n3 k hk
        · intro k hk
          rw [eGg 24 _ (by decide)]
          exact n4 k hk
        · intro d hd
          rw [xJ]
          exact n5 d hd
      · have := k4 t ht
        unfold Rt1 at this ⊢
        simp only [eGg 59 _ (by decide), eGg 60 _ (by decide), eL, xI (4 + t) 1 (show 4 + t ≠ 40 by omega) (fun e => by omega), xI (4 + t) 2 (show 4 + t ≠ 40 by omega) (fun e => by omega), xJ, xP 0 3 t (by decide)]
        exact this
