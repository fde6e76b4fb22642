/-! a clause whole -/
def Hc (n : Nat) (st st' : mm_S) : Prop := (∀ k, k ≠ 2 → k ≠ 7 → k ≠ 8 → k ≠ 9 → mm_I st' k = mm_I st k) ∧ ∀ k j, k ≠ 6 → ¬ (k = 3 ∧ j = n) → ¬ (k = 4 ∧ j = n) → ¬ (k = 5 ∧ j = n + 1) → mm_G st' k j = mm_G st k j
def CLn (a n w m : Nat) (L X : List Int32) (sm' st st' : mm_S) : Prop := (mm_G sm' 15 (10 * a + n) = nI w ∧ mm_G st' 3 n = srt w ∧ mm_G sm' 16 (10 * a + n) = nI m ∧ mm_G st' 4 n = nI m) ∧ mm_I st' 7 = nI (n + 1) ∧ mm_G st' 5 (n + 1) = nI (L ++ X).length ∧ mm_I st' 9 = (if w = 2 then nI m else mm_I st 9) ∧ (w ≠ 2 → mm_G sm' 17 (10 * a + n) = nI (100 * a + L.length) ∧ mm_G sm' 18 (10 * a + n) = nI (100 * a + (L ++ X).length) ∧ HW X 11)
section CX
variable {z : pp_Z} {F a n fu : Nat} {T : Nat → Nat}
theorem word_no (hfu : 700 < fu) (hz : zOK z F T) {i u v p : Nat} {st : mm_S} (hw : wdk i u v) (h2 : mm_I st 2 = nI p) (hp : p ≤ F) (hne : chv F T p ≠ nI ((zl i).getD 0 0)) : P_X0_takesWord z fu i st = some (0, st) := by
  obtain ⟨w1, w2, w3, w4⟩ := wdk_z hw
  have hv : v ≤ 5 ∧ 1 ≤ v := by rcases hw with h | h | h <;> omega
  have hi6 : i < 6 := by rcases hw with h | h | h <;> omega
  have hi1 : 1 ≤ i := by rcases hw with h | h | h <;> omega
  obtain ⟨z1, z2⟩ := hz.2.2.2 i hi1 (by omega)
  obtain ⟨f, rfl⟩ : ∃ f, fu = f + 1 := ⟨fu - 1, by omega⟩
  show P_X0_takesWord_b2F z (f + 1) (fun a b s => P_X0_takesWord_b2 z (f + 1) f a b s) i (nI 0) st = _
  unfold P_X0_takesWord_b2F
  rw [decide_eq_true hi6, gd_true, e_len, bv_some, z1, w1, if_neg (show ¬ nI (v + 1) ≤ nI 0 from fun q => by have := (nI_le_iff (by omega) (by omega)).mp q; omega), gd_true, e_charAt (show 0 < v + 1 by omega) (by omega) (by rw [z2 0 (by omega)]; exact (w4 0 (by omega)).2), bv_some, z2 0 (by omega), tk_i hz h2 hp (w4 0 (by omega)).2, if_neg hne, bn_some, if_pos rfl]
theorem wordM_no (hfu : 700 < fu) {i u v p : Nat} {sm : mm_S} (hw : wdk i u v) (hR : Rd F T sm p) (hl : ∀ k, k < 13 → mm_G sm 24 k = nI (lts.getD k 0)) (hp : p ≤ F) (hF : F ≤ 100) (hne : chv F T p ≠ nI ((zl i).getD 0 0)) : M_takesWord fu (nI u) (nI v) sm = some (0, sm) := by
  obtain ⟨w1, w2, w3, w4⟩ := wdk_z hw
  have hv : v ≤ 5 ∧ 1 ≤ v := by rcases hw with h | h | h <;> omega
  obtain ⟨f, rfl⟩ : ∃ f, fu = f + 1 := ⟨fu - 1, by omega⟩
  show M_takesWord_b2F (f + 1) (fun a b d s => M_takesWord_b2 (f + 1) f a b d s) (nI u) (nI v) (nI 0) sm = _
  unfold M_takesWord_b2F
  rw [if_neg (show ¬ nI v ≤ nI 0 from fun q => by have := (nI_le_iff (by omega) (by omega)).mp q; omega), nI_add, nI_ix (by omega) (by decide), gd_true, nI_clamp (by omega), hl (u + 0) (by omega), ← (w4 0 (by omega)).1, m_takes hR hp hF, if_neg hne, bn_some, if_pos rfl]
theorem e_b102 {st : mm_S} {q : Nat} {x y : Int32} (h7 : mm_I st 7 = nI n) (hn : n < 10) (h8 : mm_I st 8 = nI q) : P_X0_takesClause_b102 z fu x y st = some (1, mm_sG (mm_sI (mm_sG (mm_sG st 3 n x) 4 n y) 7 (nI (n + 1))) 5 (n + 1) (nI q)) := by
  unfold P_X0_takesClause_b102
  have e7 : mm_I (mm_sG st 3 n x) 7 = nI n := h7
  have e7' : mm_I (mm_sG (mm_sG st 3 n x) 4 n y) 7 = nI n := h7
  have e8 : mm_I (mm_sI (mm_sG (mm_sG st 3 n x) 4 n y) 7 (nI (n + 1))) 8 = nI q := h8
  have e9 : mm_I (mm_sI (mm_sG (mm_sG st 3 n x) 4 n y) 7 (nI (n + 1))) 7 = nI (n + 1) := rfl
  simp only [nm_eq]
  rw [h7, nI_ix hn (by decide), gd_true, nI_clamp (by omega), e7, nI_ix hn (by decide), gd_true, nI_clamp (by omega), e7', nI_1, e9, nI_ix (by omega) (by decide), gd_true, nI_clamp (by omega), e8]
theorem b102_k {st : mm_S} {x y v : Int32} {q : Nat} (hq : mm_I st 2 = nI q) {L : List Int32} (h : CGs st L) : CS (mm_sG (mm_sI (mm_sG (mm_sG st 3 n x) 4 n y) 7 (nI (n + 1))) 5 (n + 1) v) q L := ⟨hq, h.1, fun j hj => by
  rw [mG_sG, if_neg (by decide)]
  show cod _ (mm_G (mm_sG (mm_sG st 3 n x) 4 n y) 6 j)
  rw [mG_sG, if_neg (by decide), mG_sG, if_neg (by decide)]
  exact h.2 j hj⟩
theorem b102_H {st0 st : mm_S} {x y v : Int32} (h1 : ∀ k, k ≠ 2 → k ≠ 8 → k ≠ 9 → mm_I st k = mm_I st0 k) (h2 : ∀ k j, k ≠ 6 → mm_G st k j = mm_G st0 k j) : Hc n st0 (mm_sG (mm_sI (mm_sG (mm_sG st 3 n x) 4 n y) 7 (nI (n + 1))) 5 (n + 1) v) := ⟨fun k a b c d => by
  show mm_I (mm_sI (mm_sG (mm_sG st 3 n x) 4 n y) 7 (nI (n + 1))) k = _
  rw [mI_sI, if_neg b]
  exact h1 k a c d, fun k j a b c d => by
  have e1 : mm_G (mm_sG (mm_sI (mm_sG (mm_sG st 3 n x) 4 n y) 7 (nI (n + 1))) 5 (n + 1) v) k j = mm_G (mm_sG (mm_sG st 3 n x) 4 n y) k j := by
    rw [mG_sG]
    by_cases e : k = 5
    · subst e
      rw [if_pos rfl, if_neg (fun q => d ⟨rfl, q⟩)]
      rfl
    · rw [if_neg e]
      rfl
  have e2 : mm_G (mm_sG (mm_sG st 3 n x) 4 n y) k j = mm_G (mm_sG st 3 n x) k j := by
    rw [mG_sG]
    by_cases e : k = 4
    · subst e
      rw [if_pos rfl, if_neg (fun q => c ⟨rfl, q⟩)]
    · rw [if_neg e]
  have e3 : mm_G (mm_sG st 3 n x) k j = mm_G st k j := by
    rw [mG_sG]
    by_cases e : k = 3
    · subst e
      rw [if_pos rfl, if_neg (fun q => b ⟨rfl, q⟩)]
    · rw [if_neg e]
  rw [e1, e2, e3]
  exact h2 k j a⟩
theorem b102_G {st : mm_S} {x y v : Int32} : mm_G (mm_sG (mm_sI (mm_sG (mm_sG st 3 n x) 4 n y) 7 (nI (n + 1))) 5 (n + 1) v) 3 n = x ∧ mm_G (mm_sG (mm_sI (mm_sG (mm_sG st 3 n x) 4 n y) 7 (nI (n + 1))) 5 (n + 1) v) 4 n = y ∧ mm_G (mm_sG (mm_sI (mm_sG (mm_sG st 3 n x) 4 n y) 7 (nI (n + 1))) 5 (n + 1) v) 5 (n + 1) = v := by
  refine ⟨?_, ?_, ?_⟩
  · rw [mG_sG, if_neg (by decide)]
    show mm_G (mm_sG (mm_sG st 3 n x) 4 n y) 3 n = x
    rw [mG_sG, if_neg (by decide), mG_sG, if_pos rfl, if_pos rfl]
  · rw [mG_sG, if_neg (by decide)]
    show mm_G (mm_sG (mm_sG st 3 n x) 4 n y) 4 n = y
    rw [mG_sG, if_pos rfl, if_pos rfl]
  · rw [mG_sG, if_pos rfl, if_pos rfl]
theorem srt_2 {w : Nat} (hw : w ≤ 2) : srt w = 0 ↔ w = 2 := by
  have h : w = 0 ∨ w = 1 ∨ w = 2 := by omega
  rcases h with rfl | rfl | rfl <;> decide
theorem nw_2 {w : Nat} (hw : w ≤ 2) : nI w = 2 ↔ w = 2 := by
  have h : w = 0 ∨ w = 1 ∨ w = 2 := by omega
  rcases h with rfl | rfl | rfl <;> decide
theorem p_clause1 (hfu : 700 < fu) (ha : a < 6) (hn : n < 10) (hz : zOK z F T) {p w i u v : Nat} {L : List Int32} {st sm : mm_S} (hw : wdk i u v) (hw2 : w ≤ 2) (hR : Rd F T sm p) (hS : SGs a sm L) (hC : CS st p L) (h7 : mm_I st 7 = nI n) (h24 : ∀ k, k < 13 → mm_G sm 24 k = nI (lts.getD k 0)) (hp : p ≤ F) (hl : L.length ≤ p)
    (eP : P_X0_takesClause z fu st = P_X0_takesClause_b49 z fu (srt w) i st) (eM : M_takesHead fu (nI (10 * a + n)) sm = fc_bn (M_takesWord fu (nI u) (nI v) (mm_sG sm 15 (10 * a + n) (nI w))) (fun r s => fc_gd (fc_zb r) (some (r, s)))) :
    (∃ p' st' sm', P_X0_takesClause z fu st = some (0, st') ∧ mm_I st' 2 = nI p' ∧ p' ≤ F ∧ M_takesClause fu (nI (10 * a + n)) sm = some (0, sm') ∧ mm_I sm' 11 = nI p' ∧ Gm a (10 * a + n) sm sm') ∨
    (∃ p' st' sm' X w m, w ≤ 2 ∧ m < 100 ∧ P_X0_takesClause z fu st = some (1, st') ∧ M_takesClause fu (nI (10 * a + n)) sm = some (1, sm') ∧ CS st' p' (L ++ X) ∧ Rd F T sm' p' ∧ SGs a sm' (L ++ X) ∧ p' ≤ F ∧ (L ++ X).length ≤ p' ∧ Gm a (10 * a + n) sm sm' ∧ Hc n st st' ∧ CLn a n w m L X sm' st st') := by
  have hF : F ≤ 100 := hz.2.2.1
  have hc : 10 * a + n < 60 := by omega
  generalize hs1 : mm_sG sm 15 (10 * a + n) (nI w) = sm1 at eM
  have hR1 : Rd F T sm1 p := by
    rw [← hs1]
    refine ⟨hR.1, hR.2.1, fun k hk => ?_⟩
    rw [mG_sG, if_neg (by decide)]
    exact hR.2.2 k hk
  have h24' : ∀ k, k < 13 → mm_G sm1 24 k = nI (lts.getD k 0) := fun k hk => by
    rw [← hs1, mG_sG, if_neg (by decide)]
    exact h24 k hk
  have hS1 : SGs a sm1 L := ⟨by rw [← hs1]; exact hS.1, fun j hj => by
    rw [← hs1, mG_sG, if_neg (by decide)]
    exact hS.2 j hj⟩
  have hG1 : Gm a (10 * a + n) sm sm1 := by
    rw [← hs1]
    exact Gm_G (by decide)
  have h15 : mm_G sm1 15 (10 * a + n) = nI w := by
    rw [← hs1, mG_sG, if_pos rfl, if_pos rfl]
  obtain ⟨b, p1, st1, sm2, hb, c1, m1, i1, t1, r1, k1, l1, l2⟩ := h_word hfu hz hw hC.1 hR1 h24' hp
  rw [eP]
  unfold P_X0_takesClause_b49 M_takesClause
  rw [c1, bn_some, eM, m1, bn_some]
  rcases hb with rfl | rfl
  · rw [if_pos rfl, show fc_zb (0 : Int32) = true by decide, gd_true, bn_some, if_pos rfl]
    exact Or.inl ⟨p1, st1, sm2, rfl, i1, l2, rfl, r1.1, Gm_tr hG1 (Gm_Tk k1)⟩
  rw [if_neg n10, show fc_zb (1 : Int32) = true by decide, gd_true, bn_some, if_neg n10]
  have hN := m_number (fu := fu) hfu r1 l2 hF
  rw [k_number hfu hz i1 l2]
  by_cases hk : numk F T p1 = 0
  · rw [if_pos hk] at hN
    rw [if_pos hk, hN, bn_some, bn_some, if_pos rfl, if_neg (show ¬ (0 : Int32) ≤ -1 by decide)]
    exact Or.inl ⟨p1, st1, sm2, rfl, i1, l2, rfl, r1.1, Gm_tr hG1 (Gm_Tk k1)⟩
  rw [if_neg hk] at hN
  obtain ⟨sm3, m3, r3, e12, k3⟩ := hN
  have hm := numv_lt (p := p1) hk
  have hk2 := numk_le (T := T) l2
  generalize hp2 : p1 + numk F T p1 = p2 at hk2 r3 ⊢
  generalize hmv : numv T F p1 = mv at hm e12 ⊢
  rw [if_neg hk, bn_some, m3, bn_some, if_neg n10, nI_ix hc (by decide), gd_true, nI_clamp (by omega), e12]
  simp only [nm_eq]
  rw [if_pos (show (0 : Int32) ≤ nI mv from (nI_le_iff (a := 0) (by omega) (by omega)).mpr (by omega)), gd_true]
  generalize hs4 : mm_sG sm3 16 (10 * a + n) (nI mv) = sm4
  have hR4 : Rd F T sm4 p2 := by
    rw [← hs4]
    refine ⟨r3.1, r3.2.1, fun k hk => ?_⟩
    rw [mG_sG, if_neg (by decide)]
    exact r3.2.2 k hk
  have hS3 := Tk_SG k3 (Tk_SG k1 hS1)
  have hS4 : SGs a sm4 L := ⟨by rw [← hs4]; exact hS3.1, fun j hj => by
    rw [← hs4, mG_sG, if_neg (by decide)]
    exact hS3.2 j hj⟩
  have hG4 : Gm a (10 * a + n) sm sm4 := by
    refine Gm_tr hG1 (Gm_tr (Gm_Tk k1) (Gm_tr (Gm_Tk k3) ?_))
    rw [← hs4]
    exact Gm_G (by decide)
  have h154 : mm_G sm4 15 (10 * a + n) = nI w := by
    rw [← hs4, mG_sG, if_neg (by decide), k3.2.1, k1.2.1]
    exact h15
  have h164 : mm_G sm4 16 (10 * a + n) = nI mv := by
    rw [← hs4, mG_sG, if_pos rfl, if_pos rfl]
  rw [h154]
  generalize hs2 : mm_sI st1 2 (nI p2) = st2
  have hT2 : Tc st st2 := by
    rw [← hs2]
    exact Tc_tr t1 Tc_2
  have hC2 : CS st2 p2 L := ⟨by rw [← hs2]; rfl, Tc_CG hT2 hC.2⟩
  by_cases hw' : w = 2
  · rw [if_pos ((nw_2 hw2).mpr hw'), if_pos ((srt_2 hw2).mpr hw')]
    have e7 : mm_I (mm_sI st2 9 (nI mv)) 7 = nI n := by
      rw [mI_sI, if_neg (by decide), hT2.1 7 (by decide)]
      exact h7
    have e8 : mm_I (mm_sI st2 9 (nI mv)) 8 = nI L.length := by
      rw [mI_sI, if_neg (by decide)]
      exact hC2.2.1
    rw [e_b102 e7 hn e8]
    refine Or.inr ⟨p2, _, sm4, [], w, mv, hw2, hm, rfl, rfl, ?_, hR4, ?_, hk2, ?_, hG4, ?_, ?_⟩
    · rw [List.append_nil]
      exact b102_k (show mm_I (mm_sI st2 9 (nI mv)) 2 = nI p2 from by rw [mI_sI, if_neg (by decide)]; exact hC2.1) ⟨e8, hC2.2.2⟩
    · rw [List.append_nil]
      exact hS4
    · rw [List.append_nil]
      omega
    · exact b102_H (fun k a1 a2 a3 => by rw [mI_sI, if_neg a3]; exact hT2.1 k a1) (fun k j _ => hT2.2 k j)
    · refine ⟨⟨h154, b102_G.1, h164, b102_G.2.1⟩, rfl, ?_, ?_, fun e => absurd hw' e⟩
      · rw [List.append_nil]
        exact b102_G.2.2
      · rw [if_pos hw']
        rfl
  · rw [if_neg (fun e => hw' ((nw_2 hw2).mp e)), if_neg (fun e => hw' ((srt_2 hw2).mp e)), show (32 : Int32) = nI 32 from rfl, tk_i hz hC2.1 hk2 (by decide), m_takes hR4 hk2 hF]
    by_cases he : chv F T p2 = nI 32
    · have hlt := chv_lt hz (ch := 32) (by decide) he
      rw [if_pos he, if_pos he, bn_some, if_neg n10, bn_some, if_neg n10]
      have hC3 : CS (mm_sI st2 2 (nI (p2 + 1))) (p2 + 1) L := CS_2 hC2
      rcases p_cond (c := 10 * a + n) hfu ha hc hz (Rd_at hR4 (p2 + 1)) (show SGs a (mm_sI sm4 11 (nI (p2 + 1))) L from hS4) hC3 (by omega) (by omega) with ⟨q1, q2, q3, b1, b2, b3, b4, b5, b6, b7⟩ | ⟨q1, q2, q3, X, b1, b2, b3, b4, b5, b6, b7, b8, b9, b10, b11, b12, b13, b14⟩
      · rw [b1, b5, bn_some, if_pos rfl, bn_some, if_pos rfl]
        exact Or.inl ⟨q1, q2, q3, rfl, b2, b3, rfl, b6, Gm_tr hG4 (Gm_tr (Gm_I (by decide)) b7)⟩
      · rw [b1, b8, bn_some, if_neg n10, bn_some, if_neg n10]
        have e7 : mm_I q2 7 = nI n := by
          rw [b3.1 7 (by decide) (by decide), mI_sI, if_neg (by decide), hT2.1 7 (by decide)]
          exact h7
        rw [e_b102 e7 hn b2.2.1]
        refine Or.inr ⟨q1, _, q3, X, w, mv, hw2, hm, rfl, rfl, b102_k b2.1 b2.2, b9, b10, b6, b7, Gm_tr hG4 (Gm_tr (Gm_I (by decide)) b11), ?_, ?_⟩
        · exact b102_H (fun k a1 a2 a3 => by rw [b3.1 k a1 a2, mI_sI, if_neg a1]; exact hT2.1 k a1) (fun k j hk => (b3.2 k j hk).trans (hT2.2 k j))
        · refine ⟨⟨?_, b102_G.1, ?_, b102_G.2.1⟩, rfl, b102_G.2.2, ?_, fun _ => ⟨b12, b13, b4⟩⟩
          · rw [b14 15 _ (Or.inl rfl)]
            exact h154
          · rw [b14 16 _ (Or.inr rfl)]
            exact h164
          · rw [if_neg hw']
            show mm_I q2 9 = _
            rw [b3.1 9 (by decide) (by decide), mI_sI, if_neg (by decide), hT2.1 9 (by decide)]
    · rw [if_neg he, if_neg he, bn_some, if_pos rfl, bn_some, if_pos rfl]
      exact Or.inl ⟨p2, st2, sm4, rfl, hC2.1, hk2, rfl, hR4.1, hG4⟩
/-- a clause -/
theorem p_clause (hfu : 700 < fu) (ha : a < 6) (hn : n < 10) (hz : zOK z F T) {p : Nat} {L : List Int32} {st sm : mm_S} (hR : Rd F T sm p) (hS : SGs a sm L) (hC : CS st p L) (h7 : mm_I st 7 = nI n) (h24 : ∀ k, k < 13 → mm_G sm 24 k = nI (lts.getD k 0)) (hp : p ≤ F) (hl : L.length ≤ p) :
    (∃ p' st' sm', P_X0_takesClause z fu st = some (0, st') ∧ mm_I st' 2 = nI p' ∧ p' ≤ F ∧ M_takesClause fu (nI (10 * a + n)) sm = some (0, sm') ∧ mm_I sm' 11 = nI p' ∧ Gm a (10 * a + n) sm sm') ∨
    (∃ p' st' sm' X w m, w ≤ 2 ∧ m < 100 ∧ P_X0_takesClause z fu st = some (1, st') ∧ M_takesClause fu (nI (10 * a + n)) sm = some (1, sm') ∧ CS st' p' (L ++ X) ∧ Rd F T sm' p' ∧ SGs a sm' (L ++ X) ∧ p' ≤ F ∧ (L ++ X).length ≤ p' ∧ Gm a (10 * a + n) sm sm' ∧ Hc n st st' ∧ CLn a n w m L X sm' st st') := by
  have hF : F ≤ 100 := hz.2.2.1
  have hc : 10 * a + n < 60 := by omega
  have eP : P_X0_takesClause z fu st = if chv F T p = nI 115 then P_X0_takesClause_b49 z fu (-1) 1 st else if chv F T p = nI 107 then P_X0_takesClause_b49 z fu 0 2 st else P_X0_takesClause_b49 z fu 1 3 st := by
    unfold P_X0_takesClause
    rw [k_sees hz hC.1 hp, bn_some]
    by_cases e : chv F T p = nI 115
    · rw [show (if chv F T p = 115 ∧ p < F then (1 : Int32) else 0) = 1 from if_pos ⟨e, chv_lt hz (ch := 115) (by decide) e⟩, if_neg n10, if_pos e]
      unfold P_X0_takesClause_b27
      rw [if_pos rfl]
    · rw [show (if chv F T p = 115 ∧ p < F then (1 : Int32) else 0) = 0 from if_neg (fun q => e q.1), if_pos rfl, if_neg e, k_sees hz hC.1 hp, bn_some]
      by_cases e2 : chv F T p = nI 107
      · rw [show (if chv F T p = 107 ∧ p < F then (1 : Int32) else 0) = 1 from if_pos ⟨e2, chv_lt hz (ch := 107) (by decide) e2⟩, if_neg n10, if_pos e2]
        unfold P_X0_takesClause_b27
        rw [if_neg (by decide), if_pos rfl]
      · rw [show (if chv F T p = 107 ∧ p < F then (1 : Int32) else 0) = 0 from if_neg (fun q => e2 q.1), if_pos rfl, if_neg e2]
        unfold P_X0_takesClause_b27
        rw [if_neg (by decide), if_neg (by decide)]
  have eM : M_takesHead fu (nI (10 * a + n)) sm = if chv F T p = 102 then fc_bn (M_takesWord fu (nI 0) (nI 4) (mm_sG sm 15 (10 * a + n) (nI 0))) (fun r s => fc_gd (fc_zb r) (some (r, s))) else if chv F T p = 115 then fc_bn (M_takesWord fu (nI 4) (nI 5) (mm_sG sm 15 (10 * a + n) (nI 1))) (fun r s => fc_gd (fc_zb r) (some (r, s))) else fc_bn (M_takesWord fu (nI 9) (nI 4) (mm_sG sm 15 (10 * a + n) (nI 2))) (fun r s => fc_gd (fc_zb r) (some (r, s))) := by
    unfold M_takesHead
    rw [m_next hR hp hF, bn_some, nI_ix hc (by decide), nI_clamp (by omega)]
    rfl
  by_cases e1 : chv F T p = nI 115
  · rw [if_pos e1] at eP
    rw [if_neg (show ¬ chv F T p = 102 from fun q => by rw [e1] at q; revert q; decide), if_pos (show chv F T p = 115 from e1)] at eM
    exact p_clause1 (w := 1) hfu ha hn hz (Or.inl ⟨rfl, rfl, rfl⟩) (by decide) hR hS hC h7 h24 hp hl eP eM
  rw [if_neg e1] at eP
  by_cases e2 : chv F T p = nI 107
  · rw [if_pos e2] at eP
    rw [if_neg (show ¬ chv F T p = 102 from fun q => by rw [e2] at q; revert q; decide), if_neg (show ¬ chv F T p = 115 from e1)] at eM
    exact p_clause1 (w := 2) hfu ha hn hz (Or.inr (Or.inl ⟨rfl, rfl, rfl⟩)) (by decide) hR hS hC h7 h24 hp hl eP eM
  rw [if_neg e2] at eP
  by_cases e3 : chv F T p = nI 102
  · rw [if_pos (show chv F T p = 102 from e3)] at eM
    exact p_clause1 (w := 0) hfu ha hn hz (Or.inr (Or.inr ⟨rfl, rfl, rfl⟩)) (by decide) hR hS hC h7 h24 hp hl eP eM
  · rw [if_neg (show ¬ chv F T p = 102 from e3), if_neg (show ¬ chv F T p = 115 from e1)] at eM
    have hR1 : Rd F T (mm_sG sm 15 (10 * a + n) (nI 2)) p := by
      refine ⟨hR.1, hR.2.1, fun k hk => ?_⟩
      rw [mG_sG, if_neg (by decide)]
      exact hR.2.2 k hk
    have h24' : ∀ k, k < 13 → mm_G (mm_sG sm 15 (10 * a + n) (nI 2)) 24 k = nI (lts.getD k 0) := fun k hk => by
      rw [mG_sG, if_neg (by decide)]
      exact h24 k hk
    rw [wordM_no hfu (i := 2) (Or.inr (Or.inl ⟨rfl, rfl, rfl⟩)) hR1 h24' hp hF e2, bn_some, show fc_zb (0 : Int32) = true by decide, gd_true] at eM
    unfold P_X0_takesClause_b49 at eP
    rw [word_no hfu hz (i := 3) (Or.inr (Or.inr ⟨rfl, rfl, rfl⟩)) hC.1 hp e3, bn_some, if_pos rfl] at eP
    refine Or.inl ⟨p, st, _, eP, hC.1, hp, ?_, hR1.1, Gm_G (by decide)⟩
    unfold M_takesClause
    rw [eM, bn_some, if_pos rfl]
end CX
