/-! a clause's words and its condition -/
def Tc (st st' : mm_S) : Prop := (∀ k, k ≠ 2 → mm_I st' k = mm_I st k) ∧ ∀ k j, mm_G st' k j = mm_G st k j
theorem Tc_rf {st : mm_S} : Tc st st := ⟨fun _ _ => rfl, fun _ _ => rfl⟩
theorem Tc_tr {x y z : mm_S} (h : Tc x y) (h2 : Tc y z) : Tc x z := ⟨fun k a => (h2.1 k a).trans (h.1 k a), fun k j => (h2.2 k j).trans (h.2 k j)⟩
theorem Tc_2 {x : mm_S} {v : Int32} : Tc x (mm_sI x 2 v) := ⟨fun k a => by rw [mI_sI, if_neg a], fun _ _ => rfl⟩
theorem Tc_CG {x y : mm_S} {L : List Int32} (h : Tc x y) (h2 : CGs x L) : CGs y L := ⟨(h.1 8 (by decide)).trans h2.1, fun j hj => by rw [h.2]; exact h2.2 j hj⟩
theorem Tk_rf {sm : mm_S} : Tk sm sm := ⟨fun _ _ _ => rfl, fun _ _ => rfl, fun _ _ => rfl⟩
theorem Tk_tr {x y z : mm_S} (h : Tk x y) (h2 : Tk y z) : Tk x z := ⟨fun k a b => (h2.1 k a b).trans (h.1 k a b), fun k j => (h2.2.1 k j).trans (h.2.1 k j), fun k j => (h2.2.2 k j).trans (h.2.2 k j)⟩
theorem Tk_11 {x : mm_S} {v : Int32} : Tk x (mm_sI x 11 v) := ⟨fun k a _ => by rw [mI_sI, if_neg a], fun _ _ => rfl, fun _ _ => rfl⟩
theorem Tk_SG {x y : mm_S} {a : Nat} {L : List Int32} (h : Tk x y) (h2 : SGs a x L) : SGs a y L := ⟨(h.1 21 (by decide) (by decide)).trans h2.1, fun j hj => (h.2.1 19 _).trans (h2.2 j hj)⟩
/-- the reference's other slots, while it reads clause c of archive a -/
def Gm (a c : Nat) (sm sm' : mm_S) : Prop := (∀ k, k ≠ 11 → k ≠ 12 → k ≠ 21 → k ≠ 22 → k ≠ 23 → mm_I sm' k = mm_I sm k) ∧ (∀ k j, k < 15 ∨ 20 < k → mm_G sm' k j = mm_G sm k j) ∧ (∀ k j, 15 ≤ k → k ≤ 18 → j ≠ c → mm_G sm' k j = mm_G sm k j) ∧ (∀ j, ¬ (100 * a ≤ j ∧ j < 100 * a + 100) → mm_G sm' 19 j = mm_G sm 19 j) ∧ ∀ k j, mm_L sm' k j = mm_L sm k j
theorem Gm_rf {a c : Nat} {sm : mm_S} : Gm a c sm sm := ⟨fun _ _ _ _ _ _ => rfl, fun _ _ _ => rfl, fun _ _ _ _ _ => rfl, fun _ _ => rfl, fun _ _ => rfl⟩
theorem Gm_tr {a c : Nat} {x y z : mm_S} (h : Gm a c x y) (h2 : Gm a c y z) : Gm a c x z := ⟨fun k a1 a2 a3 a4 a5 => (h2.1 k a1 a2 a3 a4 a5).trans (h.1 k a1 a2 a3 a4 a5), fun k j a1 => (h2.2.1 k j a1).trans (h.2.1 k j a1), fun k j a1 a2 a3 => (h2.2.2.1 k j a1 a2 a3).trans (h.2.2.1 k j a1 a2 a3), fun j hj => (h2.2.2.2.1 j hj).trans (h.2.2.2.1 j hj), fun k j => (h2.2.2.2.2 k j).trans (h.2.2.2.2 k j)⟩
theorem Gm_Fm {a c : Nat} {x y : mm_S} (h : Fm a c x y) : Gm a c x y := ⟨h.1, fun k j hk => h.2.1 k j (by omega) (by omega) (by omega), fun k j h1 h2 h3 => by
  by_cases hk : k = 18
  · subst hk
    exact h.2.2.1 j h3
  · exact h.2.1 k j hk (by omega) (by omega), h.2.2.2.1, h.2.2.2.2⟩
theorem Gm_Tk {a c : Nat} {x y : mm_S} (h : Tk x y) : Gm a c x y := ⟨fun k a1 a2 _ _ _ => h.1 k a1 a2, fun k j _ => h.2.1 k j, fun k j _ _ _ => h.2.1 k j, fun j _ => h.2.1 19 j, h.2.2⟩
theorem Gm_G {a c k : Nat} {v : Int32} {x : mm_S} (hk : 15 ≤ k ∧ k ≤ 18) : Gm a c x (mm_sG x k c v) := ⟨fun _ _ _ _ _ _ => rfl, fun q j hq => by rw [mG_sG, if_neg (by omega)], fun q j _ _ hj => by
  rw [mG_sG]
  by_cases hq : q = k
  · rw [if_pos hq, if_neg hj, hq]
  · rw [if_neg hq], fun j hj => by rw [mG_sG, if_neg (by omega)], fun _ _ => rfl⟩
theorem Gm_I {a c k : Nat} {v : Int32} {x : mm_S} (hk : k = 11 ∨ k = 12 ∨ k = 21 ∨ k = 22 ∨ k = 23) : Gm a c x (mm_sI x k v) := ⟨fun q a1 a2 a3 a4 a5 => by rw [mI_sI, if_neg (by omega)], fun _ _ _ => rfl, fun _ _ _ _ _ => rfl, fun _ _ => rfl, fun _ _ => rfl⟩
theorem wl_wfn {h : Nat} {g : Nat → Int32} : ∀ {X : List Int32} {b n m : Nat}, wl h X n m → (∀ j, j < X.length → g (b + j) = X.getD j 0) → wfn h g b X.length n m
  | [], b, n, m, e, _ => e
  | t :: X, b, n, m, e, hg => by
    have e0 : g b = t := hg 0 (Nat.zero_lt_succ _)
    have hr : ∀ j, j < X.length → g (b + 1 + j) = X.getD j 0 := fun j hj => by
      have := hg (j + 1) (by show j + 1 < X.length + 1; omega)
      rw [show b + 1 + j = b + (j + 1) by omega]
      exact this
    show wfn h g b (X.length + 1) n m
    unfold wl at e
    unfold wfn
    rw [e0]
    by_cases h1 : t = -33
    · rw [if_pos h1] at e ⊢
      exact ⟨e.1, wl_wfn e.2 hr⟩
    · rw [if_neg h1] at e ⊢
      by_cases h3 : t < 0
      · rw [if_pos h3] at e ⊢
        exact ⟨e.1, wl_wfn e.2 hr⟩
      · rw [if_neg h3] at e ⊢
        exact ⟨e.1, wl_wfn e.2 hr⟩
theorem wfn_cg {h : Nat} {g g' : Nat → Int32} : ∀ {k b n m : Nat}, wfn h g b k n m → (∀ j, b ≤ j → j < b + k → g' j = g j) → wfn h g' b k n m
  | 0, b, n, m, e, _ => e
  | k + 1, b, n, m, e, hg => by
    unfold wfn at e ⊢
    rw [hg b (Nat.le_refl b) (by omega)]
    have hr : ∀ j, b + 1 ≤ j → j < b + 1 + k → g' j = g j := fun j h1 h2 => hg j (by omega) (by omega)
    by_cases h1 : g b = -33
    · rw [if_pos h1] at e ⊢
      exact ⟨e.1, wfn_cg e.2 hr⟩
    · rw [if_neg h1] at e ⊢
      by_cases h3 : g b < 0
      · rw [if_pos h3] at e ⊢
        exact ⟨e.1, wfn_cg e.2 hr⟩
      · rw [if_neg h3] at e ⊢
        exact ⟨e.1, wfn_cg e.2 hr⟩
def wdk (i u v : Nat) : Prop := (i = 1 ∧ u = 4 ∧ v = 5) ∨ (i = 2 ∧ u = 9 ∧ v = 4) ∨ (i = 3 ∧ u = 0 ∧ v = 4)
theorem wdk_z {i u v : Nat} (h : wdk i u v) : (zl i).length = v + 1 ∧ u + v ≤ 13 ∧ (zl i).getD v 0 = 32 ∧ ∀ j, j < v → (zl i).getD j 0 = lts.getD (u + j) 0 ∧ (zl i).getD j 0 < 256 := by
  rcases h with ⟨rfl, rfl, rfl⟩ | ⟨rfl, rfl, rfl⟩ | ⟨rfl, rfl, rfl⟩ <;> decide
section CW
variable {z : pp_Z} {F a c fu : Nat} {T : Nat → Nat}
theorem tk_i (hz : zOK z F T) {p : Nat} {st : mm_S} (hC : mm_I st 2 = nI p) (hp : p ≤ F) {ch : Nat} (hch : ch < 256) : P_X0_takes z fu (nI ch) st = if chv F T p = nI ch then some (1, mm_sI st 2 (nI (p + 1))) else some (0, st) := by
  rw [k_takes hz hC hp]
  have h := chv_1 (F := F) (T := T) (p := p) (fun j hj => (hz.2.1 j hj).2) hch
  by_cases hc : chv F T p = nI ch
  · rw [if_pos ⟨hc, (h.mp hc).1⟩, if_pos hc]
  · rw [if_neg (fun q => hc q.1), if_neg hc]
theorem h_wordL (hz : zOK z F T) {i u v : Nat} (hw : wdk i u v) : ∀ (m k p f g : Nat) (st sm : mm_S), k + m = v → m + 1 < f → m < g → mm_I st 2 = nI p → Rd F T sm p → (∀ k, k < 13 → mm_G sm 24 k = nI (lts.getD k 0)) → p ≤ F →
    ∃ b p' st' sm', (b = 0 ∨ b = 1) ∧ P_X0_takesWord_b2 z fu f i (nI k) st = some (b, st') ∧ M_takesWord_b2 fu g (nI u) (nI v) (nI k) sm = some (b, sm') ∧ mm_I st' 2 = nI p' ∧ Tc st st' ∧ Rd F T sm' p' ∧ Tk sm sm' ∧ p ≤ p' ∧ p' ≤ F := by
  obtain ⟨w1, w2, w3, w4⟩ := wdk_z hw
  have hv : v ≤ 5 := by rcases hw with h | h | h <;> omega
  have hi6 : i < 6 := by rcases hw with h | h | h <;> omega
  have hi1 : 1 ≤ i := by rcases hw with h | h | h <;> omega
  obtain ⟨z1, z2⟩ := hz.2.2.2 i hi1 (by omega)
  have hF : F ≤ 100 := hz.2.2.1
  -- the class's step
  have stepC : ∀ (K : Nat → Int32 → mm_S → Option (Int32 × mm_S)) (k ch p : Nat) (st : mm_S), k ≤ v → (zl i).getD k 0 = ch → ch < 256 → mm_I st 2 = nI p → p ≤ F → P_X0_takesWord_b2F z fu K i (nI k) st = if chv F T p = nI ch then K i (nI (k + 1)) (mm_sI st 2 (nI (p + 1))) else some (0, st) := by
    intro K k ch p st hk hc hc2 hst hp
    unfold P_X0_takesWord_b2F
    rw [decide_eq_true hi6, gd_true, e_len, bv_some, z1, w1, if_neg (show ¬ nI (v + 1) ≤ nI k from fun q => by have := (nI_le_iff (by omega) (by omega)).mp q; omega), gd_true, e_charAt (show k < v + 1 by omega) (by omega) (by rw [z2 k (by omega), hc]; exact hc2), bv_some, z2 k (by omega), hc, tk_i hz hst hp hc2, nI_1]
    by_cases e : chv F T p = nI ch
    · rw [if_pos e, if_pos e, bn_some, if_neg n10]
      rfl
    · rw [if_neg e, if_neg e, bn_some, if_pos rfl]
  intro m
  induction m with
  | zero =>
    intro k p f g st sm hk hf hg hst hR hl hp
    obtain ⟨f, rfl⟩ : ∃ q, f = q + 1 + 1 := ⟨f - 2, by omega⟩
    obtain ⟨g, rfl⟩ : ∃ q, g = q + 1 := ⟨g - 1, by omega⟩
    obtain rfl : k = v := by omega
    rw [show P_X0_takesWord_b2 z fu (f + 1 + 1) i (nI k) st = P_X0_takesWord_b2F z fu (fun a b s => P_X0_takesWord_b2 z fu (f + 1) a b s) i (nI k) st from rfl, stepC _ k 32 p st (Nat.le_refl k) w3 (by omega) hst hp]
    rw [show M_takesWord_b2 fu (g + 1) (nI u) (nI k) (nI k) sm = M_takesWord_b2F fu (fun a b d s => M_takesWord_b2 fu g a b d s) (nI u) (nI k) (nI k) sm from rfl]
    unfold M_takesWord_b2F
    have ht := m_takes (fu := fu) hR hp hF 32
    rw [if_pos ((nI_le_iff (by omega) (by omega)).mpr (Nat.le_refl k)), ht]
    by_cases e : chv F T p = 32
    · have hpF := chv_lt hz (ch := 32) (by omega) e
      rw [if_pos (show chv F T p = nI 32 from e), if_pos e, bn_some]
      refine ⟨1, p + 1, mm_sI st 2 (nI (p + 1)), mm_sI sm 11 (nI (p + 1)), Or.inr rfl, ?_, rfl, rfl, Tc_2, Rd_at hR _, Tk_11, by omega, by omega⟩
      show P_X0_takesWord_b2F z fu (fun a b s => P_X0_takesWord_b2 z fu f a b s) i (nI (k + 1)) _ = _
      unfold P_X0_takesWord_b2F
      rw [decide_eq_true hi6, gd_true, e_len, bv_some, z1, w1, if_pos ((nI_le_iff (by omega) (by omega)).mpr (Nat.le_refl _))]
    · rw [if_neg (show ¬ chv F T p = nI 32 from e), if_neg e, bn_some]
      exact ⟨0, p, st, sm, Or.inl rfl, rfl, rfl, hst, Tc_rf, hR, Tk_rf, Nat.le_refl p, hp⟩
  | succ m ih =>
    intro k p f g st sm hk hf hg hst hR hl hp
    obtain ⟨f, rfl⟩ : ∃ q, f = q + 1 := ⟨f - 1, by omega⟩
    obtain ⟨g, rfl⟩ : ∃ q, g = q + 1 := ⟨g - 1, by omega⟩
    obtain ⟨l1, l2⟩ := w4 k (by omega)
    rw [show P_X0_takesWord_b2 z fu (f + 1) i (nI k) st = P_X0_takesWord_b2F z fu (fun a b s => P_X0_takesWord_b2 z fu f a b s) i (nI k) st from rfl, stepC _ k _ p st (by omega) rfl l2 hst hp]
    rw [show M_takesWord_b2 fu (g + 1) (nI u) (nI v) (nI k) sm = M_takesWord_b2F fu (fun a b d s => M_takesWord_b2 fu g a b d s) (nI u) (nI v) (nI k) sm from rfl]
    unfold M_takesWord_b2F
    rw [if_neg (show ¬ nI v ≤ nI k from fun q => by have := (nI_le_iff (by omega) (by omega)).mp q; omega), nI_add, nI_ix (by omega) (by decide), gd_true, nI_clamp (by omega), hl (u + k) (by omega), ← l1, m_takes hR hp hF]
    by_cases e : chv F T p = nI ((zl i).getD k 0)
    · have hpF := chv_lt hz l2 e
      rw [if_pos e, if_pos e, bn_some, if_neg n10, nm_eq, nI_1]
      obtain ⟨b, p', st', sm', h1, h2, h3, h4, h5, h6, h7, h8, h9⟩ := ih (k + 1) (p + 1) f g (mm_sI st 2 (nI (p + 1))) (mm_sI sm 11 (nI (p + 1))) (by omega) (by omega) (by omega) rfl (Rd_at hR _) hl (by omega)
      exact ⟨b, p', st', sm', h1, h2, h3, h4, Tc_tr Tc_2 h5, h6, Tk_tr Tk_11 h7, by omega, h9⟩
    · rw [if_neg e, if_neg e, bn_some, if_pos rfl]
      exact ⟨0, p, st, sm, Or.inl rfl, rfl, rfl, hst, Tc_rf, hR, Tk_rf, Nat.le_refl p, hp⟩
theorem h_word (hfu : 700 < fu) (hz : zOK z F T) {i u v p : Nat} {st sm : mm_S} (hw : wdk i u v) (h2 : mm_I st 2 = nI p) (hR : Rd F T sm p) (hl : ∀ k, k < 13 → mm_G sm 24 k = nI (lts.getD k 0)) (hp : p ≤ F) : ∃ b p' st' sm', (b = 0 ∨ b = 1) ∧ P_X0_takesWord z fu i st = some (b, st') ∧ M_takesWord fu (nI u) (nI v) sm = some (b, sm') ∧ mm_I st' 2 = nI p' ∧ Tc st st' ∧ Rd F T sm' p' ∧ Tk sm sm' ∧ p ≤ p' ∧ p' ≤ F := by
  have hv : v ≤ 5 := by rcases hw with h | h | h <;> omega
  exact h_wordL hz hw v 0 p fu fu st sm (by omega) (by omega) (by omega) h2 hR hl hp
/-- a condition -/
theorem p_cond (hfu : 700 < fu) (ha : a < 6) (hc : c < 60) (hz : zOK z F T) {p : Nat} {L : List Int32} {st sm : mm_S} (hR : Rd F T sm p) (hS : SGs a sm L) (hC : CS st p L) (hp : p ≤ F) (hl : L.length ≤ p) :
    (∃ p' st' sm', P_rec z fu 20 0 0 st = some (0, st') ∧ mm_I st' 2 = nI p' ∧ p' ≤ F ∧ Fc st st' ∧ M_takesE fu (nI c) sm = some (0, sm') ∧ mm_I sm' 11 = nI p' ∧ Gm a c sm sm') ∨
    (∃ p' st' sm' X, P_rec z fu 20 0 0 st = some (1, st') ∧ CS st' p' (L ++ X) ∧ Fc st st' ∧ HW X 11 ∧ p ≤ p' ∧ p' ≤ F ∧ (L ++ X).length ≤ p' ∧ M_takesE fu (nI c) sm = some (1, sm') ∧ Rd F T sm' p' ∧ SGs a sm' (L ++ X) ∧ Gm a c sm sm' ∧ mm_G sm' 17 c = nI (100 * a + L.length) ∧ mm_G sm' 18 c = nI (100 * a + (L ++ X).length) ∧ (∀ k j, k = 15 ∨ k = 16 → mm_G sm' k j = mm_G sm k j)) := by
  obtain ⟨h21, hg⟩ := hS
  generalize hs1 : mm_sG (mm_sI (mm_sI sm 22 0) 23 0) 17 c (nI (100 * a + L.length)) = sm1
  have eM : M_takesE fu (nI c) sm = Rl fu c fu 1 sm1 := by
    unfold M_takesE
    simp only [nm_eq]
    have e21 : mm_I (mm_sI (mm_sI sm 22 0) 23 0) 21 = nI (100 * a + L.length) := h21
    rw [nI_ix hc (by decide), gd_true, nI_clamp (by omega), e21, hs1]
    rfl
  have hG1 : Gm a c sm sm1 := by
    rw [← hs1]
    exact Gm_tr (Gm_tr (Gm_I (by omega)) (Gm_I (by omega))) (Gm_G (by decide))
  have hR1 : RS F a T sm1 p L [] 0 := by
    rw [← hs1]
    refine ⟨⟨hR.1, hR.2.1, fun k hk => ?_⟩, ⟨h21, fun j hj => ?_⟩, ⟨rfl, trivial⟩, rfl⟩
    · rw [mG_sG, if_neg (by decide)]
      exact hR.2.2 k hk
    · rw [mG_sG, if_neg (by decide)]
      exact hg j hj
  have h17 : mm_G sm1 17 c = nI (100 * a + L.length) := by
    rw [← hs1, mG_sG, if_pos rfl, if_pos rfl]
  have h1516 : ∀ k j, k = 15 ∨ k = 16 → mm_G sm1 k j = mm_G sm k j := by
    intro k j hk
    rw [← hs1, mG_sG, if_neg (by omega)]
    rfl
  rw [eM]
  have hF : F ≤ 100 := hz.2.2.1
  rcases p_top (c := c) hfu ha hc hz fu p L [] sm1 sm1 st st hR1 hC hp (by omega) (by simpa using hl) (Or.inl rfl) Fm_rf Fc_rf with ⟨q1, q2, q3, b1, b2, b3, b4, b5, b6, b7⟩ | ⟨p2, st2, X, sm2, f2, R, pa, po, b1, b2, b3, b4, b5, b6, b7, b8, b9, b10, b11, b12, b13, b14, b15, b16⟩
  · exact Or.inl ⟨q1, q2, q3, b1, b2, b3, b4, b5, b6, Gm_tr hG1 (Gm_Fm b7)⟩
  · obtain ⟨f2, rfl⟩ : ∃ q, f2 = q + 1 := ⟨f2 - 1, by omega⟩
    obtain ⟨sm3, r1, r2, r3, r4⟩ := r_end (c := c) (f := f2) hfu ha hc hz b13 b6 b7 b14 b15 b16
    obtain ⟨s1, s2⟩ := stl_o (W := []) b10 b11 (Or.inl rfl)
    have eL : R ++ stl 124 (pa ++ po ++ []) = L ++ X := by
      rw [s1, b12, List.append_assoc]
    rw [eL] at r2 r4
    rw [s2] at r2
    have e22 : mm_I sm3 22 = 0 := r2.2.2.1.1
    have hlen : (L ++ X).length ≤ p2 := by
      have h3 := congrArg List.length b12
      simp only [List.length_append, List.length_map, List.length_nil] at h3 b7 ⊢
      omega
    refine Or.inr ⟨p2, st2, sm3, X, b1, b2, b3, b4, by omega, b6, hlen, ?_, r2.1, r2.2.1, Gm_tr hG1 (Gm_Fm r3), ?_, r4, fun k j hk => ?_⟩
    · rw [b8, r1, if_pos e22]
    · rw [r3.2.1 17 c (by decide) (by decide) (by decide), h17]
    · rw [r3.2.1 k j (by omega) (by omega) (by omega)]
      exact h1516 k j hk
end CW
