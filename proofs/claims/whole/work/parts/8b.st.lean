/-! the reference's piles while it reads a clause -/
def SGs (a : Nat) (sm : mm_S) (L : List Int32) : Prop := mm_I sm 21 = nI (100 * a + L.length) ∧ ∀ j, j < L.length → mm_G sm 19 (100 * a + j) = L.getD j 0
def wst : List Int32 → (Nat → Int32) → Prop
  | [], _ => True
  | w :: W, g => g W.length = w ∧ wst W g
def RS (F a : Nat) (T : Nat → Nat) (sm : mm_S) (p : Nat) (L W : List Int32) (o : Nat) : Prop := Rd F T sm p ∧ SGs a sm L ∧ (mm_I sm 22 = nI W.length ∧ wst W (mm_G sm 20)) ∧ mm_I sm 23 = nI o
def Fm (a c : Nat) (sm sm' : mm_S) : Prop := (∀ k, k ≠ 11 → k ≠ 12 → k ≠ 21 → k ≠ 22 → k ≠ 23 → mm_I sm' k = mm_I sm k) ∧ (∀ k j, k ≠ 18 → k ≠ 19 → k ≠ 20 → mm_G sm' k j = mm_G sm k j) ∧ (∀ j, j ≠ c → mm_G sm' 18 j = mm_G sm 18 j) ∧ (∀ j, ¬ (100 * a ≤ j ∧ j < 100 * a + 100) → mm_G sm' 19 j = mm_G sm 19 j) ∧ ∀ k j, mm_L sm' k j = mm_L sm k j
theorem Fm_rf {a c : Nat} {sm : mm_S} : Fm a c sm sm := ⟨fun _ _ _ _ _ _ => rfl, fun _ _ _ _ _ => rfl, fun _ _ => rfl, fun _ _ => rfl, fun _ _ => rfl⟩
theorem Fm_tr {a c : Nat} {x y z : mm_S} (h : Fm a c x y) (h2 : Fm a c y z) : Fm a c x z := ⟨fun k a1 a2 a3 a4 a5 => (h2.1 k a1 a2 a3 a4 a5).trans (h.1 k a1 a2 a3 a4 a5), fun k j a1 a2 a3 => (h2.2.1 k j a1 a2 a3).trans (h.2.1 k j a1 a2 a3), fun j hj => (h2.2.2.1 j hj).trans (h.2.2.1 j hj), fun j hj => (h2.2.2.2.1 j hj).trans (h.2.2.2.1 j hj), fun k j => (h2.2.2.2.2 k j).trans (h.2.2.2.2 k j)⟩
theorem Fm_I {a c k : Nat} {v : Int32} {x y : mm_S} (h : Fm a c x y) (hk : k = 11 ∨ k = 12 ∨ k = 21 ∨ k = 22 ∨ k = 23) : Fm a c x (mm_sI y k v) := Fm_tr h ⟨fun q a1 a2 a3 a4 a5 => by rw [mI_sI, if_neg (by omega)], fun _ _ _ _ _ => rfl, fun _ _ => rfl, fun _ _ => rfl, fun _ _ => rfl⟩
theorem Fm_18 {a c : Nat} {v : Int32} {x y : mm_S} (h : Fm a c x y) : Fm a c x (mm_sG y 18 c v) := Fm_tr h ⟨fun _ _ _ _ _ _ => rfl, fun k j a1 a2 a3 => by rw [mG_sG, if_neg a1], fun j hj => by rw [mG_sG, if_pos rfl, if_neg hj], fun j hj => by rw [mG_sG, if_neg (by decide)], fun _ _ => rfl⟩
theorem Fm_19 {a c j : Nat} {v : Int32} {x y : mm_S} (h : Fm a c x y) (hj : 100 * a ≤ j ∧ j < 100 * a + 100) : Fm a c x (mm_sG y 19 j v) := Fm_tr h ⟨fun _ _ _ _ _ _ => rfl, fun k q a1 a2 a3 => by rw [mG_sG, if_neg a2], fun q hq => by rw [mG_sG, if_neg (by decide)], fun q hq => by rw [mG_sG, if_pos rfl, if_neg (fun (e : q = j) => hq (by rw [e]; exact hj))], fun _ _ => rfl⟩
theorem Fm_20 {a c j : Nat} {v : Int32} {x y : mm_S} (h : Fm a c x y) : Fm a c x (mm_sG y 20 j v) := Fm_tr h ⟨fun _ _ _ _ _ _ => rfl, fun k q a1 a2 a3 => by rw [mG_sG, if_neg a3], fun q hq => by rw [mG_sG, if_neg (by decide)], fun q hq => by rw [mG_sG, if_neg (by decide)], fun _ _ => rfl⟩
theorem Fm_Tk {a c : Nat} {x y z : mm_S} (h : Fm a c x y) (h2 : Tk y z) : Fm a c x z := Fm_tr h ⟨fun k a1 a2 _ _ _ => h2.1 k a1 a2, fun k j _ _ _ => h2.2.1 k j, fun j _ => h2.2.1 18 j, fun j _ => h2.2.1 19 j, h2.2.2⟩
theorem wst_up {g g' : Nat → Int32} : ∀ {W : List Int32}, wst W g → (∀ q, q < W.length → g' q = g q) → wst W g'
  | [], _, _ => trivial
  | _ :: _, h, hq => ⟨(hq _ (Nat.lt_succ_self _)).trans h.1, wst_up h.2 (fun q h2 => hq q (Nat.lt_succ_of_lt h2))⟩
theorem getD_app {L : List Int32} {v : Int32} {j : Nat} : (L ++ [v]).getD j 0 = if j < L.length then L.getD j 0 else if j = L.length then v else 0 := by
  rw [List.getD_eq_getElem?_getD, List.getD_eq_getElem?_getD]
  by_cases h : j < L.length
  · rw [if_pos h, List.getElem?_append_left h]
  · rw [if_neg h, List.getElem?_append_right (by omega)]
    by_cases h2 : j = L.length
    · subst h2
      rw [if_pos rfl, Nat.sub_self]
      rfl
    · rw [if_neg h2]
      obtain ⟨q, hq⟩ : ∃ q, j - L.length = q + 1 := ⟨j - L.length - 1, by omega⟩
      rw [hq]
      rfl
section ST
variable {F a c fu p o : Nat} {T : Nat → Nat} {sm sm0 : mm_S} {L W : List Int32}
theorem s_emit (h : RS F a T sm p L W o) (ha : a < 6) (hL : L.length < 100) (hF : Fm a c sm0 sm) (v : Int32) : ∃ sm', M_emits fu v sm = some sm' ∧ RS F a T sm' p (L ++ [v]) W o ∧ Fm a c sm0 sm' := by
  obtain ⟨⟨h11, h10, ht⟩, ⟨h21, hg⟩, ⟨h22, hw⟩, h23⟩ := h
  unfold M_emits
  rw [h21, nI_ix (by omega) (by decide), gd_true, nI_clamp (by omega)]
  simp only [nm_eq]
  refine ⟨_, rfl, ⟨⟨h11, h10, fun k hk => ?_⟩, ⟨?_, fun j hj => ?_⟩, ⟨h22, wst_up hw (fun q hq => ?_)⟩, h23⟩, Fm_I (Fm_19 hF (by omega)) (by omega)⟩
  · rw [mG_sI, mG_sG, if_neg (by decide)]
    exact ht k hk
  · show mm_I sm 21 + 1 = _
    rw [h21, nI_1, List.length_append, List.length_singleton, Nat.add_assoc]
  · rw [List.length_append, List.length_singleton] at hj
    rw [mG_sI, mG_sG, if_pos rfl, getD_app]
    by_cases h1 : j < L.length
    · rw [if_neg (by omega), if_pos h1]
      exact hg j h1
    · have h2 : j = L.length := by omega
      rw [if_pos (by omega), if_neg h1, if_pos h2]
  · rw [mG_sI, mG_sG, if_neg (by decide)]
theorem s_push (h : RS F a T sm p L W o) (hW : W.length ≤ 100) (hF : Fm a c sm0 sm) (w : Int32) : fc_ix (mm_I sm 22) 101 = true ∧ RS F a T (mm_sI (mm_sG sm 20 (mm_I sm 22).toNatClampNeg w) 22 (mm_I (mm_sG sm 20 (mm_I sm 22).toNatClampNeg w) 22 + 1)) p L (w :: W) o ∧ Fm a c sm0 (mm_sI (mm_sG sm 20 (mm_I sm 22).toNatClampNeg w) 22 (mm_I (mm_sG sm 20 (mm_I sm 22).toNatClampNeg w) 22 + 1)) := by
  obtain ⟨⟨h11, h10, ht⟩, ⟨h21, hg⟩, ⟨h22, hw⟩, h23⟩ := h
  have e22 : ∀ v, mm_I (mm_sG sm 20 v w) 22 = nI W.length := fun v => h22
  refine ⟨by rw [h22]; exact nI_ix (by omega) (by decide), ?_, Fm_I (Fm_20 hF) (by omega)⟩
  rw [e22, h22, nI_clamp (by omega), nI_1]
  refine ⟨⟨h11, h10, fun k hk => ?_⟩, ⟨h21, fun j hj => ?_⟩, ⟨rfl, ?_, wst_up hw (fun q hq => ?_)⟩, h23⟩
  · rw [mG_sI, mG_sG, if_neg (by decide)]
    exact ht k hk
  · rw [mG_sI, mG_sG, if_neg (by decide)]
    exact hg j hj
  · rw [mG_sI, mG_sG, if_pos rfl, if_pos rfl]
  · rw [mG_sI, mG_sG, if_pos rfl, if_neg (by omega)]
theorem s_pop {w : Int32} (h : RS F a T sm p L (w :: W) o) (hF : Fm a c sm0 sm) : RS F a T (mm_sI sm 22 (mm_I sm 22 - 1)) p L W o ∧ Fm a c sm0 (mm_sI sm 22 (mm_I sm 22 - 1)) := by
  obtain ⟨⟨h11, h10, ht⟩, ⟨h21, hg⟩, ⟨h22, hw⟩, h23⟩ := h
  refine ⟨⟨⟨h11, h10, ht⟩, ⟨h21, hg⟩, ⟨?_, hw.2⟩, h23⟩, Fm_I hF (by omega)⟩
  show mm_I sm 22 - 1 = _
  rw [h22]
  exact nI_pred W.length
theorem s_at (h : RS F a T sm p L W o) (hF : Fm a c sm0 sm) : RS F a T (mm_sI sm 11 (mm_I sm 11 + 1)) (p + 1) L W o ∧ Fm a c sm0 (mm_sI sm 11 (mm_I sm 11 + 1)) := by
  obtain ⟨⟨h11, h10, ht⟩, ⟨h21, hg⟩, ⟨h22, hw⟩, h23⟩ := h
  refine ⟨⟨⟨?_, h10, ht⟩, ⟨h21, hg⟩, ⟨h22, hw⟩, h23⟩, Fm_I hF (by omega)⟩
  show mm_I sm 11 + 1 = _
  rw [h11, nI_1]
theorem s_open (h : RS F a T sm p L W o) (hF : Fm a c sm0 sm) (q : Nat) {v : Int32} (hv : v = nI q) : RS F a T (mm_sI sm 23 v) p L W q ∧ Fm a c sm0 (mm_sI sm 23 v) := by
  subst hv
  exact ⟨⟨h.1, h.2.1, h.2.2.1, rfl⟩, Fm_I hF (by omega)⟩
end ST
/-- what settle(s) takes off: its signs, what is left -/
def stl (s : Int32) : List Int32 → List Int32
  | [] => []
  | w :: W => if w = 38 ∨ (w = 124 ∧ s ≠ 38) then -w :: stl s W else []
def stlr (s : Int32) : List Int32 → List Int32
  | [] => []
  | w :: W => if w = 38 ∨ (w = 124 ∧ s ≠ 38) then stlr s W else w :: W
def nots : List Int32 → Nat
  | [] => 0
  | w :: W => if w = 33 then nots W + 1 else 0
theorem stl_len (s : Int32) : ∀ W, (stl s W).length + (stlr s W).length = W.length
  | [] => rfl
  | w :: W => by
    unfold stl stlr
    split
    · have := stl_len s W
      show (stl s W).length + 1 + _ = W.length + 1
      omega
    · show 0 + (w :: W).length = _
      omega
theorem h_settle {F a c fu : Nat} {T : Nat → Nat} (s : Int32) (hfu : 700 < fu) (ha : a < 6) : ∀ (W L : List Int32) (sm sm0 : mm_S) (p o f : Nat), RS F a T sm p L W o → L.length + W.length ≤ 100 → W.length < f → Fm a c sm0 sm → ∃ sm', M_settle_b0 fu f s sm = some sm' ∧ RS F a T sm' p (L ++ stl s W) (stlr s W) o ∧ Fm a c sm0 sm'
  | [], L, sm, sm0, p, o, f, h, hl, hf, hF => by
    obtain ⟨f, rfl⟩ : ∃ g, f = g + 1 := ⟨f - 1, by simp at hf; omega⟩
    rw [show M_settle_b0 fu (f + 1) s sm = M_settle_b0F fu (fun a b => M_settle_b0 fu f a b) s sm from rfl]
    unfold M_settle_b0F
    rw [h.2.2.1.1, if_pos (show nI ([] : List Int32).length ≤ 0 by decide)]
    refine ⟨sm, rfl, ?_, hF⟩
    unfold stl stlr
    rw [List.append_nil]
    exact h
  | w :: W, L, sm, sm0, p, o, f, h, hl, hf, hF => by
    obtain ⟨f, rfl⟩ : ∃ g, f = g + 1 := ⟨f - 1, by omega⟩
    have hlen : (w :: W).length = W.length + 1 := rfl
    have h22 := h.2.2.1.1
    have ep : nI (w :: W).length - 1 = nI W.length := nI_pred W.length
    rw [show M_settle_b0 fu (f + 1) s sm = M_settle_b0F fu (fun a b => M_settle_b0 fu f a b) s sm from rfl]
    unfold M_settle_b0F
    rw [h22, if_neg (nI_nle (by omega) (by omega)), ep, nI_ix (by omega) (by decide), gd_true, gd_true, nI_clamp (by omega), h.2.2.1.2.1]
    have pop : w = 38 ∨ (w = 124 ∧ s ≠ 38) → ∃ sm', M_settle_b45 fu (fun a b => M_settle_b0 fu f a b) s sm = some sm' ∧ RS F a T sm' p (L ++ stl s (w :: W)) (stlr s (w :: W)) o ∧ Fm a c sm0 sm' := by
      intro hc
      obtain ⟨h1, hF1⟩ := s_pop h hF
      unfold M_settle_b45
      rw [nm_eq]
      have e22 : mm_I (mm_sI sm 22 (mm_I sm 22 - 1)) 22 = nI W.length := h1.2.2.1.1
      have e20 : mm_G (mm_sI sm 22 (mm_I sm 22 - 1)) 20 W.length = w := h.2.2.1.2.1
      rw [e22, nI_ix (by omega) (by decide), gd_true, nI_clamp (by omega), e20]
      obtain ⟨sm2, e2, h2, hF2⟩ := s_emit (fu := fu) h1 ha (by omega) hF1 (-w)
      obtain ⟨sm3, e3, h3, hF3⟩ := h_settle s hfu ha W (L ++ [-w]) sm2 sm0 p o f h2 (by rw [List.length_append, List.length_singleton]; omega) (by omega) hF2
      rw [e2, bv_some]
      refine ⟨sm3, e3, ?_, hF3⟩
      unfold stl stlr
      rw [if_pos hc, if_pos hc]
      rw [List.append_assoc] at h3
      exact h3
    have stay : ¬ (w = 38 ∨ (w = 124 ∧ s ≠ 38)) → ∃ sm', some sm = some sm' ∧ RS F a T sm' p (L ++ stl s (w :: W)) (stlr s (w :: W)) o ∧ Fm a c sm0 sm' := by
      intro hc
      refine ⟨sm, rfl, ?_, hF⟩
      unfold stl stlr
      rw [if_neg hc, if_neg hc, List.append_nil]
      exact h
    by_cases h38 : w = 38
    · rw [if_pos h38]
      exact pop (Or.inl h38)
    rw [if_neg h38]
    by_cases h124 : w = 124
    · rw [if_pos h124]
      by_cases hs : s = 38
      · rw [if_pos hs]
        exact stay (fun q => q.elim h38 (fun e => e.2 hs))
      · rw [if_neg hs]
        exact pop (Or.inr ⟨h124, hs⟩)
    · rw [if_neg h124]
      exact stay (fun q => q.elim h38 (fun e => h124 e.1))
theorem nots_le : ∀ W, nots W ≤ W.length
  | [] => Nat.le_refl 0
  | w :: W => by
    unfold nots
    have := nots_le W
    split
    · show nots W + 1 ≤ W.length + 1
      omega
    · omega
theorem h_whole {F a c fu : Nat} {T : Nat → Nat} (hfu : 700 < fu) (ha : a < 6) : ∀ (W L : List Int32) (sm sm0 : mm_S) (p o f : Nat), RS F a T sm p L W o → L.length + W.length ≤ 100 → W.length < f → o < 1000 → nots W ≤ o → Fm a c sm0 sm → ∃ sm', M_whole_b0 fu f sm = some sm' ∧ RS F a T sm' p (L ++ List.replicate (nots W) (-33)) (W.drop (nots W)) (o - nots W) ∧ Fm a c sm0 sm'
  | [], L, sm, sm0, p, o, f, h, hl, hf, ho1, ho, hF => by
    obtain ⟨f, rfl⟩ : ∃ g, f = g + 1 := ⟨f - 1, by simp at hf; omega⟩
    rw [show M_whole_b0 fu (f + 1) sm = M_whole_b0F fu (fun b => M_whole_b0 fu f b) sm from rfl]
    unfold M_whole_b0F
    rw [h.2.2.1.1, if_pos (show nI ([] : List Int32).length ≤ 0 by decide)]
    refine ⟨sm, rfl, ?_, hF⟩
    show RS F a T sm p (L ++ []) [] (o - 0)
    rw [List.append_nil]
    exact h
  | w :: W, L, sm, sm0, p, o, f, h, hl, hf, ho1, ho, hF => by
    obtain ⟨f, rfl⟩ : ∃ g, f = g + 1 := ⟨f - 1, by omega⟩
    have hlen : (w :: W).length = W.length + 1 := rfl
    have h22 := h.2.2.1.1
    have ep : nI (w :: W).length - 1 = nI W.length := nI_pred W.length
    rw [show M_whole_b0 fu (f + 1) sm = M_whole_b0F fu (fun b => M_whole_b0 fu f b) sm from rfl]
    unfold M_whole_b0F
    rw [h22, if_neg (nI_nle (by omega) (by omega)), ep, nI_ix (by omega) (by decide), gd_true, nI_clamp (by omega), h.2.2.1.2.1]
    by_cases h33 : w = 33
    · rw [if_pos h33]
      have en : nots (w :: W) = nots W + 1 := by
        show (if w = 33 then nots W + 1 else 0) = _
        rw [if_pos h33]
      rw [en] at ho
      obtain ⟨sm1, e1, h1, hF1⟩ := s_emit (fu := fu) h ha (by omega) hF (-33)
      rw [e1, bv_some]
      simp only [nm_eq]
      obtain ⟨h2, hF2⟩ := s_pop h1 hF1
      have e23 : mm_I (mm_sI sm1 22 (mm_I sm1 22 - 1)) 23 - 1 = nI (o - 1) := by
        rw [h2.2.2.2]
        obtain ⟨q, rfl⟩ : ∃ q, o = q + 1 := ⟨o - 1, by omega⟩
        exact nI_pred q
      obtain ⟨h3, hF3⟩ := s_open h2 hF2 (o - 1) e23
      obtain ⟨sm4, e4, h4, hF4⟩ := h_whole hfu ha W (L ++ [-33]) _ sm0 p (o - 1) f h3 (by rw [List.length_append, List.length_singleton]; omega) (by omega) (by omega) (by omega) hF3
      refine ⟨sm4, e4, ?_, hF4⟩
      rw [en, List.replicate_succ, List.drop_succ_cons, show o - (nots W + 1) = o - 1 - nots W by omega]
      rw [List.append_assoc] at h4
      exact h4
    · rw [if_neg h33]
      have en : nots (w :: W) = 0 := by
        show (if w = 33 then nots W + 1 else 0) = _
        rw [if_neg h33]
      refine ⟨sm, rfl, ?_, hF⟩
      rw [en]
      show RS F a T sm p (L ++ []) (w :: W) (o - 0)
      rw [List.append_nil]
      exact h
