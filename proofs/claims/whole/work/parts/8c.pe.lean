/-! a clause read, both sides -/
def wl (h : Nat) : List Int32 → Nat → Nat → Prop
  | [], n, m => n = m
  | t :: X, n, m => if t = -33 then 1 ≤ n ∧ wl h X n m else if t < 0 then 2 ≤ n ∧ wl h X (n - 1) m else n + 1 ≤ h ∧ wl h X (n + 1) m
theorem wl_app {h : Nat} : ∀ {X Y : List Int32} {n m q : Nat}, wl h X n m → wl h Y m q → wl h (X ++ Y) n q
  | [], Y, n, m, q, e, h2 => by
    have e : n = m := e
    subst e
    exact h2
  | t :: X, Y, n, m, q, e, h2 => by
    show wl h (t :: (X ++ Y)) n q
    unfold wl at e ⊢
    by_cases h1 : t = -33
    · rw [if_pos h1] at e ⊢
      exact ⟨e.1, wl_app e.2 h2⟩
    · rw [if_neg h1] at e ⊢
      by_cases h3 : t < 0
      · rw [if_pos h3] at e ⊢
        exact ⟨e.1, wl_app e.2 h2⟩
      · rw [if_neg h3] at e ⊢
        exact ⟨e.1, wl_app e.2 h2⟩
def HW (X : List Int32) (k : Nat) : Prop := ∀ h n, n + k ≤ h → wl h X n (n + 1)
theorem HW_t {v : Int32} (hv : ¬ v < 0) : HW [v] 1 := fun h n hn => by
  unfold wl
  rw [if_neg (fun e => hv (by rw [e]; decide)), if_neg hv]
  exact ⟨hn, rfl⟩
theorem HW_n {X : List Int32} {k : Nat} (h : HW X k) : HW (X ++ [-33]) k := fun q n hn => wl_app (h q n hn) (by
  unfold wl
  rw [if_pos rfl]
  exact ⟨by omega, rfl⟩)
theorem HW_b {X Y : List Int32} {k k' K : Nat} {op : Int32} (ho : op = -38 ∨ op = -124) (h : HW X k) (h2 : HW Y k') (h3 : k ≤ K) (h4 : k' + 1 ≤ K) : HW (X ++ Y ++ [op]) K := fun q n hn => wl_app (wl_app (h q n (by omega)) (h2 q (n + 1) (by omega))) (by
  unfold wl
  rw [if_neg (by rcases ho with rfl | rfl <;> decide), if_pos (by rcases ho with rfl | rfl <;> decide)]
  exact ⟨by omega, rfl⟩)
theorem HW_w {X : List Int32} {k K : Nat} (h : HW X k) (h2 : k ≤ K) : HW X K := fun q n hn => h q n (by omega)
def CGs (st : mm_S) (L : List Int32) : Prop := mm_I st 8 = nI L.length ∧ ∀ j, j < L.length → cod (L.getD j 0) (mm_G st 6 j)
def CS (st : mm_S) (p : Nat) (L : List Int32) : Prop := mm_I st 2 = nI p ∧ CGs st L
def Fc (st st' : mm_S) : Prop := (∀ k, k ≠ 2 → k ≠ 8 → mm_I st' k = mm_I st k) ∧ ∀ k j, k ≠ 6 → mm_G st' k j = mm_G st k j
theorem Fc_rf {st : mm_S} : Fc st st := ⟨fun _ _ _ => rfl, fun _ _ _ => rfl⟩
theorem Fc_tr {x y z : mm_S} (h : Fc x y) (h2 : Fc y z) : Fc x z := ⟨fun k a b => (h2.1 k a b).trans (h.1 k a b), fun k j a => (h2.2 k j a).trans (h.2 k j a)⟩
theorem Fc_2 {x y : mm_S} {v : Int32} (h : Fc x y) : Fc x (mm_sI y 2 v) := Fc_tr h ⟨fun k a b => by rw [mI_sI, if_neg a], fun _ _ _ => rfl⟩
theorem CS_2 {st : mm_S} {p q : Nat} {L : List Int32} (h : CS st p L) : CS (mm_sI st 2 (nI q)) q L := ⟨rfl, h.2⟩
theorem c_put {z : pp_Z} {fu p : Nat} {st st0 : mm_S} {L : List Int32} {u v : Int32} (h : CS st p L) (hF : Fc st0 st) (hL : L.length < 100) (hc : cod v u) : ∃ st', P_X0_put z fu u st = some st' ∧ CS st' p (L ++ [v]) ∧ Fc st0 st' := by
  obtain ⟨h2, h8, hg⟩ := h
  unfold P_X0_put
  rw [h8, if_neg (show ¬ (100 : Int32) ≤ nI L.length from fun q => by have := (nI_le_iff (a := 100) (by omega) (by omega)).mp q; omega), nI_ix hL (by decide), gd_true, nI_clamp (by omega)]
  simp only [nm_eq]
  refine ⟨_, rfl, ⟨h2, ?_, fun j hj => ?_⟩, Fc_tr hF ⟨fun k a b => by rw [mI_sI, if_neg b]; rfl, fun k j a => by rw [mG_sI, mG_sG, if_neg a]⟩⟩
  · show mm_I st 8 + 1 = _
    rw [h8, nI_1, List.length_append, List.length_singleton]
  · rw [List.length_append, List.length_singleton] at hj
    rw [getD_app, mG_sI, mG_sG, if_pos rfl]
    by_cases h1 : j < L.length
    · rw [if_pos h1, if_neg (by omega)]
      exact hg j h1
    · have h3 : j = L.length := by omega
      rw [if_neg h1, if_pos h3, if_pos h3]
      exact hc
theorem cd_v : ∀ f, f < 6 → ∀ m, m < 3 → ∀ n, n < 100 → ((nI (ltr f) <<< ((16 : Int32) &&& 31)) ||| (nI (60 + m) <<< ((8 : Int32) &&& 31))) ||| nI n = nI (ltr f * 65536 + (60 + m) * 256 + n) := by decide +kernel
theorem zl4 : ∀ c, c < 128 → (c ∈ zl 4 ↔ ∃ f, f < 6 ∧ c = ltr f) := by decide +kernel
theorem zl5 : ∀ c, c < 128 → (c ∈ zl 5 ↔ ∃ m, m < 3 ∧ c = 60 + m) := by decide +kernel
theorem pl4 : ∀ f, f < 6 → (if nI (ltr f) = 99 then (4 : Int32) else if nI (ltr f) = 100 then 5 else if nI (ltr f) = 105 then 0 else if nI (ltr f) = 107 then 1 else if nI (ltr f) = 118 then 2 else if nI (ltr f) = 121 then 3 else -1) = nI f := by decide +kernel
theorem pl4n : ∀ c, c < 128 → ¬ c ∈ zl 4 → (if nI c = 99 then (4 : Int32) else if nI c = 100 then 5 else if nI c = 105 then 0 else if nI c = 107 then 1 else if nI c = 118 then 2 else if nI c = 121 then 3 else -1) = -1 := by decide +kernel
theorem e_placeM {fu : Nat} {x : Int32} {st : mm_S} : M_place fu x st = some (if x = 99 then (4 : Int32) else if x = 100 then 5 else if x = 105 then 0 else if x = 107 then 1 else if x = 118 then 2 else if x = 121 then 3 else -1, st) := by
  unfold M_place
  repeat' split
  all_goals first | rfl | contradiction
section PE
variable {z : pp_Z} {F a c fu : Nat} {T : Nat → Nat}
/-- a test -/
theorem h_test (hfu : 700 < fu) (ha : a < 6) (hz : zOK z F T) {p o : Nat} {L W : List Int32} {sm sm0 st st0 : mm_S} (hR : RS F a T sm p L W o) (hC : CS st p L) (hp : p ≤ F) (hl : L.length + W.length ≤ p) (ho : nots W ≤ o) (ho1 : o < 1000) (hFm : Fm a c sm0 sm) (hFc : Fc st0 st) :
    (∃ p' st' sm', P_X0_takesTest z fu st = some (0, st') ∧ mm_I st' 2 = nI p' ∧ p' ≤ F ∧ Fc st0 st' ∧ M_takesTest fu sm = some (0, sm') ∧ mm_I sm' 11 = nI p' ∧ Fm a c sm0 sm') ∨
    (∃ p' st' sm' v, P_X0_takesTest z fu st = some (1, st') ∧ CS st' p' (L ++ [v]) ∧ ¬ v < 0 ∧ Fc st0 st' ∧ p + 3 ≤ p' ∧ p' ≤ F ∧ M_takesTest fu sm = some (1, sm') ∧ RS F a T sm' p' (L ++ [v] ++ List.replicate (nots W) (-33)) (W.drop (nots W)) (o - nots W) ∧ Fm a c sm0 sm') := by
  have hF : F ≤ 100 := hz.2.2.1
  have hT : ∀ j, j < F → T j < 128 := fun j hj => (hz.2.1 j hj).2
  unfold P_X0_takesTest M_takesTest
  rw [k_oneOf hfu hz hC.1 hp (Or.inl rfl), m_next hR.1 hp hF, bn_some, e_placeM, bn_some]
  by_cases h4 : p < F ∧ T p ∈ zl 4
  rotate_left
  · refine Or.inl ⟨p, st, sm, ?_, hC.1, hp, hFc, ?_, hR.1.1, hFm⟩
    · rw [if_neg h4, bn_some, if_pos rfl]
    · have e : (if chv F T p = 99 then (4 : Int32) else if chv F T p = 100 then 5 else if chv F T p = 105 then 0 else if chv F T p = 107 then 1 else if chv F T p = 118 then 2 else if chv F T p = 121 then 3 else -1) = -1 := by
        unfold chv
        by_cases hpF : p < F
        · rw [if_pos hpF]
          exact pl4n (T p) (hT p hpF) (fun q => h4 ⟨hpF, q⟩)
        · rw [if_neg hpF]
          decide
      rw [e, if_neg i3_m1]
  obtain ⟨f, hf, ef⟩ := (zl4 (T p) (hT p h4.1)).mp h4.2
  have hne : ¬ nI (T p) = 0 := fun q => by
    have := (nI_eq_iff (b := 0) (by have := hT p h4.1; omega) (by omega)).mp q
    rw [this] at ef
    have : ∀ f, f < 6 → ¬ 0 = ltr f := by decide
    exact this f hf ef
  have ec : chv F T p = nI (ltr f) := by
    unfold chv
    rw [if_pos h4.1, ef]
  rw [if_pos h4, bn_some, if_neg hne, ec, pl4 f hf, if_pos (i3_0le (by omega)), nm_eq]
  obtain ⟨hR1, hFm1⟩ := s_at hR hFm
  have hC1 : CS (mm_sI st 2 (nI (p + 1))) (p + 1) L := CS_2 hC
  generalize mm_sI sm 11 (mm_I sm 11 + 1) = sm1 at hR1 hFm1 ⊢
  have hFc1 : Fc st0 (mm_sI st 2 (nI (p + 1))) := Fc_2 hFc
  generalize mm_sI st 2 (nI (p + 1)) = st1 at hC1 hFc1 ⊢
  rw [k_oneOf hfu hz hC1.1 (by omega) (Or.inr rfl), m_next hR1.1 (by omega) hF, bn_some]
  by_cases h5 : p + 1 < F ∧ T (p + 1) ∈ zl 5
  rotate_left
  · refine Or.inl ⟨p + 1, st1, sm1, ?_, hC1.1, by omega, hFc1, ?_, hR1.1.1, hFm1⟩
    · rw [if_neg h5, bn_some, if_pos rfl]
    · have e : M_in fu (chv F T (p + 1)) 60 62 sm1 = some (0, sm1) := by
        unfold M_in chv
        by_cases hpF : p + 1 < F
        · have ht := hT (p + 1) hpF
          have hn : ¬ ∃ m, m < 3 ∧ T (p + 1) = 60 + m := fun q => h5 ⟨hpF, (zl5 _ ht).mpr q⟩
          rw [if_pos hpF]
          by_cases h1 : T (p + 1) < 60
          · rw [if_pos (show nI (T (p + 1)) < 60 from (nI_lt_iff (b := 60) (by omega) (by omega)).mpr h1)]
          · rw [if_neg (show ¬ nI (T (p + 1)) < 60 from fun e => h1 ((nI_lt_iff (b := 60) (by omega) (by omega)).mp e)), if_pos (show (62 : Int32) < nI (T (p + 1)) from (nI_lt_iff (a := 62) (by omega) (by omega)).mpr (Nat.not_le.mp (fun q => hn ⟨T (p + 1) - 60, by omega, by omega⟩)))]
        · rw [if_neg hpF, if_pos (by decide)]
      rw [e, bn_some, if_pos rfl]
  obtain ⟨m, hm, em⟩ := (zl5 (T (p + 1)) (hT (p + 1) h5.1)).mp h5.2
  have hne2 : ¬ nI (T (p + 1)) = 0 := fun q => by
    have := (nI_eq_iff (b := 0) (by have := hT (p + 1) h5.1; omega) (by omega)).mp q
    omega
  have ec2 : chv F T (p + 1) = nI (60 + m) := by
    unfold chv
    rw [if_pos h5.1, em]
  have ein : M_in fu (nI (60 + m)) 60 62 sm1 = some (1, sm1) := by
    unfold M_in
    rw [if_neg (show ¬ nI (60 + m) < 60 from fun e => by have := (nI_lt_iff (b := 60) (by omega) (by omega)).mp e; omega), if_neg (show ¬ (62 : Int32) < nI (60 + m) from fun e => by have := (nI_lt_iff (a := 62) (by omega) (by omega)).mp e; omega)]
  rw [if_pos h5, bn_some, if_neg hne2, ec2, ein, bn_some, if_neg n10, nm_eq]
  obtain ⟨hR2, hFm2⟩ := s_at hR1 hFm1
  have hC2 : CS (mm_sI st1 2 (nI (p + 1 + 1))) (p + 1 + 1) L := CS_2 hC1
  have hFc2 : Fc st0 (mm_sI st1 2 (nI (p + 1 + 1))) := Fc_2 hFc1
  generalize mm_sI sm1 11 (mm_I sm1 11 + 1) = sm2 at hR2 hFm2 ⊢
  generalize mm_sI st1 2 (nI (p + 1 + 1)) = st2 at hC2 hFc2 ⊢
  have hnum := m_number hfu hR2.1 (by omega) hF
  have hkl := numk_le (F := F) (T := T) (p := p + 1 + 1) (by omega)
  rw [k_number hfu hz hC2.1 (by omega)]
  by_cases hk : numk F T (p + 1 + 1) = 0
  · rw [if_pos hk] at hnum
    rw [if_pos hk]
    refine Or.inl ⟨p + 1 + 1, st2, sm2, ?_, hC2.1, by omega, hFc2, ?_, hR2.1.1, hFm2⟩
    · rw [bn_some, if_neg i3_m1]
    · rw [hnum, bn_some, if_pos rfl]
  rw [if_neg hk] at hnum
  obtain ⟨sm3, e3, hRd3, h12, hTk⟩ := hnum
  have hv := numv_lt hk
  have hR3 : RS F a T sm3 (p + 1 + 1 + numk F T (p + 1 + 1)) L W o := by
    obtain ⟨-, ⟨q1, q2⟩, ⟨q3, q4⟩, q5⟩ := hR2
    refine ⟨hRd3, ⟨(hTk.1 21 (by decide) (by decide)).trans q1, fun j hj => (hTk.2.1 19 _).trans (q2 j hj)⟩, ⟨(hTk.1 22 (by decide) (by decide)).trans q3, ?_⟩, (hTk.1 23 (by decide) (by decide)).trans q5⟩
    rw [show mm_G sm3 20 = mm_G sm2 20 from funext fun j => hTk.2.1 20 j]
    exact q4
  have hFm3 := Fm_Tk hFm2 hTk
  have ev : (1000 : Int32) * nI f + 100 * (nI (60 + m) - 60) + mm_I sm3 12 = nI (1000 * f + 100 * m + numv T F (p + 1 + 1)) := by
    rw [h12, show (60 : Int32) = nI 60 from rfl, nI_subN (by omega) (by omega), show 60 + m - 60 = m by omega, show (1000 : Int32) = nI 1000 from rfl, show (100 : Int32) = nI 100 from rfl, nI_mul, nI_mul, nI_add, nI_add]
  obtain ⟨sm4, e4, hR4, hFm4⟩ := s_emit (fu := fu) hR3 ha (by omega) hFm3 (nI (1000 * f + 100 * m + numv T F (p + 1 + 1)))
  obtain ⟨sm5, e5, hR5, hFm5⟩ := h_whole (c := c) hfu ha W (L ++ [nI (1000 * f + 100 * m + numv T F (p + 1 + 1))]) sm4 sm0 _ o fu hR4 (by rw [List.length_append, List.length_singleton]; omega) (by omega) ho1 ho hFm4
  obtain ⟨st4, f4, hC4, hFc4⟩ := c_put (z := z) (fu := fu) (u := nI (ltr f * 65536 + (60 + m) * 256 + numv T F (p + 1 + 1))) (v := nI (1000 * f + 100 * m + numv T F (p + 1 + 1))) (CS_2 (q := p + 1 + 1 + numk F T (p + 1 + 1)) hC2) (Fc_2 hFc2) (by omega) (Or.inr (Or.inr (Or.inr ⟨f, m, numv T F (p + 1 + 1), hf, hm, hv, rfl, rfl⟩)))
  refine Or.inr ⟨p + 1 + 1 + numk F T (p + 1 + 1), st4, sm5, nI (1000 * f + 100 * m + numv T F (p + 1 + 1)), ?_, hC4, i3_neg (by omega), hFc4, by omega, hkl, ?_, hR5, hFm5⟩
  · rw [if_neg hk, bn_some, if_pos (i3_0le (by omega)), ef, em, cd_v f hf m hm _ hv, f4, bv_some]
  · unfold M_whole
    rw [e3, bn_some, if_neg n10, ev, e4, bv_some, e5, bv_some]
end PE
