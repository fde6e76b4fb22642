/-! calls that ask little -/
def Eq2 {ρ : Type} (X : cc_X) (T : Nat → Nat) (x : Option (ρ × mm_S)) (y : Option (ρ × cc_S)) : Prop := ∃ r sm' sc', x = some (r, sm') ∧ y = some (r, sc') ∧ Rel X T sm' sc'
theorem Eq2_same {ρ : Type} {X : cc_X} {T : Nat → Nat} {sm : mm_S} {sc : cc_S} {x : Option (ρ × mm_S)} {y : Option (ρ × cc_S)} {r : ρ} (h : Rel X T sm sc) (hx : x = some (r, sm)) (hy : y = some (r, sc)) : Eq2 X T x y := ⟨r, sm, sc, hx, hy, h⟩
def inw (x m : Int32) : Int32 := if x < 0 then 0 else if m < x then 0 else 1
theorem e_in {fu : Nat} {x m : Int32} {st : mm_S} : M_in fu x 0 m st = some (inw x m, st) := by
  unfold M_in inw
  split
  · rfl
  · split <;> rfl
theorem e_win {X : cc_X} {fu : Nat} {x m : Int32} {st : cc_S} : C_X11_isWithin X fu x m st = some (inw x m, st) := by
  unfold C_X11_isWithin inw
  split
  · rfl
  · split <;> rfl
theorem inw_zb {x m : Int32} : fc_zb (inw x m) = true := by
  unfold inw
  split
  · rfl
  · split <;> rfl
theorem inw_c (x : Int32) {m : Nat} (hm : m < 2 ^ 31) : inw x (nI m) = 0 ∨ inw x (nI m) = 1 ∧ ∃ j, j ≤ m ∧ x = nI j := by
  unfold inw
  by_cases h : x < 0
  · exact Or.inl (if_pos h)
  · rw [if_neg h]
    by_cases h2 : nI m < x
    · exact Or.inl (if_pos h2)
    · rw [if_neg h2]
      refine Or.inr ⟨rfl, ?_⟩
      obtain ⟨j, hj, rfl, -⟩ := nI_ex (x := x) (by
        rw [Int32.lt_iff_toInt_lt] at h
        have e : (0 : Int32).toInt = 0 := rfl
        omega)
      rw [nI_lt_iff hm hj] at h2
      exact ⟨j, by omega, rfl⟩
theorem e_isDarks {fu : Nat} {x : Int32} {st : mm_S} : M_isDarks fu x st = some (inw x 8, st) := by
  unfold M_isDarks
  rw [e_in, bn_some, inw_zb, gd_true]
theorem e_isYears {fu : Nat} {x : Int32} {st : mm_S} : M_isYears fu x st = some (inw x 8, st) := by
  unfold M_isYears
  rw [e_in, bn_some, inw_zb, gd_true]
/-! main things changed -/
def Om (sm sm' : mm_S) : Prop := (∀ k, 38 ≤ k ∨ k = 8 ∨ k = 10 → mm_I sm' k = mm_I sm k) ∧ (∀ k j, (13 ≤ k ∧ k ≤ 24) ∨ 47 ≤ k → mm_G sm' k j = mm_G sm k j) ∧ ∀ j, mm_L sm' 61 j = mm_L sm 61 j
def Oc (sc sc' : cc_S) : Prop := ∀ i, i ≠ 1 → i ≠ 3 → (∀ k, cc_I sc' i k = cc_I sc i k) ∧ (∀ k j, cc_G sc' i k j = cc_G sc i k j) ∧ (∀ k j, cc_J sc' i k j = cc_J sc i k j) ∧ ∀ k j, cc_P sc' i k j = cc_P sc i k j
theorem Om_rf {sm : mm_S} : Om sm sm := ⟨fun _ _ => rfl, fun _ _ _ => rfl, fun _ => rfl⟩
theorem Om_I {a b : mm_S} {k : Nat} {v : Int32} (h : Om a b) (hk : ¬ (38 ≤ k ∨ k = 8 ∨ k = 10)) : Om a (mm_sI b k v) := ⟨fun q hq => by rw [mI_sI, if_neg (fun (e : q = k) => hk (e ▸ hq))]; exact h.1 q hq, h.2⟩
theorem Om_G {a b : mm_S} {k i : Nat} {v : Int32} (h : Om a b) (hk : ¬ ((13 ≤ k ∧ k ≤ 24) ∨ 47 ≤ k)) : Om a (mm_sG b k i v) := ⟨h.1, fun q j hq => by rw [mG_sG, if_neg (fun (e : q = k) => hk (e ▸ hq))]; exact h.2.1 q j hq, h.2.2⟩
theorem Om_q {a b : mm_S} (h : mq a b) : Om a b := ⟨fun k hk => h.1 k (by omega), fun k j hk => h.2.1 k j (by omega), fun j => h.2.2 61 j (by decide) (by decide)⟩
theorem Om_tr {a b c : mm_S} (h : Om a b) (h2 : Om b c) : Om a c := ⟨fun k hk => (h2.1 k hk).trans (h.1 k hk), fun k j hk => (h2.2.1 k j hk).trans (h.2.1 k j hk), fun j => (h2.2.2 j).trans (h.2.2 j)⟩
theorem Om_Ar {a b : mm_S} (h : Om a b) : Ar a b := fun k j h1 h2 => h.2.1 k j (by omega)
theorem Oc_rf {sc : cc_S} : Oc sc sc := fun _ _ _ => ⟨fun _ => rfl, fun _ _ => rfl, fun _ _ => rfl, fun _ _ => rfl⟩
theorem Oc_tr {a b c : cc_S} (h : Oc a b) (h2 : Oc b c) : Oc a c := fun i h1 h3 => ⟨fun k => ((h2 i h1 h3).1 k).trans ((h i h1 h3).1 k), fun k j => ((h2 i h1 h3).2.1 k j).trans ((h i h1 h3).2.1 k j), fun k j => ((h2 i h1 h3).2.2.1 k j).trans ((h i h1 h3).2.2.1 k j), fun k j => ((h2 i h1 h3).2.2.2 k j).trans ((h i h1 h3).2.2.2 k j)⟩
theorem Oc_I {a b : cc_S} {i k : Nat} {v : Int32} (h : Oc a b) (hi : i = 1 ∨ i = 3) : Oc a (cc_sI b i k v) := Oc_tr h (fun q h1 h3 => ⟨fun r => by rw [cI_sI, if_neg (by omega)], fun _ _ => rfl, fun _ _ => rfl, fun _ _ => rfl⟩)
theorem Oc_G {a b : cc_S} {i k j : Nat} {v : Int32} (h : Oc a b) (hi : i = 1 ∨ i = 3) : Oc a (cc_sG b i k j v) := Oc_tr h (fun q h1 h3 => ⟨fun _ => rfl, fun r s => by rw [cG_sG, if_neg (by omega)], fun _ _ => rfl, fun _ _ => rfl⟩)
theorem Oc_J {a b : cc_S} {i k j : Nat} {v : Int64} (h : Oc a b) (hi : i = 1 ∨ i = 3) : Oc a (cc_sJ b i k j v) := Oc_tr h (fun q h1 h3 => ⟨fun _ => rfl, fun _ _ => rfl, fun r s => by rw [cJ_sJ, if_neg (by omega)], fun _ _ => rfl⟩)
theorem Oc_Hi {a b : cc_S} (h : Oc a b) : Hi a b := fun y hy => ⟨(h y (by omega) (by omega)).1, (h y (by omega) (by omega)).2.1⟩
theorem PS_2 {X : cc_X} {sm sm' : mm_S} {sc sc' : cc_S} {A : Nat} (hm : Om sm sm') (hc : Oc sc sc') (h : PS X sm sc A 2 (imI sm) (imG sm)) : PS X sm' sc' A 2 (imI sm') (imG sm') := by
  have eI : ∀ k, k = 0 ∨ k = 1 ∨ k = 2 ∨ k = 3 ∨ k = 29 ∨ k = 31 ∨ k = 32 ∨ k = 9 → imI sm' k = imI sm k := fun k hk => hm.1 _ (by
    rcases hk with rfl | rfl | rfl | rfl | rfl | rfl | rfl | rfl <;> (show 38 ≤ im_I _ ∨ _) <;> exact Or.inl (by decide))
  have eG : ∀ k, k = 4 ∨ k = 5 ∨ k = 6 ∨ k = 7 ∨ k = 30 ∨ k = 33 ∨ k = 34 ∨ k = 35 ∨ k = 36 ∨ k = 37 → imG sm' k = imG sm k := fun k hk => funext fun j => hm.2.1 _ j (by
    rcases hk with rfl | rfl | rfl | rfl | rfl | rfl | rfl | rfl | rfl | rfl <;> exact Or.inr (by decide))
  obtain ⟨c1, c2, c3, c4⟩ := hc 2 (by decide) (by decide)
  obtain ⟨h1, h2, h3, h4, h5⟩ := h
  refine ⟨?_, ?_, ?_, ?_, ?_⟩
  · unfold PI
    simp only [eI 0 (by simp), eI 1 (by simp), eI 2 (by simp), eI 3 (by simp), eI 29 (by simp), eI 31 (by simp), eI 32 (by simp), c1]
    exact h1
  · unfold PG
    simp only [eG 6 (by simp), eG 7 (by simp), eG 30 (by simp), eG 33 (by simp), eG 34 (by simp), eG 35 (by simp), eG 36 (by simp), eG 37 (by simp), c2]
    exact h2
  · exact PN_mv (Oc_Hi hc) (fun k => c4 0 k) (eI 0 (by simp)) (fun k => by rw [eG 4 (by simp)]) (fun k => by rw [eG 5 (by simp)]) h3
  · rw [eI 9 (by simp)]
    exact PA_mv (Om_Ar hm) (Oc_Hi hc) (c4 16 0) h4
  · unfold PR
    simp only [eI 0 (by simp), eI 1 (by simp), eI 3 (by simp), eI 29 (by simp), eI 31 (by simp), eI 32 (by simp), eG 6 (by simp), eG 7 (by simp), eG 30 (by simp), eG 33 (by simp), eG 34 (by simp), eG 35 (by simp), eG 36 (by simp)]
    exact h5
theorem Rel_up {X : cc_X} {T : Nat → Nat} {sm sm' : mm_S} {sc sc' : cc_S} (hm : Om sm sm') (hc : Oc sc sc') (h : Rel X T sm sc) (hp : ∀ A, PS X sm sc A 1 (mm_I sm) (mm_G sm) → PS X sm' sc' A 1 (mm_I sm') (mm_G sm')) (hz : ∀ d, d < 9 → cc_J sc' 3 200 d = cc_J sc 3 200 d := by intros; rfl) : Rel X T sm' sc' := by
  obtain ⟨hX, A, h1, h2, h3, h4⟩ := h
  refine ⟨hX, A, hp A h1, ?_, ?_, fun t ht => ?_⟩
  · rw [hm.1 38 (by omega)]
    rcases h2 with h2 | ⟨h2, h2'⟩
    · exact Or.inl h2
    · exact Or.inr ⟨h2, PS_2 hm hc h2'⟩
  · obtain ⟨c1, c2, -, -⟩ := hc 0 (by decide) (by decide)
    unfold Rm
    simp only [hm.1 8 (by omega), hm.1 10 (by omega), hm.1 38 (by omega), hm.1 57 (by omega), hm.2.1 13 _ (by omega), hm.2.1 58 _ (by omega), hm.2.1 24 _ (by omega), c1, c2, (hc 40 (by decide) (by decide)).1]
    exact ⟨h3.1, h3.2.1, h3.2.2.1, h3.2.2.2.1, h3.2.2.2.2.1, h3.2.2.2.2.2.1, fun d hd => (hz d hd).trans (h3.2.2.2.2.2.2 d hd)⟩
  · obtain ⟨c1, -, c3, -⟩ := hc (4 + t) (by omega) (by omega)
    have := h4 t ht
    unfold Rt1 at this ⊢
    simp only [hm.2.1 59 _ (by omega), hm.2.1 60 _ (by omega), hm.2.2, c1, c3, (hc 0 (by decide) (by decide)).2.2.2]
    exact this
/-! darks, told, of, worth -/
theorem q_darks {X : cc_X} {T : Nat → Nat} {sm : mm_S} {sc : cc_S} {fu : Nat} (h : Rel X T sm sc) (x : Int32) : Eq2 X T (M_darks fu x sm) (C_X11_darks X fu 0 x sc) := by
  unfold M_darks C_X11_darks
  rw [e_isDarks, e_win, bn_some, bn_some]
  rcases inw_c x (m := 8) (by decide) with e | ⟨e, j, hj, rfl⟩
  · rw [show inw x 8 = 0 from e, if_pos rfl, if_pos rfl]
    exact Eq2_same h rfl rfl
  · rw [show inw (nI j) 8 = 1 from e, if_neg (by decide), if_neg (by decide), px_go h.1 (by decide), px_go h.1 (by decide), gd_true, gd_true]
    simp only [nm_eq]
    refine ⟨_, _, _, rfl, ?_, Rel_up (sm := sm) (sc := sc) (sm' := mm_sI sm 1 (nI j)) (sc' := cc_sI sc 1 13 (nI j)) (Om_I Om_rf (by omega)) (Oc_I Oc_rf (by simp)) h (fun A hp => ?_)⟩
    · obtain ⟨-, A, ⟨hI, -⟩, -⟩ := h
      rw [hI.2.1]
    · obtain ⟨h1, h2, h3, h4, n, d, y, c, s, b, r1, r2, r3⟩ := hp
      exact ⟨⟨h1.1, rfl, h1.2.2⟩, h2, PN_mv (Oc_Hi (Oc_I Oc_rf (by simp))) (fun _ => rfl) rfl (fun _ => rfl) (fun _ => rfl) h3, PA_mv (fun _ _ _ _ => rfl) (Oc_Hi (Oc_I Oc_rf (by simp))) rfl h4, n, j, y, c, s, b, r1, ⟨hj, rfl⟩, r3⟩
theorem Rel_I {X : cc_X} {T : Nat → Nat} {sm : mm_S} {sc : cc_S} (h : Rel X T sm sc) : PI sc 1 (mm_I sm) := by
  obtain ⟨-, A, ⟨hI, -⟩, -⟩ := h
  exact hI
theorem Rel_G {X : cc_X} {T : Nat → Nat} {sm : mm_S} {sc : cc_S} (h : Rel X T sm sc) : PG sc 1 (mm_G sm) := by
  obtain ⟨-, A, ⟨-, hG, -⟩, -⟩ := h
  exact hG
theorem Rel_R {X : cc_X} {T : Nat → Nat} {sm : mm_S} {sc : cc_S} (h : Rel X T sm sc) : PR (mm_I sm) (mm_G sm) := by
  obtain ⟨-, A, ⟨-, -, -, -, hR⟩, -⟩ := h
  exact hR
theorem q_told {X : cc_X} {T : Nat → Nat} {sm : mm_S} {sc : cc_S} {fu : Nat} (hfu : 700 < fu) (h : Rel X T sm sc) (x : Int32) : Eq2 X T (M_told fu x sm) (C_X11_told X fu 0 x sc) := by
  obtain ⟨i9, i13, i14, i15, -⟩ := Rel_I h
  unfold M_told C_X11_told
  rw [px_go h.1 (by decide), px_go h.1 (by decide), i13, i14, i15, Rel_K hfu h mq_rf, Rel_k h]
  simp only [gd_true, bn_some]
  split
  · exact Eq2_same h rfl rfl
  split
  · exact Eq2_same h rfl rfl
  split
  · exact Eq2_same h rfl rfl
  split
  · exact Eq2_same h rfl rfl
  exact Eq2_same h rfl rfl
theorem Eq2_q {ρ : Type} {X : cc_X} {T : Nat → Nat} {sm : mm_S} {sc : cc_S} {x : Option (ρ × mm_S)} {y : Option (ρ × cc_S)} {r : ρ} (h : Rel X T sm sc) (hx : fc_ok x (fun q => q.1 = r ∧ mq sm q.2)) (hy : y = some (r, sc)) : Eq2 X T x y := by
  obtain ⟨⟨r', sm'⟩, e, e1, hq⟩ := hx
  obtain rfl : r' = r := e1
  exact ⟨_, sm', sc, e, hy, Rel_q hq h⟩
theorem bn_id {α β : Type} {x : Option (α × β)} : fc_bn x (fun r st => some (r, st)) = x := by
  cases x <;> rfl
theorem q_of {X : cc_X} {T : Nat → Nat} {sm : mm_S} {sc : cc_S} {fu : Nat} (hfu : 700 < fu) (h : Rel X T sm sc) (x w : Int32) : Eq2 X T (M_of fu x w sm) (C_X11_of X fu 0 x w sc) := by
  obtain ⟨n, hn, h0, h9, hk⟩ := Rel_n h
  unfold M_of C_X11_of
  rw [px_go h.1 (by decide), px_go h.1 (by decide), gd_true, gd_true]
  rcases need_cases x hn with ⟨i, hi, rfl⟩ | hx
  · obtain ⟨z, κ, ν, a1, a2, a3, a4, a5, a6, a7, a8, a9, a10, a11⟩ := hk i hi
    obtain ⟨-, i13, -, i15, -⟩ := Rel_I h
    obtain ⟨-, d, y, -, -, -, -, r2, r3, -⟩ := Rel_R h
    rw [e_isNeed1 h0 hi hn, e_needOf1 h.1 h9 hi hn a1, bn_some, bn_some, mt_some, if_neg (by decide), nI_ix (by omega) (by decide), cgo a3 a4 (kcl_mem κ), px_ga h.1 (c := 9) (i := 1) (k := 1) (t := 1) (a := i) (by decide) (by decide) rfl rfl (by show i < 6; omega) (by decide), nI_clamp (by omega), a7, a8, a9, a11, i13, i15, (Rel_G h).1 i (by omega), r3.2, Rel_w hfu h h0 hn hi (by omega), bn_some]
    simp only [gd_true]
    split
    · exact Eq2_same h rfl rfl
    split
    · exact Eq2_same h rfl rfl
    split
    · exact Eq2_same h rfl rfl
    split
    · rw [bn_id]
      exact Eq2_q h (Rel_W hfu h mq_rf hn hi (by omega)) rfl
    exact Eq2_same h rfl rfl
  · rw [e_isNeed0 h0 hn hx, e_needOf0 h.1 h9 hx, bn_some, bn_some, mt_none, if_pos rfl]
    exact Eq2_same h rfl rfl
theorem q_worth {X : cc_X} {T : Nat → Nat} {sm : mm_S} {sc : cc_S} {fu : Nat} (hfu : 700 < fu) (h : Rel X T sm sc) (x w d : Int32) : Eq2 X T (M_worth fu x w d sm) (C_X11_worth X fu 0 x w d sc) := by
  obtain ⟨n, hn, h0, h9, hk⟩ := Rel_n h
  unfold M_worth C_X11_worth
  rw [px_go h.1 (by decide), px_go h.1 (by decide), gd_true, gd_true]
  rcases need_cases x hn with ⟨i, hi, rfl⟩ | hx
  · obtain ⟨-, i13, -, i15, -⟩ := Rel_I h
    obtain ⟨-, dd, y, -, -, -, -, r2, r3, -⟩ := Rel_R h
    rw [e_isNeed1 h0 hi hn, e_has1 (px_go h.1 (by decide)) h9 hi hn, bn_some, bn_some, if_neg (by decide), if_neg (by decide), e_in, e_win, bn_some, bn_some]
    rcases inw_c w (m := 60) (by decide) with e | ⟨e, j, hj, rfl⟩
    · rw [show inw w 60 = 0 from e, if_pos rfl, if_pos rfl]
      exact Eq2_same h rfl rfl
    · rw [show inw (nI j) 60 = 1 from e, if_neg (by decide), if_neg (by decide), e_isDarks, e_win, bn_some, bn_some]
      rcases inw_c d (m := 8) (by decide) with e | ⟨e, k, hk, rfl⟩
      · rw [show inw d 8 = 0 from e, if_pos rfl, if_pos rfl]
        exact Eq2_same h rfl rfl
      · rw [show inw (nI k) 8 = 1 from e, if_neg (by decide), if_neg (by decide), bn_id, bn_id, i15, r3.2, nI_add]
        exact Eq2_q h (Rel_W hfu h mq_rf hn hi (by omega)) (Rel_w hfu h h0 hn hi (by omega))
  · rw [e_isNeed0 h0 hn hx, e_has0 (px_go h.1 (by decide)) h9 hx, bn_some, bn_some, if_pos rfl, if_pos rfl]
    exact Eq2_same h rfl rfl
