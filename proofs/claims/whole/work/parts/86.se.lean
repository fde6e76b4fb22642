/-! seen: can, darked -/
def Sv (n : Nat) (need v : Int32) (sm sm' : mm_S) : Prop := (∀ k, mm_I sm' k = mm_I sm k) ∧ (∀ k j, k ≠ 5 → mm_G sm' k j = mm_G sm k j) ∧ ∀ o, o < n → (nI o ≠ need → mm_G sm' 5 o = mm_G sm 5 o) ∧ (nI o = need → mm_G sm' 5 o = v)
theorem h_seen {X : cc_X} {T : Nat → Nat} {sm sm' : mm_S} {sc : cc_S} {fu n : Nat} {need v d : Int32} (hfu : 700 < fu) (h : Rel X T sm sc) (h0 : mm_I sm 0 = nI n) (hn : n ≤ 6) (hS : Sv n need v sm sm') {st : mm_S} (hq : mq sm' st) :
    ∃ b st', M_isSeen fu d st = some (bi b, st') ∧ mq sm' st' ∧ C_X7_isAllSeen X fu 1 need v d sc = some (bi b, sc) := by
  obtain ⟨n', dd, y, c, s, b, r1, r2, r3, r4, r5, r6, r7, r8, -⟩ := Rel_R h
  obtain ⟨n'', hn'', h0'', h9, hk⟩ := Rel_n h
  have e : n' = n := (nI_eq_iff (by omega) (by omega)).mp (r1.2.symm.trans h0)
  subst e
  have e : n'' = n' := (nI_eq_iff (by omega) (by omega)).mp (h0''.symm.trans h0)
  subst e
  obtain ⟨i9, i13, i14, i15, i10, i11, i12⟩ := Rel_I h
  obtain ⟨g1, g2, g3, g4, g5, g6, -⟩ := Rel_G h
  have hAr : Ar sm sm' := fun k j _ _ => hS.2.1 k j (by omega)
  have hA' : AO X sm' sc 1 (mm_I sm' 9) := by
    rw [hS.1 9]
    exact AO_mv hAr Hi_rf rfl (Rel_A h)
  have hrow : ∀ j, j < 24 → cc_G sc 1 2 j = mm_G sm' 7 j := fun j hj => (g2 j hj).trans (hS.2.1 7 j (by decide)).symm
  have e31 : ∀ {st}, mq sm' st → mm_I st 31 = nI s := fun hq => (hq.1 31 (by decide)).trans ((hS.1 31).trans r5.2)
  have e3 : ∀ {st}, mq sm' st → mm_I st 3 = nI y := fun hq => (hq.1 3 (by decide)).trans ((hS.1 3).trans r3.2)
  have eG : ∀ {st}, mq sm' st → ∀ k j, k ≠ 25 → k ≠ 5 → mm_G st k j = mm_G sm k j := fun hq k j k1 k2 => (hq.2.1 k j k1).trans (hS.2.1 k j k2)
  have loop : ∀ m k f st, k + m = s → m < f → mq sm' st → ∃ b st', M_isSeen_b2 fu f d (nI k) st = some (bi b, st') ∧ mq sm' st' ∧ C_X7_isAllSeen_b3 X fu f 1 need v d (nI k) sc = some (bi b, sc) := by
    intro m
    induction m with
    | zero =>
      intro k f st hkm hm hqs
      obtain ⟨f, rfl⟩ : ∃ g, f = g + 1 := ⟨f - 1, by omega⟩
      rw [show M_isSeen_b2 fu (f + 1) d (nI k) st = M_isSeen_b2F fu (fun a b s => M_isSeen_b2 fu f a b s) d (nI k) st from rfl, show C_X7_isAllSeen_b3 X fu (f + 1) 1 need v d (nI k) sc = C_X7_isAllSeen_b3F X fu (fun a b c e g s => C_X7_isAllSeen_b3 X fu f a b c e g s) 1 need v d (nI k) sc from rfl]
      unfold M_isSeen_b2F C_X7_isAllSeen_b3F
      rw [e31 hqs, if_pos ((nI_le_iff (by omega) (by omega)).mpr (by omega)), px_go h.1 (by decide), gd_true, i11, r5.2, if_pos ((nI_le_iff (by omega) (by omega)).mpr (by omega))]
      exact ⟨true, st, rfl, hqs, rfl⟩
    | succ m ih =>
      intro k f st hkm hm hqs
      obtain ⟨f, rfl⟩ : ∃ g, f = g + 1 := ⟨f - 1, by omega⟩
      have hle : ¬ nI s ≤ nI k := fun q => by have := (nI_le_iff (by omega) (by omega)).mp q; omega
      rw [show M_isSeen_b2 fu (f + 1) d (nI k) st = M_isSeen_b2F fu (fun a b s => M_isSeen_b2 fu f a b s) d (nI k) st from rfl, show C_X7_isAllSeen_b3 X fu (f + 1) 1 need v d (nI k) sc = C_X7_isAllSeen_b3F X fu (fun a b c e g s => C_X7_isAllSeen_b3 X fu f a b c e g s) 1 need v d (nI k) sc from rfl]
      unfold M_isSeen_b2F C_X7_isAllSeen_b3F
      obtain ⟨⟨o, ho, eo⟩, ⟨w, hw, ew⟩, t, ht, et⟩ := r8 k (by omega)
      have ek : (nI k).toNatClampNeg = k := nI_clamp (by omega)
      rw [e31 hqs, if_neg hle, px_go h.1 (by decide), gd_true, i11, r5.2, if_neg hle, nI_ix (show k < 5 by omega) (by decide), px_ga h.1 (c := 9) (i := 1) (k := 4) (t := 1) (a := k) (j := nI k) (by decide) (by decide) rfl rfl (by show k < 5; omega) (by decide), px_ga h.1 (c := 9) (i := 1) (k := 6) (t := 1) (a := k) (j := nI k) (by decide) (by decide) rfl rfl (by show k < 5; omega) (by decide), ek, eG hqs 33 k (by decide) (by decide), eG hqs 35 k (by decide) (by decide), eo, et, e3 hqs, g4 k (by omega), g6 k (by omega), eo, et, i15, r3.2, nI_add]
      simp only [gd_true, nm_eq]
      obtain ⟨z, κ, ν, a1, a2, a3, a4, a5, a6, a7, a8, a9, a10, a11⟩ := hk o ho
      have a7' : mm_G sm' 4 o = nI κ := (hS.2.1 4 o (by decide)).trans a7
      obtain ⟨⟨r, st'⟩, w1, w2, w3⟩ := h_worth fu hfu (sm := sm') (st0 := st) (i := o) (y := y + t) (d := d) (AO_MAr hA') hqs (by omega) (by omega)
      obtain rfl : r = worthv sm' (nI o) (nI (y + t)) d := w2
      have w3 : mq sm' st' := w3
      rw [w1, bn_some]
      have hC : (if nI o = need then fc_bn (C_X7_worthBy X fu 1 (nI o) v (nI (y + t)) d sc) fun r13 st11 => C_X7_isAllSeen_b63 X fu (fun a b c e g s => C_X7_isAllSeen_b3 X fu f a b c e g s) 1 need v d (nI k) r13 st11 else fc_bn (C_X7_worthOf X fu 1 (nI o) (nI (y + t)) d sc) fun r10 st8 => C_X7_isAllSeen_b63 X fu (fun a b c e g s => C_X7_isAllSeen_b3 X fu f a b c e g s) 1 need v d (nI k) r10 st8) = C_X7_isAllSeen_b63 X fu (fun a b c e g s => C_X7_isAllSeen_b3 X fu f a b c e g s) 1 need v d (nI k) (worthv sm' (nI o) (nI (y + t)) d) sc := by
        by_cases hne : nI o = need
        · rw [if_pos hne, h_cworthBy hfu h.1 hA' h9 ho hn a1 a3 a4 a5 a7' a9 ((hS.2.2 o ho).2 hne) hrow (by omega), bn_some]
        · rw [if_neg hne, h_cworthOf hfu h.1 hA' h9 ho hn a1 a3 a4 a5 a7' a9 (((hS.2.2 o ho).1 hne).trans (a8.trans a11.symm)) hrow (by omega), bn_some]
      rw [hC]
      unfold C_X7_isAllSeen_b63
      rw [px_go h.1 (by decide), px_ga h.1 (c := 9) (i := 1) (k := 5) (t := 1) (a := k) (j := nI k) (by decide) (by decide) rfl rfl (by show k < 5; omega) (by decide), gd_true, gd_true, ek, g5 k (by omega), eG w3 34 k (by decide) (by decide), nI_1, nm_eq]
      split
      · exact ih (k + 1) f st' (by omega) (by omega) w3
      · exact ⟨false, st', rfl, w3, rfl⟩
  obtain ⟨b, st', e1, e2, e3⟩ := loop s 0 fu st (by omega) (by omega) hq
  exact ⟨b, st', e1, e2, e3⟩
def dn (m : Nat) : Int32 := nI m - 1
theorem dn_s (m : Nat) : dn (m + 1) = nI m := nI_pred m
theorem dn_n (m : Nat) : nI m + (-1) = dn m := (Int32.sub_eq_add_neg _ _).symm
theorem dn_0 : dn 0 < 0 := by decide
theorem q_darked {X : cc_X} {T : Nat → Nat} {sm : mm_S} {sc : cc_S} {fu : Nat} (hfu : 700 < fu) (h : Rel X T sm sc) (w : Int32) : Eq2 X T (M_darked fu w sm) (C_X11_darked X fu 0 w sc) := by
  obtain ⟨n, hn, h0, h9, hk⟩ := Rel_n h
  have hS : Sv n (-1) 0 sm sm := ⟨fun _ => rfl, fun _ _ _ => rfl, fun o ho => ⟨fun _ => rfl, fun q => absurd q (nI_ne_m1 (by omega))⟩⟩
  have loop : ∀ m f st many least, m < f → mq sm st → m ≤ 9 → ∃ r st', M_darked_b21 fu f w many least (dn m) st = some (r, st') ∧ mq sm st' ∧ C_X11_darked_b19 X fu f 0 w many least (dn m) sc = some (r, sc) := by
    intro m
    induction m with
    | zero =>
      intro f st many least hm hqs _
      obtain ⟨f, rfl⟩ : ∃ g, f = g + 1 := ⟨f - 1, by omega⟩
      rw [show M_darked_b21 fu (f + 1) w many least (dn 0) st = M_darked_b21F fu (fun a b c d s => M_darked_b21 fu f a b c d s) w many least (dn 0) st from rfl, show C_X11_darked_b19 X fu (f + 1) 0 w many least (dn 0) sc = C_X11_darked_b19F X fu (fun a b c d e s => C_X11_darked_b19 X fu f a b c d e s) 0 w many least (dn 0) sc from rfl]
      unfold M_darked_b21F C_X11_darked_b19F
      rw [if_pos dn_0, if_pos dn_0]
      split
      · exact ⟨many, st, rfl, hqs, rfl⟩
      · exact ⟨least, st, rfl, hqs, rfl⟩
    | succ m ih =>
      intro f st many least hm hqs h9'
      obtain ⟨f, rfl⟩ : ∃ g, f = g + 1 := ⟨f - 1, by omega⟩
      rw [show M_darked_b21 fu (f + 1) w many least (dn (m + 1)) st = M_darked_b21F fu (fun a b c d s => M_darked_b21 fu f a b c d s) w many least (dn (m + 1)) st from rfl, show C_X11_darked_b19 X fu (f + 1) 0 w many least (dn (m + 1)) sc = C_X11_darked_b19F X fu (fun a b c d e s => C_X11_darked_b19 X fu f a b c d e s) 0 w many least (dn (m + 1)) sc from rfl]
      unfold M_darked_b21F C_X11_darked_b19F M_darked_b44 C_X11_darked_b44
      obtain ⟨b, st', e1, e2, e3⟩ := h_seen (d := dn (m + 1)) hfu h h0 hn hS hqs
      rw [dn_s] at e1 e3 ⊢
      rw [if_neg (i3_neg (by omega)), if_neg (i3_neg (by omega)), px_go h.1 (by decide), px_go h.1 (by decide), gd_true, gd_true, e1, e3, bn_some, bn_some]
      simp only [nm_eq, dn_n]
      split
      · exact ih f st' _ _ (by omega) e2 (by omega)
      · exact ih f st' _ _ (by omega) e2 (by omega)
  unfold M_darked C_X11_darked
  rw [e_in, e_win, bn_some, bn_some]
  split
  · exact Eq2_same h rfl rfl
  · obtain ⟨r, st', e1, e2, e3⟩ := loop 9 fu sm 0 (-5) (by omega) mq_rf (by omega)
    exact ⟨r, st', sc, e1, e3, Rel_q e2 h⟩
def Ex (i : Nat) (sm st : mm_S) : Prop := (∀ k, k ≠ 27 → mm_I st k = mm_I sm k) ∧ (∀ k j, k ≠ 25 → ¬ (k = 5 ∧ j = i) → mm_G st k j = mm_G sm k j) ∧ ∀ k j, k ≠ 26 → k ≠ 28 → mm_L st k j = mm_L sm k j
theorem Ex_s {i : Nat} {v : Int32} {sm st : mm_S} (h : Ex i sm st) : mq (mm_sG sm 5 i v) (mm_sG st 5 i v) := by
  refine ⟨h.1, fun k j hk => ?_, h.2.2⟩
  rw [mG_sG, mG_sG]
  by_cases h5 : k = 5
  · rw [if_pos h5, if_pos h5]
    by_cases hj : j = i
    · rw [if_pos hj, if_pos hj]
    · rw [if_neg hj, if_neg hj]
      exact h.2.1 5 j (by decide) (by omega)
  · rw [if_neg h5, if_neg h5]
    exact h.2.1 k j hk (by omega)
theorem Ex_q {i : Nat} {v : Int32} {sm st : mm_S} (h : mq (mm_sG sm 5 i v) st) : Ex i sm st := by
  refine ⟨h.1, fun k j hk hkj => ?_, h.2.2⟩
  rw [h.2.1 k j hk, mG_sG]
  by_cases h5 : k = 5
  · rw [if_pos h5, if_neg (by omega), h5]
  · rw [if_neg h5]
theorem q_can {X : cc_X} {T : Nat → Nat} {sm : mm_S} {sc : cc_S} {fu : Nat} (hfu : 700 < fu) (h : Rel X T sm sc) (x w : Int32) : Eq2 X T (M_can fu x w sm) (C_X11_can X fu 0 x w sc) := by
  obtain ⟨n, hn, h0, h9, hk⟩ := Rel_n h
  obtain ⟨-, i13, -⟩ := Rel_I h
  unfold M_can C_X11_can
  rw [px_go h.1 (by decide), px_go h.1 (by decide), gd_true, gd_true]
  rcases need_cases x hn with ⟨i, hi, rfl⟩ | hx
  · rw [e_isNeed1 h0 hi hn, e_has1 (px_go h.1 (by decide)) h9 hi hn, bn_some, bn_some, if_neg n10, if_neg n10, e_in, e_win, bn_some, bn_some, nI_ix (show i < 6 by omega) (by decide)]
    split
    · exact Eq2_same h rfl rfl
    rw [gd_true, nm_eq, nI_clamp (show i < 2 ^ 31 by omega)]
    have loop : ∀ m f st many least, m < f → Ex i sm st → m ≤ 10 → ∃ r st', M_can_b38 fu f (nI i) w (mm_G sm 5 i) many least (dn m) st = some (r, st') ∧ mq sm st' ∧ C_X11_can_b31 X fu f 0 (nI i) w many least (dn m) sc = some (r, sc) := by
      intro m
      induction m with
      | zero =>
        intro f st many least hm hqs _
        obtain ⟨f, rfl⟩ : ∃ g, f = g + 1 := ⟨f - 1, by omega⟩
        rw [show M_can_b38 fu (f + 1) (nI i) w (mm_G sm 5 i) many least (dn 0) st = M_can_b38F fu (fun a b c d e g s => M_can_b38 fu f a b c d e g s) (nI i) w (mm_G sm 5 i) many least (dn 0) st from rfl, show C_X11_can_b31 X fu (f + 1) 0 (nI i) w many least (dn 0) sc = C_X11_can_b31F X fu (fun a b c d e g s => C_X11_can_b31 X fu f a b c d e g s) 0 (nI i) w many least (dn 0) sc from rfl]
        unfold M_can_b38F C_X11_can_b31F
        rw [if_pos dn_0, if_pos dn_0, nI_ix (show i < 6 by omega) (by decide), gd_true, nm_eq, nI_clamp (show i < 2 ^ 31 by omega)]
        have hq : mq sm (mm_sG st 5 i (mm_G sm 5 i)) := by
          refine ⟨hqs.1, fun k j hk => ?_, hqs.2.2⟩
          rw [mG_sG]
          by_cases h5 : k = 5
          · rw [if_pos h5]
            by_cases hj : j = i
            · rw [if_pos hj, h5, hj]
            · rw [if_neg hj, h5]
              exact hqs.2.1 5 j (by decide) (by omega)
          · rw [if_neg h5]
            exact hqs.2.1 k j hk (by omega)
        split
        · exact ⟨many, _, rfl, hq, rfl⟩
        · exact ⟨least, _, rfl, hq, rfl⟩
      | succ m ih =>
        intro f st many least hm hqs h9'
        obtain ⟨f, rfl⟩ : ∃ g, f = g + 1 := ⟨f - 1, by omega⟩
        rw [show M_can_b38 fu (f + 1) (nI i) w (mm_G sm 5 i) many least (dn (m + 1)) st = M_can_b38F fu (fun a b c d e g s => M_can_b38 fu f a b c d e g s) (nI i) w (mm_G sm 5 i) many least (dn (m + 1)) st from rfl, show C_X11_can_b31 X fu (f + 1) 0 (nI i) w many least (dn (m + 1)) sc = C_X11_can_b31F X fu (fun a b c d e g s => C_X11_can_b31 X fu f a b c d e g s) 0 (nI i) w many least (dn (m + 1)) sc from rfl]
        unfold M_can_b38F C_X11_can_b31F M_can_b72 C_X11_can_b63
        have hSv : Sv n (nI i) (nI m) sm (mm_sG sm 5 i (nI m)) := by
          refine ⟨fun _ => rfl, fun k j hk => by rw [mG_sG, if_neg hk], fun o ho => ⟨fun hne => ?_, fun he => ?_⟩⟩
          · rw [mG_sG, if_pos rfl, if_neg (fun q => hne (by rw [q]))]
          · have := (nI_eq_iff (by omega) (by omega)).mp he
            rw [mG_sG, if_pos rfl, if_pos this]
        obtain ⟨b, st', e1, e2, e3⟩ := h_seen (d := mm_I sm 1) hfu h h0 hn hSv (Ex_s hqs)
        rw [dn_s]
        rw [if_neg (i3_neg (by omega)), if_neg (i3_neg (by omega)), px_go h.1 (by decide), px_go h.1 (by decide), nI_ix (show i < 6 by omega) (by decide), gd_true, gd_true, gd_true, nm_eq, nI_clamp (show i < 2 ^ 31 by omega), i13, show mm_I (mm_sG st 5 i (nI m)) 1 = mm_I sm 1 from hqs.1 1 (by decide), e1, e3, bn_some, bn_some]
        simp only [nm_eq, dn_n]
        split
        · exact ih f st' _ _ (by omega) (Ex_q e2) (by omega)
        · exact ih f st' _ _ (by omega) (Ex_q e2) (by omega)
    obtain ⟨r, st', e1, e2, e3⟩ := loop 10 fu sm 0 (-5) (by omega) ⟨fun _ _ => rfl, fun _ _ _ _ => rfl, fun _ _ _ _ => rfl⟩ (by omega)
    exact ⟨r, st', sc, e1, e3, Rel_q e2 h⟩
  · rw [e_isNeed0 h0 hn hx, e_has0 (px_go h.1 (by decide)) h9 hx, bn_some, bn_some, if_pos rfl, if_pos rfl]
    exact Eq2_same h rfl rfl
