/-! the worlds alike with one object more; need, feed, archive -/
theorem exI {sc : cc_S} {y i k : Nat} {I : Nat → Int32} {G : Nat → Nat → Int32} (h : i ≠ y) : cc_I (ex_S sc y I G) i k = cc_I sc i k := if_neg h
theorem exG {sc : cc_S} {y i k j : Nat} {I : Nat → Int32} {G : Nat → Nat → Int32} (h : i ≠ y) : cc_G (ex_S sc y I G) i k j = cc_G sc i k j := by
  show (if i = y then G k else sc.2.1 i k) j = _
  rw [if_neg h]
  rfl
theorem px_50 : ∀ q ∈ px_o, q.1 < 50 := by decide
section RX
variable {X : cc_X} {T : Nat → Nat} {sm : mm_S} {sc : cc_S} {y c ad : Nat} {rs : List Nat} {adr : Nat → Nat} {I : Nat → Int32} {G : Nat → Nat → Int32}
theorem px_ex (hf : ex_F X sc y) (h : px_X X) : px_X (ex_X X y c ad rs adr) := ⟨fun q hq => ⟨List.mem_append_left _ (h.1 q hq).1, (if_neg (by have := px_50 q hq; have := hf.1; omega)).trans (h.1 q hq).2⟩, fun r hr => List.mem_append_left _ (h.2 r hr)⟩
theorem AR_ex (hf : ex_F X sc y) {a w : Nat} (h : AR X sm sc a w) : AR (ex_X X y c ad rs adr) sm (ex_S sc y I G) a w := by
  obtain ⟨⟨h1, h2, h3, h4⟩, n, s, hn, h14, h7, h9, hcl⟩ := h
  have hne : w ≠ y := fun e => hf.2.1 (e ▸ h2)
  refine ⟨⟨h1, List.mem_append_left _ h2, (if_neg hne).trans h3, fun k hk => List.mem_append_left _ (h4 k hk)⟩, n, s, hn, h14, (exI hne).trans h7, (exI hne).trans h9, fun cl hc => ?_⟩
  have h := hcl cl hc
  unfold CLr at h ⊢
  simp only [exG hne]
  exact h
theorem AO_ex (hf : ex_F X sc y) {o : Nat} {x : Int32} (h : AO X sm sc o x) : AO (ex_X X y c ad rs adr) sm (ex_S sc y I G) o x := by
  rcases h with h | ⟨a, w, ha, hx, hP, hA⟩
  · exact Or.inl h
  · exact Or.inr ⟨a, w, ha, hx, hP, AR_ex hf hA⟩
theorem NR_ex (hf : ex_F X sc y) {o k : Nat} {Gm : Nat → Nat → Int32} (h : NR X sc o Gm k) : NR (ex_X X y c ad rs adr) (ex_S sc y I G) o Gm k := by
  obtain ⟨w, κ, ν, a1, a2, a3, a4, a5, a6, a7, a8, a9, a10, a11⟩ := h
  have hne : w ≠ y := fun e => hf.2.1 (e ▸ a3)
  exact ⟨w, κ, ν, a1, a2, List.mem_append_left _ a3, (if_neg hne).trans a4, a5, a6, a7, a8, (exI hne).trans a9, (exI hne).trans a10, (exI hne).trans a11⟩
theorem PS_ex (hf : ex_F X sc y) {A o : Nat} {Im : Nat → Int32} {Gm : Nat → Nat → Int32} (ho : o < 50) (h : PS X sm sc A o Im Gm) : PS (ex_X X y c ad rs adr) sm (ex_S sc y I G) A o Im Gm := by
  have hne : o ≠ y := by have := hf.1; omega
  obtain ⟨h1, h2, ⟨n, hn, h0, hk, hy⟩, h4, h5⟩ := h
  refine ⟨?_, ?_, ⟨n, hn, h0, fun k hkn => NR_ex hf (hk k hkn), fun k w h6 hp => ?_⟩, ⟨AO_ex hf h4.1, h4.2⟩, h5⟩
  · unfold PI at h1 ⊢
    simp only [exI hne]
    exact h1
  · unfold PG at h2 ⊢
    simp only [exG hne]
    exact h2
  · obtain ⟨b1, b2⟩ := hy k w h6 hp
    have hne2 : w ≠ y := fun e => hf.2.1 (e ▸ b1)
    have e : cx_K (ex_X X y c ad rs adr) w = cx_K X w := if_neg hne2
    exact ⟨List.mem_append_left _ b1, by rw [e]; exact b2⟩
theorem Rel_ex (hf : ex_F X sc y) (h : Rel X T sm sc) : Rel (ex_X X y c ad rs adr) T sm (ex_S sc y I G) := by
  obtain ⟨hX, A, h1, h2, h3, h4⟩ := h
  have hy := hf.1
  refine ⟨px_ex hf hX, A, PS_ex hf (by decide) h1, ?_, ?_, fun t ht => ?_⟩
  · rcases h2 with h2 | ⟨h2, h2'⟩
    · exact Or.inl h2
    · exact Or.inr ⟨h2, PS_ex hf (by decide) h2'⟩
  · unfold Rm at h3 ⊢
    simp only [exI (show 0 ≠ y by omega), exI (show 40 ≠ y by omega), exG (show 0 ≠ y by omega)]
    exact h3
  · have := h4 t ht
    unfold Rt1 at this ⊢
    simp only [exI (show 4 + t ≠ y by omega)]
    exact this
/-! moves: what the reader's cells are left as doesn't matter -/
theorem PS_mw {sm' : mm_S} {sc' : cc_S} {A A' o : Nat} {Im Im' : Nat → Int32} {Gm Gm' : Nat → Nat → Int32} (hPA : PA X sm' sc' A' o (Im' 9)) (hHi : Hi sc sc') (hI : ∀ k, cc_I sc' o k = cc_I sc o k) (hG : ∀ k j, cc_G sc' o k j = cc_G sc o k j) (hP : ∀ j, cc_P sc' o 0 j = cc_P sc o 0 j) (hi : ∀ k, k < 4 ∨ 29 ≤ k → Im' k = Im k) (hg : ∀ k, k < 8 ∨ 30 ≤ k → Gm' k = Gm k) (h : PS X sm sc A o Im Gm) : PS X sm' sc' A' o Im' Gm' := by
  obtain ⟨h1, h2, h3, h4, h5⟩ := h
  refine ⟨?_, ?_, PN_mv hHi hP (hi 0 (by omega)) (fun k => by rw [hg 4 (by omega)]) (fun k => by rw [hg 5 (by omega)]) h3, hPA, ?_⟩
  · unfold PI
    simp only [hi 0 (by omega), hi 1 (by omega), hi 2 (by omega), hi 3 (by omega), hi 29 (by omega), hi 31 (by omega), hi 32 (by omega), hI]
    exact h1
  · unfold PG
    simp only [hg 6 (by omega), hg 7 (by omega), hg 30 (by omega), hg 33 (by omega), hg 34 (by omega), hg 35 (by omega), hg 36 (by omega), hg 37 (by omega), hG]
    exact h2
  · unfold PR
    simp only [hi 0 (by omega), hi 1 (by omega), hi 3 (by omega), hi 29 (by omega), hi 31 (by omega), hi 32 (by omega), hg 6 (by omega), hg 7 (by omega), hg 30 (by omega), hg 33 (by omega), hg 34 (by omega), hg 35 (by omega), hg 36 (by omega)]
    exact h5
end RX
theorem imI_w {sm sm' : mm_S} (h : ∀ k, k < 8 ∨ 24 ≤ k → mm_I sm' k = mm_I sm k) (k : Nat) (hk : k < 4 ∨ k = 9 ∨ 29 ≤ k) : imI sm' k = imI sm k := by
  refine h (im_I k) ?_
  unfold im_I
  repeat' split
  all_goals omega
theorem imG_w {sm sm' : mm_S} (h : ∀ k j, k < 8 ∨ 24 ≤ k → mm_G sm' k j = mm_G sm k j) (k : Nat) (hk : k < 8 ∨ 30 ≤ k) : imG sm' k = imG sm k := by
  refine funext fun j => h (im_G k) j ?_
  unfold im_G
  repeat' split
  all_goals omega
theorem AR_Fa {X : cc_X} {sm sm' : mm_S} {sc : cc_S} {a A w : Nat} (hF : Fa A sm sm') (ha : a ≠ A) (h : AR X sm sc a w) : AR X sm' sc a w := by
  obtain ⟨h1, n, s, hn, h14, h7, h9, hcl⟩ := h
  refine ⟨h1, n, s, hn, (hF.2.2.1 a ha).trans h14, h7, ?_, fun cl hc => ?_⟩
  · rw [h9]
    exact (kpf_cg (fun c hc => ⟨hF.2.2.2.1 15 _ (by decide) (by decide) (by omega), hF.2.2.2.1 16 _ (by decide) (by decide) (by omega)⟩)).symm
  · obtain ⟨⟨w', hw, e15, e3, hf⟩, ⟨m, hm, e16, e4⟩, e5, e51, h01, h100, hcod⟩ := hcl cl hc
    refine ⟨⟨w', hw, (hF.2.2.2.1 15 _ (by decide) (by decide) (by omega)).trans e15, e3, fun hw2 => ?_⟩, ⟨m, hm, (hF.2.2.2.1 16 _ (by decide) (by decide) (by omega)).trans e16, e4⟩, e5, e51, h01, h100, fun j h1 h2 => ?_⟩
    · obtain ⟨a1, a2, a3⟩ := hf hw2
      refine ⟨(hF.2.2.2.1 17 _ (by decide) (by decide) (by omega)).trans a1, (hF.2.2.2.1 18 _ (by decide) (by decide) (by omega)).trans a2, wfn_cg a3 (fun j h1 h2 => hF.2.2.2.2.1 j (by omega))⟩
    · rw [hF.2.2.2.2.1 _ (by omega)]
      exact hcod j h1 h2
theorem PA_Fa {X : cc_X} {sm sm' : mm_S} {sc : cc_S} {A B o : Nat} {x : Int32} (hF : Fa A sm sm') (hA : A ≤ 6) (hB : A ≤ B) (h : PA X sm sc A o x) : PA X sm' sc B o x := by
  obtain ⟨h1, h2⟩ := h
  rcases h1 with h1 | ⟨a, w, ha, hx, hP, hR⟩
  · exact ⟨Or.inl h1, Or.inl h1.1⟩
  · rcases h2 with h2 | ⟨a2, ha2, hx2⟩
    · exfalso
      rw [hx] at h2
      revert h2
      have hcs : a = 0 ∨ a = 1 ∨ a = 2 ∨ a = 3 ∨ a = 4 ∨ a = 5 := by omega
      rcases hcs with rfl | rfl | rfl | rfl | rfl | rfl <;> decide
    · have e : a = a2 := (nI_eq_iff (by omega) (by omega)).mp (hx.symm.trans hx2)
      exact ⟨Or.inr ⟨a, w, ha, hx, hP, AR_Fa hF (by omega) hR⟩, Or.inr ⟨a, by omega, hx⟩⟩
/-! feed -/
theorem q_feedA {fu : Nat} {x : Int32} {sm : mm_S} (hb : inw x 127 = 0) : M_feed fu x sm = some (-2, sm) := by
  unfold M_feed
  rw [e_in, bn_some, if_pos hb]
theorem q_feedB {fu : Nat} {x : Int32} {sm : mm_S} (hb : ¬ inw x 127 = 0) (h : mm_I sm 10 = nI 100) : M_feed fu x sm = some (-4, sm) := by
  unfold M_feed
  rw [e_in, bn_some, if_neg hb, if_pos (show mm_I sm 10 = 100 from h)]
theorem q_feedC {X : cc_X} {T : Nat → Nat} {sm : mm_S} {sc : cc_S} {fu x n : Nat} (h : Rel X T sm sc) (hx : x < 128) (hb : ¬ inw (nI x) 127 = 0) (hn : n < 100) (h10 : mm_I sm 10 = nI n) : ∃ sm', M_feed fu (nI x) sm = some (nI (n + 1), sm') ∧ Rel X (fun k => if k = n then x else T k) sm' (cc_sI sc 40 3 (nI (n + 1))) := by
  have eM : M_feed fu (nI x) sm = some (nI (n + 1), mm_sI (mm_sG sm 13 n (nI x)) 10 (nI (n + 1))) := by
    unfold M_feed
    have e10 : mm_I (mm_sG sm 13 n (nI x)) 10 = nI n := h10
    rw [e_in, bn_some, if_neg hb, h10, if_neg (show ¬ nI n = 100 from fun e => by have := (nI_eq_iff (b := 100) (by omega) (by omega)).mp e; omega), nI_ix hn (by decide), gd_true, nI_clamp (by omega)]
    simp only [nm_eq]
    rw [e10, nI_1]
    rfl
  refine ⟨_, eM, ?_⟩
  generalize hs : mm_sI (mm_sG sm 13 n (nI x)) 10 (nI (n + 1)) = sm'
  have eI : ∀ k, k ≠ 10 → mm_I sm' k = mm_I sm k := fun k hk => by rw [← hs, mI_sI, if_neg hk]; rfl
  have eG : ∀ k j, k ≠ 13 → mm_G sm' k j = mm_G sm k j := fun k j hk => by
    rw [← hs]
    show mm_G (mm_sG sm 13 n (nI x)) k j = _
    rw [mG_sG, if_neg hk]
  have eL : ∀ k j, mm_L sm' k j = mm_L sm k j := fun k j => by rw [← hs]; rfl
  have hAr : Ar sm sm' := fun k j h1 h2 => eG k j (by omega)
  have hHi : Hi sc (cc_sI sc 40 3 (nI (n + 1))) := Hi_I Hi_rf (by decide)
  have eC : ∀ i k, i ≠ 40 → cc_I (cc_sI sc 40 3 (nI (n + 1))) i k = cc_I sc i k := fun i k hi => by rw [cI_sI, if_neg (fun e => hi e.1)]
  obtain ⟨hX, A, h1, h2, h3, h4⟩ := h
  refine ⟨hX, A, PS_mw (by rw [eI 9 (by decide)]; exact PA_mv hAr hHi rfl h1.2.2.2.1) hHi (fun k => eC 1 k (by decide)) (fun _ _ => rfl) (fun _ => rfl) (fun k hk => eI k (by omega)) (fun k hk => funext fun j => eG k j (by omega)) h1, ?_, ?_, fun t ht => ?_⟩
  · rw [eI 38 (by decide)]
    rcases h2 with h2 | ⟨h2, h2'⟩
    · exact Or.inl h2
    · exact Or.inr ⟨h2, PS_mw (by rw [imI_w (sm := sm) (fun k hk => eI k (by omega)) 9 (by omega)]; exact PA_mv hAr hHi rfl h2'.2.2.2.1) hHi (fun k => eC 2 k (by decide)) (fun _ _ => rfl) (fun _ => rfl) (fun k hk => imI_w (fun k hk => eI k (by omega)) k (by omega)) (imG_w (fun k j hk => eG k j (by omega))) h2'⟩
  · obtain ⟨⟨a1, a2, a3⟩, ⟨f, hf, b1, ⟨b2, b3⟩, b4⟩, c1, c2, c3, c4, c5⟩ := h3
    obtain rfl : f = n := (nI_eq_iff (by omega) (by omega)).mp (b1.symm.trans h10)
    refine ⟨⟨a1, by rw [eI 8 (by decide)]; exact a2, (eC 0 6 (by decide)).trans a3⟩, ⟨f + 1, by omega, by rw [← hs]; rfl, ⟨by rw [cI_sI, if_pos ⟨rfl, rfl⟩], by rw [cI_sI, if_neg (by decide)]; exact b3⟩, fun k hk => ?_⟩, by rw [eI 38 (by decide)]; exact (eC 0 7 (by decide)).trans c1, ?_, ?_, ?_, c5⟩
    · have e13 : mm_G sm' 13 k = if k = f then nI x else mm_G sm 13 k := by
        rw [← hs]
        show mm_G (mm_sG sm 13 f (nI x)) 13 k = _
        rw [mG_sG, if_pos rfl]
      rw [e13]
      show _ = nI (if k = f then x else T k) ∧ (if k = f then x else T k) < 128
      by_cases e : k = f
      · simp only [if_pos e]
        exact ⟨trivial, hx⟩
      · simp only [if_neg e]
        exact b4 k (by omega)
    · rw [eI 57 (by decide)]
      exact c2
    · intro k hk
      rw [eG 58 _ (by decide)]
      exact c3 k hk
    · intro k hk
      rw [eG 24 _ (by decide)]
      exact c4 k hk
  · have := h4 t ht
    unfold Rt1 at this ⊢
    simp only [eG 59 _ (by decide), eG 60 _ (by decide), eL, eC (4 + t) _ (show 4 + t ≠ 40 by omega)]
    exact this
/-! need -/
theorem q_needA {fu : Nat} {x1 x2 : Int32} {sm : mm_S} (hb : inw x1 6 = 0) : M_need fu x1 x2 sm = some (-1, sm) := by
  unfold M_need
  rw [e_in, bn_some, if_pos hb]
theorem q_needB {fu : Nat} {x1 x2 : Int32} {sm : mm_S} (hb : ¬ inw x1 6 = 0) (hb2 : inw x2 9 = 0) : M_need fu x1 x2 sm = some (-2, sm) := by
  unfold M_need
  rw [e_in, bn_some, if_neg hb, e_in, bn_some, if_pos hb2]
theorem q_needC {fu : Nat} {x1 x2 : Int32} {sm : mm_S} (hb : ¬ inw x1 6 = 0) (hb2 : ¬ inw x2 9 = 0) (h0 : mm_I sm 0 = nI 6) : M_need fu x1 x2 sm = some (-4, sm) := by
  unfold M_need
  rw [e_in, bn_some, if_neg hb, e_in, bn_some, if_neg hb2, if_pos (show mm_I sm 0 = 6 from h0)]
theorem q_needD {X : cc_X} {T : Nat → Nat} {sm : mm_S} {sc : cc_S} {fu κ ν n y : Nat} (hfu : 700 < fu) (h : Rel X T sm sc) (hκ : κ ≤ 6) (hν : ν ≤ 9) (hb : ¬ inw (nI κ) 6 = 0) (hb2 : ¬ inw (nI ν) 9 = 0) (h0 : mm_I sm 0 = nI n) (hn : n < 6) (hf : ex_F X sc y) :
    ∃ rr sm' sc', M_need fu (nI κ) (nI ν) sm = some (rr, sm') ∧ (∀ q, C_X7_join (nd_X X y κ q) 0 1 y (nd_S sc y κ n (nI ν)) = some (rr, sc')) ∧ ∀ q, Rel (nd_X X y κ q) T sm' sc' := by
  obtain ⟨f, rfl⟩ : ∃ f, fu = f + 1 + 1 + 1 + 1 + 1 := ⟨fu - 5, by omega⟩
  have hR := Rel_R h
  obtain ⟨n', d, yy, c, s, b, ⟨r1, r1'⟩, -, -, -, -, -, -, -, -, r6, r7⟩ := hR
  obtain rfl : n' = n := (nI_eq_iff (by omega) (by omega)).mp (r1'.symm.trans h0)
  have z6 : mm_G sm 6 n' = 0 := by
    obtain ⟨w, -, e, hw⟩ := r6 n' hn
    rw [e, hw (Nat.le_refl _)]
    rfl
  have z7 : ∀ j, j < 4 → mm_G sm 7 (4 * n' + j) = 0 := fun j hj => by
    obtain ⟨w, -, e, hw⟩ := r7 (4 * n' + j) (by omega)
    rw [e, hw (by omega)]
    rfl
  generalize hs1 : mm_sG (mm_sG (mm_sG sm 4 n' (nI κ)) 5 n' (nI ν)) 6 n' 0 = sm1
  have i1 : ∀ k, mm_I sm1 k = mm_I sm k := fun k => by rw [← hs1]; rfl
  have step : ∀ (K : Int32 → mm_S → Option (Int32 × mm_S)) (j : Nat) (st : mm_S), j < 4 → mm_I st 0 = nI n' → M_need_b71F (f + 1 + 1 + 1 + 1 + 1) K (nI j) st = K (nI (j + 1)) (mm_sG st 7 (4 * n' + j) 0) := by
    intro K j st hj hst
    unfold M_need_b71F
    rw [if_neg (show ¬ (4 : Int32) ≤ nI j from fun e => by have := (nI_le_iff (a := 4) (by omega) (by omega)).mp e; omega), hst, show (4 : Int32) * nI n' + nI j = nI (4 * n' + j) from by rw [show (4 : Int32) = nI 4 from rfl, nI_mul, nI_add], nI_ix (by omega) (by decide), gd_true, nI_clamp (by omega)]
    simp only [nm_eq]
    rw [nI_1]
  generalize hs2 : mm_sG (mm_sG (mm_sG (mm_sG sm1 7 (4 * n' + 0) 0) 7 (4 * n' + 1) 0) 7 (4 * n' + 2) 0) 7 (4 * n' + 3) 0 = sm2
  have i2 : ∀ k, mm_I sm2 k = mm_I sm k := fun k => by rw [← hs2]; exact i1 k
  have eM : M_need (f + 1 + 1 + 1 + 1 + 1) (nI κ) (nI ν) sm = some (nI (n' + 1) - 1, mm_sI sm2 0 (nI (n' + 1))) := by
    unfold M_need
    have a1 : mm_I (mm_sG sm 4 n' (nI κ)) 0 = nI n' := h0
    have a2 : mm_I (mm_sG (mm_sG sm 4 n' (nI κ)) 5 n' (nI ν)) 0 = nI n' := h0
    rw [e_in, bn_some, if_neg hb, e_in, bn_some, if_neg hb2, h0, if_neg (show ¬ nI n' = 6 from fun e => by have := (nI_eq_iff (b := 6) (by omega) (by omega)).mp e; omega), nI_ix hn (by decide), gd_true, nI_clamp (by omega)]
    simp only [nm_eq]
    rw [a1, nI_ix hn (by decide), gd_true, nI_clamp (by omega), a2, nI_ix hn (by decide), gd_true, nI_clamp (by omega), hs1]
    show M_need_b71F (f + 1 + 1 + 1 + 1 + 1) (fun x3 st => fc_lp (fun (K : Int32 × mm_S → Option (Int32 × mm_S)) a => M_need_b71F (f + 1 + 1 + 1 + 1 + 1) (fun x3 st => K (x3, st)) a.1 a.2) (f + 1 + 1 + 1 + 1) (x3, st)) (nI 0) sm1 = _
    rw [step _ 0 sm1 (by decide) ((i1 0).trans h0)]
    show M_need_b71F (f + 1 + 1 + 1 + 1 + 1) (fun x3 st => fc_lp (fun (K : Int32 × mm_S → Option (Int32 × mm_S)) a => M_need_b71F (f + 1 + 1 + 1 + 1 + 1) (fun x3 st => K (x3, st)) a.1 a.2) (f + 1 + 1 + 1) (x3, st)) (nI 1) (mm_sG sm1 7 (4 * n' + 0) 0) = _
    rw [step _ 1 (mm_sG sm1 7 (4 * n' + 0) 0) (by decide) ((i1 0).trans h0)]
    show M_need_b71F (f + 1 + 1 + 1 + 1 + 1) (fun x3 st => fc_lp (fun (K : Int32 × mm_S → Option (Int32 × mm_S)) a => M_need_b71F (f + 1 + 1 + 1 + 1 + 1) (fun x3 st => K (x3, st)) a.1 a.2) (f + 1 + 1) (x3, st)) (nI 2) (mm_sG (mm_sG sm1 7 (4 * n' + 0) 0) 7 (4 * n' + 1) 0) = _
    rw [step _ 2 (mm_sG (mm_sG sm1 7 (4 * n' + 0) 0) 7 (4 * n' + 1) 0) (by decide) ((i1 0).trans h0)]
    show M_need_b71F (f + 1 + 1 + 1 + 1 + 1) (fun x3 st => fc_lp (fun (K : Int32 × mm_S → Option (Int32 × mm_S)) a => M_need_b71F (f + 1 + 1 + 1 + 1 + 1) (fun x3 st => K (x3, st)) a.1 a.2) (f + 1) (x3, st)) (nI 3) (mm_sG (mm_sG (mm_sG sm1 7 (4 * n' + 0) 0) 7 (4 * n' + 1) 0) 7 (4 * n' + 2) 0) = _
    rw [step _ 3 (mm_sG (mm_sG (mm_sG sm1 7 (4 * n' + 0) 0) 7 (4 * n' + 1) 0) 7 (4 * n' + 2) 0) (by decide) ((i1 0).trans h0), hs2]
    show M_need_b71F (f + 1 + 1 + 1 + 1 + 1) (fun x3 st => fc_lp (fun (K : Int32 × mm_S → Option (Int32 × mm_S)) a => M_need_b71F (f + 1 + 1 + 1 + 1 + 1) (fun x3 st => K (x3, st)) a.1 a.2) f (x3, st)) (nI (3 + 1)) sm2 = _
    unfold M_need_b71F
    rw [if_pos (show (4 : Int32) ≤ nI (3 + 1) by decide), i2 0, h0, nI_1]
    rfl
  generalize hs3 : mm_sI sm2 0 (nI (n' + 1)) = sm3 at eM
  have i3 : ∀ k, k ≠ 0 → mm_I sm3 k = mm_I sm k := fun k hk => by rw [← hs3, mI_sI, if_neg hk]; exact i2 k
  have i30 : mm_I sm3 0 = nI (n' + 1) := by rw [← hs3]; rfl
  have l3 : ∀ k j, mm_L sm3 k j = mm_L sm k j := fun k j => by rw [← hs3, ← hs2, ← hs1]; rfl
  have g3 : ∀ k j, k ≠ 4 → k ≠ 5 → mm_G sm3 k j = mm_G sm k j := fun k j h4 h5 => by
    rw [← hs3, ← hs2]
    show mm_G (mm_sG (mm_sG (mm_sG (mm_sG sm1 7 (4 * n' + 0) 0) 7 (4 * n' + 1) 0) 7 (4 * n' + 2) 0) 7 (4 * n' + 3) 0) k j = _
    have e7 : ∀ (st : mm_S) (i : Nat), i < 4 → mm_G st k j = mm_G sm k j → mm_G (mm_sG st 7 (4 * n' + i) 0) k j = mm_G sm k j := fun st i hi e => by
      rw [mG_sG]
      by_cases e2 : k = 7
      · rw [if_pos e2]
        by_cases e3 : j = 4 * n' + i
        · rw [if_pos e3, e2, e3, z7 i hi]
        · rw [if_neg e3, ← e2]
          exact e
      · rw [if_neg e2]
        exact e
    refine e7 _ 3 (by decide) (e7 _ 2 (by decide) (e7 _ 1 (by decide) (e7 _ 0 (by decide) ?_)))
    rw [← hs1, mG_sG]
    by_cases e2 : k = 6
    · rw [if_pos e2]
      by_cases e3 : j = n'
      · rw [if_pos e3, e2, e3, z6]
      · rw [if_neg e3, mG_sG, if_neg (by decide), mG_sG, if_neg (by decide), e2]
    · rw [if_neg e2, mG_sG, if_neg h5, mG_sG, if_neg h4]
  have g4 : ∀ j, mm_G sm3 4 j = if j = n' then nI κ else mm_G sm 4 j := fun j => by
    rw [← hs3, ← hs2]
    show mm_G (mm_sG (mm_sG (mm_sG (mm_sG sm1 7 (4 * n' + 0) 0) 7 (4 * n' + 1) 0) 7 (4 * n' + 2) 0) 7 (4 * n' + 3) 0) 4 j = _
    rw [mG_sG, if_neg (by decide), mG_sG, if_neg (by decide), mG_sG, if_neg (by decide), mG_sG, if_neg (by decide), ← hs1, mG_sG, if_neg (by decide), mG_sG, if_neg (by decide), mG_sG, if_pos rfl]
  have g5 : ∀ j, mm_G sm3 5 j = if j = n' then nI ν else mm_G sm 5 j := fun j => by
    rw [← hs3, ← hs2]
    show mm_G (mm_sG (mm_sG (mm_sG (mm_sG sm1 7 (4 * n' + 0) 0) 7 (4 * n' + 1) 0) 7 (4 * n' + 2) 0) 7 (4 * n' + 3) 0) 5 j = _
    rw [mG_sG, if_neg (by decide), mG_sG, if_neg (by decide), mG_sG, if_neg (by decide), mG_sG, if_neg (by decide), ← hs1, mG_sG, if_neg (by decide), mG_sG, if_pos rfl, mG_sG, if_neg (show ¬ (5 : Nat) = 4 by decide)]
  have h50 := hf.1
  have hy1 : (1 : Nat) ≠ y := by omega
  generalize hst : nd_S sc y κ n' (nI ν) = st
  have p9 : cc_I st 1 9 = nI n' := by
    rw [← hst]
    refine (exI hy1).trans ?_
    exact (Rel_I h).1.trans h0
  refine ⟨nI (n' + 1) - 1, sm3, cc_sI (cc_sP st 1 0 n' (some y)) 1 9 (nI (n' + 1)), eM, fun q => ?_, fun q => ?_⟩
  · have hX := px_ex (c := kcl κ) (ad := q) (rs := []) (adr := fun _ => 0) hf h.1
    unfold C_X7_join
    rw [px_go hX (by decide), gd_true, cgo (cs := [3, 4, 5, 6, 7, 8, 11]) (X := nd_X X y κ q) (i := y) (List.mem_append_right _ List.mem_cons_self) (if_pos rfl) (kcl_mem κ), gd_true, px_ga hX (c := 9) (i := 1) (k := 0) (t := 3) (a := n') (by decide) (by decide) rfl p9 (by show n' < 6; omega) (by decide), gd_true, p9, nI_clamp (by omega)]
    simp only [nm_eq]
    rw [show cc_I (cc_sP st 1 0 n' (some y)) 1 9 = nI n' from p9, nI_1]
    rfl
  · have hRx : Rel (nd_X X y κ q) T sm st := by
      rw [← hst]
      exact Rel_ex hf h
    have hOc : Oc st (cc_sI (cc_sP st 1 0 n' (some y)) 1 9 (nI (n' + 1))) := Oc_I (fun i h1 h3 => ⟨fun _ => rfl, fun _ _ => rfl, fun _ _ => rfl, fun k j => by
      show (if i = 1 ∧ k = 0 then _ else st.2.2.2 i k) j = _
      rw [if_neg (fun e => h1 e.1)]
      rfl⟩) (Or.inl rfl)
    have hOm : Om sm sm3 := ⟨fun k hk => i3 k (by omega), fun k j hk => g3 k j (by omega) (by omega), fun j => l3 61 j⟩
    refine Rel_up hOm hOc hRx (fun A hp => ?_)
    obtain ⟨h1, h2, ⟨n2, hn2, e0, hk, hyy⟩, h4, h5⟩ := hp
    obtain rfl : n2 = n' := (nI_eq_iff (by omega) (by omega)).mp (e0.symm.trans h0)
    have cI : ∀ i k, ¬ (i = 1 ∧ k = 9) → cc_I (cc_sI (cc_sP st 1 0 n2 (some y)) 1 9 (nI (n2 + 1))) i k = cc_I st i k := fun i k hi => by rw [cI_sI, if_neg hi]; rfl
    have cP : ∀ k j, ¬ (k = 0 ∧ j = n2) → cc_P (cc_sI (cc_sP st 1 0 n2 (some y)) 1 9 (nI (n2 + 1))) 1 k j = cc_P st 1 k j := fun k j hkj => by
      show (if (1 : Nat) = 1 ∧ k = 0 then va_up (st.2.2.2 1 k) n2 (some y) else st.2.2.2 1 k) j = _
      by_cases e : k = 0
      · rw [if_pos ⟨rfl, e⟩]
        exact if_neg (fun e2 => hkj ⟨e, e2⟩)
      · rw [if_neg (fun e2 => e e2.2)]
        rfl
    have cP0 : cc_P (cc_sI (cc_sP st 1 0 n2 (some y)) 1 9 (nI (n2 + 1))) 1 0 n2 = some y := by
      show (if (1 : Nat) = 1 ∧ (0 : Nat) = 0 then va_up (st.2.2.2 1 0) n2 (some y) else st.2.2.2 1 0) n2 = _
      rw [if_pos ⟨rfl, rfl⟩]
      exact if_pos rfl
    have sI : ∀ k, cc_I st y k = nd_I κ n2 (nI ν) k := fun k => by rw [← hst]; exact if_pos rfl
    have hyx : y ∈ cx_o (nd_X X y κ q) := List.mem_append_right _ List.mem_cons_self
    have hyK : cx_K (nd_X X y κ q) y = kcl κ := if_pos rfl
    refine ⟨?_, ?_, ⟨n2 + 1, by omega, i30, fun k hkn => ?_, fun k w h6 hP => ?_⟩, ?_, ?_⟩
    · obtain ⟨q1, q2, q3, q4, q5, q6, q7⟩ := h1
      refine ⟨by rw [i30, cI_sI, if_pos ⟨rfl, rfl⟩], ?_, ?_, ?_, ?_, ?_, ?_⟩
      · rw [i3 1 (by decide), cI 1 13 (by decide)]; exact q2
      · rw [i3 2 (by decide), cI 1 14 (by decide)]; exact q3
      · rw [i3 3 (by decide), cI 1 15 (by decide)]; exact q4
      · rw [i3 29 (by decide), cI 1 10 (by decide)]; exact q5
      · rw [i3 31 (by decide), cI 1 11 (by decide)]; exact q6
      · rw [i3 32 (by decide), cI 1 12 (by decide)]; exact q7
    · unfold PG
      simp only [g3 6 _ (by decide) (by decide), g3 7 _ (by decide) (by decide), g3 30 _ (by decide) (by decide), g3 33 _ (by decide) (by decide), g3 34 _ (by decide) (by decide), g3 35 _ (by decide) (by decide), g3 36 _ (by decide) (by decide), g3 37 _ (by decide) (by decide)]
      exact h2
    · by_cases e : k = n2
      · subst e
        refine ⟨y, κ, ν, cP0, h50, hyx, hyK, hκ, hν, by rw [g4, if_pos rfl], by rw [g5, if_pos rfl], ?_, ?_, ?_⟩
        · rw [cI y 0 (by omega), sI]; rfl
        · rw [cI y 1 (by omega), sI]; rfl
        · rw [cI y 2 (by omega), sI]; rfl
      · obtain ⟨w, κ', ν', a1, a2, a3, a4, a5, a6, a7, a8, a9, a10, a11⟩ := hk k (by omega)
        exact ⟨w, κ', ν', by rw [cP 0 k (by omega)]; exact a1, a2, a3, a4, a5, a6, by rw [g4, if_neg e]; exact a7, by rw [g5, if_neg e]; exact a8, by rw [cI w 0 (by omega)]; exact a9, by rw [cI w 1 (by omega)]; exact a10, by rw [cI w 2 (by omega)]; exact a11⟩
    · by_cases e : k = n2
      · rw [e, cP0] at hP
        obtain rfl : y = w := Option.some.inj hP
        exact ⟨hyx, by rw [hyK]; exact kcl_mem κ⟩
      · rw [cP 0 k (by omega)] at hP
        exact hyy k w h6 hP
    · rw [i3 9 (by decide)]
      exact PA_mv (Om_Ar hOm) (Oc_Hi hOc) (cP 16 0 (by omega)) h4
    · obtain ⟨n3, d3, y3, c3, s3, b3, ⟨e1, e1'⟩, e2, e3, e4, e5, e6, e7, e8, e9, e10, e11⟩ := h5
      obtain rfl : n3 = n2 := (nI_eq_iff (by omega) (by omega)).mp (e1'.symm.trans h0)
      refine ⟨n3 + 1, d3, y3, c3, s3, b3, ⟨by omega, i30⟩, by rw [i3 1 (by decide)]; exact e2, by rw [i3 3 (by decide)]; exact e3, by rw [i3 29 (by decide)]; exact e4, by rw [i3 31 (by decide)]; exact e5, by rw [i3 32 (by decide)]; exact e6, fun k hk => ?_, fun k hk => ?_, fun k hk => ?_, fun k hk => ?_, fun k hk => ?_⟩
      · obtain ⟨i, hi, e⟩ := e7 k hk
        exact ⟨i, by omega, by rw [g3 30 _ (by decide) (by decide)]; exact e⟩
      · obtain ⟨⟨i, hi, e⟩, ⟨w, hw, e'⟩, t, ht, e''⟩ := e8 k hk
        exact ⟨⟨i, by omega, by rw [g3 33 _ (by decide) (by decide)]; exact e⟩, ⟨w, hw, by rw [g3 34 _ (by decide) (by decide)]; exact e'⟩, t, ht, by rw [g3 35 _ (by decide) (by decide)]; exact e''⟩
      · obtain ⟨i, hi, e⟩ := e9 k hk
        exact ⟨i, by omega, by rw [g3 36 _ (by decide) (by decide)]; exact e⟩
      · obtain ⟨w, hw, e, ez⟩ := e10 k hk
        exact ⟨w, hw, by rw [g3 6 _ (by decide) (by decide)]; exact e, fun hk2 => ez (by omega)⟩
      · obtain ⟨w, hw, e, ez⟩ := e11 k hk
        exact ⟨w, hw, by rw [g3 7 _ (by decide) (by decide)]; exact e, fun hk2 => ez (by omega)⟩
