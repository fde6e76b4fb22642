/-! the two worlds alike -/
def NR (X : cc_X) (sc : cc_S) (o : Nat) (G : Nat → Nat → Int32) (k : Nat) : Prop := ∃ y κ ν, cc_P sc o 0 k = some y ∧ 50 ≤ y ∧ y ∈ cx_o X ∧ cx_K X y = kcl κ ∧ κ ≤ 6 ∧ ν ≤ 9 ∧ G 4 k = nI κ ∧ G 5 k = nI ν ∧ cc_I sc y 0 = nI κ ∧ cc_I sc y 1 = nI k ∧ cc_I sc y 2 = nI ν
def PI (sc : cc_S) (o : Nat) (I : Nat → Int32) : Prop := cc_I sc o 9 = I 0 ∧ cc_I sc o 13 = I 1 ∧ cc_I sc o 14 = I 2 ∧ cc_I sc o 15 = I 3 ∧ cc_I sc o 10 = I 29 ∧ cc_I sc o 11 = I 31 ∧ cc_I sc o 12 = I 32
def PG (sc : cc_S) (o : Nat) (G : Nat → Nat → Int32) : Prop := (∀ j, j < 6 → cc_G sc o 1 j = G 6 j) ∧ (∀ j, j < 24 → cc_G sc o 2 j = G 7 j) ∧ (∀ j, j < 8 → cc_G sc o 3 j = G 30 j) ∧ (∀ j, j < 5 → cc_G sc o 4 j = G 33 j) ∧ (∀ j, j < 5 → cc_G sc o 5 j = G 34 j) ∧ (∀ j, j < 5 → cc_G sc o 6 j = G 35 j) ∧ (∀ j, j < 8 → cc_G sc o 7 j = G 36 j) ∧ (∀ j, j < 8 → cc_G sc o 8 j = G 37 j)
def PN (X : cc_X) (sc : cc_S) (o : Nat) (I : Nat → Int32) (G : Nat → Nat → Int32) : Prop := ∃ n, n ≤ 6 ∧ I 0 = nI n ∧ (∀ k, k < n → NR X sc o G k) ∧ ∀ k y, k < 6 → cc_P sc o 0 k = some y → y ∈ cx_o X ∧ cx_K X y ∈ [3, 4, 5, 6, 7, 8, 11]
def PA (X : cc_X) (sm : mm_S) (sc : cc_S) (A o : Nat) (x : Int32) : Prop := AO X sm sc o x ∧ (x = -1 ∨ ∃ a, a < A ∧ x = nI a)
def PR (I : Nat → Int32) (G : Nat → Nat → Int32) : Prop := ∃ n d y c s b : Nat, (n ≤ 6 ∧ I 0 = nI n) ∧ (d ≤ 8 ∧ I 1 = nI d) ∧ (y ≤ 9999 ∧ I 3 = nI y) ∧ (c ≤ 8 ∧ I 29 = nI c) ∧ (s ≤ 5 ∧ I 31 = nI s) ∧ (b ≤ 8 ∧ I 32 = nI b) ∧
  (∀ k, k < c → ∃ i, i < n ∧ G 30 k = nI i) ∧ (∀ k, k < s → (∃ i, i < n ∧ G 33 k = nI i) ∧ (∃ w, w ≤ 999 ∧ G 34 k = nI w) ∧ ∃ t, t ≤ 20 ∧ G 35 k = nI t) ∧ (∀ k, k < b → ∃ i, i < n ∧ G 36 k = nI i) ∧
  (∀ k, k < 6 → ∃ w, w ≤ 9999 ∧ G 6 k = nI w ∧ (n ≤ k → w = 0)) ∧ ∀ k, k < 24 → ∃ w, w ≤ 9 ∧ G 7 k = nI w ∧ (4 * n ≤ k → w = 0)
def PS (X : cc_X) (sm : mm_S) (sc : cc_S) (A o : Nat) (I : Nat → Int32) (G : Nat → Nat → Int32) : Prop := PI sc o I ∧ PG sc o G ∧ PN X sc o I G ∧ PA X sm sc A o (I 9) ∧ PR I G
def im_I (k : Nat) : Nat := if k = 0 then 40 else if k = 1 then 41 else if k = 2 then 42 else if k = 3 then 43 else if k = 29 then 44 else if k = 31 then 45 else if k = 32 then 46 else if k = 9 then 39 else k
def im_G (k : Nat) : Nat := if k = 4 then 47 else if k = 5 then 48 else if k = 6 then 49 else if k = 7 then 50 else if k = 30 then 51 else if k = 33 then 52 else if k = 34 then 53 else if k = 35 then 54 else if k = 36 then 55 else if k = 37 then 56 else k
def imI (sm : mm_S) (k : Nat) : Int32 := mm_I sm (im_I k)
def imG (sm : mm_S) (k : Nat) : Nat → Int32 := mm_G sm (im_G k)
def lts : List Nat := [102, 97, 109, 101, 115, 104, 97, 109, 101, 107, 101, 101, 112]
def Rm (T : Nat → Nat) (A : Nat) (sm : mm_S) (sc : cc_S) : Prop := (A ≤ 6 ∧ mm_I sm 8 = nI A ∧ cc_I sc 0 6 = nI A) ∧ (∃ f, f ≤ 100 ∧ mm_I sm 10 = nI f ∧ (cc_I sc 40 3 = nI f ∧ cc_I sc 40 1 = 0) ∧ ∀ k, k < f → mm_G sm 13 k = nI (T k) ∧ T k < 128) ∧ cc_I sc 0 7 = mm_I sm 38 ∧ (∃ r, r ≤ 1000 ∧ mm_I sm 57 = nI r ∧ cc_G sc 0 5 0 = nI r) ∧ (∀ k, k < 20 → cc_G sc 0 5 (k + 1) = mm_G sm 58 k) ∧ (∀ k, k < 13 → mm_G sm 24 k = nI (lts.getD k 0)) ∧ ∀ d, d < 9 → cc_J sc 3 200 d = 0
def Rt1 (sm : mm_S) (sc : cc_S) (t : Nat) : Prop := cc_P sc 0 3 t = some (4 + t) ∧ cc_I sc (4 + t) 1 = mm_G sm 59 t ∧ cc_I sc (4 + t) 2 = mm_G sm 60 t ∧ (∀ k, k < 60 → cc_J sc (4 + t) 0 k = mm_L sm 61 (60 * t + k)) ∧ ∃ l, l ≤ 60 ∧ mm_G sm 60 t = nI l ∧ (mm_G sm 59 t = -1 ∧ l = 0 ∨ ∃ s, s ≤ 4 ∧ mm_G sm 59 t = nI s)
def Rel (X : cc_X) (T : Nat → Nat) (sm : mm_S) (sc : cc_S) : Prop := px_X X ∧ ∃ A, PS X sm sc A 1 (mm_I sm) (mm_G sm) ∧ (mm_I sm 38 = 0 ∨ mm_I sm 38 = 1 ∧ PS X sm sc A 2 (imI sm) (imG sm)) ∧ Rm T A sm sc ∧ ∀ t, t < 6 → Rt1 sm sc t
/-! what may change -/
def Hi (sc sc' : cc_S) : Prop := ∀ y, 50 ≤ y → (∀ k, cc_I sc' y k = cc_I sc y k) ∧ ∀ k j, cc_G sc' y k j = cc_G sc y k j
def Ar (sm sm' : mm_S) : Prop := ∀ k j, 14 ≤ k → k ≤ 19 → mm_G sm' k j = mm_G sm k j
theorem Hi_rf {sc : cc_S} : Hi sc sc := fun _ _ => ⟨fun _ => rfl, fun _ _ => rfl⟩
theorem Hi_tr {a b c : cc_S} (h : Hi a b) (h2 : Hi b c) : Hi a c := fun y hy => ⟨fun k => ((h2 y hy).1 k).trans ((h y hy).1 k), fun k j => ((h2 y hy).2 k j).trans ((h y hy).2 k j)⟩
theorem Hi_I {a b : cc_S} {i k : Nat} {v : Int32} (h : Hi a b) (hi : i < 50) : Hi a (cc_sI b i k v) := Hi_tr h (fun y hy => ⟨fun q => by rw [cI_sI, if_neg (by omega)], fun _ _ => rfl⟩)
theorem Hi_G {a b : cc_S} {i k j : Nat} {v : Int32} (h : Hi a b) (hi : i < 50) : Hi a (cc_sG b i k j v) := Hi_tr h (fun y hy => ⟨fun _ => rfl, fun q r => by rw [cG_sG, if_neg (by omega)]⟩)
theorem Hi_J {a b : cc_S} {i k j : Nat} {v : Int64} (h : Hi a b) : Hi a (cc_sJ b i k j v) := Hi_tr h (fun _ _ => ⟨fun _ => rfl, fun _ _ => rfl⟩)
theorem Ar_rf {sm : mm_S} : Ar sm sm := fun _ _ _ _ => rfl
theorem mq_Ar {a b : mm_S} (h : mq a b) : Ar a b := fun k j h1 h2 => h.2.1 k j (by omega)
theorem CLr_mv {sm sm' : mm_S} {sc sc' : cc_S} {a y : Nat} {s : Nat → Nat} {c : Nat} (hm : Ar sm sm') (hc : Hi sc sc') (hy : 50 ≤ y) (h : CLr sm sc a y s c) : CLr sm' sc' a y s c := by
  have e19 : mm_G sm' 19 = mm_G sm 19 := funext fun j => hm 19 j (by decide) (by decide)
  obtain ⟨⟨w, hw, e15, e3, hf⟩, ⟨m, hm', e16, e4⟩, e5, e51, h01, h100, hcod⟩ := h
  refine ⟨⟨w, hw, (hm 15 _ (by decide) (by decide)).trans e15, ((hc y hy).2 3 c).trans e3, fun hw2 => ?_⟩, ⟨m, hm', (hm 16 _ (by decide) (by decide)).trans e16, ((hc y hy).2 4 c).trans e4⟩, ((hc y hy).2 5 c).trans e5, ((hc y hy).2 5 _).trans e51, h01, h100, fun j h1 h2 => ?_⟩
  · obtain ⟨a1, a2, a3⟩ := hf hw2
    exact ⟨(hm 17 _ (by decide) (by decide)).trans a1, (hm 18 _ (by decide) (by decide)).trans a2, by rw [e19]; exact a3⟩
  · rw [e19, (hc y hy).2 6 j]
    exact hcod j h1 h2
theorem AR_mv {X : cc_X} {sm sm' : mm_S} {sc sc' : cc_S} {a y : Nat} (hm : Ar sm sm') (hc : Hi sc sc') (h : AR X sm sc a y) : AR X sm' sc' a y := by
  obtain ⟨⟨hy, h1, h2, h3⟩, n, s, hn, h14, h7, h9, hcl⟩ := h
  refine ⟨⟨hy, h1, h2, h3⟩, n, s, hn, (hm 14 _ (by decide) (by decide)).trans h14, ((hc y hy).1 7).trans h7, ?_, fun c hcn => CLr_mv hm hc hy (hcl c hcn)⟩
  rw [(hc y hy).1 9, h9]
  congr 1
  · exact funext fun c => (hm 15 _ (by decide) (by decide)).symm
  · exact funext fun c => (hm 16 _ (by decide) (by decide)).symm
theorem AO_mv {X : cc_X} {sm sm' : mm_S} {sc sc' : cc_S} {o : Nat} {x : Int32} (hm : Ar sm sm') (hc : Hi sc sc') (hP : cc_P sc' o 16 0 = cc_P sc o 16 0) (h : AO X sm sc o x) : AO X sm' sc' o x := by
  rcases h with ⟨h, h2⟩ | ⟨a, y, ha, hx, hy, hA⟩
  · exact Or.inl ⟨h, hP.trans h2⟩
  · exact Or.inr ⟨a, y, ha, hx, hP.trans hy, AR_mv hm hc hA⟩
theorem PA_mv {X : cc_X} {sm sm' : mm_S} {sc sc' : cc_S} {A o : Nat} {x : Int32} (hm : Ar sm sm') (hc : Hi sc sc') (hP : cc_P sc' o 16 0 = cc_P sc o 16 0) (h : PA X sm sc A o x) : PA X sm' sc' A o x := ⟨AO_mv hm hc hP h.1, h.2⟩
theorem NR_mv {X : cc_X} {sc sc' : cc_S} {o k : Nat} {G G' : Nat → Nat → Int32} (hc : Hi sc sc') (hP : cc_P sc' o 0 k = cc_P sc o 0 k) (h4 : G' 4 k = G 4 k) (h5 : G' 5 k = G 5 k) (h : NR X sc o G k) : NR X sc' o G' k := by
  obtain ⟨y, κ, ν, a1, a2, a3, a4, a5, a6, a7, a8, a9, a10, a11⟩ := h
  exact ⟨y, κ, ν, hP.trans a1, a2, a3, a4, a5, a6, h4.trans a7, h5.trans a8, ((hc y a2).1 0).trans a9, ((hc y a2).1 1).trans a10, ((hc y a2).1 2).trans a11⟩
theorem PN_mv {X : cc_X} {sc sc' : cc_S} {o : Nat} {I I' : Nat → Int32} {G G' : Nat → Nat → Int32} (hc : Hi sc sc') (hP : ∀ k, cc_P sc' o 0 k = cc_P sc o 0 k) (h0 : I' 0 = I 0) (h4 : ∀ k, G' 4 k = G 4 k) (h5 : ∀ k, G' 5 k = G 5 k) (h : PN X sc o I G) : PN X sc' o I' G' := by
  obtain ⟨n, hn, hi, hk, hy⟩ := h
  exact ⟨n, hn, h0.trans hi, fun k h => NR_mv hc (hP k) (h4 k) (h5 k) (hk k h), fun k y h6 hp => hy k y h6 ((hP k).symm.trans hp)⟩
/-! what is read of it -/
theorem Rel_n {X : cc_X} {T : Nat → Nat} {sm : mm_S} {sc : cc_S} (h : Rel X T sm sc) : ∃ n, n ≤ 6 ∧ mm_I sm 0 = nI n ∧ cc_I sc 1 9 = nI n ∧ ∀ k, k < n → NR X sc 1 (mm_G sm) k := by
  obtain ⟨-, A, ⟨hI, -, ⟨n, hn, h0, hk, -⟩, -⟩, -⟩ := h
  exact ⟨n, hn, h0, hI.1.trans h0, hk⟩
theorem Rel_A {X : cc_X} {T : Nat → Nat} {sm : mm_S} {sc : cc_S} (h : Rel X T sm sc) : AO X sm sc 1 (mm_I sm 9) := by
  obtain ⟨-, A, ⟨-, -, -, hA, -⟩, -⟩ := h
  exact hA.1
theorem Rel_M {X : cc_X} {T : Nat → Nat} {sm : mm_S} {sc : cc_S} (h : Rel X T sm sc) : MAr sm (mm_I sm 9) := AO_MAr (Rel_A h)
theorem Rel_w {X : cc_X} {T : Nat → Nat} {sm : mm_S} {sc : cc_S} {fu : Nat} (hfu : 700 < fu) (h : Rel X T sm sc) {i n y : Nat} {d : Int32} (h0 : mm_I sm 0 = nI n) (hn : n ≤ 6) (hi : i < n) (hy : y < 2 ^ 31) : C_X7_worthOf X fu 1 (nI i) (nI y) d sc = some (worthv sm (nI i) (nI y) d, sc) := by
  have hA := Rel_A h
  obtain ⟨n', hn', h0', h9, hk⟩ := Rel_n h
  have e : n' = n := (nI_eq_iff (by omega) (by omega)).mp (h0'.symm.trans h0)
  subst e
  obtain ⟨z, κ, ν, a1, a2, a3, a4, a5, a6, a7, a8, a9, a10, a11⟩ := hk i hi
  obtain ⟨hX, A, ⟨-, hG, -⟩, -⟩ := h
  exact h_cworthOf hfu hX hA h9 hi hn a1 a3 a4 a5 a7 a9 (a8.trans a11.symm) hG.2.1 hy
theorem Rel_W {X : cc_X} {T : Nat → Nat} {sm sm' : mm_S} {sc : cc_S} {fu : Nat} (hfu : 700 < fu) (h : Rel X T sm sc) (hq : mq sm sm') {i n y : Nat} {d : Int32} (hn : n ≤ 6) (hi : i < n) (hy : y < 2 ^ 31) : fc_ok (M_worthOf fu (nI i) (nI y) d sm') (fun q => q.1 = worthv sm (nI i) (nI y) d ∧ mq sm q.2) := h_worth fu hfu (Rel_M h) hq (by omega) hy
theorem Rel_k {X : cc_X} {T : Nat → Nat} {sm : mm_S} {sc : cc_S} {fu : Nat} (h : Rel X T sm sc) : C_X7_keepCost X fu 1 sc = some (keepv sm, sc) := h_ckeep h.1 (Rel_A h)
theorem Rel_K {X : cc_X} {T : Nat → Nat} {sm sm' : mm_S} {sc : cc_S} {fu : Nat} (hfu : 700 < fu) (h : Rel X T sm sc) (hq : mq sm sm') : M_keep fu sm' = some (keepv sm, sm') := h_keep fu hfu (Rel_M h) hq
theorem PS_q {X : cc_X} {sm sm' : mm_S} {sc : cc_S} {A o : Nat} {I I' : Nat → Int32} {G G' : Nat → Nat → Int32} (hq : mq sm sm') (hI : ∀ k, k ≠ 27 → I' k = I k) (hG : ∀ k, k ≠ 25 → G' k = G k) (h : PS X sm sc A o I G) : PS X sm' sc A o I' G' := by
  obtain ⟨h1, h2, h3, h4, h5⟩ := h
  refine ⟨?_, ?_, ?_, ?_, ?_⟩
  · unfold PI
    simp only [hI _ (show 0 ≠ 27 by decide), hI _ (show 1 ≠ 27 by decide), hI _ (show 2 ≠ 27 by decide), hI _ (show 3 ≠ 27 by decide), hI _ (show 29 ≠ 27 by decide), hI _ (show 31 ≠ 27 by decide), hI _ (show 32 ≠ 27 by decide)]
    exact h1
  · unfold PG
    simp only [hG _ (show 6 ≠ 25 by decide), hG _ (show 7 ≠ 25 by decide), hG _ (show 30 ≠ 25 by decide), hG _ (show 33 ≠ 25 by decide), hG _ (show 34 ≠ 25 by decide), hG _ (show 35 ≠ 25 by decide), hG _ (show 36 ≠ 25 by decide), hG _ (show 37 ≠ 25 by decide)]
    exact h2
  · exact PN_mv Hi_rf (fun _ => rfl) (hI 0 (by decide)) (fun k => by rw [hG 4 (by decide)]) (fun k => by rw [hG 5 (by decide)]) h3
  · rw [hI 9 (by decide)]
    exact PA_mv (mq_Ar hq) Hi_rf rfl h4
  · unfold PR
    simp only [hI _ (show 0 ≠ 27 by decide), hI _ (show 1 ≠ 27 by decide), hI _ (show 3 ≠ 27 by decide), hI _ (show 29 ≠ 27 by decide), hI _ (show 31 ≠ 27 by decide), hI _ (show 32 ≠ 27 by decide), hG _ (show 6 ≠ 25 by decide), hG _ (show 7 ≠ 25 by decide), hG _ (show 30 ≠ 25 by decide), hG _ (show 33 ≠ 25 by decide), hG _ (show 34 ≠ 25 by decide), hG _ (show 35 ≠ 25 by decide), hG _ (show 36 ≠ 25 by decide)]
    exact h5
theorem im_I27 (k : Nat) (h : k ≠ 27) : im_I k ≠ 27 := by
  unfold im_I
  repeat' split
  all_goals omega
theorem im_G25 (k : Nat) (h : k ≠ 25) : im_G k ≠ 25 := by
  unfold im_G
  repeat' split
  all_goals omega
/-- a question leaves the worlds alike -/
theorem Rel_q {X : cc_X} {T : Nat → Nat} {sm sm' : mm_S} {sc : cc_S} (hq : mq sm sm') (h : Rel X T sm sc) : Rel X T sm' sc := by
  obtain ⟨hX, A, h1, h2, h3, h4⟩ := h
  have eI : ∀ k, k ≠ 27 → mm_I sm' k = mm_I sm k := hq.1
  have eG : ∀ k, k ≠ 25 → mm_G sm' k = mm_G sm k := fun k hk => mq_Gf hq hk
  refine ⟨hX, A, PS_q hq eI eG h1, ?_, ?_, fun t ht => ?_⟩
  · rw [eI 38 (by decide)]
    rcases h2 with h2 | ⟨h2, h2'⟩
    · exact Or.inl h2
    · exact Or.inr ⟨h2, PS_q hq (fun k hk => eI _ (im_I27 k hk)) (fun k hk => eG _ (im_G25 k hk)) h2'⟩
  · unfold Rm
    rw [eI 8 (by decide), eI 10 (by decide), eI 38 (by decide), eI 57 (by decide), eG 13 (by decide), eG 58 (by decide), eG 24 (by decide)]
    exact h3
  · have := h4 t ht
    unfold Rt1 at this ⊢
    rw [eG 59 (by decide), eG 60 (by decide), show mm_L sm' 61 = mm_L sm 61 from funext fun j => hq.2.2 61 j (by decide) (by decide)]
    exact this
