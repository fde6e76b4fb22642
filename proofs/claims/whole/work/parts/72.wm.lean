/-! the reference's worth -/
theorem ok_to {α : Type} {x : Option α} {a : α} (h : fc_ok x (fun q => q = a)) : x = some a := by
  obtain ⟨b, e, rfl⟩ := h
  exact e
theorem i3_0le {n : Nat} (h : n < 2 ^ 31) : (0 : Int32) ≤ nI n := nI_pos' h
theorem i3_m1 : ¬ (0 : Int32) ≤ -1 := by decide
def CLw (sm : mm_S) (c : Nat) : Prop := (∃ w, w ≤ 2 ∧ mm_G sm 15 c = nI w) ∧ (∃ m, m < 100 ∧ mm_G sm 16 c = nI m) ∧ (mm_G sm 15 c ≠ nI 2 → ∃ f0 f1, mm_G sm 17 c = nI f0 ∧ mm_G sm 18 c = nI f1 ∧ f0 ≤ f1 ∧ f1 ≤ 600 ∧ wfn 12 (mm_G sm 19) f0 (f1 - f0) 0 1)
def MAa (sm : mm_S) (a : Nat) : Prop := ∃ n, n ≤ 10 ∧ mm_G sm 14 a = nI n ∧ ∀ c, c < n → CLw sm (10 * a + c)
def MAr (sm : mm_S) (x : Int32) : Prop := x = -1 ∨ ∃ a, a < 6 ∧ x = nI a ∧ MAa sm a
def kpf (W N : Nat → Int32) : Nat → Int32
  | 0 => 1
  | c + 1 => if W c = 2 then N c else kpf W N c
def keepv (sm : mm_S) : Int32 := if 0 ≤ mm_I sm 9 then kpf (fun c => mm_G sm 15 (10 * (mm_I sm 9).toNatClampNeg + c)) (fun c => mm_G sm 16 (10 * (mm_I sm 9).toNatClampNeg + c)) (mm_G sm 14 (mm_I sm 9).toNatClampNeg).toNatClampNeg else 1
theorem keepv_q {a b : mm_S} (h : mq a b) : keepv b = keepv a := by
  unfold keepv
  rw [h.1 9 (by decide), mq_Gf h (by decide), mq_Gf h (by decide), mq_Gf h (by decide)]
theorem e_begin0 {fu : Nat} {st : mm_S} (h : mm_I st 9 = -1) : M_begin fu st = some (0, st) := by
  unfold M_begin
  rw [h, if_neg i3_m1]
theorem e_behind0 {fu : Nat} {st : mm_S} (h : mm_I st 9 = -1) : M_behind fu st = some (0, st) := by
  unfold M_behind
  rw [h, if_neg i3_m1]
theorem e_begin1 {fu a : Nat} {st : mm_S} (h : mm_I st 9 = nI a) (ha : a < 6) : M_begin fu st = some (nI (10 * a), st) := by
  unfold M_begin
  rw [h, if_pos (i3_0le (by omega)), nI_lit, nI_mul]
theorem e_behind1 {fu a n : Nat} {st : mm_S} (h : mm_I st 9 = nI a) (ha : a < 6) (hn : mm_G st 14 a = nI n) : M_behind fu st = some (nI (10 * a + n), st) := by
  unfold M_behind
  rw [h, if_pos (i3_0le (by omega)), nI_ix ha (by decide), gd_true, nI_clamp (by omega), hn, nI_lit, nI_mul, nI_add]
theorem h_keep (fu : Nat) (hfu : 700 < fu) {sm st : mm_S} (hA : MAr sm (mm_I sm 9)) (hq : mq sm st) : M_keep fu st = some (keepv sm, st) := by
  have h9 : mm_I st 9 = mm_I sm 9 := hq.1 9 (by decide)
  unfold M_keep
  rcases hA with h | ⟨a, ha, h, n, hn, hcl, hc⟩
  · rw [e_begin0 (h9.trans h), bn_some]
    unfold keepv
    rw [h, if_neg i3_m1]
    obtain ⟨f, rfl⟩ : ∃ f, fu = f + 1 := ⟨fu - 1, by omega⟩
    unfold M_keep_b7
    show M_keep_b7F _ _ _ _ _ = _
    unfold M_keep_b7F
    rw [e_behind0 (h9.trans h), bn_some, if_pos (show (0 : Int32) ≤ 0 by decide)]
  · have hcl2 : mm_G st 14 a = nI n := (hq.2.1 14 a (by decide)).trans hcl
    rw [e_begin1 (h9.trans h) ha, bn_some]
    unfold keepv
    rw [h, if_pos (i3_0le (by omega)), nI_clamp (by omega), hcl, nI_clamp (by omega)]
    unfold M_keep_b7
    refine ok_to (ok_lp (fun z => ∃ c, c ≤ n ∧ z = (kpf (fun c => mm_G sm 15 (10 * a + c)) (fun c => mm_G sm 16 (10 * a + c)) c, nI (10 * a + c), st)) (fun z => 10 * a + n - z.2.1.toNatClampNeg) _ ?_ fu _ ⟨0, by omega, rfl⟩ (by show 10 * a + n - _ < fu; omega))
    rintro z K ⟨c, hcn, rfl⟩ hK
    show fc_ok (M_keep_b7F fu (fun x1 x2 st => K (x1, x2, st)) _ _ _) _
    unfold M_keep_b7F
    rw [e_behind1 (h9.trans h) ha hcl2, bn_some]
    refine ok_if.mpr ⟨fun hle => ?_, fun hle => ?_⟩
    · rw [nI_le_iff (by omega) (by omega)] at hle
      have : c = n := by omega
      subst this
      exact ok_some.mpr rfl
    · rw [nI_le_iff (by omega) (by omega)] at hle
      refine ok_gd.mpr ⟨nI_ix (by omega) (by decide), ?_⟩
      have hnext : ∀ v, v = kpf (fun c => mm_G sm 15 (10 * a + c)) (fun c => mm_G sm 16 (10 * a + c)) (c + 1) → fc_ok (M_keep_b35 fu (fun x1 x2 st => K (x1, x2, st)) (nI (10 * a + c)) v st) (fun q => q = (kpf (fun c => mm_G sm 15 (10 * a + c)) (fun c => mm_G sm 16 (10 * a + c)) n, st)) := by
        rintro v rfl
        unfold M_keep_b35
        rw [nm_eq, nI_1]
        refine hK _ ⟨c + 1, by omega, rfl⟩ ?_
        show 10 * a + n - (nI (10 * a + c + 1)).toNatClampNeg < 10 * a + n - (nI (10 * a + c)).toNatClampNeg
        rw [nI_clamp (by omega), nI_clamp (by omega)]
        omega
      rw [nI_clamp (by omega), hq.2.1 15 _ (by decide), hq.2.1 16 _ (by decide)]
      refine ok_if.mpr ⟨fun hw => ok_gd.mpr ⟨nI_ix (by omega) (by decide), hnext _ ?_⟩, fun hw => hnext _ ?_⟩
      · exact (if_pos hw).symm
      · exact (if_neg hw).symm
def bsum (W N : Nat → Int32) (H : Nat → Bool) : Nat → Int32
  | 0 => 10
  | c + 1 => if 1 < W c then bsum W N H c else if H c = true then (if W c = 0 then bsum W N H c + N c else bsum W N H c + -(N c)) else bsum W N H c
def hdv (sm : mm_S) (i y d : Int32) (c : Nat) : Bool := decide (holdv sm i y d c = [true])
def basev (sm : mm_S) (i y d : Int32) : Int32 := if 0 ≤ mm_I sm 9 then bsum (fun c => mm_G sm 15 (10 * (mm_I sm 9).toNatClampNeg + c)) (fun c => mm_G sm 16 (10 * (mm_I sm 9).toNatClampNeg + c)) (fun c => hdv sm i y d (10 * (mm_I sm 9).toNatClampNeg + c)) (mm_G sm 14 (mm_I sm 9).toNatClampNeg).toNatClampNeg else 10
theorem h_base (fu : Nat) (hfu : 700 < fu) {sm st0 : mm_S} {i : Nat} {y d : Int32} (hA : MAr sm (mm_I sm 9)) (hq : mq5 sm st0) (hi : i < 6) : fc_ok (M_base fu (nI i) y d st0) (fun q => q.1 = basev sm (nI i) y d ∧ mq5 sm q.2) := by
  have h9 : ∀ {st}, mq5 sm st → mm_I st 9 = mm_I sm 9 := fun hq => hq.1 9 (by decide)
  unfold M_base
  rcases hA with h | ⟨a, ha, h, n, hn, hcl, hc⟩
  · rw [e_begin0 ((h9 hq).trans h), bn_some]
    unfold basev
    rw [h, if_neg i3_m1]
    obtain ⟨f, rfl⟩ : ∃ f, fu = f + 1 := ⟨fu - 1, by omega⟩
    unfold M_base_b10
    show fc_ok (M_base_b10F _ _ _ _ _ _ _ _) _
    unfold M_base_b10F
    rw [e_behind0 ((h9 hq).trans h), bn_some, if_pos (show (0 : Int32) ≤ 0 by decide)]
    exact ok_some.mpr ⟨rfl, hq⟩
  · rw [e_begin1 ((h9 hq).trans h) ha, bn_some]
    unfold basev
    rw [h, if_pos (i3_0le (by omega)), nI_clamp (by omega), hcl, nI_clamp (by omega)]
    unfold M_base_b10
    generalize hB : bsum (fun c => mm_G sm 15 (10 * a + c)) (fun c => mm_G sm 16 (10 * a + c)) (fun c => hdv sm (nI i) y d (10 * a + c)) = B
    refine ok_lp (fun z => ∃ c st, c ≤ n ∧ mq5 sm st ∧ z = (nI i, y, d, B c, nI (10 * a + c), st)) (fun z => 10 * a + n - z.2.2.2.2.1.toNatClampNeg) _ ?_ fu _ ⟨0, st0, by omega, hq, by rw [← hB]; rfl⟩ (by show 10 * a + n - _ < fu; omega)
    rintro z K ⟨c, st, hcn, hqs, rfl⟩ hK
    show fc_ok (M_base_b10F fu (fun x1 x2 x3 x4 x5 st => K (x1, x2, x3, x4, x5, st)) _ _ _ _ _ _) _
    unfold M_base_b10F
    rw [e_behind1 ((h9 hqs).trans h) ha ((hqs.2.1 14 a (by decide)).trans hcl), bn_some]
    refine ok_if.mpr ⟨fun hle => ?_, fun hle => ?_⟩
    · rw [nI_le_iff (by omega) (by omega)] at hle
      have : c = n := by omega
      subst this
      exact ok_some.mpr ⟨rfl, hqs⟩
    · rw [nI_le_iff (by omega) (by omega)] at hle
      have hlt : c < n := by omega
      refine ok_gd.mpr ⟨nI_ix (by omega) (by decide), ?_⟩
      have hnext : ∀ v st', v = B (c + 1) → mq5 sm st' → fc_ok (M_base_b78 fu (fun x1 x2 x3 x4 x5 st => K (x1, x2, x3, x4, x5, st)) (nI i) y d v (nI (10 * a + c)) st') (fun q => q.1 = B n ∧ mq5 sm q.2) := by
        rintro v st' rfl hq'
        unfold M_base_b78
        rw [nm_eq, nI_1]
        refine hK _ ⟨c + 1, st', by omega, hq', rfl⟩ ?_
        show 10 * a + n - (nI (10 * a + c + 1)).toNatClampNeg < 10 * a + n - (nI (10 * a + c)).toNatClampNeg
        rw [nI_clamp (by omega), nI_clamp (by omega)]
        omega
      have hBc : B (c + 1) = if 1 < mm_G sm 15 (10 * a + c) then B c else if hdv sm (nI i) y d (10 * a + c) = true then (if mm_G sm 15 (10 * a + c) = 0 then B c + mm_G sm 16 (10 * a + c) else B c + -(mm_G sm 16 (10 * a + c))) else B c := by
        rw [← hB]
        rfl
      rw [nI_clamp (by omega), hqs.2.1 15 _ (by decide)]
      refine ok_if.mpr ⟨fun hw => hnext _ _ (by rw [hBc, if_pos hw]) hqs, fun hw => ?_⟩
      rw [if_neg hw] at hBc
      obtain ⟨⟨w, hw2, hwe⟩, -, hcf⟩ := hc c hlt
      obtain ⟨f0, f1, e0, e1, h01, h16, hwf⟩ := hcf (fun e => hw (by rw [e]; decide))
      refine ok_bn.mpr (ok_mono (h_holds fu hfu hqs hi (by omega) e0 e1 h01 h16 hwf) ?_)
      rintro ⟨r, st'⟩ ⟨b, hb, hr, hq'⟩
      have hr : r = bi b := hr
      subst hr
      have hd : hdv sm (nI i) y d (10 * a + c) = b := by
        unfold hdv
        rw [hb]
        cases b <;> decide
      rw [hd] at hBc
      show fc_ok (if bi b = 0 then _ else _) _
      refine ok_if.mpr ⟨fun hb0 => ?_, fun hb0 => ?_⟩
      · rw [bi_0] at hb0
        subst hb0
        exact hnext _ _ hBc.symm hq'
      · rw [bi_0] at hb0
        have hbt : b = true := by
          cases b
          · exact absurd rfl hb0
          · rfl
        rw [if_pos hbt] at hBc
        refine ok_gd.mpr ⟨nI_ix (by omega) (by decide), ?_⟩
        rw [hq'.2.1 15 _ (by decide), hq'.2.1 16 _ (by decide)]
        unfold M_base_b75
        refine ok_if.mpr ⟨fun h0 => ok_gd.mpr ⟨nI_ix (by omega) (by decide), ?_⟩, fun h0 => ok_gd.mpr ⟨nI_ix (by omega) (by decide), ?_⟩⟩
        · exact hnext _ _ (by rw [hBc, if_pos h0]) hq'
        · exact hnext _ _ (by rw [hBc, if_neg h0]) hq'
def kindv (sm : mm_S) (i y d n : Int32) : Int32 :=
  if mm_G sm 4 i.toNatClampNeg = 1 then n + (y - y / 8 * 8)
  else if mm_G sm 4 i.toNatClampNeg = 2 then (if y - y / 2 * 2 = 1 then 0 else n)
  else if mm_G sm 4 i.toNatClampNeg = 3 then n / 2
  else if mm_G sm 4 i.toNatClampNeg = 4 then (n + (y - y / 8 * 8)) * (if d = 1 then 2 else 1)
  else if mm_G sm 4 i.toNatClampNeg = 5 then (if y - y / 2 * 2 = 1 then 0 else n) + mm_G sm 5 i.toNatClampNeg
  else if mm_G sm 4 i.toNatClampNeg = 6 then n / 2 + mm_G sm 7 (4 * i + (y - y / 4 * 4)).toNatClampNeg
  else n
def pos0 (x : Int32) : Int32 := if 0 ≤ x then x else 0
def worthv (sm : mm_S) (i y d : Int32) : Int32 := pos0 (kindv sm i y d (basev sm i y d))
theorem e_w159 {fu : Nat} {x : Int32} {st : mm_S} : M_worthOf_b159 fu x st = some (pos0 x, st) := by
  unfold M_worthOf_b159 pos0
  split <;> rfl
theorem kindv_q {a b : mm_S} (h : mq a b) {i y d n : Int32} : kindv b i y d n = kindv a i y d n := by
  unfold kindv
  rw [mq_Gf h (by decide), mq_Gf h (by decide), mq_Gf h (by decide)]
theorem e_w22 (fu : Nat) {i y : Nat} {d n : Int32} {st : mm_S} (hi : i < 6) (hy : y < 2 ^ 31) : M_worthOf_b22 fu (nI i) (nI y) d n (if nI y - nI y / 2 * 2 = 1 then 0 else n) st = some (pos0 (kindv st (nI i) (nI y) d n), st) := by
  have e4 : (4 : Int32) * nI i + (nI y - nI y / 4 * 4) = nI (4 * i + y % 4) := by
    rw [nI_lit, nI_rem hy (by decide), nI_mul, nI_add]
  unfold M_worthOf_b22 M_worthOf_b117 kindv
  rw [nI_ix hi (by decide), gd_true, gd_true, e4, nI_ix (by omega) (by decide), gd_true]
  simp only [nm_eq, e_w159]
  split
  · rfl
  split
  · rfl
  split
  · rfl
  split
  · split <;> rfl
  split
  · rfl
  split
  · rfl
  rfl
theorem kindv_q5 {a b : mm_S} (h : mq5 a b) {i y d n : Int32} : kindv b i y d n = kindv a i y d n := by
  unfold kindv
  rw [mq5_Gf h (by decide), mq5_Gf h (by decide), mq5_Gf h (by decide)]
theorem worthv_q {a b : mm_S} (h : mq a b) {i y d : Int32} : worthv b i y d = worthv a i y d := by
  have ht : testv b i y d = testv a i y d := funext fun t => testv_q h
  have hh : ∀ c, hdv b i y d c = hdv a i y d c := fun c => by
    unfold hdv holdv
    rw [ht, mq_Gf h (k := 19) (by decide), mq_Gf h (k := 17) (by decide), mq_Gf h (k := 18) (by decide)]
  have hb : basev b i y d = basev a i y d := by
    unfold basev
    rw [h.1 9 (by decide), mq_Gf h (k := 14) (by decide), mq_Gf h (k := 15) (by decide), mq_Gf h (k := 16) (by decide)]
    simp only [hh]
  unfold worthv
  rw [hb, kindv_q h]
theorem MAa_q {a b : mm_S} (h : mq a b) {x : Nat} (hA : MAa a x) : MAa b x := by
  obtain ⟨n, hn, h14, hc⟩ := hA
  refine ⟨n, hn, (h.2.1 14 x (by decide)).trans h14, fun c hcn => ?_⟩
  have := hc c hcn
  unfold CLw at this ⊢
  rw [mq_Gf h (k := 15) (by decide), mq_Gf h (k := 16) (by decide), mq_Gf h (k := 17) (by decide), mq_Gf h (k := 18) (by decide), mq_Gf h (k := 19) (by decide)]
  exact this
theorem MAr_q {a b : mm_S} (h : mq a b) {x : Int32} (hA : MAr a x) : MAr b x := by
  rcases hA with h1 | ⟨q, hq, hx, hA⟩
  · exact Or.inl h1
  · exact Or.inr ⟨q, hq, hx, MAa_q h hA⟩
theorem mq_of5 {a b c : mm_S} (h : mq a b) (h2 : mq5 b c) : mq a c := mq_tr h ⟨fun k _ => mq5_I h2 k, h2.2.1, fun k j _ _ => h2.2.2 k j⟩
theorem h_worth5 (fu : Nat) (hfu : 700 < fu) {sm st0 : mm_S} {i y : Nat} {d : Int32} (hA : MAr sm (mm_I sm 9)) (hq : mq5 sm st0) (hi : i < 6) (hy : y < 2 ^ 31) : fc_ok (M_worthOf fu (nI i) (nI y) d st0) (fun q => q.1 = worthv sm (nI i) (nI y) d ∧ mq5 sm q.2) := by
  unfold M_worthOf
  refine ok_bn.mpr (ok_mono (h_base fu hfu hA hq hi) ?_)
  rintro ⟨r, st⟩ ⟨hr, hqs⟩
  have hr : r = basev sm (nI i) (nI y) d := hr
  subst hr
  have h := e_w22 fu (d := d) (n := basev sm (nI i) (nI y) d) (st := st) hi hy
  rw [kindv_q5 hqs] at h
  refine ok_if.mpr ⟨fun h1 => ?_, fun h1 => ?_⟩
  · rw [if_pos h1] at h
    exact ok_eq h ⟨rfl, hqs⟩
  · rw [if_neg h1] at h
    exact ok_eq h ⟨rfl, hqs⟩
theorem h_worthL (fu : Nat) (hfu : 700 < fu) {sm st0 : mm_S} {i y : Nat} {d : Int32} (hA : MAr sm (mm_I sm 9)) (hq : mq sm st0) (hi : i < 6) (hy : y < 2 ^ 31) : fc_ok (M_worthOf fu (nI i) (nI y) d st0) (fun q => q.1 = worthv sm (nI i) (nI y) d ∧ mq5 st0 q.2) := by
  refine ok_mono (h_worth5 fu hfu (sm := st0) (st0 := st0) (d := d) (by rw [hq.1 9 (by decide)]; exact MAr_q hq hA) mq5_rf hi hy) ?_
  rintro q ⟨h1, h2⟩
  exact ⟨h1.trans (worthv_q hq), h2⟩
theorem h_worth (fu : Nat) (hfu : 700 < fu) {sm st0 : mm_S} {i y : Nat} {d : Int32} (hA : MAr sm (mm_I sm 9)) (hq : mq sm st0) (hi : i < 6) (hy : y < 2 ^ 31) : fc_ok (M_worthOf fu (nI i) (nI y) d st0) (fun q => q.1 = worthv sm (nI i) (nI y) d ∧ mq sm q.2) :=
  ok_mono (h_worthL fu hfu hA hq hi hy) (fun _ h => ⟨h.1, mq_of5 hq h.2⟩)
