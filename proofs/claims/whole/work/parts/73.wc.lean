/-! the class's worth -/
def ltr : Nat → Nat
  | 0 => 105
  | 1 => 107
  | 2 => 118
  | 3 => 121
  | 4 => 99
  | _ => 100
def srt : Nat → Int32
  | 0 => 1
  | 1 => -1
  | _ => 0
def kcl : Nat → Nat
  | 0 => 6
  | 1 => 8
  | 2 => 5
  | 3 => 7
  | 4 => 4
  | 5 => 3
  | _ => 11
def cod (t u : Int32) : Prop := (t = -33 ∧ u = 33) ∨ (t = -38 ∧ u = 38) ∨ (t = -124 ∧ u = 124) ∨ ∃ f m n, f < 6 ∧ m < 3 ∧ n < 100 ∧ t = nI (1000 * f + 100 * m + n) ∧ u = nI (ltr f * 65536 + (60 + m) * 256 + n)
def CLr (sm : mm_S) (sc : cc_S) (a y : Nat) (s : Nat → Nat) (c : Nat) : Prop :=
  (∃ w, w ≤ 2 ∧ mm_G sm 15 (10 * a + c) = nI w ∧ cc_G sc y 3 c = srt w ∧ (w ≠ 2 → mm_G sm 17 (10 * a + c) = nI (100 * a + s c) ∧ mm_G sm 18 (10 * a + c) = nI (100 * a + s (c + 1)) ∧ wfn 12 (mm_G sm 19) (100 * a + s c) (s (c + 1) - s c) 0 1)) ∧
  (∃ m, m < 100 ∧ mm_G sm 16 (10 * a + c) = nI m ∧ cc_G sc y 4 c = nI m) ∧ cc_G sc y 5 c = nI (s c) ∧ cc_G sc y 5 (c + 1) = nI (s (c + 1)) ∧ s c ≤ s (c + 1) ∧ s (c + 1) ≤ 100 ∧ ∀ j, s c ≤ j → j < s (c + 1) → cod (mm_G sm 19 (100 * a + j)) (cc_G sc y 6 j)
def AR (X : cc_X) (sm : mm_S) (sc : cc_S) (a y : Nat) : Prop :=
  (50 ≤ y ∧ y ∈ cx_o X ∧ cx_K X y = 2 ∧ ∀ k ∈ [3, 4, 5, 6], (y, k) ∈ cx_r X) ∧
  ∃ (n : Nat) (s : Nat → Nat), n ≤ 10 ∧ mm_G sm 14 a = nI n ∧ cc_I sc y 7 = nI n ∧ cc_I sc y 9 = kpf (fun c => mm_G sm 15 (10 * a + c)) (fun c => mm_G sm 16 (10 * a + c)) n ∧ ∀ c, c < n → CLr sm sc a y s c
def AO (X : cc_X) (sm : mm_S) (sc : cc_S) (o : Nat) (x : Int32) : Prop := (x = -1 ∧ cc_P sc o 16 0 = none) ∨ ∃ a y, a < 6 ∧ x = nI a ∧ cc_P sc o 16 0 = some y ∧ AR X sm sc a y
def NRk (X : cc_X) (sm : mm_S) (sc : cc_S) (o ks vs k : Nat) : Prop := ∃ y κ ν, cc_P sc o 0 k = some y ∧ 50 ≤ y ∧ y ∈ cx_o X ∧ cx_K X y = kcl κ ∧ κ ≤ 6 ∧ ν ≤ 9 ∧ mm_G sm ks k = nI κ ∧ mm_G sm vs k = nI ν ∧ cc_I sc y 0 = nI κ ∧ cc_I sc y 1 = nI k ∧ cc_I sc y 2 = nI ν
theorem AR_MAa {X : cc_X} {sm : mm_S} {sc : cc_S} {a y : Nat} (ha : a < 6) (h : AR X sm sc a y) : MAa sm a := by
  obtain ⟨-, n, s, hn, h14, -, -, hc⟩ := h
  refine ⟨n, hn, h14, fun c hcn => ?_⟩
  obtain ⟨⟨w, hw, e15, -, hf⟩, ⟨m, hm, e16, -⟩, -, -, h01, h100, -⟩ := hc c hcn
  refine ⟨⟨w, hw, e15⟩, ⟨m, hm, e16⟩, fun hne => ?_⟩
  obtain ⟨e17, e18, hwf⟩ := hf (fun e => hne (by rw [e15, e]))
  exact ⟨_, _, e17, e18, by omega, by omega, by rw [show 100 * a + s (c + 1) - (100 * a + s c) = s (c + 1) - s c by omega]; exact hwf⟩
theorem AO_MAr {X : cc_X} {sm : mm_S} {sc : cc_S} {o : Nat} {x : Int32} (h : AO X sm sc o x) : MAr sm x := by
  rcases h with ⟨h, -⟩ | ⟨a, y, ha, hx, -, h⟩
  · exact Or.inl h
  · exact Or.inr ⟨a, ha, hx, AR_MAa ha h⟩
theorem cga {X : cc_X} {i k c t a : Nat} {j : Int32} (hr : (i, k) ∈ cx_r X) (hK : cx_K X i = c) (ht : cc_ak c k = t) (hj : j = nI a) (ha : a < cc_al c k) (hl : cc_al c k < 2 ^ 31) : cc_ga X i k t j = true := by
  subst hj
  unfold cc_ga
  rw [hK, nI_toInt (by omega)]
  exact decide_eq_true ⟨hr, ht, by omega, by omega⟩
theorem cgo {X : cc_X} {i c : Nat} {cs : List Nat} (ho : i ∈ cx_o X) (hK : cx_K X i = c) (hm : c ∈ cs) : cc_go X i cs = true := decide_eq_true ⟨ho, by rw [hK]; exact hm⟩
theorem kcl_mem : ∀ κ, kcl κ ∈ [3, 4, 5, 6, 7, 8, 11]
  | 0 => by decide
  | 1 => by decide
  | 2 => by decide
  | 3 => by decide
  | 4 => by decide
  | 5 => by decide
  | _ + 6 => by show (11 : Nat) ∈ _; decide
theorem nI_and (a b : Nat) : nI a &&& nI b = nI (a &&& b) := by
  apply Int32.toBitVec_inj.1
  show BitVec.ofNat 32 a &&& BitVec.ofNat 32 b = BitVec.ofNat 32 (a &&& b)
  apply BitVec.eq_of_getLsbD_eq
  intro i hi
  simp [hi]
theorem nI_or (a b : Nat) : nI a ||| nI b = nI (a ||| b) := by
  apply Int32.toBitVec_inj.1
  show BitVec.ofNat 32 a ||| BitVec.ofNat 32 b = BitVec.ofNat 32 (a ||| b)
  apply BitVec.eq_of_getLsbD_eq
  intro i hi
  simp [hi]
theorem nI_xor (a b : Nat) : nI a ^^^ nI b = nI (a ^^^ b) := by
  apply Int32.toBitVec_inj.1
  show BitVec.ofNat 32 a ^^^ BitVec.ofNat 32 b = BitVec.ofNat 32 (a ^^^ b)
  apply BitVec.eq_of_getLsbD_eq
  intro i hi
  simp [hi]
theorem cd_u : ∀ f, f < 6 → ∀ m, m < 3 → ∀ n, n < 100 → nI (ltr f * 65536 + (60 + m) * 256 + n) >>> ((16 : Int32) &&& 31) = nI (ltr f) ∧ nI (ltr f * 65536 + (60 + m) * 256 + n) &&& 255 = nI n ∧ (nI (ltr f * 65536 + (60 + m) * 256 + n) >>> ((8 : Int32) &&& 31)) &&& 255 = nI (60 + m) ∧ nI (ltr f * 65536 + (60 + m) * 256 + n) ≠ 33 ∧ nI (ltr f * 65536 + (60 + m) * 256 + n) ≠ 38 ∧ nI (ltr f * 65536 + (60 + m) * 256 + n) ≠ 124 := by decide +kernel
theorem pb_u : ∀ n, n < 2048 → nI (2 * n) ^^^ 1 = nI (2 * n + 1) ∧ nI (2 * n + 1) ^^^ 1 = nI (2 * n) ∧ nI (2 * n) &&& 1 = 0 ∧ nI (2 * n + 1) &&& 1 = 1 ∧ nI (2 * n) >>> ((1 : Int32) &&& 31) = nI n ∧ nI (2 * n + 1) >>> ((1 : Int32) &&& 31) = nI n ∧ nI n <<< ((1 : Int32) &&& 31) = nI (2 * n) ∧ nI (2 * n) ||| 0 = nI (2 * n) ∧ nI (2 * n) ||| 1 = nI (2 * n + 1) ∧ nI (2 * n + 1) ||| 0 = nI (2 * n + 1) ∧ nI (2 * n + 1) ||| 1 = nI (2 * n + 1) ∧ nI (2 * n) &&& ((0 : Int32) ||| -2) = nI (2 * n) ∧ nI (2 * n) &&& ((1 : Int32) ||| -2) = nI (2 * n) ∧ nI (2 * n + 1) &&& ((0 : Int32) ||| -2) = nI (2 * n) ∧ nI (2 * n + 1) &&& ((1 : Int32) ||| -2) = nI (2 * n + 1) := by decide +kernel
/-- a pile as an int -/
def pc : List Bool → Nat
  | [] => 0
  | b :: s => 2 * pc s + (if b = true then 1 else 0)
theorem pc_lt : ∀ s : List Bool, pc s < 2 ^ s.length
  | [] => by decide
  | b :: s => by
    have h := pc_lt s
    show 2 * pc s + (if b = true then 1 else 0) < 2 ^ (s.length + 1)
    rw [Nat.pow_succ]
    split <;> omega
theorem pc_12 {s : List Bool} {k : Nat} (h : s.length ≤ k) : pc s < 2 ^ k := Nat.lt_of_lt_of_le (pc_lt s) (Nat.pow_le_pow_right (by decide) h)
theorem pc_t (s : List Bool) : pc (true :: s) = 2 * pc s + 1 := rfl
theorem pc_f (s : List Bool) : pc (false :: s) = 2 * pc s := rfl
theorem cod_t {f m n : Nat} (hf : f < 6) (hm : m < 3) (hn : n < 100) : nI (1000 * f + 100 * m + n) / 1000 = nI f ∧ nI (1000 * f + 100 * m + n) / 100 - nI (1000 * f + 100 * m + n) / 100 / 10 * 10 = nI m ∧ nI (1000 * f + 100 * m + n) - nI (1000 * f + 100 * m + n) / 100 * 100 = nI n := by
  refine ⟨?_, ?_, ?_⟩
  · rw [show (1000 : Int32) = nI 1000 from rfl, nI_div (by omega) (by decide)]
    congr 1
    omega
  · rw [show (100 : Int32) = nI 100 from rfl, nI_div (by omega) (by decide), show (10 : Int32) = nI 10 from rfl, nI_rem (by omega) (by decide)]
    congr 1
    omega
  · rw [show (100 : Int32) = nI 100 from rfl, nI_rem (by omega) (by decide)]
    congr 1
    omega
theorem e_passes {X : cc_X} {fu : Nat} {sm : mm_S} {sc : cc_S} {i y d kk v : Int32} {f m n : Nat} (hf : f < 6) (hm : m < 3) (hn : n < 100) (hk : mm_G sm 4 i.toNatClampNeg = kk) (hv : mm_G sm 5 i.toNatClampNeg = v) :
    C_X0_passes X fu (nI (ltr f * 65536 + (60 + m) * 256 + n)) i kk v y d sc = some (bi (testv sm i y d (nI (1000 * f + 100 * m + n))), sc) := by
  obtain ⟨u1, u2, u3, -⟩ := cd_u f hf m hm n hn
  obtain ⟨t1, t2, t3⟩ := cod_t hf hm hn
  have h2 : ∀ x, C_X0_passes_b101 X fu (nI (ltr f * 65536 + (60 + m) * 256 + n)) x sc = some (bi (if nI m = 0 then !decide (nI n ≤ x) else if nI m = 1 then decide (x = nI n) else !decide (x ≤ nI n)), sc) := by
    intro x
    unfold C_X0_passes_b101
    rw [u2, u3, nm_eq, nm_eq]
    have hm3 : m = 0 ∨ m = 1 ∨ m = 2 := by omega
    rcases hm3 with rfl | rfl | rfl
    · rw [if_pos (show nI (60 + 0) = 60 from rfl), if_pos (show nI 0 = 0 from rfl)]
      by_cases h : nI n ≤ x
      · rw [if_pos h, decide_eq_true h]; rfl
      · rw [if_neg h, decide_eq_false h]; rfl
    · rw [if_neg (show ¬ nI (60 + 1) = 60 by decide), if_pos (show nI (60 + 1) = 61 from rfl), if_neg (show ¬ nI 1 = 0 by decide), if_pos (show nI 1 = 1 from rfl)]
      by_cases h : x = nI n
      · rw [if_pos h, decide_eq_true h]; rfl
      · rw [if_neg h, decide_eq_false h]; rfl
    · rw [if_neg (show ¬ nI (60 + 2) = 60 by decide), if_neg (show ¬ nI (60 + 2) = 61 by decide), if_neg (show ¬ nI 2 = 0 by decide), if_neg (show ¬ nI 2 = 1 by decide)]
      by_cases h : x ≤ nI n
      · rw [if_pos h, decide_eq_true h]; rfl
      · rw [if_neg h, decide_eq_false h]; rfl
  unfold C_X0_passes testv
  rw [u1, t1, t2, t3, nm_eq]
  simp only [nm_eq, h2]
  unfold factv
  rw [hk, hv]
  have hf6 : f = 0 ∨ f = 1 ∨ f = 2 ∨ f = 3 ∨ f = 4 ∨ f = 5 := by omega
  rcases hf6 with rfl | rfl | rfl | rfl | rfl | rfl <;> rfl
/-! the class's clause -/
theorem h_cholds {X : cc_X} {fu : Nat} (hfu : 700 < fu) {sm : mm_S} {sc : cc_S} {i y d kk v : Int32} {a o c n : Nat} {s : Nat → Nat} (hk : mm_G sm 4 i.toNatClampNeg = kk) (hv : mm_G sm 5 i.toNatClampNeg = v)
    (ho : o ∈ cx_o X) (hK : cx_K X o = 2) (hr : ∀ k ∈ [3, 4, 5, 6], (o, k) ∈ cx_r X) (hc : c < n) (hn : n ≤ 10) (hcl : CLr sm sc a o s c) (ha : a < 6) (hw2 : mm_G sm 15 (10 * a + c) ≠ nI 2) :
    ∃ b, holdv sm i y d (10 * a + c) = [b] ∧ C_X0_holdsFor X fu o (nI c) i kk v y d sc = some (bi b, sc) := by
  obtain ⟨⟨w, hw, e15, -, hf⟩, -, e5, e51, h01, h100, hcod⟩ := hcl
  obtain ⟨e17, e18, hwf⟩ := hf (fun e => hw2 (by rw [e15, e]))
  have hv1 : holdv sm i y d (10 * a + c) = evn (testv sm i y d) (mm_G sm 19) (100 * a + s c) (s (c + 1) - s c) [] := by
    unfold holdv
    rw [e17, e18, nI_clamp (by omega), nI_clamp (by omega)]
    congr 1
    omega
  rw [hv1]
  have g1 : ∀ j : Nat, j < 11 → cc_ga X o 5 1 (nI j) = true := fun j hj => cga (hr 5 (by decide)) hK rfl rfl hj (by decide)
  have g2 : ∀ j : Nat, j < 100 → cc_ga X o 6 1 (nI j) = true := fun j hj => cga (hr 6 (by decide)) hK rfl rfl hj (by decide)
  have go : cc_go X o [2] = true := cgo ho hK (by decide)
  suffices hs : fc_ok (C_X0_holdsFor X fu o (nI c) i kk v y d sc) (fun q => ∃ b, evn (testv sm i y d) (mm_G sm 19) (100 * a + s c) (s (c + 1) - s c) [] = [b] ∧ q = (bi b, sc)) by
    obtain ⟨q, e, b, hb, rfl⟩ := hs
    exact ⟨b, hb, e⟩
  unfold C_X0_holdsFor
  refine ok_gd.mpr ⟨go, ok_gd.mpr ⟨g1 c (by omega), ?_⟩⟩
  rw [nm_eq, nI_clamp (by omega), e5]
  unfold C_X0_holdsFor_b11
  refine ok_lp (fun z => ∃ (j : Nat) (l : List Bool), z = (o, nI c, i, kk, v, y, d, nI (pc l), nI j, sc) ∧ s c ≤ j ∧ j ≤ s (c + 1) ∧ l.length ≤ 12 ∧ wfn 12 (mm_G sm 19) (100 * a + j) (s (c + 1) - j) l.length 1 ∧ evn (testv sm i y d) (mm_G sm 19) (100 * a + j) (s (c + 1) - j) l = evn (testv sm i y d) (mm_G sm 19) (100 * a + s c) (s (c + 1) - s c) [])
    (fun z => s (c + 1) - z.2.2.2.2.2.2.2.2.1.toNatClampNeg) _ ?_ fu _ ⟨s c, [], rfl, Nat.le_refl _, h01, by simp, hwf, rfl⟩ (by show s (c + 1) - _ < fu; omega)
  rintro z K ⟨j, l, rfl, hj0, hj, hl, hwj, hev⟩ hK
  have hK : ∀ (l' : List Bool), j < s (c + 1) → l'.length ≤ 12 → wfn 12 (mm_G sm 19) (100 * a + j + 1) (s (c + 1) - (j + 1)) l'.length 1 → evn (testv sm i y d) (mm_G sm 19) (100 * a + j + 1) (s (c + 1) - (j + 1)) l' = evn (testv sm i y d) (mm_G sm 19) (100 * a + j) (s (c + 1) - j) l → fc_ok (K (o, nI c, i, kk, v, y, d, nI (pc l'), nI (j + 1), sc)) (fun q => ∃ b, evn (testv sm i y d) (mm_G sm 19) (100 * a + s c) (s (c + 1) - s c) [] = [b] ∧ q = (bi b, sc)) := by
    intro l' hlt a2 a3 a5
    refine hK _ ⟨j + 1, l', rfl, by omega, hlt, a2, a3, a5.trans hev⟩ ?_
    show s (c + 1) - (nI (j + 1)).toNatClampNeg < s (c + 1) - (nI j).toNatClampNeg
    rw [nI_clamp (by omega), nI_clamp (by omega)]
    omega
  have hK2 : ∀ (l' : List Bool) (x : Int32), x = nI (pc l') → j < s (c + 1) → l'.length ≤ 12 → wfn 12 (mm_G sm 19) (100 * a + j + 1) (s (c + 1) - (j + 1)) l'.length 1 → evn (testv sm i y d) (mm_G sm 19) (100 * a + j + 1) (s (c + 1) - (j + 1)) l' = evn (testv sm i y d) (mm_G sm 19) (100 * a + j) (s (c + 1) - j) l → fc_ok (C_X0_holdsFor_b140 X fu (fun x0 x1 x2 x3 x4 x5 x6 x7 x8 st => K (x0, x1, x2, x3, x4, x5, x6, x7, x8, st)) o (nI c) i kk v y d x (nI j) sc) (fun q => ∃ b, evn (testv sm i y d) (mm_G sm 19) (100 * a + s c) (s (c + 1) - s c) [] = [b] ∧ q = (bi b, sc)) := by
    rintro l' x rfl a1 a2 a3 a4
    unfold C_X0_holdsFor_b140
    rw [nm_eq, nI_1]
    exact hK l' a1 a2 a3 a4
  show fc_ok (C_X0_holdsFor_b11F X fu (fun x0 x1 x2 x3 x4 x5 x6 x7 x8 st => K (x0, x1, x2, x3, x4, x5, x6, x7, x8, st)) _ _ _ _ _ _ _ _ _ _) _
  unfold C_X0_holdsFor_b11F
  refine ok_gd.mpr ⟨go, ?_⟩
  rw [nI_1]
  refine ok_gd.mpr ⟨g1 (c + 1) (by omega), ?_⟩
  rw [nI_clamp (by omega), e51]
  refine ok_if.mpr ⟨fun hle => ?_, fun hle => ?_⟩
  · rw [nI_le_iff (by omega) (by omega)] at hle
    have ej : j = s (c + 1) := by omega
    subst ej
    rw [Nat.sub_self] at hwj hev
    have hl1 : l.length = 1 := hwj
    obtain ⟨b, rfl⟩ := List.length_eq_one_iff.mp hl1
    refine ok_if.mpr ⟨fun h1 => ok_some.mpr ⟨b, hev.symm, ?_⟩, fun h1 => ok_some.mpr ⟨b, hev.symm, ?_⟩⟩
    · cases b
      · exact absurd h1 (show ¬ nI 0 &&& 1 = 1 by decide)
      · rfl
    · cases b
      · rfl
      · exact absurd (show nI 1 &&& 1 = 1 from rfl) h1
  · rw [nI_le_iff (by omega) (by omega)] at hle
    have hlt : j < s (c + 1) := by omega
    refine ok_gd.mpr ⟨g2 j (by omega), ?_⟩
    rw [nm_eq, nI_clamp (by omega), nm_eq]
    obtain ⟨k, hk'⟩ : ∃ k, s (c + 1) - j = k + 1 := ⟨s (c + 1) - j - 1, by omega⟩
    have hk2 : s (c + 1) - (j + 1) = k := by omega
    have hcj := hcod j hj0 hlt
    rw [hk'] at hwj hK2
    rw [hk2] at hK2
    unfold wfn at hwj
    have hev1 : ∀ s', evn (testv sm i y d) (mm_G sm 19) (100 * a + j + 1) k s' = evn (testv sm i y d) (mm_G sm 19) (100 * a + j) (k + 1) l ↔ evn (testv sm i y d) (mm_G sm 19) (100 * a + j + 1) k s' = evn (testv sm i y d) (mm_G sm 19) (100 * a + j + 1) k (ev1 (testv sm i y d) (mm_G sm 19 (100 * a + j)) l) := fun s' => Iff.rfl
    generalize mm_G sm 19 (100 * a + j) = t at hwj hev1 hcj
    generalize cc_G sc o 6 j = u at hcj ⊢
    rcases hcj with ⟨rfl, rfl⟩ | ⟨rfl, rfl⟩ | ⟨rfl, rfl⟩ | ⟨f, m, q, hf, hm, hq, rfl, rfl⟩
    · rw [if_pos rfl] at hwj
      obtain ⟨b, r, rfl⟩ : ∃ b r, l = b :: r := by
        cases l with
        | nil => exact absurd hwj.1 (by simp)
        | cons b r => exact ⟨b, r, rfl⟩
      have hrl : pc r < 2048 := pc_12 (k := 11) (by have := hl; simp at this; omega)
      obtain ⟨p1, p2, -⟩ := pb_u _ hrl
      rw [if_pos rfl, nm_eq]
      refine hK2 ((!b) :: r) _ ?_ hlt hl hwj.2 ((hev1 _).mpr rfl)
      cases b
      · rw [pc_f, p1]; rfl
      · rw [pc_t, p2]; rfl
    · rw [if_neg (by decide), if_pos (by decide)] at hwj
      obtain ⟨b, e, r, rfl⟩ : ∃ b e r, l = b :: e :: r := by
        cases l with
        | nil => exact absurd hwj.1 (by simp)
        | cons b l => cases l with
          | nil => exact absurd hwj.1 (by simp)
          | cons e r => exact ⟨b, e, r, rfl⟩
      have hl2 : (e :: r).length ≤ 11 := by have := hl; simp at this ⊢; omega
      have hrl : pc (e :: r) < 2048 := pc_12 (k := 11) hl2
      have hrl2 : pc r < 2048 := pc_12 (k := 11) (by simp at hl2 ⊢; omega)
      obtain ⟨-, -, p3, p4, p5, p6, -⟩ := pb_u _ hrl
      obtain ⟨-, -, -, -, -, -, -, -, -, -, -, p12, p13, p14, p15⟩ := pb_u _ hrl2
      rw [if_neg (by decide), if_pos rfl, nm_eq]
      refine hK2 ((e && b) :: r) _ ?_ hlt (by simp at hl2 ⊢; omega) hwj.2 ((hev1 _).mpr rfl)
      cases b
      · rw [pc_f, p3, p5]
        cases e
        · rw [pc_f, p12]; rfl
        · rw [pc_t, p14]; rfl
      · rw [pc_t, p4, p6]
        cases e
        · rw [pc_f, p13]; rfl
        · rw [pc_t, p15]; rfl
    · rw [if_neg (by decide), if_pos (by decide)] at hwj
      obtain ⟨b, e, r, rfl⟩ : ∃ b e r, l = b :: e :: r := by
        cases l with
        | nil => exact absurd hwj.1 (by simp)
        | cons b l => cases l with
          | nil => exact absurd hwj.1 (by simp)
          | cons e r => exact ⟨b, e, r, rfl⟩
      have hl2 : (e :: r).length ≤ 11 := by have := hl; simp at this ⊢; omega
      have hrl : pc (e :: r) < 2048 := pc_12 (k := 11) hl2
      have hrl2 : pc r < 2048 := pc_12 (k := 11) (by simp at hl2 ⊢; omega)
      obtain ⟨-, -, p3, p4, p5, p6, -⟩ := pb_u _ hrl
      obtain ⟨-, -, -, -, -, -, -, p8, p9, p10, p11, -⟩ := pb_u _ hrl2
      rw [if_neg (by decide), if_neg (by decide), if_pos rfl, nm_eq]
      refine hK2 ((e || b) :: r) _ ?_ hlt (by simp at hl2 ⊢; omega) hwj.2 ((hev1 _).mpr rfl)
      cases b
      · rw [pc_f, p3, p5]
        cases e
        · rw [pc_f, p8]; rfl
        · rw [pc_t, p10]; rfl
      · rw [pc_t, p4, p6]
        cases e
        · rw [pc_f, p9]; rfl
        · rw [pc_t, p11]; rfl
    · obtain ⟨-, -, -, u1, u2, u3⟩ := cd_u f hf m hm q hq
      have ht0 : ¬ nI (1000 * f + 100 * m + q) < 0 := nI_pos (by omega)
      have ht1 : ¬ nI (1000 * f + 100 * m + q) = -33 := fun e => ht0 (by rw [e]; decide)
      rw [if_neg ht1, if_neg ht0] at hwj
      rw [if_neg u1, if_neg u2, if_neg u3, e_passes hf hm hq hk hv, bn_some]
      have hrl : pc l < 2048 := pc_12 (k := 11) (by have := hwj.1; omega)
      obtain ⟨-, -, -, -, -, -, p7, p8, p9, -⟩ := pb_u _ hrl
      have hfin : ∀ v' : Int32, v' = bi (testv sm i y d (nI (1000 * f + 100 * m + q))) → fc_ok (C_X0_holdsFor_b137 X fu (fun x0 x1 x2 x3 x4 x5 x6 x7 x8 st => K (x0, x1, x2, x3, x4, x5, x6, x7, x8, st)) o (nI c) i kk v y d (nI j) v' (nI (pc l) <<< ((1 : Int32) &&& 31)) sc) (fun q => ∃ b, evn (testv sm i y d) (mm_G sm 19) (100 * a + s c) (s (c + 1) - s c) [] = [b] ∧ q = (bi b, sc)) := by
        rintro v' rfl
        unfold C_X0_holdsFor_b137
        rw [nm_eq]
        refine hK2 (testv sm i y d (nI (1000 * f + 100 * m + q)) :: l) _ ?_ hlt hwj.1 hwj.2 ((hev1 _).mpr ?_)
        · rw [p7]
          cases testv sm i y d (nI (1000 * f + 100 * m + q))
          · exact p8
          · exact p9
        · unfold ev1
          rw [if_neg ht1, if_neg ht0]
      refine ok_if.mpr ⟨fun h0 => hfin _ h0.symm, fun h0 => hfin _ ?_⟩
      rw [bi_0] at h0
      cases hb : testv sm i y d (nI (1000 * f + 100 * m + q))
      · exact absurd hb h0
      · rfl
theorem h_cbase {X : cc_X} {fu : Nat} (hfu : 700 < fu) {sm : mm_S} {sc : cc_S} {i y d kk v : Int32} {a o : Nat} (hk : mm_G sm 4 i.toNatClampNeg = kk) (hv : mm_G sm 5 i.toNatClampNeg = v) (ha : a < 6) (h9 : mm_I sm 9 = nI a) (hA : AR X sm sc a o) :
    C_X0_baseOf X fu o i kk v y d sc = some (basev sm i y d, sc) := by
  obtain ⟨⟨-, ho, hK, hr⟩, n, s, hn, h14, e7, -, hc⟩ := hA
  have go : cc_go X o [2] = true := cgo ho hK (by decide)
  have g1 : ∀ j : Nat, j < 10 → cc_ga X o 3 1 (nI j) = true := fun j hj => cga (hr 3 (by decide)) hK rfl rfl hj (by decide)
  have g2 : ∀ j : Nat, j < 10 → cc_ga X o 4 1 (nI j) = true := fun j hj => cga (hr 4 (by decide)) hK rfl rfl hj (by decide)
  unfold basev
  rw [h9, if_pos (i3_0le (by omega)), nI_clamp (by omega), h14, nI_clamp (by omega)]
  unfold C_X0_baseOf C_X0_baseOf_b7
  generalize hB : bsum (fun c => mm_G sm 15 (10 * a + c)) (fun c => mm_G sm 16 (10 * a + c)) (fun c => hdv sm i y d (10 * a + c)) = B
  refine ok_to (ok_lp (fun z => ∃ c, c ≤ n ∧ z = (o, i, kk, v, y, d, B c, nI c, sc)) (fun z => n - z.2.2.2.2.2.2.2.1.toNatClampNeg) _ ?_ fu _ ⟨0, by omega, by rw [← hB]; rfl⟩ (by show n - _ < fu; omega))
  rintro z K ⟨c, hcn, rfl⟩ hKK
  show fc_ok (C_X0_baseOf_b7F X fu (fun x0 x1 x2 x3 x4 x5 x6 x7 st => K (x0, x1, x2, x3, x4, x5, x6, x7, st)) _ _ _ _ _ _ _ _ _) _
  unfold C_X0_baseOf_b7F
  refine ok_gd.mpr ⟨go, ?_⟩
  rw [e7]
  refine ok_if.mpr ⟨fun hle => ?_, fun hle => ?_⟩
  · rw [nI_le_iff (by omega) (by omega)] at hle
    have : c = n := by omega
    subst this
    exact ok_some.mpr rfl
  · rw [nI_le_iff (by omega) (by omega)] at hle
    have hlt : c < n := by omega
    have hcl := hc c hlt
    have hcl2 := hcl
    obtain ⟨⟨w, hw, e15, e3, -⟩, ⟨m, hm, e16, e4⟩, -⟩ := hcl2
    have hnext : ∀ x, x = B (c + 1) → fc_ok (C_X0_baseOf_b62 X fu (fun x0 x1 x2 x3 x4 x5 x6 x7 st => K (x0, x1, x2, x3, x4, x5, x6, x7, st)) o i kk v y d x (nI c) sc) (fun q => q = (B n, sc)) := by
      rintro x rfl
      unfold C_X0_baseOf_b62
      rw [nm_eq, nI_1]
      refine hKK _ ⟨c + 1, by omega, rfl⟩ ?_
      show n - (nI (c + 1)).toNatClampNeg < n - (nI c).toNatClampNeg
      rw [nI_clamp (by omega), nI_clamp (by omega)]
      omega
    have hBc : B (c + 1) = if 1 < mm_G sm 15 (10 * a + c) then B c else if hdv sm i y d (10 * a + c) = true then (if mm_G sm 15 (10 * a + c) = 0 then B c + mm_G sm 16 (10 * a + c) else B c + -(mm_G sm 16 (10 * a + c))) else B c := by
      rw [← hB]
      rfl
    refine ok_gd.mpr ⟨g1 c (by omega), ?_⟩
    rw [nI_clamp (by omega), e3]
    refine ok_if.mpr ⟨fun h0 => hnext _ ?_, fun h0 => ?_⟩
    · have hw' : w = 2 := by
        match w, hw with
        | 0, _ => exact absurd h0 (by decide)
        | 1, _ => exact absurd h0 (by decide)
        | 2, _ => rfl
      subst hw'
      rw [hBc, e15, if_pos (by decide)]
    · have hw' : w = 0 ∨ w = 1 := by
        match w, hw with
        | 0, _ => exact Or.inl rfl
        | 1, _ => exact Or.inr rfl
        | 2, _ => exact absurd rfl h0
      have hn2 : mm_G sm 15 (10 * a + c) ≠ nI 2 := by
        rw [e15]
        rcases hw' with rfl | rfl <;> decide
      obtain ⟨b, hb, hh⟩ := h_cholds (y := y) (d := d) hfu hk hv ho hK hr hlt hn hcl ha hn2
      have hd : hdv sm i y d (10 * a + c) = b := by
        unfold hdv
        rw [hb]
        cases b <;> decide
      rw [hd, e15, e16] at hBc
      rw [hh, bn_some]
      refine ok_if.mpr ⟨fun hb0 => hnext _ ?_, fun hb0 => ?_⟩
      · rw [bi_0] at hb0
        subst hb0
        rw [hBc]
        rcases hw' with rfl | rfl <;> rfl
      · rw [bi_0] at hb0
        have hbt : b = true := by
          cases b
          · exact absurd rfl hb0
          · rfl
        subst hbt
        refine ok_gd.mpr ⟨g1 c (by omega), ok_gd.mpr ⟨g2 c (by omega), ?_⟩⟩
        rw [nm_eq, e3, e4]
        refine hnext _ ?_
        rw [hBc]
        rcases hw' with rfl | rfl
        · show B c + 1 * nI m = B c + nI m
          rw [Int32.one_mul]
        · show B c + -1 * nI m = B c + -(nI m)
          rw [Int32.neg_mul, Int32.one_mul]
theorem h_ckeep {X : cc_X} {fu : Nat} {sm : mm_S} {sc : cc_S} (hX : px_X X) (hA : AO X sm sc 1 (mm_I sm 9)) : C_X7_keepCost X fu 1 sc = some (keepv sm, sc) := by
  unfold C_X7_keepCost
  rw [px_go hX (by decide), gd_true]
  rcases hA with ⟨h, hP⟩ | ⟨a, y, ha, h, hP, ⟨-, ho, hK, -⟩, n, s, hn, h14, -, e9, -⟩
  · rw [hP, mt_none]
    unfold keepv
    rw [h, if_neg i3_m1]
  · rw [hP, mt_some, mt_some, cgo ho hK (by decide), gd_true, e9]
    unfold keepv
    rw [h, if_pos (i3_0le (by omega)), nI_clamp (by omega), h14, nI_clamp (by omega)]
