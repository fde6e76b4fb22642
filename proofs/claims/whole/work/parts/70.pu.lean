/-! what a functional code comes to -/
def fc_ok {α : Type} (x : Option α) (P : α → Prop) : Prop := ∃ a, x = some a ∧ P a
theorem ok_some {α : Type} {a : α} {P : α → Prop} : fc_ok (some a) P ↔ P a := ⟨fun ⟨_, h, p⟩ => by cases h; exact p, fun p => ⟨a, rfl, p⟩⟩
theorem ok_bn {α β γ : Type} {x : Option (α × β)} {k : α → β → Option γ} {P : γ → Prop} : fc_ok (fc_bn x k) P ↔ fc_ok x (fun q => fc_ok (k q.1 q.2) P) := by
  cases x with
  | none => exact ⟨fun ⟨_, h, _⟩ => (by cases h), fun ⟨_, h, _⟩ => (by cases h)⟩
  | some q => exact (ok_some (P := fun (q : α × β) => fc_ok (k q.1 q.2) P)).symm
theorem ok_bv {β γ : Type} {x : Option β} {k : β → Option γ} {P : γ → Prop} : fc_ok (fc_bv x k) P ↔ fc_ok x (fun q => fc_ok (k q) P) := by
  cases x with
  | none => exact ⟨fun ⟨_, h, _⟩ => (by cases h), fun ⟨_, h, _⟩ => (by cases h)⟩
  | some q => exact (ok_some (P := fun q => fc_ok (k q) P)).symm
theorem ok_nm {α γ : Type} {e : α} {k : α → Option γ} {P : γ → Prop} : fc_ok (fc_nm e k) P ↔ fc_ok (k e) P := Iff.rfl
theorem ok_gd {γ : Type} {b : Bool} {x : Option γ} {P : γ → Prop} : fc_ok (fc_gd b x) P ↔ b = true ∧ fc_ok x P := by
  cases b with
  | true => exact ⟨fun h => ⟨rfl, h⟩, fun h => h.2⟩
  | false => exact ⟨fun ⟨_, h, _⟩ => (by cases h), fun h => (by cases h.1)⟩
theorem ok_if {γ : Type} {c : Prop} {_ : Decidable c} {a b : Option γ} {P : γ → Prop} : fc_ok (if c then a else b) P ↔ (c → fc_ok a P) ∧ (¬ c → fc_ok b P) := by
  by_cases h : c
  · rw [if_pos h]; exact ⟨fun p => ⟨fun _ => p, fun q => absurd h q⟩, fun p => p.1 h⟩
  · rw [if_neg h]; exact ⟨fun p => ⟨fun q => absurd q h, fun _ => p⟩, fun p => p.2 h⟩
theorem ok_mono {α : Type} {x : Option α} {P Q : α → Prop} (h : fc_ok x P) (hq : ∀ a, P a → Q a) : fc_ok x Q := ⟨h.choose, h.choose_spec.1, hq _ h.choose_spec.2⟩
theorem ok_eq {α : Type} {x : Option α} {a : α} {P : α → Prop} (h : x = some a) (p : P a) : fc_ok x P := ⟨a, h, p⟩
theorem ok_det {α : Type} {x : Option α} {P Q : α → Prop} (h : fc_ok x P) (h2 : fc_ok x Q) : fc_ok x (fun a => P a ∧ Q a) := by
  obtain ⟨a, e, p⟩ := h
  obtain ⟨b, e2, q⟩ := h2
  rw [e] at e2
  cases e2
  exact ⟨a, e, p, q⟩
theorem bn_some {α β γ : Type} {a : α} {b : β} {k : α → β → Option γ} : fc_bn (some (a, b)) k = k a b := rfl
theorem bv_some {β γ : Type} {b : β} {k : β → Option γ} : fc_bv (some b) k = k b := rfl
theorem nm_eq {α γ : Type} {e : α} {k : α → γ} : fc_nm e k = k e := rfl
theorem gd_true {γ : Type} {x : Option γ} : fc_gd true x = x := rfl
theorem gd_dec {γ : Type} {c : Prop} {_ : Decidable c} {x : Option γ} (h : c) : fc_gd (decide c) x = x := by rw [decide_eq_true h]; rfl
theorem mt_none {γ : Type} {a : γ} {b : Nat → γ} : fc_mt none a b = a := rfl
theorem mt_some {γ : Type} {a : γ} {b : Nat → γ} {y : Nat} : fc_mt (some y) a b = b y := rfl
/-- a loop: an invariant, a measure that falls -/
theorem ok_lp {α β : Type} {F : (α → Option β) → α → Option β} (I : α → Prop) (μ : α → Nat) (P : β → Prop)
    (step : ∀ a K, I a → (∀ b, I b → μ b < μ a → fc_ok (K b) P) → fc_ok (F K a) P) : ∀ (n : Nat) (a : α), I a → μ a < n → fc_ok (fc_lp F n a) P
  | 0, _, _, h => absurd h (Nat.not_lt_zero _)
  | n + 1, a, hi, h => step a (fc_lp F n) hi (fun b hb hm => ok_lp I μ P step n b hb (Nat.lt_of_lt_of_le hm (Nat.le_of_lt_succ h)))
/-! numbers -/
theorem i3_add {a b : Int32} {x y : Int} (ha : a.toInt = x) (hb : b.toInt = y) (h1 : -2147483648 ≤ x + y) (h2 : x + y < 2147483648) : (a + b).toInt = x + y := by
  rw [Int32.toInt_add, ha, hb]
  exact Int.bmod_eq_of_le (by omega) (by omega)
theorem i3_sub {a b : Int32} {x y : Int} (ha : a.toInt = x) (hb : b.toInt = y) (h1 : -2147483648 ≤ x - y) (h2 : x - y < 2147483648) : (a - b).toInt = x - y := by
  rw [Int32.toInt_sub, ha, hb]
  exact Int.bmod_eq_of_le (by omega) (by omega)
theorem i3_mul {a b : Int32} {x y : Int} (ha : a.toInt = x) (hb : b.toInt = y) (h1 : -2147483648 ≤ x * y) (h2 : x * y < 2147483648) : (a * b).toInt = x * y := by
  rw [Int32.toInt_mul, ha, hb]
  exact Int.bmod_eq_of_le (by omega) (by omega)
theorem nI_mul (a b : Nat) : nI a * nI b = nI (a * b) := (Int32.ofNat_mul a b).symm
theorem nI_subN {a b : Nat} (h : b ≤ a) (ha : a < 2 ^ 31) : nI a - nI b = nI (a - b) := by
  rw [Int32.toInt_inj.symm, nI_toInt (by omega), i3_sub (nI_toInt ha) (nI_toInt (by omega)) (by omega) (by omega)]
  omega
theorem nI_div {a b : Nat} (ha : a < 2 ^ 31) (hb : b < 2 ^ 31) : nI a / nI b = nI (a / b) := by
  by_cases h0 : b = 0
  · subst h0
    rw [Int32.toInt_inj.symm, Int32.toInt_div, nI_toInt ha, nI_toInt hb, nI_toInt (by simp)]
    simp
  · have h1 : a / b ≤ a := Nat.div_le_self a b
    rw [Int32.toInt_inj.symm, Int32.toInt_div, nI_toInt ha, nI_toInt hb, nI_toInt (by omega)]
    have : (a : Int).tdiv (b : Int) = ((a / b : Nat) : Int) := by rw [Int.tdiv_eq_ediv_of_nonneg (by omega)]; rfl
    rw [this]
    generalize a / b = q at h1
    exact Int.bmod_eq_of_le (by omega) (by omega)
theorem nI_rem {a b : Nat} (ha : a < 2 ^ 31) (hb : b < 2 ^ 31) : nI a - nI a / nI b * nI b = nI (a % b) := by
  rw [nI_div ha hb, nI_mul, nI_subN (Nat.div_mul_le_self a b) ha]
  congr 1
  have h := Nat.div_add_mod a b
  rw [Nat.mul_comm] at h
  omega
theorem nI_lit (n : Nat) : (OfNat.ofNat n : Int32) = nI n := rfl
theorem nI_ix {a n : Nat} (h : a < n) (hn : n < 2 ^ 31) : fc_ix (nI a) n = true := by
  unfold fc_ix
  rw [nI_toInt (by omega)]
  exact decide_eq_true ⟨by omega, by omega⟩
theorem nI_ex {x : Int32} (h : 0 ≤ x.toInt) : ∃ j : Nat, j < 2 ^ 31 ∧ x = nI j ∧ (j : Int) = x.toInt := by
  have h2 := Int32.toInt_lt x
  refine ⟨x.toInt.toNat, by omega, ?_, by omega⟩
  rw [Int32.toInt_inj.symm, nI_toInt (by omega)]
  omega
theorem nI_eq_iff {a b : Nat} (ha : a < 2 ^ 31) (hb : b < 2 ^ 31) : nI a = nI b ↔ a = b := by
  rw [Int32.toInt_inj.symm, nI_toInt ha, nI_toInt hb]
  omega
theorem nI_le_iff {a b : Nat} (ha : a < 2 ^ 31) (hb : b < 2 ^ 31) : nI a ≤ nI b ↔ a ≤ b := by
  rw [Int32.le_iff_toInt_le, nI_toInt ha, nI_toInt hb]
  omega
theorem nI_lt_iff {a b : Nat} (ha : a < 2 ^ 31) (hb : b < 2 ^ 31) : nI a < nI b ↔ a < b := by
  rw [Int32.lt_iff_toInt_lt, nI_toInt ha, nI_toInt hb]
  omega
theorem bo_0 {c : Prop} {_ : Decidable c} : ((if c then (1 : Int32) else 0) = 0) ↔ ¬ c := by
  by_cases h : c
  · rw [if_pos h]; exact ⟨fun q => (by cases q), fun q => absurd h q⟩
  · rw [if_neg h]; exact ⟨fun _ => h, fun _ => rfl⟩
theorem bo_zb {c : Prop} {_ : Decidable c} : fc_zb (if c then (1 : Int32) else 0) = true := by
  by_cases h : c
  · rw [if_pos h]; rfl
  · rw [if_neg h]; rfl
/-! reads behind writes: the reference's state -/
theorem mI_sI {st : mm_S} {k j : Nat} {v : Int32} : mm_I (mm_sI st k v) j = if j = k then v else mm_I st j := rfl
theorem mI_sG {st : mm_S} {k i j : Nat} {v : Int32} : mm_I (mm_sG st k i v) j = mm_I st j := rfl
theorem mI_sL {st : mm_S} {k i j : Nat} {v : Int64} : mm_I (mm_sL st k i v) j = mm_I st j := rfl
theorem mG_sI {st : mm_S} {k j a : Nat} {v : Int32} : mm_G (mm_sI st k v) j a = mm_G st j a := rfl
theorem mG_sG {st : mm_S} {k i j a : Nat} {v : Int32} : mm_G (mm_sG st k i v) j a = if j = k then (if a = i then v else mm_G st k a) else mm_G st j a := by
  show (if j = k then upd (st.2.1 k) i v else st.2.1 j) a = _
  by_cases h : j = k
  · rw [if_pos h, if_pos h]; rfl
  · rw [if_neg h, if_neg h]; rfl
theorem mG_sL {st : mm_S} {k i j a : Nat} {v : Int64} : mm_G (mm_sL st k i v) j a = mm_G st j a := rfl
theorem mL_sI {st : mm_S} {k j a : Nat} {v : Int32} : mm_L (mm_sI st k v) j a = mm_L st j a := rfl
theorem mL_sG {st : mm_S} {k i j a : Nat} {v : Int32} : mm_L (mm_sG st k i v) j a = mm_L st j a := rfl
theorem mL_sL {st : mm_S} {k i j a : Nat} {v : Int64} : mm_L (mm_sL st k i v) j a = if j = k then (if a = i then v else mm_L st k a) else mm_L st j a := by
  show (if j = k then vp_updL (st.2.2 k) i v else st.2.2 j) a = _
  by_cases h : j = k
  · rw [if_pos h, if_pos h]; rfl
  · rw [if_neg h, if_neg h]; rfl
/-! the class's -/
theorem cI_sI {st : cc_S} {i k a b : Nat} {v : Int32} : cc_I (cc_sI st i k v) a b = if a = i ∧ b = k then v else cc_I st a b := rfl
theorem cI_sG {st : cc_S} {i k j a b : Nat} {v : Int32} : cc_I (cc_sG st i k j v) a b = cc_I st a b := rfl
theorem cI_sJ {st : cc_S} {i k j a b : Nat} {v : Int64} : cc_I (cc_sJ st i k j v) a b = cc_I st a b := rfl
theorem cI_sP {st : cc_S} {i k j a b : Nat} {v : Option Nat} : cc_I (cc_sP st i k j v) a b = cc_I st a b := rfl
theorem cG_sI {st : cc_S} {i k a b d : Nat} {v : Int32} : cc_G (cc_sI st i k v) a b d = cc_G st a b d := rfl
theorem cG_sG {st : cc_S} {i k j a b d : Nat} {v : Int32} : cc_G (cc_sG st i k j v) a b d = if a = i ∧ b = k then (if d = j then v else cc_G st a b d) else cc_G st a b d := by
  show (if a = i ∧ b = k then upd (st.2.1 a b) j v else st.2.1 a b) d = _
  by_cases h : a = i ∧ b = k
  · rw [if_pos h, if_pos h]; rfl
  · rw [if_neg h, if_neg h]; rfl
theorem cG_sJ {st : cc_S} {i k j a b d : Nat} {v : Int64} : cc_G (cc_sJ st i k j v) a b d = cc_G st a b d := rfl
theorem cG_sP {st : cc_S} {i k j a b d : Nat} {v : Option Nat} : cc_G (cc_sP st i k j v) a b d = cc_G st a b d := rfl
theorem cJ_sI {st : cc_S} {i k a b d : Nat} {v : Int32} : cc_J (cc_sI st i k v) a b d = cc_J st a b d := rfl
theorem cJ_sG {st : cc_S} {i k j a b d : Nat} {v : Int32} : cc_J (cc_sG st i k j v) a b d = cc_J st a b d := rfl
theorem cJ_sJ {st : cc_S} {i k j a b d : Nat} {v : Int64} : cc_J (cc_sJ st i k j v) a b d = if a = i ∧ b = k then (if d = j then v else cc_J st a b d) else cc_J st a b d := by
  show (if a = i ∧ b = k then vp_updL (st.2.2.1 a b) j v else st.2.2.1 a b) d = _
  by_cases h : a = i ∧ b = k
  · rw [if_pos h, if_pos h]; rfl
  · rw [if_neg h, if_neg h]; rfl
theorem cJ_sP {st : cc_S} {i k j a b d : Nat} {v : Option Nat} : cc_J (cc_sP st i k j v) a b d = cc_J st a b d := rfl
theorem cP_sI {st : cc_S} {i k a b d : Nat} {v : Int32} : cc_P (cc_sI st i k v) a b d = cc_P st a b d := rfl
theorem cP_sG {st : cc_S} {i k j a b d : Nat} {v : Int32} : cc_P (cc_sG st i k j v) a b d = cc_P st a b d := rfl
theorem cP_sJ {st : cc_S} {i k j a b d : Nat} {v : Int64} : cc_P (cc_sJ st i k j v) a b d = cc_P st a b d := rfl
theorem cP_sP {st : cc_S} {i k j a b d : Nat} {v : Option Nat} : cc_P (cc_sP st i k j v) a b d = if a = i ∧ b = k then (if d = j then v else cc_P st a b d) else cc_P st a b d := by
  show (if a = i ∧ b = k then va_up (st.2.2.2 a b) j v else st.2.2.2 a b) d = _
  by_cases h : a = i ∧ b = k
  · rw [if_pos h, if_pos h]; rfl
  · rw [if_neg h, if_neg h]; rfl
/-! the class's shape -/
def px_o : List (Nat × Nat) := [(0, 13), (1, 9), (2, 9), (3, 12), (4, 10), (5, 10), (6, 10), (7, 10), (8, 10), (9, 10), (40, 1)]
def px_r : List (Nat × Nat) := [(0, 3), (0, 5), (1, 0), (1, 1), (1, 2), (1, 3), (1, 4), (1, 5), (1, 6), (1, 7), (1, 8), (2, 0), (2, 1), (2, 2), (2, 3), (2, 4), (2, 5), (2, 6), (2, 7), (2, 8), (3, 0), (3, 1), (3, 2), (3, 3), (3, 200), (3, 201), (3, 202), (3, 203), (3, 204), (3, 205), (3, 206), (3, 207), (3, 208), (3, 300), (3, 301), (3, 302), (3, 303), (3, 304), (3, 305), (3, 306), (3, 307), (3, 308), (4, 0), (5, 0), (6, 0), (7, 0), (8, 0), (9, 0)]
def px_X (X : cc_X) : Prop := (∀ q ∈ px_o, q.1 ∈ cx_o X ∧ cx_K X q.1 = q.2) ∧ ∀ r ∈ px_r, r ∈ cx_r X
theorem px_go {X : cc_X} (h : px_X X) {i c : Nat} (hm : (i, c) ∈ px_o) : cc_go X i [c] = true := decide_eq_true ⟨(h.1 _ hm).1, List.mem_singleton.mpr (h.1 _ hm).2⟩
theorem px_K {X : cc_X} (h : px_X X) {i c : Nat} (hm : (i, c) ∈ px_o) : cx_K X i = c := (h.1 _ hm).2
theorem px_ga {X : cc_X} (h : px_X X) {i c k t a : Nat} {j : Int32} (hm : (i, c) ∈ px_o) (hr : (i, k) ∈ px_r) (ht : cc_ak c k = t) (hj : j = nI a) (ha : a < cc_al c k) (hl : cc_al c k < 2 ^ 31) : cc_ga X i k t j = true := by
  subst hj
  unfold cc_ga
  rw [px_K h hm, nI_toInt (by omega)]
  exact decide_eq_true ⟨h.2 _ hr, ht, by omega, by omega⟩
