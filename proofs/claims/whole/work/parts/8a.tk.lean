/-! reading a text: strings, single signs, numbers -/
def zl : Nat → List Nat
  | 1 => [115, 104, 97, 109, 101, 32]
  | 2 => [107, 101, 101, 112, 32]
  | 3 => [102, 97, 109, 101, 32]
  | 4 => [105, 107, 118, 121, 99, 100]
  | _ => [60, 61, 62]
def zOK (z : pp_Z) (F : Nat) (T : Nat → Nat) : Prop := (z 0).2.2.1 = F ∧ (∀ j, j < F → (z 0).2.2.2 j = T j ∧ T j < 128) ∧ F ≤ 100 ∧ ∀ i, 1 ≤ i → i ≤ 5 → (z i).2.2.1 = (zl i).length ∧ ∀ j, j < (zl i).length → (z i).2.2.2 j = (zl i).getD j 0
theorem e_len {n fu : Nat} {t : Nat → Nat} : J_J0_length_8abf5 n t fu = some (nI n) := by
  unfold J_J0_length_8abf5 J_J0_coder_7d493
  rw [if_neg n10, bv_some]
  have e : ((0 : Int32) &&& 31) = 0 := rfl
  rw [e, Int32.shiftRight_zero]
theorem e_latin {n fu : Nat} {t : Nat → Nat} : J_J0_isLatin1_aae02 n t fu = some 1 := rfl
theorem chr_n : ∀ c, c < 256 → decide (narrow .char (.int (nI c)) = .int (nI c)) = true := by decide +kernel
theorem e_charAt {n i fu : Nat} {t : Nat → Nat} (hi : i < n) (hn : n < 2 ^ 31) (ht : t i < 256) : J_J0_charAt_5068e n t fu (nI i) = some (nI (t i)) := by
  obtain ⟨s1, s2, -⟩ := sb_byte (t i) ht
  unfold J_J0_charAt_5068e J_J1_charAt_3b067 J_J0_checkIndex_df160 J_J3_checkIndex_8e157
  rw [e_latin, bv_some, if_neg n10, if_neg (i3_neg (by omega)), if_pos ((nI_lt_iff (by omega) hn).mpr hi), bv_some, bv_some, nI_ix hi hn, gd_true, nI_clamp (by omega), s1, s2, bv_some, chr_n _ ht, gd_true]
theorem sb_inj {a b : Nat} (ha : a < 256) (hb : b < 256) : sb_b a = sb_b b ↔ a = b := by
  refine ⟨fun h => ?_, fun h => by rw [h]⟩
  have h1 := (sb_byte a ha).1
  have h2 := (sb_byte b hb).1
  rw [h, h2] at h1
  exact ((nI_eq_iff (by omega) (by omega)).mp h1).symm
theorem e_indexOf {n c fu : Nat} {t : Nat → Nat} (hfu : 700 < fu) (hn : n ≤ 100) (ht : ∀ j, j < n → t j < 256) (hc : c < 256) : ∃ r, J_J0_indexOf_0f7a4 n t fu (nI c) = some r ∧ (0 ≤ r ↔ ∃ j, j < n ∧ t j = c) := by
  have loop : ∀ m k f, k + m = n → m < f → (∀ j, j < k → t j ≠ c) → ∃ r, J_J1_indexOfChar_4cfef_b7 n t fu f (nI n) (sb_b c) (nI k) = some r ∧ (0 ≤ r ↔ ∃ j, j < n ∧ t j = c) := by
    intro m
    induction m with
    | zero =>
      intro k f hkm hm hno
      obtain ⟨f, rfl⟩ : ∃ g, f = g + 1 := ⟨f - 1, by omega⟩
      refine ⟨-1, ?_, ?_⟩
      · rw [show J_J1_indexOfChar_4cfef_b7 n t fu (f + 1) (nI n) (sb_b c) (nI k) = J_J1_indexOfChar_4cfef_b7F n t fu (fun a b d => J_J1_indexOfChar_4cfef_b7 n t fu f a b d) (nI n) (sb_b c) (nI k) from rfl]
        unfold J_J1_indexOfChar_4cfef_b7F
        rw [if_pos ((nI_le_iff (by omega) (by omega)).mpr (by omega))]
      · refine ⟨fun q => absurd q (by decide), fun ⟨j, hj, e⟩ => absurd e (hno j (by omega))⟩
    | succ m ih =>
      intro k f hkm hm hno
      obtain ⟨f, rfl⟩ : ∃ g, f = g + 1 := ⟨f - 1, by omega⟩
      rw [show J_J1_indexOfChar_4cfef_b7 n t fu (f + 1) (nI n) (sb_b c) (nI k) = J_J1_indexOfChar_4cfef_b7F n t fu (fun a b d => J_J1_indexOfChar_4cfef_b7 n t fu f a b d) (nI n) (sb_b c) (nI k) from rfl]
      unfold J_J1_indexOfChar_4cfef_b7F
      rw [if_neg (fun q => by have := (nI_le_iff (by omega) (by omega)).mp q; omega), nI_ix (by omega) (by omega), gd_true, nI_clamp (by omega), nm_eq, nI_1]
      by_cases he : t k = c
      · rw [if_pos (by rw [he])]
        exact ⟨nI k, rfl, fun _ => ⟨k, by omega, he⟩, fun _ => i3_0le (by omega)⟩
      · rw [if_neg (fun q => he ((sb_inj (ht k (by omega)) hc).mp q))]
        exact ih (k + 1) f (by omega) (by omega) (fun j hj => by
          by_cases hjk : j = k
          · rw [hjk]; exact he
          · exact hno j (by omega))
  unfold J_J0_indexOf_0f7a4 J_J0_indexOf_7cf53 J_J1_indexOf_4cfef J_J1_canEncode_9a6ad J_J1_indexOfChar_4cfef
  rw [e_latin, bv_some, if_neg n10, e_len, bv_some, if_neg (i3_neg (by omega)), if_neg (show ¬ (255 : Int32) < nI c from fun q => by have := (nI_lt_iff (a := 255) (by omega) (by omega)).mp q; omega), bv_some, if_neg n10, if_neg (show ¬ (0 : Int32) < 0 by decide), nm_eq, nm_eq]
  have e1 : (if nI n < nI n then nI n else nI n) = nI n := by split <;> rfl
  rw [e1]
  by_cases hn0 : n = 0
  · subst hn0
    rw [if_neg (show ¬ (0 : Int32) < nI 0 by decide), bv_some, bv_some]
    exact ⟨-1, rfl, fun q => absurd q (by decide), fun ⟨j, hj, _⟩ => absurd hj (Nat.not_lt_zero j)⟩
  · rw [if_pos (show (0 : Int32) < nI n from (nI_lt_iff (a := 0) (by omega) (by omega)).mpr (by omega))]
    obtain ⟨r, e, h⟩ := loop n 0 fu (by omega) (by omega) (fun j hj => absurd hj (Nat.not_lt_zero j))
    have e' : J_J1_indexOfChar_4cfef_b7 n t fu fu (nI n) (nI c).toInt8.toInt32 0 = some r := e
    rw [nm_eq, e', bv_some, bv_some, bv_some]
    exact ⟨r, rfl, h⟩
/-- the sign at a place, -1 behind the end -/
def chv (F : Nat) (T : Nat → Nat) (p : Nat) : Int32 := if p < F then nI (T p) else -1
theorem chv_1 {F : Nat} {T : Nat → Nat} {p c : Nat} (hT : ∀ j, j < F → T j < 128) (hc : c < 256) : chv F T p = nI c ↔ p < F ∧ T p = c := by
  unfold chv
  by_cases h : p < F
  · rw [if_pos h, nI_eq_iff (by have := hT p h; omega) (by omega)]
    exact ⟨fun e => ⟨h, e⟩, fun e => e.2⟩
  · rw [if_neg h]
    exact ⟨fun e => absurd e.symm (nI_ne_m1 (by omega)), fun e => absurd e.1 h⟩
theorem sI_sI {st : mm_S} {k : Nat} {a b : Int32} : mm_sI (mm_sI st k a) k b = mm_sI st k b := by
  unfold mm_sI mm_up
  congr 1
  funext j
  by_cases h : j = k
  · rw [if_pos h, if_pos h]
  · show (if j = k then b else if j = k then a else st.1 j) = if j = k then b else st.1 j
    rw [if_neg h, if_neg h, if_neg h]
section TK
variable {z : pp_Z} {F fu p : Nat} {T : Nat → Nat} {st : mm_S}
theorem k_sees (hz : zOK z F T) (hp : mm_I st 2 = nI p) (hpF : p ≤ F) (c : Int32) : P_X0_sees z fu c st = some (if chv F T p = c ∧ p < F then 1 else 0, st) := by
  obtain ⟨h0, ht, hF, -⟩ := hz
  unfold P_X0_sees
  rw [e_len, bv_some, h0, hp]
  by_cases h : p < F
  · rw [if_neg (fun q => by have := (nI_le_iff (by omega) (by omega)).mp q; omega), e_charAt h (by omega) (by rw [(ht p h).1]; have := (ht p h).2; omega), bv_some, (ht p h).1]
    unfold chv
    rw [if_pos h]
    by_cases hc : nI (T p) = c
    · rw [if_pos hc, if_pos ⟨hc, h⟩]
    · rw [if_neg hc, if_neg (fun q => hc q.1)]
  · rw [if_pos ((nI_le_iff (by omega) (by omega)).mpr (by omega)), if_neg (fun q => h q.2)]
theorem k_takes (hz : zOK z F T) (hp : mm_I st 2 = nI p) (hpF : p ≤ F) (c : Int32) : P_X0_takes z fu c st = if chv F T p = c ∧ p < F then some (1, mm_sI st 2 (nI (p + 1))) else some (0, st) := by
  unfold P_X0_takes
  rw [k_sees hz hp hpF c, bn_some]
  by_cases h : chv F T p = c ∧ p < F
  · rw [if_pos h, if_pos h, if_neg n10, hp, nI_1]
    rfl
  · rw [if_neg h, if_neg h, if_pos rfl]
theorem k_oneOf (hfu : 700 < fu) (hz : zOK z F T) (hp : mm_I st 2 = nI p) (hpF : p ≤ F) {i : Nat} (hi : i = 4 ∨ i = 5) : P_X0_takesOneOf z fu i st = if p < F ∧ T p ∈ zl i then some (nI (T p), mm_sI st 2 (nI (p + 1))) else some (0, st) := by
  obtain ⟨h0, ht, hF, hz⟩ := hz
  unfold P_X0_takesOneOf
  rw [e_len, bv_some, h0, hp]
  by_cases h : p < F
  rotate_left
  · rw [if_pos ((nI_le_iff (by omega) (by omega)).mpr (by omega)), if_neg (fun q => h q.1)]
  have htp := (ht p h).2
  obtain ⟨z1, z2⟩ := hz i (by omega) (by omega)
  have hlen : (zl i).length ≤ 6 := by rcases hi with rfl | rfl <;> decide
  have hzt : ∀ j, j < (zl i).length → (zl i).getD j 0 < 256 := by rcases hi with rfl | rfl <;> decide
  rw [if_neg (fun q => by have := (nI_le_iff (by omega) (by omega)).mp q; omega), e_charAt h (by omega) (by rw [(ht p h).1]; omega), bv_some, (ht p h).1, decide_eq_true (show i < 6 by omega), gd_true]
  obtain ⟨r, e1, e2⟩ := e_indexOf (n := (z i).2.2.1) (t := (z i).2.2.2) (c := T p) hfu (by omega) (fun j hj => by rw [z1] at hj; rw [z2 j hj]; exact hzt j hj) (show T p < 256 by omega)
  have e3 : (∃ j, j < (z i).2.2.1 ∧ (z i).2.2.2 j = T p) ↔ T p ∈ zl i := by
    rw [z1]
    constructor
    · rintro ⟨j, hj, e⟩
      rw [z2 j hj, List.getD_eq_getElem?_getD, List.getElem?_eq_getElem hj] at e
      rw [← e]
      exact List.getElem_mem hj
    · intro hm
      obtain ⟨j, hj⟩ := List.getElem?_of_mem hm
      obtain ⟨hl, e⟩ := List.getElem?_eq_some_iff.mp hj
      refine ⟨j, hl, ?_⟩
      rw [z2 j hl, List.getD_eq_getElem?_getD, hj]
      rfl
  rw [e1, bv_some]
  by_cases hm : T p ∈ zl i
  · rw [if_pos (e2.mpr (e3.mpr hm)), if_pos ⟨h, hm⟩, nm_eq, nI_1]
    have ep : mm_I (mm_sI st 2 (nI (p + 1))) 2 - 1 = nI p := nI_pred p
    rw [ep, e_charAt h (by omega) (by rw [(ht p h).1]; omega), bv_some, (ht p h).1, chr_n _ (show T p < 256 by omega), gd_true]
  · rw [if_neg (fun q => hm (e3.mp (e2.mp q))), if_neg (fun q => hm q.2)]
def dg (F : Nat) (T : Nat → Nat) (p : Nat) : Bool := decide (p < F ∧ 48 ≤ T p ∧ T p ≤ 57)
def numk (F : Nat) (T : Nat → Nat) (p : Nat) : Nat := if dg F T p = true then (if dg F T (p + 1) = true then 2 else 1) else 0
def numv (T : Nat → Nat) (F p : Nat) : Nat := if dg F T (p + 1) = true then 10 * (T p - 48) + (T (p + 1) - 48) else T p - 48
theorem numk_le {F p : Nat} {T : Nat → Nat} (hp : p ≤ F) : p + numk F T p ≤ F := by
  unfold numk dg
  by_cases h : p < F ∧ 48 ≤ T p ∧ T p ≤ 57
  · rw [decide_eq_true h, if_pos rfl]
    by_cases h2 : p + 1 < F ∧ 48 ≤ T (p + 1) ∧ T (p + 1) ≤ 57
    · rw [decide_eq_true h2, if_pos rfl]; omega
    · rw [decide_eq_false h2, if_neg (show ¬ (false = true) by decide)]; omega
  · rw [decide_eq_false h, if_neg (show ¬ (false = true) by decide)]; omega
theorem numv_lt {F p : Nat} {T : Nat → Nat} (h : numk F T p ≠ 0) : numv T F p < 100 := by
  unfold numk at h
  by_cases h1 : dg F T p = true
  · unfold numv
    have a1 := of_decide_eq_true h1
    by_cases h2 : dg F T (p + 1) = true
    · have a2 := of_decide_eq_true h2
      rw [if_pos h2]
      omega
    · rw [if_neg h2]
      omega
  · rw [if_neg h1] at h
    exact absurd rfl h
theorem k_number (hfu : 700 < fu) (hz : zOK z F T) (hp : mm_I st 2 = nI p) (hpF : p ≤ F) : P_X0_takesNumber z fu st = if numk F T p = 0 then some (-1, st) else some (nI (numv T F p), mm_sI st 2 (nI (p + numk F T p))) := by
  have hz' := hz
  obtain ⟨h0, ht, hF, -⟩ := hz
  obtain ⟨f, rfl⟩ : ∃ f, fu = f + 1 + 1 + 1 := ⟨fu - 3, by omega⟩
  -- one step
  have step : ∀ (K : Int32 → Int32 → mm_S → Option (Int32 × mm_S)) (x k : Nat) (x1 : Int32) (s : mm_S) (q : Nat), mm_I s 2 = nI q → q ≤ F → k < 2 → P_X0_takesNumber_b4F z (f + 1 + 1 + 1) K x1 (nI k) s = if dg F T q = true then K ((if x1 < 0 then 0 else x1) * 10 + nI (T q - 48)) (nI (k + 1)) (mm_sI s 2 (nI (q + 1))) else some (x1, s) := by
    intro K x k x1 s q hq hqF hk
    unfold P_X0_takesNumber_b4F
    rw [if_neg (show ¬ (2 : Int32) ≤ nI k from fun e => by have := (nI_le_iff (a := 2) (by omega) (by omega)).mp e; omega), e_len, bv_some, h0, hq]
    by_cases h : q < F
    rotate_left
    · rw [if_pos ((nI_le_iff (by omega) (by omega)).mpr (by omega)), if_neg]
      unfold dg
      rw [decide_eq_true_eq]
      omega
    have htp := (ht q h).2
    rw [if_neg (fun e => by have := (nI_le_iff (by omega) (by omega)).mp e; omega), e_charAt h (by omega) (by rw [(ht q h).1]; omega), bv_some, (ht q h).1, nm_eq]
    have e48 : (nI (T q) - 48).toInt = (T q : Int) - 48 := i3_sub (nI_toInt (by omega)) rfl (by omega) (by omega)
    have z0 : (0 : Int32).toInt = 0 := rfl
    have z9 : (9 : Int32).toInt = 9 := rfl
    by_cases hl : T q < 48
    · rw [if_pos (by rw [Int32.lt_iff_toInt_lt, e48, z0]; omega), if_neg]
      unfold dg
      rw [decide_eq_true_eq]
      omega
    rw [if_neg (by rw [Int32.lt_iff_toInt_lt, e48, z0]; omega)]
    by_cases hg : T q ≤ 57
    · rw [if_pos (by rw [Int32.le_iff_toInt_le, e48, z9]; omega), if_pos (show dg F T q = true from decide_eq_true ⟨h, by omega, hg⟩), show (48 : Int32) = nI 48 from rfl, nI_subN (by omega) (by omega)]
      simp only [nm_eq]
      rw [nI_1, nI_1]
    · rw [if_neg (by rw [Int32.le_iff_toInt_le, e48, z9]; omega), if_neg]
      unfold dg
      rw [decide_eq_true_eq]
      omega
  unfold P_X0_takesNumber
  rw [show P_X0_takesNumber_b4 z (f + 1 + 1 + 1) (f + 1 + 1 + 1) (-1) 0 st = P_X0_takesNumber_b4F z (f + 1 + 1 + 1) (fun a b s => P_X0_takesNumber_b4 z (f + 1 + 1 + 1) (f + 1 + 1) a b s) (-1) (nI 0) st from rfl, step _ 0 0 (-1) st p hp hpF (by omega)]
  unfold numk numv
  by_cases h1 : dg F T p = true
  rotate_left
  · rw [if_neg h1, if_neg h1, if_pos rfl]
  have a1 := of_decide_eq_true h1
  rw [if_pos h1, if_pos h1, if_pos (show (-1 : Int32) < 0 by decide), show P_X0_takesNumber_b4 z (f + 1 + 1 + 1) (f + 1 + 1) (0 * 10 + nI (T p - 48)) (nI (0 + 1)) (mm_sI st 2 (nI (p + 1))) = P_X0_takesNumber_b4F z (f + 1 + 1 + 1) (fun a b s => P_X0_takesNumber_b4 z (f + 1 + 1 + 1) (f + 1) a b s) (0 * 10 + nI (T p - 48)) (nI 1) (mm_sI st 2 (nI (p + 1))) from rfl, step _ 0 1 _ (mm_sI st 2 (nI (p + 1))) (p + 1) rfl (by omega) (by omega)]
  have e1 : (0 : Int32) * 10 + nI (T p - 48) = nI (T p - 48) := by
    rw [Int32.zero_mul, Int32.zero_add]
  by_cases h2 : dg F T (p + 1) = true
  · have a2 := of_decide_eq_true h2
    rw [if_pos h2, if_pos h2, if_neg (show ¬ (2 : Nat) = 0 by decide), e1, if_neg (i3_neg (by omega)), if_pos h2, sI_sI, show P_X0_takesNumber_b4 z (f + 1 + 1 + 1) (f + 1) (nI (T p - 48) * 10 + nI (T (p + 1) - 48)) (nI (1 + 1)) (mm_sI st 2 (nI (p + 1 + 1))) = P_X0_takesNumber_b4F z (f + 1 + 1 + 1) (fun a b s => P_X0_takesNumber_b4 z (f + 1 + 1 + 1) f a b s) (nI (T p - 48) * 10 + nI (T (p + 1) - 48)) (nI 2) (mm_sI st 2 (nI (p + 1 + 1))) from rfl]
    unfold P_X0_takesNumber_b4F
    rw [if_pos (show (2 : Int32) ≤ nI 2 by decide), show (10 : Int32) = nI 10 from rfl, nI_mul, nI_add, Nat.mul_comm]
  · rw [if_neg h2, if_neg h2, if_neg (show ¬ (1 : Nat) = 0 by decide), e1, if_neg h2]
end TK
/-! the reference's single signs -/
def Tk (sm sm' : mm_S) : Prop := (∀ k, k ≠ 11 → k ≠ 12 → mm_I sm' k = mm_I sm k) ∧ (∀ k j, mm_G sm' k j = mm_G sm k j) ∧ ∀ k j, mm_L sm' k j = mm_L sm k j
def Rd (F : Nat) (T : Nat → Nat) (sm : mm_S) (p : Nat) : Prop := mm_I sm 11 = nI p ∧ mm_I sm 10 = nI F ∧ ∀ k, k < F → mm_G sm 13 k = nI (T k) ∧ T k < 128
section MK
variable {F fu p : Nat} {T : Nat → Nat} {sm : mm_S}
theorem m_next (h : Rd F T sm p) (hp : p ≤ F) (hF : F ≤ 100) : M_next fu sm = some (chv F T p, sm) := by
  obtain ⟨h11, h10, ht⟩ := h
  unfold M_next chv
  rw [h11, h10]
  by_cases hq : p < F
  · rw [if_neg (fun q => by have := (nI_le_iff (by omega) (by omega)).mp q; omega), nI_ix (by omega) (by decide), gd_true, nI_clamp (by omega), (ht p hq).1, if_pos hq]
  · rw [if_pos ((nI_le_iff (by omega) (by omega)).mpr (by omega)), if_neg hq]
theorem m_takes (h : Rd F T sm p) (hp : p ≤ F) (hF : F ≤ 100) (c : Int32) : M_takes fu c sm = if chv F T p = c then some (1, mm_sI sm 11 (nI (p + 1))) else some (0, sm) := by
  unfold M_takes
  rw [m_next h hp hF, bn_some]
  by_cases hc : chv F T p = c
  · rw [if_pos hc, if_pos hc, h.1, nI_1]
    rfl
  · rw [if_neg hc, if_neg hc]
theorem Rd_at (h : Rd F T sm p) (q : Nat) : Rd F T (mm_sI sm 11 (nI q)) q := ⟨rfl, h.2.1, h.2.2⟩
theorem m_digit (h : Rd F T sm p) (hp : p ≤ F) (hF : F ≤ 100) : M_isDigit fu sm = some (if dg F T p = true then 1 else 0, sm) := by
  unfold M_isDigit
  rw [m_next h hp hF, bn_some]
  have e : M_in fu (chv F T p) 48 57 sm = some (if dg F T p = true then 1 else 0, sm) := by
    unfold M_in chv dg
    by_cases hq : p < F
    · have ht := (h.2.2 p hq).2
      rw [if_pos hq]
      by_cases h1 : T p < 48
      · rw [if_pos (show nI (T p) < 48 from (nI_lt_iff (b := 48) (by omega) (by omega)).mpr h1), if_neg]
        rw [decide_eq_true_eq]
        omega
      · rw [if_neg (show ¬ nI (T p) < 48 from fun e => h1 ((nI_lt_iff (b := 48) (by omega) (by omega)).mp e))]
        by_cases h2 : 57 < T p
        · rw [if_pos (show (57 : Int32) < nI (T p) from (nI_lt_iff (a := 57) (by omega) (by omega)).mpr h2), if_neg]
          rw [decide_eq_true_eq]
          omega
        · rw [if_neg (show ¬ (57 : Int32) < nI (T p) from fun e => h2 ((nI_lt_iff (a := 57) (by omega) (by omega)).mp e)), if_pos (decide_eq_true ⟨hq, by omega, by omega⟩)]
    · rw [if_neg hq, if_pos (by decide), if_neg]
      rw [decide_eq_true_eq]
      omega
  rw [e, bn_some]
  split <;> rfl
theorem m_number (hfu : 700 < fu) (h : Rd F T sm p) (hp : p ≤ F) (hF : F ≤ 100) : if numk F T p = 0 then M_takesNumber fu sm = some (0, sm) else ∃ sm', M_takesNumber fu sm = some (1, sm') ∧ Rd F T sm' (p + numk F T p) ∧ mm_I sm' 12 = nI (numv T F p) ∧ Tk sm sm' := by
  obtain ⟨f, rfl⟩ : ∃ f, fu = f + 1 + 1 + 1 := ⟨fu - 3, by omega⟩
  have step : ∀ (K : Int32 → mm_S → Option (Int32 × mm_S)) (k q v : Nat) (s : mm_S), Rd F T s q → q ≤ F → k < 2 → v ≤ 9 → mm_I s 12 = nI v → M_takesNumber_b16F (f + 1 + 1 + 1) K (nI k) s = if dg F T q = true then K (nI (k + 1)) (mm_sI (mm_sI s 12 (nI (10 * v + (T q - 48)))) 11 (nI (q + 1))) else some (1, s) := by
    intro K k q v s hs hq hk hv h12
    unfold M_takesNumber_b16F
    rw [if_neg (show ¬ (2 : Int32) ≤ nI k from fun e => by have := (nI_le_iff (a := 2) (by omega) (by omega)).mp e; omega), m_digit hs hq hF, bn_some]
    by_cases hd : dg F T q = true
    · have a1 := of_decide_eq_true hd
      rw [if_pos hd, if_neg n10, if_pos hd, m_next hs hq hF, bn_some]
      unfold chv
      rw [if_pos a1.1, h12]
      simp only [nm_eq]
      have e : (10 : Int32) * nI v + nI (T q) - 48 = nI (10 * v + (T q - 48)) := by
        have := (hs.2.2 q a1.1).2
        rw [show (10 : Int32) = nI 10 from rfl, nI_mul, nI_add, show (48 : Int32) = nI 48 from rfl, nI_subN (by omega) (by omega)]
        congr 1
        omega
      have e2 : mm_I (mm_sI s 12 (nI (10 * v + (T q - 48)))) 11 + 1 = nI (q + 1) := by
        show mm_I s 11 + 1 = _
        rw [hs.1, nI_1]
      rw [e, e2, nI_1]
    · rw [if_neg hd, if_pos rfl, if_neg hd]
  unfold M_takesNumber
  rw [m_digit h hp hF, bn_some]
  unfold numk numv
  by_cases h1 : dg F T p = true
  rotate_left
  · rw [if_neg h1, if_pos rfl, if_neg h1, if_pos rfl]
  have a1 := of_decide_eq_true h1
  rw [if_pos h1, if_pos h1, if_neg n10, nm_eq]
  have h5 : Rd F T (mm_sI sm 12 0) p := ⟨h.1, h.2.1, h.2.2⟩
  rw [show M_takesNumber_b16 (f + 1 + 1 + 1) (f + 1 + 1 + 1) 0 (mm_sI sm 12 0) = M_takesNumber_b16F (f + 1 + 1 + 1) (fun a s => M_takesNumber_b16 (f + 1 + 1 + 1) (f + 1 + 1) a s) (nI 0) (mm_sI sm 12 0) from rfl, step _ 0 p 0 _ h5 hp (by omega) (by omega) rfl, if_pos h1]
  generalize hs1 : mm_sI (mm_sI (mm_sI sm 12 0) 12 (nI (10 * 0 + (T p - 48)))) 11 (nI (p + 1)) = s1
  have r1 : Rd F T s1 (p + 1) := by rw [← hs1]; exact ⟨rfl, h.2.1, h.2.2⟩
  have v1 : mm_I s1 12 = nI (T p - 48) := by
    rw [← hs1]
    show nI (10 * 0 + (T p - 48)) = _
    congr 1
    omega
  have k1 : Tk sm s1 := by
    rw [← hs1]
    exact ⟨fun k a b => by rw [mI_sI, if_neg a, mI_sI, if_neg b, mI_sI, if_neg b], fun _ _ => rfl, fun _ _ => rfl⟩
  rw [show M_takesNumber_b16 (f + 1 + 1 + 1) (f + 1 + 1) (nI (0 + 1)) s1 = M_takesNumber_b16F (f + 1 + 1 + 1) (fun a s => M_takesNumber_b16 (f + 1 + 1 + 1) (f + 1) a s) (nI 1) s1 from rfl, step _ 1 (p + 1) (T p - 48) s1 r1 (by omega) (by omega) (by omega) v1]
  by_cases h2 : dg F T (p + 1) = true
  · have a2 := of_decide_eq_true h2
    rw [if_pos h2, if_pos h2, if_neg (show ¬ (2 : Nat) = 0 by decide), if_pos h2]
    generalize hs2 : mm_sI (mm_sI s1 12 (nI (10 * (T p - 48) + (T (p + 1) - 48)))) 11 (nI (p + 1 + 1)) = s2
    rw [show M_takesNumber_b16 (f + 1 + 1 + 1) (f + 1) (nI (1 + 1)) s2 = M_takesNumber_b16F (f + 1 + 1 + 1) (fun a s => M_takesNumber_b16 (f + 1 + 1 + 1) f a s) (nI 2) s2 from rfl]
    unfold M_takesNumber_b16F
    rw [if_pos (show (2 : Int32) ≤ nI 2 by decide)]
    refine ⟨s2, rfl, ?_, ?_, ?_⟩
    · rw [← hs2]
      exact ⟨rfl, r1.2.1, r1.2.2⟩
    · rw [← hs2]
      rfl
    · rw [← hs2]
      exact ⟨fun k a b => by rw [mI_sI, if_neg a, mI_sI, if_neg b]; exact k1.1 k a b, k1.2.1, k1.2.2⟩
  · rw [if_neg h2, if_neg h2, if_neg (show ¬ (1 : Nat) = 0 by decide), if_neg h2]
    exact ⟨s1, rfl, r1, v1, k1⟩
end MK
