/-! the image -/
theorem cG_cG {st : cc_S} {i0 k0 i k sp dp n a b d : Nat} : cc_G (cc_cG st i0 k0 i k sp dp n) a b d = if a = i ∧ b = k then (if dp ≤ d ∧ d < dp + n then cc_G st i0 k0 (sp + (d - dp)) else cc_G st i k d) else cc_G st a b d := by
  show (if a = i ∧ b = k then va_cpy (st.2.1 i0 k0) (st.2.1 i k) sp dp n else st.2.1 a b) d = _
  by_cases h : a = i ∧ b = k
  · rw [if_pos h, if_pos h]; rfl
  · rw [if_neg h, if_neg h]; rfl
theorem cI_cG {st : cc_S} {i0 k0 i k sp dp n a b : Nat} : cc_I (cc_cG st i0 k0 i k sp dp n) a b = cc_I st a b := rfl
theorem cP_cG {st : cc_S} {i0 k0 i k sp dp n a b d : Nat} : cc_P (cc_cG st i0 k0 i k sp dp n) a b d = cc_P st a b d := rfl
theorem cJ_cG {st : cc_S} {i0 k0 i k sp dp n a b d : Nat} : cc_J (cc_cG st i0 k0 i k sp dp n) a b d = cc_J st a b d := rfl
/-- object d after it became object o -/
def Bc (o d : Nat) (sc sc' : cc_S) : Prop := (∀ i, i ≠ d → (∀ k, cc_I sc' i k = cc_I sc i k) ∧ (∀ k j, cc_G sc' i k j = cc_G sc i k j) ∧ ∀ k j, cc_P sc' i k j = cc_P sc i k j) ∧ (∀ i k j, cc_J sc' i k j = cc_J sc i k j) ∧
  (∀ k, 9 ≤ k → k ≤ 15 → cc_I sc' d k = cc_I sc o k) ∧ (∀ j, j < 6 → cc_P sc' d 0 j = cc_P sc o 0 j) ∧ cc_P sc' d 16 0 = cc_P sc o 16 0 ∧
  (∀ j, j < 6 → cc_G sc' d 1 j = cc_G sc o 1 j) ∧ (∀ j, j < 24 → cc_G sc' d 2 j = cc_G sc o 2 j) ∧ (∀ j, j < 8 → cc_G sc' d 3 j = cc_G sc o 3 j) ∧ (∀ j, j < 5 → cc_G sc' d 4 j = cc_G sc o 4 j) ∧ (∀ j, j < 5 → cc_G sc' d 5 j = cc_G sc o 5 j) ∧ (∀ j, j < 5 → cc_G sc' d 6 j = cc_G sc o 6 j) ∧ (∀ j, j < 8 → cc_G sc' d 7 j = cc_G sc o 7 j) ∧ ∀ j, j < 8 → cc_G sc' d 8 j = cc_G sc o 8 j
def copyI (st : cc_S) (o d k : Nat) : cc_S := cc_sI st d k (cc_I st o k)
theorem bc_I {sc a : cc_S} {o d k : Nat} (hod : o ≠ d) (h : (∀ i, i ≠ d → (∀ k, cc_I a i k = cc_I sc i k) ∧ (∀ k j, cc_G a i k j = cc_G sc i k j) ∧ ∀ k j, cc_P a i k j = cc_P sc i k j)) : ∀ i, i ≠ d → (∀ q, cc_I (cc_sI a d k (cc_I a o k)) i q = cc_I sc i q) ∧ (∀ q j, cc_G (cc_sI a d k (cc_I a o k)) i q j = cc_G sc i q j) ∧ ∀ q j, cc_P (cc_sI a d k (cc_I a o k)) i q j = cc_P sc i q j := fun i hi => ⟨fun q => by rw [cI_sI, if_neg (fun e => hi e.1)]; exact (h i hi).1 q, (h i hi).2.1, (h i hi).2.2⟩
theorem h_becomeS {X : cc_X} {fu o d : Nat} (hfu : 700 < fu) {sc : cc_S} (hX : px_X X) (ho : (o = 1 ∧ d = 2) ∨ (o = 2 ∧ d = 1)) (hy : ∀ k y, k < 6 → cc_P sc o 0 k = some y → y ∈ cx_o X ∧ cx_K X y ∈ [3, 4, 5, 6, 7, 8, 11]) : fc_ok (C_X7_become X fu d o sc) (Bc o d sc) := by
  have hod : o ≠ d := by omega
  have go : cc_go X o [9] = true := px_go hX (by rcases ho with ⟨rfl, rfl⟩ | ⟨rfl, rfl⟩ <;> decide)
  have gd' : cc_go X d [9] = true := px_go hX (by rcases ho with ⟨rfl, rfl⟩ | ⟨rfl, rfl⟩ <;> decide)
  have ga0 : ∀ i c, (i = o ∨ i = d) → c < 6 → cc_ga X i 0 3 (nI c) = true := by
    intro i c hi hc
    have hi : i = 1 ∨ i = 2 := by omega
    refine px_ga hX (c := 9) (i := i) (k := 0) (t := 3) (a := c) (j := nI c) ?_ ?_ rfl rfl (by show c < 6; omega) (by decide)
    · rcases hi with rfl | rfl <;> decide
    · rcases hi with rfl | rfl <;> decide
  have gc : ∀ i k n, (i = o ∨ i = d) → (k = 1 ∧ n = 6) ∨ (k = 2 ∧ n = 24) ∨ (k = 3 ∧ n = 8) ∨ (k = 4 ∧ n = 5) ∨ (k = 5 ∧ n = 5) ∨ (k = 6 ∧ n = 5) ∨ (k = 7 ∧ n = 8) ∨ (k = 8 ∧ n = 8) → cc_gc X i k 1 (nI 0) (nI n) = true := by
    intro i k n hi hk
    have hi : i = 1 ∨ i = 2 := by omega
    unfold cc_gc
    rw [px_K hX (i := i) (c := 9) (by rcases hi with rfl | rfl <;> decide)]
    rcases hi with rfl | rfl <;> rcases hk with ⟨rfl, rfl⟩ | ⟨rfl, rfl⟩ | ⟨rfl, rfl⟩ | ⟨rfl, rfl⟩ | ⟨rfl, rfl⟩ | ⟨rfl, rfl⟩ | ⟨rfl, rfl⟩ | ⟨rfl, rfl⟩ <;> exact decide_eq_true ⟨hX.2 _ (by decide), rfl, by decide, by decide, by decide⟩
  unfold C_X7_become C_X7_become_b2
  refine ok_lp (fun z => ∃ c st, c ≤ 6 ∧ z = (d, o, nI c, st) ∧ (∀ i k, cc_I st i k = cc_I sc i k) ∧ (∀ i k j, cc_G st i k j = cc_G sc i k j) ∧ (∀ i k j, cc_J st i k j = cc_J sc i k j) ∧ (∀ i k j, ¬ (i = d ∧ k = 0 ∧ j < c) → cc_P st i k j = cc_P sc i k j) ∧ ∀ j, j < c → cc_P st d 0 j = cc_P sc o 0 j) (fun z => 6 - z.2.2.1.toNatClampNeg) _ ?_ fu _ ⟨0, sc, by omega, rfl, fun _ _ => rfl, fun _ _ _ => rfl, fun _ _ _ => rfl, fun _ _ _ _ => rfl, fun j hj => absurd hj (Nat.not_lt_zero j)⟩ (by show 6 - _ < fu; omega)
  rintro z K ⟨c, st, hc, rfl, fI, fG, fJ, fP, fP0⟩ hK
  show fc_ok (C_X7_become_b2F X fu (fun x0 x1 x2 st => K (x0, x1, x2, st)) _ _ _ _) _
  unfold C_X7_become_b2F
  refine ok_if.mpr ⟨fun hle => ?_, fun hle => ?_⟩
  · have hle := (nI_le_iff (a := 6) (by omega) (by omega)).mp hle
    have hc6 : c = 6 := by omega
    subst hc6
    rw [show (0 : Int32) = nI 0 from rfl, show (6 : Int32) = nI 6 from rfl, show (24 : Int32) = nI 24 from rfl, show (8 : Int32) = nI 8 from rfl, show (5 : Int32) = nI 5 from rfl]
    rw [go, gd', gc o 1 6 (Or.inl rfl) (by omega), gc d 1 6 (Or.inr rfl) (by omega), gc o 2 24 (Or.inl rfl) (by omega), gc d 2 24 (Or.inr rfl) (by omega), gc o 3 8 (Or.inl rfl) (by omega), gc d 3 8 (Or.inr rfl) (by omega), gc o 4 5 (Or.inl rfl) (by omega), gc d 4 5 (Or.inr rfl) (by omega), gc o 5 5 (Or.inl rfl) (by omega), gc d 5 5 (Or.inr rfl) (by omega), gc o 6 5 (Or.inl rfl) (by omega), gc d 6 5 (Or.inr rfl) (by omega), gc o 7 8 (Or.inl rfl) (by omega), gc d 7 8 (Or.inr rfl) (by omega), gc o 8 8 (Or.inl rfl) (by omega), gc d 8 8 (Or.inr rfl) (by omega)]
    simp only [gd_true, nm_eq, nI_clamp (show 0 < 2 ^ 31 by decide), nI_clamp (show 6 < 2 ^ 31 by decide), nI_clamp (show 24 < 2 ^ 31 by decide), nI_clamp (show 8 < 2 ^ 31 by decide), nI_clamp (show 5 < 2 ^ 31 by decide)]
    generalize hS : cc_cG (cc_cG (cc_cG (cc_cG (cc_cG (cc_cG (cc_cG (cc_cG st o 1 d 1 0 0 6) o 2 d 2 0 0 24) o 3 d 3 0 0 8) o 4 d 4 0 0 5) o 5 d 5 0 0 5) o 6 d 6 0 0 5) o 7 d 7 0 0 8) o 8 d 8 0 0 8 = S
    have SI : ∀ i k, cc_I S i k = cc_I sc i k := fun i k => by rw [← hS]; exact fI i k
    have SJ : ∀ i k j, cc_J S i k j = cc_J sc i k j := fun i k j => by rw [← hS]; exact fJ i k j
    have SP : ∀ i k j, cc_P S i k j = cc_P st i k j := fun i k j => by rw [← hS]; rfl
    have SG : ∀ i k j, i ≠ d → cc_G S i k j = cc_G sc i k j := fun i k j hi => by
      rw [← hS]
      simp only [cG_cG, hi, false_and, if_false]
      exact fG i k j
    have od : ¬ o = d := hod
    have SGd : ∀ k n, (k = 1 ∧ n = 6) ∨ (k = 2 ∧ n = 24) ∨ (k = 3 ∧ n = 8) ∨ (k = 4 ∧ n = 5) ∨ (k = 5 ∧ n = 5) ∨ (k = 6 ∧ n = 5) ∨ (k = 7 ∧ n = 8) ∨ (k = 8 ∧ n = 8) → ∀ j, j < n → cc_G S d k j = cc_G sc o k j := fun k n hk j hj => by
      rw [← hS]
      rcases hk with ⟨rfl, rfl⟩ | ⟨rfl, rfl⟩ | ⟨rfl, rfl⟩ | ⟨rfl, rfl⟩ | ⟨rfl, rfl⟩ | ⟨rfl, rfl⟩ | ⟨rfl, rfl⟩ | ⟨rfl, rfl⟩ <;> simp [cG_cG, od, hj, fG]
    clear hS
    have fin : ∀ S' : cc_S, (∀ i, i ≠ d → ∀ k, cc_I S' i k = cc_I sc i k) → (∀ k, 9 ≤ k → k ≤ 15 → cc_I S' d k = cc_I sc o k) → (∀ i k j, cc_G S' i k j = cc_G S i k j) → (∀ i k j, cc_J S' i k j = cc_J S i k j) → (∀ i k j, ¬ (i = d ∧ k = 16 ∧ j = 0) → cc_P S' i k j = cc_P S i k j) → cc_P S' d 16 0 = cc_P sc o 16 0 → Bc o d sc S' := by
      intro S' h1 h2 h3 h4 h5 h6
      refine ⟨fun i hi => ⟨h1 i hi, fun k j => (h3 i k j).trans (SG i k j hi), fun k j => ?_⟩, fun i k j => (h4 i k j).trans (SJ i k j), h2, fun j hj => ?_, h6, ?_, ?_, ?_, ?_, ?_, ?_, ?_, ?_⟩
      · rw [h5 i k j (by omega), SP, fP i k j (by omega)]
      · rw [h5 d 0 j (by omega), SP, fP0 j hj]
      · intro j hj; rw [h3]; exact SGd 1 6 (by omega) j hj
      · intro j hj; rw [h3]; exact SGd 2 24 (by omega) j hj
      · intro j hj; rw [h3]; exact SGd 3 8 (by omega) j hj
      · intro j hj; rw [h3]; exact SGd 4 5 (by omega) j hj
      · intro j hj; rw [h3]; exact SGd 5 5 (by omega) j hj
      · intro j hj; rw [h3]; exact SGd 6 5 (by omega) j hj
      · intro j hj; rw [h3]; exact SGd 7 8 (by omega) j hj
      · intro j hj; rw [h3]; exact SGd 8 8 (by omega) j hj
    have eP : ∀ a1 a2 a3 a4 a5 a6 a7 : Int32, cc_P (cc_sI (cc_sI (cc_sI (cc_sI (cc_sI (cc_sI (cc_sI S d 9 a1) d 10 a2) d 11 a3) d 12 a4) d 13 a5) d 14 a6) d 15 a7) o 16 0 = cc_P sc o 16 0 := fun a1 a2 a3 a4 a5 a6 a7 => (SP o 16 0).trans (fP o 16 0 (by omega))
    rw [eP]
    have key : ∀ v, v = cc_P sc o 16 0 → fc_ok (some (cc_sP (cc_sI (cc_sI (cc_sI (cc_sI (cc_sI (cc_sI (cc_sI S d 9 (cc_I S o 9)) d 10 (cc_I (cc_sI S d 9 (cc_I S o 9)) o 10)) d 11 (cc_I (cc_sI (cc_sI S d 9 (cc_I S o 9)) d 10 (cc_I (cc_sI S d 9 (cc_I S o 9)) o 10)) o 11)) d 12 (cc_I (cc_sI (cc_sI (cc_sI S d 9 (cc_I S o 9)) d 10 (cc_I (cc_sI S d 9 (cc_I S o 9)) o 10)) d 11 (cc_I (cc_sI (cc_sI S d 9 (cc_I S o 9)) d 10 (cc_I (cc_sI S d 9 (cc_I S o 9)) o 10)) o 11)) o 12)) d 13 (cc_I (cc_sI (cc_sI (cc_sI (cc_sI S d 9 (cc_I S o 9)) d 10 (cc_I (cc_sI S d 9 (cc_I S o 9)) o 10)) d 11 (cc_I (cc_sI (cc_sI S d 9 (cc_I S o 9)) d 10 (cc_I (cc_sI S d 9 (cc_I S o 9)) o 10)) o 11)) d 12 (cc_I (cc_sI (cc_sI (cc_sI S d 9 (cc_I S o 9)) d 10 (cc_I (cc_sI S d 9 (cc_I S o 9)) o 10)) d 11 (cc_I (cc_sI (cc_sI S d 9 (cc_I S o 9)) d 10 (cc_I (cc_sI S d 9 (cc_I S o 9)) o 10)) o 11)) o 12)) o 13)) d 14 (cc_I sc o 14)) d 15 (cc_I sc o 15)) d 16 0 v)) (Bc o d sc) := by
      rintro v rfl
      refine ok_some.mpr (fin _ ?_ ?_ (fun _ _ _ => rfl) (fun _ _ _ => rfl) ?_ ?_)
      · intro i hi k
        simp only [cI_sP, cI_sI, hi, false_and, if_false]
        exact SI i k
      · intro k h1 h2
        have hk : k = 9 ∨ k = 10 ∨ k = 11 ∨ k = 12 ∨ k = 13 ∨ k = 14 ∨ k = 15 := by omega
        rcases hk with rfl | rfl | rfl | rfl | rfl | rfl | rfl <;> simp [cI_sP, cI_sI, od, SI]
      · intro i k j hik
        rw [cP_sP]
        by_cases h1 : i = d ∧ k = 16
        · rw [if_pos h1, if_neg (by omega)]
          rfl
        · rw [if_neg h1]
          rfl
      · rw [cP_sP, if_pos ⟨rfl, rfl⟩, if_pos rfl]
    have e14 : ∀ a1 a2 a3 a4 a5 : Int32, cc_I (cc_sI (cc_sI (cc_sI (cc_sI (cc_sI S d 9 a1) d 10 a2) d 11 a3) d 12 a4) d 13 a5) o 14 = cc_I sc o 14 := fun a1 a2 a3 a4 a5 => by simp only [cI_sI, od, false_and, if_false]; exact SI o 14
    have e15 : ∀ a1 a2 a3 a4 a5 a6 : Int32, cc_I (cc_sI (cc_sI (cc_sI (cc_sI (cc_sI (cc_sI S d 9 a1) d 10 a2) d 11 a3) d 12 a4) d 13 a5) d 14 a6) o 15 = cc_I sc o 15 := fun a1 a2 a3 a4 a5 a6 => by simp only [cI_sI, od, false_and, if_false]; exact SI o 15
    rw [e15, e14]
    cases hv : cc_P sc o 16 0 with
    | none => exact key none hv.symm
    | some y => exact key (some y) hv.symm
  · have hlt : c < 6 := Nat.not_le.mp (fun q => hle ((nI_le_iff (a := 6) (by omega) (by omega)).mpr q))
    rw [go, gd', ga0 o c (Or.inl rfl) hlt, ga0 d c (Or.inr rfl) hlt, nI_clamp (show c < 2 ^ 31 by omega), fP o 0 c (by omega), gd_true, gd_true, gd_true]
    have next : ∀ v, v = cc_P sc o 0 c → fc_ok (K (d, o, nI (c + 1), cc_sP st d 0 c v)) (Bc o d sc) := by
      rintro v rfl
      refine hK _ ⟨c + 1, _, by omega, rfl, fI, fG, fJ, fun i k j hik => ?_, fun j hj => ?_⟩ ?_
      · rw [cP_sP]
        by_cases h1 : i = d ∧ k = 0
        · rw [if_pos h1, if_neg (by omega)]
          exact fP i k j (by omega)
        · rw [if_neg h1]
          exact fP i k j (by omega)
      · rw [cP_sP, if_pos ⟨rfl, rfl⟩]
        by_cases hjc : j = c
        · rw [if_pos hjc, hjc]
        · rw [if_neg hjc]
          exact fP0 j (by omega)
      · show 6 - (nI (c + 1)).toNatClampNeg < 6 - (nI c).toNatClampNeg
        rw [nI_clamp (by omega), nI_clamp (by omega)]
        omega
    cases hv : cc_P sc o 0 c with
    | none =>
      rw [mt_none, gd_true, nm_eq, nm_eq, nI_1]
      exact next none hv.symm
    | some y =>
      rw [mt_some, cgo (hy c y hlt hv).1 rfl (hy c y hlt hv).2, gd_true, gd_true, nm_eq, nm_eq, nI_1]
      exact next (some y) hv.symm
