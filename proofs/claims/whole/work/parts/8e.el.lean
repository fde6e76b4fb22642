/-! the loops of a condition -/
section EL
variable {z : pp_Z} {F a c fu : Nat} {T : Nat → Nat}
theorem nots_2 {W : List Int32} (h : Tp2 W) : nots W = 0 := by
  rcases h with rfl | ⟨W', rfl | rfl⟩
  · rfl
  · show (if (40 : Int32) = 33 then nots W' + 1 else 0) = 0
    rw [if_neg (by decide)]
  · show (if (124 : Int32) = 33 then nots W' + 1 else 0) = 0
    rw [if_neg (by decide)]
theorem nots_38 {W : List Int32} : nots (38 :: W) = 0 := by
  show (if (38 : Int32) = 33 then nots W + 1 else 0) = 0
  rw [if_neg (by decide)]
theorem p_both (hfu : 700 < fu) (ha : a < 6) (hc : c < 60) (hz : zOK z F T) {d x : Nat} (hx : x ≤ 4) (h1 : SPart z F a c fu T d x) : SBoth z F a c fu T (d + 1) x := by
  intro f p L W sm sm0 st st0 hR hC hp hf hl hW hFm hFc
  have hF : F ≤ 100 := hz.2.2.1
  have en := nots_2 hW
  have loop : ∀ (m g f k p' : Nat) (X R pa : List Int32) (st' sm' : mm_S), F - p' ≤ m → m < g → CS st' p' (L ++ X) → Fc st0 st' → HW X (2 + 2 * (4 - x)) → p < p' → p' ≤ F → R.length + (pa ++ W).length ≤ p' → F - p' < f → (pa = [] ∨ pa = [38]) → L ++ X = R ++ pa.map (fun w => -w) → RS F a T sm' p' R (pa ++ W) x → Fm a c sm0 sm' → k + 1 ≤ p' →
      Bad F a c fu (P_X0_takesBoth_b12 z fu (P_rec z fu d) g (nI x) (nI k) st') (Rl fu c f 0 sm') st0 sm0 ∨
      ∃ p'' st'' X' sm'' f' R' pa', P_X0_takesBoth_b12 z fu (P_rec z fu d) g (nI x) (nI k) st' = some (1, st'') ∧ CS st'' p'' (L ++ X') ∧ Fc st0 st'' ∧ HW X' (2 + 2 * (4 - x)) ∧ p < p'' ∧ p'' ≤ F ∧ R'.length + (pa' ++ W).length ≤ p'' ∧ Rl fu c f 0 sm' = Rl fu c f' 0 sm'' ∧ F - p'' < f' ∧ (pa' = [] ∨ pa' = [38]) ∧ L ++ X' = R' ++ pa'.map (fun w => -w) ∧ RS F a T sm'' p'' R' (pa' ++ W) x ∧ Fm a c sm0 sm'' ∧ chv F T p'' ≠ 38 := by
    intro m
    induction m with
    | zero =>
      intro g f k p' X R pa st' sm' hm hg hC' hFc' hX hpp hpF hlen hff hpa hLX hRS hFm' hk
      obtain ⟨g, rfl⟩ : ∃ q, g = q + 1 := ⟨g - 1, by omega⟩
      have hch : chv F T p' ≠ 38 := fun q => by
        have := chv_lt hz (ch := 38) (by omega) q
        omega
      have t38 := tk_c (fu := fu) hz hC' hpF (ch := 38) (by omega)
      have t38' : P_X0_takes z fu 38 st' = _ := t38
      refine Or.inr ⟨p', st', X, sm', f, R, pa, ?_, hC', hFc', hX, hpp, hpF, hlen, rfl, hff, hpa, hLX, hRS, hFm', hch⟩
      show P_X0_takesBoth_b12F z fu (P_rec z fu d) (fun x1 x2 st => P_X0_takesBoth_b12 z fu (P_rec z fu d) g x1 x2 st) (nI x) (nI k) st' = _
      unfold P_X0_takesBoth_b12F
      rw [if_neg (show ¬ (100 : Int32) ≤ nI k from fun q => by have := (nI_le_iff (a := 100) (by omega) (by omega)).mp q; omega), t38', if_neg (show ¬ chv F T p' = nI 38 from hch), bn_some, if_pos rfl]
    | succ m ih =>
      intro g f k p' X R pa st' sm' hm hg hC' hFc' hX hpp hpF hlen hff hpa hLX hRS hFm' hk
      obtain ⟨g, rfl⟩ : ∃ q, g = q + 1 := ⟨g - 1, by omega⟩
      have t38 := tk_c (fu := fu) hz hC' hpF (ch := 38) (by omega)
      have t38' : P_X0_takes z fu 38 st' = _ := t38
      have eC : P_X0_takesBoth_b12 z fu (P_rec z fu d) (g + 1) (nI x) (nI k) st' = if chv F T p' = 38 then fc_bn (P_rec z fu d 2 (nI x) (mm_sI st' 2 (nI (p' + 1)))) (fun r12 st10 => if r12 = 0 then some (0, st10) else fc_bv (P_X0_put z fu 38 st10) fun st14 => P_X0_takesBoth_b12 z fu (P_rec z fu d) g (nI x) (nI (k + 1)) st14) else some (1, st') := by
        show P_X0_takesBoth_b12F z fu (P_rec z fu d) (fun x1 x2 st => P_X0_takesBoth_b12 z fu (P_rec z fu d) g x1 x2 st) (nI x) (nI k) st' = _
        unfold P_X0_takesBoth_b12F
        rw [if_neg (show ¬ (100 : Int32) ≤ nI k from fun q => by have := (nI_le_iff (a := 100) (by omega) (by omega)).mp q; omega), t38', nI_1]
        by_cases e : chv F T p' = 38
        · rw [if_pos (show chv F T p' = nI 38 from e), bn_some, if_neg n10, if_pos e]
          rfl
        · rw [if_neg (show ¬ chv F T p' = nI 38 from e), bn_some, if_pos rfl, if_neg e]
      rw [eC]
      by_cases e38 : chv F T p' = 38
      rotate_left
      · rw [if_neg e38]
        exact Or.inr ⟨p', st', X, sm', f, R, pa, rfl, hC', hFc', hX, hpp, hpF, hlen, rfl, hff, hpa, hLX, hRS, hFm', e38⟩
      have hpF' := chv_lt hz (ch := 38) (by omega) e38
      rw [if_pos e38]
      obtain ⟨f, rfl⟩ : ∃ q, f = q + 1 := ⟨f - 1, by omega⟩
      obtain ⟨sm1, r1, hR1, hFm1⟩ := r_op (c := c) (f := f) hfu ha hz (Or.inl rfl) hRS hpF hlen hFm' e38
      obtain ⟨s1, s2⟩ := stl_a hpa hW
      rw [s1, s2, ← hLX] at hR1
      have hlen2 : (L ++ X).length + (W.length + 1) ≤ p' + 1 := by
        have h3 := congrArg List.length hLX
        simp only [List.length_append, List.length_map] at h3 hlen ⊢
        omega
      rw [r1]
      rcases h1 f (p' + 1) (L ++ X) (38 :: W) sm1 sm0 _ st0 hR1 (CS_2 hC') hpF' (by omega) hlen2 (by rw [nots_38]; omega) hFm1 (Fc_2 hFc') with ⟨q1, q2, q3, b1, b2, b3, b4, b5, b6, b7⟩ | ⟨p2, st2, Y, sm2, f2, b1, b2, b3, b4, b5, b6, b7, b8, b9, b10, b11⟩
      · refine Or.inl ⟨q1, q2, q3, ?_, b2, b3, b4, b5, b6, b7⟩
        rw [b1, bn_some, if_pos rfl]
      · have b7 : (L ++ X ++ Y).length + (W.length + 1) ≤ p2 := b7
        rw [nots_38] at b10
        have b10 : RS F a T sm2 p2 (L ++ X ++ Y ++ []) (38 :: W) x := b10
        rw [List.append_nil] at b10
        obtain ⟨st3, c1, c2, c3⟩ := c_put (z := z) (fu := fu) (u := 38) (v := -38) b2 b3 (by omega) (Or.inr (Or.inl ⟨rfl, rfl⟩))
        rw [b1, bn_some, if_neg n10, c1, bv_some, b8]
        refine ih g f2 (k + 1) p2 (X ++ Y ++ [-38]) (L ++ X ++ Y) [38] st3 sm2 (by omega) (by omega) ?_ c3 (HW_b (Or.inl rfl) hX b4 (by omega) (by omega)) (by omega) b6 b7 b9 (Or.inr rfl) ?_ b10 b11 (by omega)
        · rw [← List.append_assoc, ← List.append_assoc]
          exact c2
        · rw [← List.append_assoc, ← List.append_assoc]
          rfl
  have er : P_rec z fu (d + 1) 1 (nI x) st = fc_bn (P_rec z fu d 2 (nI x) st) (fun r3 st1 => if r3 = 0 then some (0, st1) else P_X0_takesBoth_b12 z fu (P_rec z fu d) fu (nI x) 0 st1) := rfl
  rw [er]
  rcases h1 f p L W sm sm0 st st0 hR hC hp hf hl (by omega) hFm hFc with ⟨q1, q2, q3, b1, b2, b3, b4, b5, b6, b7⟩ | ⟨p2, st2, Y, sm2, f2, b1, b2, b3, b4, b5, b6, b7, b8, b9, b10, b11⟩
  · refine Or.inl ⟨q1, q2, q3, ?_, b2, b3, b4, b5, b6, b7⟩
    rw [b1, bn_some, if_pos rfl]
  · rw [en] at b10
    have b10 : RS F a T sm2 p2 (L ++ Y ++ []) W x := b10
    rw [List.append_nil] at b10
    rw [b1, bn_some, if_neg n10, b8]
    exact loop (F - p2) fu f2 0 p2 Y (L ++ Y) [] st2 sm2 (Nat.le_refl _) (by omega) b2 b3 (HW_w b4 (by omega)) b5 b6 b7 b9 (Or.inl rfl) (List.append_nil _).symm b10 b11 (by omega)
theorem p_either (hfu : 700 < fu) (ha : a < 6) (hc : c < 60) (hz : zOK z F T) {d x : Nat} (hx : x ≤ 4) (h1 : SBoth z F a c fu T d x) : SEither z F a c fu T (d + 1) x := by
  intro f p L W sm sm0 st st0 hR hC hp hf hl hW hFm hFc
  have hF : F ≤ 100 := hz.2.2.1
  have loop : ∀ (m g f k p' : Nat) (X R pa po : List Int32) (st' sm' : mm_S), F - p' ≤ m → m < g → CS st' p' (L ++ X) → Fc st0 st' → HW X (3 + 2 * (4 - x)) → p < p' → p' ≤ F → R.length + (pa ++ po ++ W).length ≤ p' → F - p' < f → (pa = [] ∨ pa = [38]) → (po = [] ∨ po = [124]) → L ++ X = R ++ pa.map (fun w => -w) ++ po.map (fun w => -w) → RS F a T sm' p' R (pa ++ po ++ W) x → Fm a c sm0 sm' → chv F T p' ≠ 38 → k + 1 ≤ p' →
      Bad F a c fu (P_X0_takesEither_b12 z fu (P_rec z fu d) g (nI x) (nI k) st') (Rl fu c f 0 sm') st0 sm0 ∨
      ∃ p'' st'' X' sm'' f' R' pa' po', P_X0_takesEither_b12 z fu (P_rec z fu d) g (nI x) (nI k) st' = some (1, st'') ∧ CS st'' p'' (L ++ X') ∧ Fc st0 st'' ∧ HW X' (3 + 2 * (4 - x)) ∧ p < p'' ∧ p'' ≤ F ∧ R'.length + (pa' ++ po' ++ W).length ≤ p'' ∧ Rl fu c f 0 sm' = Rl fu c f' 0 sm'' ∧ F - p'' < f' ∧ (pa' = [] ∨ pa' = [38]) ∧ (po' = [] ∨ po' = [124]) ∧ L ++ X' = R' ++ pa'.map (fun w => -w) ++ po'.map (fun w => -w) ∧ RS F a T sm'' p'' R' (pa' ++ po' ++ W) x ∧ Fm a c sm0 sm'' ∧ chv F T p'' ≠ 38 ∧ chv F T p'' ≠ 124 := by
    intro m
    induction m with
    | zero =>
      intro g f k p' X R pa po st' sm' hm hg hC' hFc' hX hpp hpF hlen hff hpa hpo hLX hRS hFm' h38 hk
      obtain ⟨g, rfl⟩ : ∃ q, g = q + 1 := ⟨g - 1, by omega⟩
      have hch : chv F T p' ≠ 124 := fun q => by
        have := chv_lt hz (ch := 124) (by omega) q
        omega
      have t := tk_c (fu := fu) hz hC' hpF (ch := 124) (by omega)
      have t' : P_X0_takes z fu 124 st' = _ := t
      refine Or.inr ⟨p', st', X, sm', f, R, pa, po, ?_, hC', hFc', hX, hpp, hpF, hlen, rfl, hff, hpa, hpo, hLX, hRS, hFm', h38, hch⟩
      show P_X0_takesEither_b12F z fu (P_rec z fu d) (fun x1 x2 st => P_X0_takesEither_b12 z fu (P_rec z fu d) g x1 x2 st) (nI x) (nI k) st' = _
      unfold P_X0_takesEither_b12F
      rw [if_neg (show ¬ (100 : Int32) ≤ nI k from fun q => by have := (nI_le_iff (a := 100) (by omega) (by omega)).mp q; omega), t', if_neg (show ¬ chv F T p' = nI 124 from hch), bn_some, if_pos rfl]
    | succ m ih =>
      intro g f k p' X R pa po st' sm' hm hg hC' hFc' hX hpp hpF hlen hff hpa hpo hLX hRS hFm' h38 hk
      obtain ⟨g, rfl⟩ : ∃ q, g = q + 1 := ⟨g - 1, by omega⟩
      have t := tk_c (fu := fu) hz hC' hpF (ch := 124) (by omega)
      have t' : P_X0_takes z fu 124 st' = _ := t
      have eC : P_X0_takesEither_b12 z fu (P_rec z fu d) (g + 1) (nI x) (nI k) st' = if chv F T p' = 124 then fc_bn (P_rec z fu d 1 (nI x) (mm_sI st' 2 (nI (p' + 1)))) (fun r12 st10 => if r12 = 0 then some (0, st10) else fc_bv (P_X0_put z fu 124 st10) fun st14 => P_X0_takesEither_b12 z fu (P_rec z fu d) g (nI x) (nI (k + 1)) st14) else some (1, st') := by
        show P_X0_takesEither_b12F z fu (P_rec z fu d) (fun x1 x2 st => P_X0_takesEither_b12 z fu (P_rec z fu d) g x1 x2 st) (nI x) (nI k) st' = _
        unfold P_X0_takesEither_b12F
        rw [if_neg (show ¬ (100 : Int32) ≤ nI k from fun q => by have := (nI_le_iff (a := 100) (by omega) (by omega)).mp q; omega), t', nI_1]
        by_cases e : chv F T p' = 124
        · rw [if_pos (show chv F T p' = nI 124 from e), bn_some, if_neg n10, if_pos e]
          rfl
        · rw [if_neg (show ¬ chv F T p' = nI 124 from e), bn_some, if_pos rfl, if_neg e]
      rw [eC]
      by_cases e124 : chv F T p' = 124
      rotate_left
      · rw [if_neg e124]
        exact Or.inr ⟨p', st', X, sm', f, R, pa, po, rfl, hC', hFc', hX, hpp, hpF, hlen, rfl, hff, hpa, hpo, hLX, hRS, hFm', h38, e124⟩
      have hpF' := chv_lt hz (ch := 124) (by omega) e124
      rw [if_pos e124]
      obtain ⟨f, rfl⟩ : ∃ q, f = q + 1 := ⟨f - 1, by omega⟩
      obtain ⟨sm1, r1, hR1, hFm1⟩ := r_op (c := c) (f := f) hfu ha hz (Or.inr rfl) hRS hpF hlen hFm' e124
      obtain ⟨s1, s2⟩ := stl_o hpa hpo hW
      rw [s1, s2, ← List.append_assoc, ← hLX] at hR1
      have hlen2 : (L ++ X).length + (W.length + 1) ≤ p' + 1 := by
        have h3 := congrArg List.length hLX
        simp only [List.length_append, List.length_map] at h3 hlen ⊢
        omega
      rw [r1]
      rcases h1 f (p' + 1) (L ++ X) (124 :: W) sm1 sm0 _ st0 hR1 (CS_2 hC') hpF' (by omega) hlen2 (Or.inr ⟨W, Or.inr rfl⟩) hFm1 (Fc_2 hFc') with ⟨q1, q2, q3, b1, b2, b3, b4, b5, b6, b7⟩ | ⟨p2, st2, Y, sm2, f2, R2, pa2, b1, b2, b3, b4, b5, b6, b7, b8, b9, b10, b11, b12, b13, b14⟩
      · refine Or.inl ⟨q1, q2, q3, ?_, b2, b3, b4, b5, b6, b7⟩
        rw [b1, bn_some, if_pos rfl]
      · have hl3 : (L ++ X ++ Y).length + (W.length + 1) ≤ p2 := by
          have h3 := congrArg List.length b11
          simp only [List.length_append, List.length_map, List.length_cons] at h3 b7 ⊢
          omega
        obtain ⟨st3, c1, c2, c3⟩ := c_put (z := z) (fu := fu) (u := 124) (v := -124) b2 b3 (by omega) (Or.inr (Or.inr (Or.inl ⟨rfl, rfl⟩)))
        rw [b1, bn_some, if_neg n10, c1, bv_some, b8]
        refine ih g f2 (k + 1) p2 (X ++ Y ++ [-124]) R2 pa2 [124] st3 sm2 (by omega) (by omega) ?_ c3 (HW_b (Or.inr rfl) hX b4 (by omega) (by omega)) (by omega) b6 ?_ b9 b10 (Or.inr rfl) ?_ ?_ b13 b14 (by omega)
        · rw [← List.append_assoc, ← List.append_assoc]
          exact c2
        · rw [List.append_assoc]
          exact b7
        · rw [← List.append_assoc, ← List.append_assoc, b11]
          rfl
        · rw [List.append_assoc]
          exact b12
  have er : P_rec z fu (d + 1) 0 (nI x) st = fc_bn (P_rec z fu d 1 (nI x) st) (fun r3 st1 => if r3 = 0 then some (0, st1) else P_X0_takesEither_b12 z fu (P_rec z fu d) fu (nI x) 0 st1) := rfl
  rw [er]
  have hW2 : Tp2 W := by
    rcases hW with rfl | ⟨W', rfl⟩
    · exact Or.inl rfl
    · exact Or.inr ⟨W', Or.inl rfl⟩
  rcases h1 f p L W sm sm0 st st0 hR hC hp hf hl hW2 hFm hFc with ⟨q1, q2, q3, b1, b2, b3, b4, b5, b6, b7⟩ | ⟨p2, st2, Y, sm2, f2, R2, pa2, b1, b2, b3, b4, b5, b6, b7, b8, b9, b10, b11, b12, b13, b14⟩
  · refine Or.inl ⟨q1, q2, q3, ?_, b2, b3, b4, b5, b6, b7⟩
    rw [b1, bn_some, if_pos rfl]
  · rw [b1, bn_some, if_neg n10, b8]
    exact loop (F - p2) fu f2 0 p2 Y R2 pa2 [] st2 sm2 (Nat.le_refl _) (by omega) b2 b3 (HW_w b4 (by omega)) b5 b6 (by rw [List.append_nil]; exact b7) b9 b10 (Or.inl rfl) (by rw [b11]; exact (List.append_nil _).symm) (by rw [List.append_nil]; exact b12) b13 b14 (by omega)
/-- all together, by depth -/
theorem p_all (hfu : 700 < fu) (ha : a < 6) (hc : c < 60) (hz : zOK z F T) : ∀ (q x : Nat), x + q = 4 → ∀ d, 3 * q + 1 ≤ d → SPart z F a c fu T d x ∧ SBoth z F a c fu T (d + 1) x ∧ SEither z F a c fu T (d + 2) x
  | 0, x, hx, d, hd => by
    obtain ⟨d, rfl⟩ : ∃ r, d = r + 1 := ⟨d - 1, by omega⟩
    have h1 := p_part (d := d) (x := x) hfu ha hc hz (by omega) (fun h => absurd h (by omega)) (fun h => absurd h (by omega))
    have h2 := p_both (d := d + 1) (x := x) hfu ha hc hz (by omega) h1
    exact ⟨h1, h2, p_either (d := d + 1 + 1) (x := x) hfu ha hc hz (by omega) h2⟩
  | q + 1, x, hx, d, hd => by
    obtain ⟨d, rfl⟩ : ∃ r, d = r + 1 := ⟨d - 1, by omega⟩
    have i1 := (p_all hfu ha hc hz q (x + 1) (by omega) d (by omega)).1
    have i2 := (p_all hfu ha hc hz q (x + 1) (by omega) (d - 2) (by omega)).2.2
    rw [show d - 2 + 2 = d by omega] at i2
    have h1 := p_part (d := d) (x := x) hfu ha hc hz (by omega) (fun _ => i1) (fun _ => i2)
    have h2 := p_both (d := d + 1) (x := x) hfu ha hc hz (by omega) h1
    exact ⟨h1, h2, p_either (d := d + 1 + 1) (x := x) hfu ha hc hz (by omega) h2⟩
theorem p_top (hfu : 700 < fu) (ha : a < 6) (hc : c < 60) (hz : zOK z F T) : SEither z F a c fu T 20 0 := (p_all hfu ha hc hz 4 0 (by omega) 18 (by omega)).2.2
end EL
