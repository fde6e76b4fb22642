/-! a clause's condition: recursive descent against piles -/
def Rl (fu c : Nat) (f : Nat) (w : Int32) (sm : mm_S) : Option (Int32 × mm_S) := M_takesE_b22 fu f (nI c) w sm
def Bad (F a c fu : Nat) (x : Option (Int32 × mm_S)) (y : Option (Int32 × mm_S)) (st0 sm0 : mm_S) : Prop := ∃ p' st' sm', x = some (0, st') ∧ mm_I st' 2 = nI p' ∧ p' ≤ F ∧ Fc st0 st' ∧ y = some (0, sm') ∧ mm_I sm' 11 = nI p' ∧ Fm a c sm0 sm'
/-- the pile's top, as a part meets it -/
def Tp2 (W : List Int32) : Prop := W = [] ∨ ∃ W', W = 40 :: W' ∨ W = 124 :: W'
def Tp1 (W : List Int32) : Prop := W = [] ∨ ∃ W', W = 40 :: W'
def SPart (z : pp_Z) (F a c fu : Nat) (T : Nat → Nat) (d x : Nat) : Prop := ∀ (f p : Nat) (L W : List Int32) (sm sm0 st st0 : mm_S), RS F a T sm p L W x → CS st p L → p ≤ F → F - p < f → L.length + W.length ≤ p → nots W ≤ x → Fm a c sm0 sm → Fc st0 st →
  Bad F a c fu (P_rec z fu d 2 (nI x) st) (Rl fu c f 1 sm) st0 sm0 ∨
  ∃ p' st' X sm' f', P_rec z fu d 2 (nI x) st = some (1, st') ∧ CS st' p' (L ++ X) ∧ Fc st0 st' ∧ HW X (1 + 2 * (4 - x)) ∧ p < p' ∧ p' ≤ F ∧ (L ++ X).length + W.length ≤ p' ∧ Rl fu c f 1 sm = Rl fu c f' 0 sm' ∧ F - p' < f' ∧ RS F a T sm' p' (L ++ X ++ List.replicate (nots W) (-33)) (W.drop (nots W)) (x - nots W) ∧ Fm a c sm0 sm'
def SBoth (z : pp_Z) (F a c fu : Nat) (T : Nat → Nat) (d x : Nat) : Prop := ∀ (f p : Nat) (L W : List Int32) (sm sm0 st st0 : mm_S), RS F a T sm p L W x → CS st p L → p ≤ F → F - p < f → L.length + W.length ≤ p → Tp2 W → Fm a c sm0 sm → Fc st0 st →
  Bad F a c fu (P_rec z fu d 1 (nI x) st) (Rl fu c f 1 sm) st0 sm0 ∨
  ∃ p' st' X sm' f' R pa, P_rec z fu d 1 (nI x) st = some (1, st') ∧ CS st' p' (L ++ X) ∧ Fc st0 st' ∧ HW X (2 + 2 * (4 - x)) ∧ p < p' ∧ p' ≤ F ∧ R.length + (pa ++ W).length ≤ p' ∧ Rl fu c f 1 sm = Rl fu c f' 0 sm' ∧ F - p' < f' ∧ (pa = [] ∨ pa = [38]) ∧ L ++ X = R ++ pa.map (fun w => -w) ∧ RS F a T sm' p' R (pa ++ W) x ∧ Fm a c sm0 sm' ∧ chv F T p' ≠ 38
def SEither (z : pp_Z) (F a c fu : Nat) (T : Nat → Nat) (d x : Nat) : Prop := ∀ (f p : Nat) (L W : List Int32) (sm sm0 st st0 : mm_S), RS F a T sm p L W x → CS st p L → p ≤ F → F - p < f → L.length + W.length ≤ p → Tp1 W → Fm a c sm0 sm → Fc st0 st →
  Bad F a c fu (P_rec z fu d 0 (nI x) st) (Rl fu c f 1 sm) st0 sm0 ∨
  ∃ p' st' X sm' f' R pa po, P_rec z fu d 0 (nI x) st = some (1, st') ∧ CS st' p' (L ++ X) ∧ Fc st0 st' ∧ HW X (3 + 2 * (4 - x)) ∧ p < p' ∧ p' ≤ F ∧ R.length + (pa ++ po ++ W).length ≤ p' ∧ Rl fu c f 1 sm = Rl fu c f' 0 sm' ∧ F - p' < f' ∧ (pa = [] ∨ pa = [38]) ∧ (po = [] ∨ po = [124]) ∧ L ++ X = R ++ pa.map (fun w => -w) ++ po.map (fun w => -w) ∧ RS F a T sm' p' R (pa ++ po ++ W) x ∧ Fm a c sm0 sm' ∧ chv F T p' ≠ 38 ∧ chv F T p' ≠ 124
theorem stl_a {pa W : List Int32} (h : pa = [] ∨ pa = [38]) (hW : Tp2 W) : stl 38 (pa ++ W) = pa.map (fun w => -w) ∧ stlr 38 (pa ++ W) = W := by
  have h0 : stl 38 W = [] ∧ stlr 38 W = W := by
    rcases hW with rfl | ⟨W', rfl | rfl⟩
    · exact ⟨rfl, rfl⟩
    · unfold stl stlr
      rw [if_neg (by decide), if_neg (by decide)]
      exact ⟨rfl, rfl⟩
    · unfold stl stlr
      rw [if_neg (by decide), if_neg (by decide)]
      exact ⟨rfl, rfl⟩
  rcases h with rfl | rfl
  · exact h0
  · show stl 38 (38 :: W) = [-38] ∧ stlr 38 (38 :: W) = W
    unfold stl stlr
    rw [if_pos (by decide), if_pos (by decide), h0.1, h0.2]
    exact ⟨rfl, rfl⟩
theorem stl_o {pa po W : List Int32} (h : pa = [] ∨ pa = [38]) (h2 : po = [] ∨ po = [124]) (hW : Tp1 W) : stl 124 (pa ++ po ++ W) = pa.map (fun w => -w) ++ po.map (fun w => -w) ∧ stlr 124 (pa ++ po ++ W) = W := by
  have h0 : stl 124 W = [] ∧ stlr 124 W = W := by
    rcases hW with rfl | ⟨W', rfl⟩
    · exact ⟨rfl, rfl⟩
    · unfold stl stlr
      rw [if_neg (by decide), if_neg (by decide)]
      exact ⟨rfl, rfl⟩
  have h1 : stl 124 (po ++ W) = po.map (fun w => -w) ∧ stlr 124 (po ++ W) = W := by
    rcases h2 with rfl | rfl
    · exact h0
    · show stl 124 (124 :: W) = [-124] ∧ stlr 124 (124 :: W) = W
      unfold stl stlr
      rw [if_pos (by decide), if_pos (by decide), h0.1, h0.2]
      exact ⟨rfl, rfl⟩
  rw [List.append_assoc]
  rcases h with rfl | rfl
  · exact h1
  · show stl 124 (38 :: (po ++ W)) = -38 :: _ ∧ stlr 124 (38 :: (po ++ W)) = W
    unfold stl stlr
    rw [if_pos (by decide), if_pos (by decide), h1.1, h1.2]
    exact ⟨rfl, rfl⟩
section EE
variable {z : pp_Z} {F a c fu : Nat} {T : Nat → Nat}
/-- one step of the reference's loop where a part is wanted, behind a sign that opens -/
theorem r_open (hfu : 700 < fu) (hz : zOK z F T) (hc : c < 60) {f p x : Nat} {L W : List Int32} {sm sm0 : mm_S} (hR : RS F a T sm p L W x) (hp : p ≤ F) (hx : x < 4) (hl : L.length + W.length ≤ p) (hFm : Fm a c sm0 sm) (hch : chv F T p = 33 ∨ chv F T p = 40) : ∃ sm', Rl fu c (f + 1) 1 sm = Rl fu c f 1 sm' ∧ RS F a T sm' (p + 1) L (chv F T p :: W) (x + 1) ∧ Fm a c sm0 sm' := by
  have hF : F ≤ 100 := hz.2.2.1
  have e : Rl fu c (f + 1) 1 sm = M_takesE_b43 fu (fun a b s => M_takesE_b22 fu f a b s) (nI c) 1 (chv F T p) sm := by
    show M_takesE_b22F fu (fun a b s => M_takesE_b22 fu f a b s) (nI c) 1 sm = _
    unfold M_takesE_b22F
    rw [m_next hR.1 hp hF, bn_some, if_neg n10]
    rcases hch with h | h
    · rw [if_pos h]
    · rw [if_neg (by rw [h]; decide), if_pos h]
  rw [e]
  unfold M_takesE_b43
  rw [hR.2.2.2, if_neg (show ¬ nI x = 4 from fun q => by have := (nI_eq_iff (b := 4) (by omega) (by omega)).mp q; omega), nI_1]
  simp only [nm_eq]
  obtain ⟨h1, hF1⟩ := s_open hR hFm (x + 1) (v := nI (x + 1)) rfl
  obtain ⟨g, h2, hF2⟩ := s_push (c := c) h1 (by omega) hF1 (chv F T p)
  obtain ⟨h3, hF3⟩ := s_at h2 hF2
  rw [g, gd_true]
  exact ⟨_, rfl, h3, hF3⟩
/-- .. and behind an operator -/
theorem r_op (hfu : 700 < fu) (ha : a < 6) (hz : zOK z F T) {f p x : Nat} {L W : List Int32} {sm sm0 : mm_S} {s : Int32} (hs : s = 38 ∨ s = 124) (hR : RS F a T sm p L W x) (hp : p ≤ F) (hl : L.length + W.length ≤ p) (hFm : Fm a c sm0 sm) (hch : chv F T p = s) : ∃ sm', Rl fu c (f + 1) 0 sm = Rl fu c f 1 sm' ∧ RS F a T sm' (p + 1) (L ++ stl s W) (s :: stlr s W) x ∧ Fm a c sm0 sm' := by
  have hF : F ≤ 100 := hz.2.2.1
  have e : Rl fu c (f + 1) 0 sm = M_takesE_b122 fu (fun a b s => M_takesE_b22 fu f a b s) (nI c) s sm := by
    show M_takesE_b22F fu (fun a b s => M_takesE_b22 fu f a b s) (nI c) 0 sm = _
    unfold M_takesE_b22F
    rw [m_next hR.1 hp hF, bn_some, if_pos rfl, hch]
    rcases hs with rfl | rfl
    · rw [if_pos rfl]
    · rw [if_neg (by decide), if_pos rfl]
  rw [e]
  unfold M_takesE_b122 M_settle
  obtain ⟨sm1, e1, h1, hF1⟩ := h_settle s hfu ha W L sm sm0 p x fu hR (by omega) (by omega) hFm
  have hlen := stl_len s W
  rw [e1, bv_some]
  obtain ⟨g, h2, hF2⟩ := s_push (c := c) h1 (by omega) hF1 s
  obtain ⟨h3, hF3⟩ := s_at h2 hF2
  rw [g, gd_true]
  simp only [nm_eq]
  exact ⟨_, rfl, h3, hF3⟩
/-- .. and at the end of a condition -/
theorem r_end (hfu : 700 < fu) (ha : a < 6) (hc : c < 60) (hz : zOK z F T) {f p x : Nat} {L W : List Int32} {sm sm0 : mm_S} (hR : RS F a T sm p L W x) (hp : p ≤ F) (hl : L.length + W.length ≤ p) (hFm : Fm a c sm0 sm) (h38 : chv F T p ≠ 38) (h124 : chv F T p ≠ 124) : ∃ sm', Rl fu c (f + 1) 0 sm = (if mm_I sm' 22 = 0 then some (1, sm') else if chv F T p = 41 then fc_bv (M_whole fu (mm_sI (mm_sI (mm_sI sm' 22 (mm_I sm' 22 - 1)) 23 (mm_I (mm_sI sm' 22 (mm_I sm' 22 - 1)) 23 - 1)) 11 (mm_I (mm_sI (mm_sI sm' 22 (mm_I sm' 22 - 1)) 23 (mm_I (mm_sI sm' 22 (mm_I sm' 22 - 1)) 23 - 1)) 11 + 1))) (fun st20 => Rl fu c f 0 st20) else some (0, sm')) ∧ RS F a T sm' p (L ++ stl 124 W) (stlr 124 W) x ∧ Fm a c sm0 sm' ∧ mm_G sm' 18 c = nI (100 * a + (L ++ stl 124 W).length) := by
  have hF : F ≤ 100 := hz.2.2.1
  obtain ⟨sm1, e1, h1, hF1⟩ := h_settle 124 hfu ha W L sm sm0 p x fu hR (by omega) (by omega) hFm
  have h2 : RS F a T (mm_sG sm1 18 c (mm_I sm1 21)) p (L ++ stl 124 W) (stlr 124 W) x := by
    obtain ⟨⟨q1, q2, q3⟩, ⟨q4, q5⟩, ⟨q6, q7⟩, q8⟩ := h1
    refine ⟨⟨q1, q2, fun k hk => ?_⟩, ⟨q4, fun j hj => ?_⟩, ⟨q6, wst_up q7 (fun q hq => ?_)⟩, q8⟩
    · rw [mG_sG, if_neg (by decide)]; exact q3 k hk
    · rw [mG_sG, if_neg (by decide)]; exact q5 j hj
    · rw [mG_sG, if_neg (by decide)]
  refine ⟨mm_sG sm1 18 c (mm_I sm1 21), ?_, h2, Fm_18 hF1, ?_⟩
  · show M_takesE_b22F fu (fun a b s => M_takesE_b22 fu f a b s) (nI c) 0 sm = _
    unfold M_takesE_b22F M_settle
    rw [m_next hR.1 hp hF, bn_some, if_pos rfl, if_neg h38, if_neg h124, e1, bv_some, nI_ix hc (by decide), gd_true, nI_clamp (by omega)]
    rfl
  · rw [mG_sG, if_pos rfl, if_pos rfl, h1.2.1.1]
/-- a test, in the loop -/
theorem p_test (hfu : 700 < fu) (ha : a < 6) (hz : zOK z F T) {d x f p : Nat} {L W : List Int32} {sm sm0 st st0 : mm_S} (hR : RS F a T sm p L W x) (hC : CS st p L) (hp : p ≤ F) (hf : F - p < f) (hl : L.length + W.length ≤ p) (hn : nots W ≤ x) (hx : x ≤ 4) (hFm : Fm a c sm0 sm) (hFc : Fc st0 st) (hrec : P_rec z fu d 2 (nI x) st = P_X0_takesPart_b68 z fu (P_rec z fu (d - 1)) st) (hb : (chv F T p ≠ 33 ∧ chv F T p ≠ 40) ∨ x = 4) :
    Bad F a c fu (P_rec z fu d 2 (nI x) st) (Rl fu c f 1 sm) st0 sm0 ∨
    ∃ p' st' X sm' f', P_rec z fu d 2 (nI x) st = some (1, st') ∧ CS st' p' (L ++ X) ∧ Fc st0 st' ∧ HW X (1 + 2 * (4 - x)) ∧ p < p' ∧ p' ≤ F ∧ (L ++ X).length + W.length ≤ p' ∧ Rl fu c f 1 sm = Rl fu c f' 0 sm' ∧ F - p' < f' ∧ RS F a T sm' p' (L ++ X ++ List.replicate (nots W) (-33)) (W.drop (nots W)) (x - nots W) ∧ Fm a c sm0 sm' := by
  have hF : F ≤ 100 := hz.2.2.1
  obtain ⟨f, rfl⟩ : ∃ g, f = g + 1 := ⟨f - 1, by omega⟩
  rw [hrec]
  unfold P_X0_takesPart_b68
  have eR : Rl fu c (f + 1) 1 sm = M_takesE_b22F fu (fun a b s => M_takesE_b22 fu f a b s) (nI c) 1 sm := rfl
  have z1 : (decide (narrow .boolean (.int (0 : Int32)) = .int 0)) = true := rfl
  have z2 : (decide (narrow .boolean (.int (1 : Int32)) = .int 1)) = true := rfl
  by_cases h33 : chv F T p = 33 ∨ chv F T p = 40
  · have hx4 : x = 4 := hb.resolve_left (fun q => h33.elim q.1 q.2)
    subst hx4
    have hnt : ¬ (p < F ∧ T p ∈ zl 4) := by
      rintro ⟨h1, h2⟩
      unfold chv at h33
      rw [if_pos h1] at h33
      have ht := (hz.2.1 p h1).2
      rcases h33 with e | e
      · have := (nI_eq_iff (b := 33) (by omega) (by omega)).mp e
        rw [this] at h2
        exact absurd h2 (by decide)
      · have := (nI_eq_iff (b := 40) (by omega) (by omega)).mp e
        rw [this] at h2
        exact absurd h2 (by decide)
    refine Or.inl ⟨p, st, sm, ?_, hC.1, hp, hFc, ?_, hR.1.1, hFm⟩
    · unfold P_X0_takesTest
      rw [k_oneOf hfu hz hC.1 hp (Or.inl rfl), if_neg hnt, bn_some, if_pos rfl, bn_some, z1, gd_true]
    · rw [eR]
      unfold M_takesE_b22F M_takesE_b43
      rw [m_next hR.1 hp hF, bn_some, if_neg n10]
      rcases h33 with e | e
      · rw [if_pos e, hR.2.2.2, if_pos (show nI 4 = 4 from rfl)]
      · rw [if_neg (by rw [e]; decide), if_pos e, hR.2.2.2, if_pos (show nI 4 = 4 from rfl)]
  have e33 : chv F T p ≠ 33 := fun q => h33 (Or.inl q)
  have e40 : chv F T p ≠ 40 := fun q => h33 (Or.inr q)
  rcases h_test (c := c) hfu ha hz hR hC hp hl hn (by omega) hFm hFc with ⟨p', st', sm', t1, t2, t3, t4, t5, t6, t7⟩ | ⟨p', st', sm', v, t1, t2, t3, t4, t5, t6, t7, t8, t9⟩
  · refine Or.inl ⟨p', st', sm', ?_, t2, t3, t4, ?_, t6, t7⟩
    · rw [t1, bn_some, z1, gd_true]
    · rw [eR]
      unfold M_takesE_b22F
      rw [m_next hR.1 hp hF, bn_some, if_neg n10, if_neg e33, if_neg e40, t5, bn_some, if_pos rfl]
  · refine Or.inr ⟨p', st', [v], sm', f, ?_, t2, t4, HW_w (HW_t t3) (by omega), by omega, t6, ?_, ?_, by omega, t8, t9⟩
    · rw [t1, bn_some, z2, gd_true]
    · rw [List.length_append, List.length_singleton]
      omega
    · rw [eR]
      unfold M_takesE_b22F
      rw [m_next hR.1 hp hF, bn_some, if_neg n10, if_neg e33, if_neg e40, t7, bn_some, if_neg n10]
      rfl
theorem tk_c (hz : zOK z F T) {p : Nat} {L : List Int32} {st : mm_S} (hC : CS st p L) (hp : p ≤ F) {ch : Nat} (hch : ch < 256) : P_X0_takes z fu (nI ch) st = if chv F T p = nI ch then some (1, mm_sI st 2 (nI (p + 1))) else some (0, st) := by
  rw [k_takes hz hC.1 hp]
  have h := chv_1 (F := F) (T := T) (p := p) (fun j hj => (hz.2.1 j hj).2) hch
  by_cases hc : chv F T p = nI ch
  · rw [if_pos ⟨hc, (h.mp hc).1⟩, if_pos hc]
  · rw [if_neg (fun q => hc q.1), if_neg hc]
theorem chv_lt (hz : zOK z F T) {p ch : Nat} (hch : ch < 256) (h : chv F T p = nI ch) : p < F := ((chv_1 (fun j hj => (hz.2.1 j hj).2) hch).mp h).1
theorem p_part (hfu : 700 < fu) (ha : a < 6) (hc : c < 60) (hz : zOK z F T) {d x : Nat} (hx : x ≤ 4) (h1 : x < 4 → SPart z F a c fu T d (x + 1)) (h2 : x < 4 → SEither z F a c fu T d (x + 1)) : SPart z F a c fu T (d + 1) x := by
  intro f p L W sm sm0 st st0 hR hC hp hf hl hn hFm hFc
  have hF : F ≤ 100 := hz.2.2.1
  have er : P_rec z fu (d + 1) 2 (nI x) st = P_X0_takesPart z fu (P_rec z fu d) (nI x) st := rfl
  by_cases hx4 : x = 4
  · refine p_test (c := c) (d := d + 1) hfu ha hz hR hC hp hf hl hn hx hFm hFc ?_ (Or.inr hx4)
    rw [er]
    unfold P_X0_takesPart
    rw [if_pos (show (4 : Int32) ≤ nI x by rw [hx4]; decide)]
    rfl
  have hx3 : x < 4 := by omega
  have g4 : ¬ (4 : Int32) ≤ nI x := fun q => by have := (nI_le_iff (a := 4) (by omega) (by omega)).mp q; omega
  have t33 := tk_c (fu := fu) hz hC hp (ch := 33) (by omega)
  have t40 := tk_c (fu := fu) hz hC hp (ch := 40) (by omega)
  have ePart : P_rec z fu (d + 1) 2 (nI x) st = if chv F T p = 33 then fc_bn (P_rec z fu d 2 (nI (x + 1)) (mm_sI st 2 (nI (p + 1)))) (fun r20 st18 => if r20 = 0 then some (0, st18) else fc_bv (P_X0_put z fu 33 st18) fun st22 => some (1, st22)) else if chv F T p = 40 then fc_bn (P_rec z fu d 0 (nI (x + 1)) (mm_sI st 2 (nI (p + 1)))) (fun r12 st10 => if r12 = 0 then some (0, st10) else fc_bn (P_X0_takes z fu 41 st10) fun r16 st14 => if r16 = 0 then some (0, st14) else some (1, st14)) else P_X0_takesPart_b68 z fu (P_rec z fu d) st := by
    rw [er]
    unfold P_X0_takesPart
    have t33' : P_X0_takes z fu 33 st = _ := t33
    have t40' : P_X0_takes z fu 40 st = _ := t40
    rw [if_neg g4, t33', nI_1]
    by_cases e : chv F T p = 33
    · rw [if_pos (show chv F T p = nI 33 from e), bn_some, if_neg n10, if_pos e]
    · rw [if_neg (show ¬ chv F T p = nI 33 from e), bn_some, if_pos rfl, if_neg e, t40']
      by_cases e2 : chv F T p = 40
      · rw [if_pos (show chv F T p = nI 40 from e2), bn_some, if_neg n10, if_pos e2]
      · rw [if_neg (show ¬ chv F T p = nI 40 from e2), bn_some, if_pos rfl, if_neg e2]
  obtain ⟨f, rfl⟩ : ∃ g, f = g + 1 := ⟨f - 1, by omega⟩
  by_cases e33 : chv F T p = 33
  · have hpF := chv_lt hz (ch := 33) (by omega) e33
    obtain ⟨sm1, r1, hR1, hFm1⟩ := r_open (f := f) hfu hz hc hR hp hx3 hl hFm (Or.inl e33)
    rw [e33] at hR1
    rw [ePart, if_pos e33, r1]
    have en : nots (33 :: W) = nots W + 1 := by
      show (if (33 : Int32) = 33 then nots W + 1 else 0) = _
      rw [if_pos rfl]
    rcases h1 hx3 f (p + 1) L (33 :: W) sm1 sm0 _ st0 hR1 (CS_2 hC) (by omega) (by omega) (by show L.length + (W.length + 1) ≤ _; omega) (by omega) hFm1 (Fc_2 hFc) with ⟨p', st', sm', b1, b2, b3, b4, b5, b6, b7⟩ | ⟨p', st', X, sm', f', b1, b2, b3, b4, b5, b6, b7, b8, b9, b10, b11⟩
    · refine Or.inl ⟨p', st', sm', ?_, b2, b3, b4, b5, b6, b7⟩
      rw [b1, bn_some, if_pos rfl]
    · have b7 : (L ++ X).length + (W.length + 1) ≤ p' := b7
      obtain ⟨st2, q1, q2, q3⟩ := c_put (z := z) (fu := fu) (u := 33) (v := -33) b2 b3 (by omega) (Or.inl ⟨rfl, rfl⟩)
      refine Or.inr ⟨p', st2, X ++ [-33], sm', f', ?_, by rw [← List.append_assoc]; exact q2, q3, HW_n (HW_w b4 (by omega)), by omega, b6, ?_, b8, b9, ?_, b11⟩
      · rw [b1, bn_some, if_neg n10, q1, bv_some]
      · rw [← List.append_assoc, List.length_append, List.length_singleton]
        omega
      · rw [en, List.replicate_succ, List.drop_succ_cons] at b10
        rw [show x + 1 - (nots W + 1) = x - nots W by omega] at b10
        rw [show L ++ (X ++ [-33]) ++ List.replicate (nots W) (-33) = L ++ X ++ -33 :: List.replicate (nots W) (-33) by simp [List.append_assoc]]
        exact b10
  by_cases e40 : chv F T p = 40
  · have hpF := chv_lt hz (ch := 40) (by omega) e40
    obtain ⟨sm1, r1, hR1, hFm1⟩ := r_open (f := f) hfu hz hc hR hp hx3 hl hFm (Or.inr e40)
    rw [e40] at hR1
    rw [ePart, if_neg e33, if_pos e40, r1]
    rcases h2 hx3 f (p + 1) L (40 :: W) sm1 sm0 _ st0 hR1 (CS_2 hC) (by omega) (by omega) (by show L.length + (W.length + 1) ≤ _; omega) (Or.inr ⟨W, rfl⟩) hFm1 (Fc_2 hFc) with ⟨p', st', sm', b1, b2, b3, b4, b5, b6, b7⟩ | ⟨p', st', X, sm', f', R, pa, po, b1, b2, b3, b4, b5, b6, b7, b8, b9, b10, b11, b12, b13, b14, b15, b16⟩
    · refine Or.inl ⟨p', st', sm', ?_, b2, b3, b4, b5, b6, b7⟩
      rw [b1, bn_some, if_pos rfl]
    · obtain ⟨s1, s2⟩ := stl_o b10 b11 (W := 40 :: W) (Or.inr ⟨W, rfl⟩)
      obtain ⟨f'', rfl⟩ : ∃ g, f' = g + 1 := ⟨f' - 1, by omega⟩
      obtain ⟨sm2, r2, hR2, hFm2, -⟩ := r_end (f := f'') hfu ha hc hz b13 b6 b7 b14 b15 b16
      rw [s1, s2, ← List.append_assoc, ← b12] at hR2
      have t41 := tk_c (fu := fu) hz b2 b6 (ch := 41) (by omega)
      have t41' : P_X0_takes z fu 41 st' = _ := t41
      have e22 : mm_I sm2 22 = nI (W.length + 1) := hR2.2.2.1.1
      have hlen : (L ++ X).length + (W.length + 1) ≤ p' := by
        have h3 := congrArg List.length b12
        simp only [List.length_append, List.length_map, List.length_cons] at h3 b7 ⊢
        omega
      rw [if_neg (show ¬ mm_I sm2 22 = 0 by rw [e22]; exact nI_ne0 (by omega) (by omega))] at r2
      by_cases e41 : chv F T p' = 41
      rotate_left
      · rw [if_neg e41] at r2
        refine Or.inl ⟨p', st', sm2, ?_, b2.1, b6, b3, ?_, hR2.1.1, hFm2⟩
        · rw [b1, bn_some, if_neg n10, t41', if_neg (show ¬ chv F T p' = nI 41 from e41), bn_some, if_pos rfl]
        · rw [b8, r2]
      · have hpF' := chv_lt hz (ch := 41) (by omega) e41
        rw [if_pos e41] at r2
        obtain ⟨q1, qF1⟩ := s_pop hR2 hFm2
        have e23 : mm_I (mm_sI sm2 22 (mm_I sm2 22 - 1)) 23 - 1 = nI x := by
          rw [q1.2.2.2]
          exact nI_pred x
        obtain ⟨q2, qF2⟩ := s_open q1 qF1 x e23
        obtain ⟨q3, qF3⟩ := s_at q2 qF2
        obtain ⟨sm3, w1, w2, w3⟩ := h_whole (c := c) hfu ha W (L ++ X) _ sm0 (p' + 1) x fu q3 (by omega) (by omega) (by omega) hn qF3
        have w1' : M_whole fu (mm_sI (mm_sI (mm_sI sm2 22 (mm_I sm2 22 - 1)) 23 (mm_I (mm_sI sm2 22 (mm_I sm2 22 - 1)) 23 - 1)) 11 (mm_I (mm_sI (mm_sI sm2 22 (mm_I sm2 22 - 1)) 23 (mm_I (mm_sI sm2 22 (mm_I sm2 22 - 1)) 23 - 1)) 11 + 1)) = some sm3 := w1
        rw [w1', bv_some] at r2
        refine Or.inr ⟨p' + 1, mm_sI st' 2 (nI (p' + 1)), X, sm3, f'', ?_, CS_2 b2, Fc_2 b3, HW_w b4 (by omega), by omega, hpF', by omega, ?_, by omega, w2, w3⟩
        · rw [b1, bn_some, if_neg n10, t41', if_pos (show chv F T p' = nI 41 from e41), bn_some, if_neg n10]
        · rw [b8, r2]
  refine p_test (c := c) (d := d + 1) hfu ha hz hR hC hp hf hl hn hx hFm hFc ?_ (Or.inl ⟨e33, e40⟩)
  rw [ePart, if_neg e33, if_neg e40]
  rfl
end EE
