/-! the class's world with one object more -/
def ex_X (X : cc_X) (y c ad : Nat) (rs : List Nat) (adr : Nat → Nat) : cc_X := (cx_o X ++ [y], cx_r X ++ rs.map (fun k => (y, k)), fun i => if i = y then c else cx_K X i, fun i => if i = y then ad else cx_a X i, fun i k => if i = y then adr k else cx_b X i k, cx_c X)
def ex_S (st : cc_S) (y : Nat) (I : Nat → Int32) (G : Nat → Nat → Int32) : cc_S := (fun i k => if i = y then I k else st.1 i k, fun i k => if i = y then G k else st.2.1 i k, st.2.2)
def ex_new (X : cc_X) (st : cc_S) (y : Nat) (rs : List Nat) : va_W := (cx_a X y, .inr (cx_K X y, cc_fs X st y)) :: rs.map (fun k => (cx_b X y k, cc_ent X st (y, k)))
def ex_F (X : cc_X) (st : cc_S) (y : Nat) : Prop := 50 ≤ y ∧ y ∉ cx_o X ∧ (∀ r ∈ cx_r X, r.1 ≠ y) ∧ (∀ i ∈ cx_o X, ∀ k, k < cc_nf (cx_K X i) → cc_P st i k 0 ≠ some y) ∧ ∀ r ∈ cx_r X, ∀ j, j < cc_al (cx_K X r.1) r.2 → cc_P st r.1 r.2 j ≠ some y
theorem ex_bd (g : Nat → Option Nat) : ∀ n : Nat, ∃ N, ∀ j, j < n → ∀ a, g j = some a → a < N
  | 0 => ⟨0, fun j h => absurd h (Nat.not_lt_zero j)⟩
  | n + 1 => by
    obtain ⟨N, hN⟩ := ex_bd g n
    cases hg : g n with
    | none => exact ⟨N, fun j hj a ha => by
        by_cases e : j = n
        · subst e
          rw [hg] at ha
          cases ha
        · exact hN j (by omega) a ha⟩
    | some b => exact ⟨N + b + 1, fun j hj a ha => by
        by_cases e : j = n
        · subst e
          rw [hg] at ha
          cases ha
          omega
        · have := hN j (by omega) a ha
          omega⟩
theorem ex_bl {α : Type} (P : α → Nat → Prop) (h : ∀ x : α, ∃ N, ∀ a, P x a → a < N) : ∀ l : List α, ∃ N, ∀ x ∈ l, ∀ a, P x a → a < N
  | [] => ⟨0, fun x hx => absurd hx List.not_mem_nil⟩
  | x :: l => by
    obtain ⟨N, hN⟩ := ex_bl P h l
    obtain ⟨M, hM⟩ := h x
    refine ⟨N + M, fun z hz a ha => ?_⟩
    rcases List.mem_cons.mp hz with e | e
    · rw [e] at ha
      have := hM a ha
      omega
    · have := hN z e a ha
      omega
theorem ex_fr (X : cc_X) (st : cc_S) : ∃ y, ex_F X st y := by
  obtain ⟨N1, h1⟩ := ex_bl (fun (i : Nat) a => a = i) (fun i => ⟨i + 1, fun a h => by omega⟩) (cx_o X)
  obtain ⟨N2, h2⟩ := ex_bl (fun (r : Nat × Nat) a => a = r.1) (fun r => ⟨r.1 + 1, fun a h => by omega⟩) (cx_r X)
  obtain ⟨N3, h3⟩ := ex_bl (fun (i : Nat) a => ∃ k, k < cc_nf (cx_K X i) ∧ cc_P st i k 0 = some a) (fun i => by
    obtain ⟨N, hN⟩ := ex_bd (fun k => cc_P st i k 0) (cc_nf (cx_K X i))
    exact ⟨N, fun a ⟨k, hk, e⟩ => hN k hk a e⟩) (cx_o X)
  obtain ⟨N4, h4⟩ := ex_bl (fun (r : Nat × Nat) a => ∃ j, j < cc_al (cx_K X r.1) r.2 ∧ cc_P st r.1 r.2 j = some a) (fun r => by
    obtain ⟨N, hN⟩ := ex_bd (fun j => cc_P st r.1 r.2 j) (cc_al (cx_K X r.1) r.2)
    exact ⟨N, fun a ⟨k, hk, e⟩ => hN k hk a e⟩) (cx_r X)
  refine ⟨50 + N1 + N2 + N3 + N4, by omega, fun h => ?_, fun r hr e => ?_, fun i hi k hk e => ?_, fun r hr j hj e => ?_⟩
  · have := h1 _ h _ rfl
    omega
  · have := h2 r hr _ rfl
    omega
  · have := h3 i hi _ ⟨k, hk, e⟩
    omega
  · have := h4 r hr _ ⟨j, hj, e⟩
    omega
theorem nn_cong {D : va_G} {A : Nat → Prop} {H0 H : Heap} {l1 l2 x : va_W} {locs : List Loc} (he : l2.map (fun q => q.1) = l1.map (fun q => q.1)) (h : ∀ q ∈ l2, va_at D vwCl q H) (hM : nn_H D A H0 (l1 ++ x) H locs) : nn_H D A H0 (l2 ++ x) H locs := by
  obtain ⟨hn, hA⟩ := nn_dp.mp hM.2.1
  refine ⟨nn_pp.mpr fun q hq => ?_, nn_dp.mpr ⟨by rw [List.map_append, he, ← List.map_append]; exact hn, fun q hq => ?_⟩, hM.2.2⟩
  · rcases List.mem_append.mp hq with e | e
    · exact h q e
    · exact nn_pp.mp hM.1 q (List.mem_append_right _ e)
  · rcases List.mem_append.mp hq with e | e
    · have h1 : q.1 ∈ l1.map (fun q => q.1) := by
        rw [← he]
        exact List.mem_map.mpr ⟨q, e, rfl⟩
      obtain ⟨y, hy, e2⟩ := List.mem_map.mp h1
      rw [← e2]
      exact hA y (List.mem_append_left _ hy)
    · exact hA q (List.mem_append_right _ e)
section EX
variable {X : cc_X} {st : cc_S} {y c ad : Nat} {rs : List Nat} {adr : Nat → Nat} {I : Nat → Int32} {G : Nat → Nat → Int32}
theorem ex_val (hf : ex_F X st y) {i k : Nat} (hi : i ∈ cx_o X) (hk : k < cc_nf (cx_K X i)) : cc_val (ex_X X y c ad rs adr) (ex_S st y I G) i k = cc_val X st i k := by
  have hne : i ≠ y := fun e => hf.2.1 (e ▸ hi)
  have eK : cx_K (ex_X X y c ad rs adr) i = cx_K X i := if_neg hne
  have eI : cc_I (ex_S st y I G) i k = cc_I st i k := if_neg hne
  have eb : cx_b (ex_X X y c ad rs adr) i = cx_b X i := funext fun k => if_neg hne
  have eP : cc_P (ex_S st y I G) i k 0 = cc_P st i k 0 := rfl
  have h50 := hf.1
  have ea : cx_a (ex_X X y c ad rs adr) (cc_cr k) = cx_a X (cc_cr k) := if_neg (by
    unfold cc_cr
    split
    · omega
    · split
      · omega
      · split <;> omega)
  have e0 : cx_b (ex_X X y c ad rs adr) 0 5 = cx_b X 0 5 := if_neg (by omega)
  have em : (cc_P st i k 0).map (cx_a (ex_X X y c ad rs adr)) = (cc_P st i k 0).map (cx_a X) := by
    cases hP : cc_P st i k 0 with
    | none => rfl
    | some a =>
      have : a ≠ y := fun e => hf.2.2.2.1 i hi k hk (by rw [hP, e])
      exact congrArg some (if_neg this)
  unfold cc_val
  rw [eK, eI, eb, eP, ea, e0, em]
theorem ex_fs (hf : ex_F X st y) {i : Nat} (hi : i ∈ cx_o X) : cc_fs (ex_X X y c ad rs adr) (ex_S st y I G) i = cc_fs X st i := by
  have hne : i ≠ y := fun e => hf.2.1 (e ▸ hi)
  have eK : cx_K (ex_X X y c ad rs adr) i = cx_K X i := if_neg hne
  unfold cc_fs
  rw [eK]
  exact List.map_congr_left (fun k hk => ex_val hf hi (List.mem_range.mp hk))
theorem ex_ent {D : va_G} {H : Heap} {a : Nat} (hf : ex_F X st y) {r : Nat × Nat} (hr : r ∈ cx_r X) (h : va_at D vwCl (a, cc_ent X st r) H) : va_at D vwCl (a, cc_ent (ex_X X y c ad rs adr) (ex_S st y I G) r) H := by
  have hne := hf.2.2.1 r hr
  have eK : cx_K (ex_X X y c ad rs adr) r.1 = cx_K X r.1 := if_neg hne
  have ec : cx_c (ex_X X y c ad rs adr) = cx_c X := rfl
  have eG : (ex_S st y I G).2.1 r.1 r.2 = st.2.1 r.1 r.2 := by
    show (if r.1 = y then G r.2 else st.2.1 r.1 r.2) = _
    rw [if_neg hne]
  have eb : ∀ k, cx_b (ex_X X y c ad rs adr) r.1 k = cx_b X r.1 k := fun k => if_neg hne
  have em : ∀ j, j < cc_al (cx_K X r.1) r.2 → va_rf ((st.2.2.2 r.1 r.2 j).map (cx_a X)) = va_rf ((st.2.2.2 r.1 r.2 j).map (cx_a (ex_X X y c ad rs adr))) := fun j hj => by
    cases hP : st.2.2.2 r.1 r.2 j with
    | none => rfl
    | some b =>
      have : b ≠ y := fun e => hf.2.2.2.2 r hr j hj (by show st.2.2.2 r.1 r.2 j = _; rw [hP, e])
      exact congrArg (fun x => va_rf (some x)) (if_neg this).symm
  unfold cc_ent at h ⊢
  rw [eK, ec, eG]
  split at h
  · exact h
  · exact h
  · show H[a]? = _
    rw [show H[a]? = _ from h]
    exact congrArg some (nn_arrc em)
  · show H[a]? = _
    rw [show H[a]? = _ from h]
    exact congrArg some (nn_arrc em)
  · have e5 : (fun j => some (cx_b (ex_X X y c ad rs adr) r.1 (100 * r.2 + j))) = (fun j => some (cx_b X r.1 (100 * r.2 + j))) := funext fun j => by rw [eb]
    rw [e5]
    exact h
  · exact h
theorem ex_H {D : va_G} {A : Nat → Prop} {H0 H : Heap} {ex : va_W} {locs : List Loc} (hf : ex_F X st y) (hM : nn_H D A H0 (cc_w X st ++ ex_new (ex_X X y c ad rs adr) (ex_S st y I G) y rs ++ ex) H locs) : nn_H D A H0 (cc_w (ex_X X y c ad rs adr) (ex_S st y I G) ++ ex) H locs := by
  generalize hX : ex_X X y c ad rs adr = X' at hM ⊢
  generalize hS : ex_S st y I G = st' at hM ⊢
  have eo : cx_o X' = cx_o X ++ [y] := by rw [← hX]; rfl
  have er : cx_r X' = cx_r X ++ rs.map (fun k => (y, k)) := by rw [← hX]; rfl
  have hne : ∀ i, i ∈ cx_o X → i ≠ y := fun i hi e => hf.2.1 (e ▸ hi)
  have e1 : ((cx_o X).map (fun i => (cx_a X' i, (Sum.inr (cx_K X' i, cc_fs X' st' i) : va_E))) ++ (cx_r X).map (fun r => (cx_b X' r.1 r.2, cc_ent X' st' r))).map (fun q => q.1) = (cc_w X st).map (fun q => q.1) := by
    unfold cc_w
    rw [List.map_append, List.map_append, List.map_map, List.map_map, List.map_map, List.map_map]
    congr 1
    · exact List.map_congr_left (fun i hi => by
        show cx_a X' i = cx_a X i
        rw [← hX]
        exact if_neg (hne i hi))
    · exact List.map_congr_left (fun r hr => by
        show cx_b X' r.1 r.2 = cx_b X r.1 r.2
        rw [← hX]
        exact if_neg (hf.2.2.1 r hr))
  rw [List.append_assoc] at hM
  have h2 := nn_cong e1 (fun q hq => by
    rcases List.mem_append.mp hq with h | h
    · obtain ⟨i, hi, rfl⟩ := List.mem_map.mp h
      have h3 := nn_pp.mp hM.1 _ (List.mem_append_left _ (List.mem_append_left _ (List.mem_map.mpr ⟨i, hi, rfl⟩)))
      have ea : cx_a X' i = cx_a X i := by rw [← hX]; exact if_neg (hne i hi)
      have eK : cx_K X' i = cx_K X i := by rw [← hX]; exact if_neg (hne i hi)
      have ef : cc_fs X' st' i = cc_fs X st i := by rw [← hX, ← hS]; exact ex_fs hf hi
      rw [ea, eK, ef]
      exact h3
    · obtain ⟨r, hr, rfl⟩ := List.mem_map.mp h
      have h3 := nn_pp.mp hM.1 _ (List.mem_append_left _ (List.mem_append_right _ (List.mem_map.mpr ⟨r, hr, rfl⟩)))
      have eb : cx_b X' r.1 r.2 = cx_b X r.1 r.2 := by rw [← hX]; exact if_neg (hf.2.2.1 r hr)
      rw [eb, ← hX, ← hS]
      exact ex_ent hf hr h3) hM
  refine nn_perm ?_ h2
  unfold cc_w ex_new
  rw [eo, er, List.map_append, List.map_append, List.map_map]
  show (_ ++ _ ++ ((cx_a X' y, _) :: _ ++ ex)).Perm _
  rw [List.append_assoc, List.append_assoc, List.append_assoc, List.append_assoc]
  refine List.Perm.append_left _ ?_
  refine (List.perm_middle (a := (cx_a X' y, (Sum.inr (cx_K X' y, cc_fs X' st' y) : va_E))) (l₁ := (cx_r X).map (fun r => (cx_b X' r.1 r.2, cc_ent X' st' r))) (l₂ := rs.map (fun k => (cx_b X' y k, cc_ent X' st' (y, k))) ++ ex)).trans ?_
  exact List.Perm.refl _
theorem ex_ok (hok : cc_ok X) (hf : ex_F X st y) (hrs : rs.Nodup) : cc_ok (ex_X X y c ad rs adr) := by
  refine ⟨?_, ?_⟩
  · show (cx_o X ++ [y]).Nodup
    exact List.nodup_append.mpr ⟨hok.1, List.nodup_cons.mpr ⟨List.not_mem_nil, List.nodup_nil⟩, fun a ha b hb e => hf.2.1 (by rw [List.mem_singleton.mp hb] at e; exact e ▸ ha)⟩
  · show (cx_r X ++ rs.map (fun k => (y, k))).Nodup
    refine List.nodup_append.mpr ⟨hok.2, ?_, fun a ha b hb e => ?_⟩
    · rw [List.Nodup, List.pairwise_map]
      exact hrs.imp (fun h e => h (congrArg Prod.snd e))
    · obtain ⟨k, -, rfl⟩ := List.mem_map.mp hb
      exact hf.2.2.1 a ha (congrArg Prod.fst e)
end EX
