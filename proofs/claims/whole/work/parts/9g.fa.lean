/-! the law's cases feed and archive: the text's object is taken out of the class's world and put back -/
theorem lw_pm {α : Type} {bo y : α} {ws ms : List α} : ((bo :: ws) ++ (y :: ms)).Perm (ms ++ (ws ++ [bo, y])) := by
  refine List.Perm.trans ?_ List.perm_append_comm
  rw [List.append_assoc]
  exact List.perm_middle.symm
def xb (X : cc_X) (b : Nat) : cc_X := (cx_o X, cx_r X, cx_K X, cx_a X, fun i k => if i = 40 ∧ k = 0 then b else cx_b X i k, cx_c X)
theorem Rel_b {X : cc_X} {T : Nat → Nat} {sm : mm_S} {sc : cc_S} {b : Nat} (h : Rel (x40 X) T sm sc) : Rel (x40 (xb X b)) T sm sc := h
theorem Rel_sb {X : cc_X} {T : Nat → Nat} {sm : mm_S} {sc : cc_S} {n : Nat} (h : Rel X T sm sc) (h10 : mm_I sm 10 = nI n) (hn : n ≤ 100) : cc_I sc 40 3 = nI n ∧ cc_I sc 40 1 = 0 ∧ ∀ j, j < n → T j < 128 := by
  obtain ⟨hX, A', h1, h2, ⟨a, ⟨f, hf, b1, ⟨b2, b3⟩, b4⟩, c⟩, h4⟩ := h
  obtain rfl : f = n := (nI_eq_iff (by omega) (by omega)).mp (b1.symm.trans h10)
  exact ⟨b2, b3, fun j hj => (b4 j hj).2⟩
theorem Rel_fn {X : cc_X} {T : Nat → Nat} {sm : mm_S} {sc : cc_S} {n : Nat} (h : Rel X T sm sc) (h3 : cc_I sc 40 3 = nI n) (hn : n ≤ 200) : mm_I sm 10 = nI n ∧ n ≤ 100 ∧ cc_I sc 40 1 = 0 := by
  obtain ⟨hX, A', h1, h2, ⟨a, ⟨f, hf, b1, ⟨b2, b3⟩, b4⟩, c⟩, h4⟩ := h
  obtain rfl : f = n := (nI_eq_iff (by omega) (by omega)).mp (b2.symm.trans h3)
  exact ⟨b1, hf, b3⟩
theorem Rel_an {X : cc_X} {T : Nat → Nat} {sm : mm_S} {sc : cc_S} (h : Rel X T sm sc) : ∃ A, A ≤ 6 ∧ mm_I sm 8 = nI A ∧ cc_I sc 0 6 = nI A := by
  obtain ⟨hX, A', h1, h2, ⟨⟨a1, a2, a3⟩, b, c⟩, h4⟩ := h
  exact ⟨A', a1, a2, a3⟩
section LG
variable {p : Program} {l : Launch} {e : Env} {s : State} {m : MethodId} {below : List Frame} {meth : Method} {c : Code} {H : Heap} {locs : List Loc} {cells slots : Nat} {Q : State → Prop} {ls : Array Slot} {D : va_G} {ct : Nat → ClassId} {cs : ClassId × ClassId × ClassId} {z : pp_Z} {b L x0 xr i : Nat} {xs : Nat → Int32}
theorem lw_mkJ {X1 : cc_X} {T : Nat → Nat} {sm sm' : mm_S} {sc1 sc' : cc_S} {m1 n b2 : Nat} {f : Nat → Int32} {ml r : Int32} {ad : Nat → Nat} {fM : mm_S → Option (Int32 × mm_S)} (h40 : 40 ∉ cx_o X1) (h40r : ∀ r ∈ cx_r X1, r.1 ≠ 40) (hok : cc_ok (x40 X1)) (hK : cx_K X1 40 = 1) (eM : fM sm = some (r, sm')) (hR : Rel (x40 X1) T sm' sc') (hsc : ∀ i k, i ≠ 40 → cc_I sc' i k = cc_I sc1 i k) (hs2 : sc'.2 = sc1.2) (h3 : cc_I sc' 40 3 = nI n) (hml : cc_I sc' 40 2 = ml) (hn : n ≤ 100) (hnm : n ≤ m1) (hm : m1 ≤ 202) (hf : sb_Fit f) (hfl : ∀ j, j < n → f j = sb_b (T j)) (hH : nn_H D (fun q => s.heap.size ≤ q) s.heap (mm_w xr ad cs sm ++ (cc_w X1 sc1 ++ [nn_bo (cx_a X1 40) b2 ml (nI n), nn_by (cx_c X1) b2 m1 f])) H locs) : lw_J s D (cx_c X1) cs (cx_a X1 0) xr fM r H locs := by
  obtain ⟨h10, -, h1⟩ := Rel_fn hR h3 (by omega)
  refine ⟨xb X1 b2, T, sm, sm', sc', m1, n, f, ad, h40, h40r, hok, rfl, rfl, eM, Rel_b hR, h10, hnm, hn, hm, hf, hfl, ?_⟩
  have eb : cx_b (xb X1 b2) 40 0 = b2 := by
    show (if (40 : Nat) = 40 ∧ (0 : Nat) = 0 then b2 else cx_b X1 40 0) = b2
    exact if_pos ⟨rfl, rfl⟩
  rw [x40_w (Xo := xb X1 b2) hK h1 h3, w_cg (X := X1) (X' := xb X1 b2) (sc := sc1) rfl rfl rfl rfl rfl (fun i k hi => if_neg (fun e => hi e.1)) hsc hs2 h40 h40r, eb, hml]
  exact nn_perm lw_pm.symm hH
theorem lk_feed (Cx : lw_C p s m meth c b L xs D ct cs z) (hI : lw_I s D ct cs x0 xr H locs) (hl : lv_has ls 4 [(3, .int (nI i)), (2, .ref xr), (1, .ref x0), (0, .ref b)]) (hi : i + 6 ≤ L) (hr : cells + 16 ≤ room_1.cells ∧ slots + 1600 ≤ room_1.slots) (kk : ∀ (H : Heap) (locs : List Loc), lw_I s D ct cs x0 xr H locs → W p l e room_1 s m #[Value.ref b] below meth c H locs (cells + 16) (slots + 1600) Q (F0 m 1343 ls [])) : W p l e room_1 s m #[Value.ref b] below meth c H locs cells slots Q (F0 m 417 ls []) := by
  have hdx : lw_ok [(417, .aload_n 1, 1), (423, .invokevirtual 44, 3)] = true := by decide +kernel
  obtain ⟨Xo, T, sm, sc, m', n, f, ad, h40, h40r, hok, rfl, rfl, hR, h10, hnm, hn100, hm, hf, hfl, hH⟩ := hI
  have hC := Cx
  obtain ⟨C1, C2, C3⟩ := Cx
  have o0 : 0 ∈ cx_o (x40 Xo) ∧ cx_K (x40 Xo) 0 = 13 := ⟨(hR.1.1 (0, 13) List.mem_cons_self).1, (hR.1.1 (0, 13) List.mem_cons_self).2⟩
  have o1 : 1 ∈ cx_o (x40 Xo) ∧ cx_K (x40 Xo) 1 = 9 := ⟨(hR.1.1 (1, 9) (List.mem_cons_of_mem _ List.mem_cons_self)).1, (hR.1.1 (1, 9) (List.mem_cons_of_mem _ List.mem_cons_self)).2⟩
  have hK : cx_K Xo 40 = 1 := (hR.1.1 (40, 1) (by decide)).2
  have p0 : 0 ∈ cx_o Xo ∧ cx_K Xo 0 = 13 := ⟨(List.mem_cons.mp o0.1).resolve_left (by decide), o0.2⟩
  have p1 : 1 ∈ cx_o Xo ∧ cx_K Xo 1 = 9 := ⟨(List.mem_cons.mp o1.1).resolve_left (by decide), o1.2⟩
  have hokO : cc_ok Xo := ⟨(List.nodup_cons.mp hok.1).2, hok.2⟩
  obtain ⟨h3, h1, hT⟩ := Rel_sb hR h10 hn100
  refine lv_aload_n C1.1 C1.2.1 (lw_dc hdx 0 rfl) rfl (lv_at hl 2 rfl) ?_
  refine lw_args hC hl hH.2.2.1 1 0 418 _ (by omega) (by decide +kernel) ?_
  have hcv := lx_rcv (X := x40 Xo) C1 hH o0 (ci := 13) (K := RX11) (T := TX11) (N := 8) rfl
  rw [x40_w hK h1 h3] at hH
  have hHp := nn_perm lw_pm hH
  have sec : ∀ (H : Heap) (locs : List Loc) (r : Int32), lw_J s D (cx_c Xo) cs (cx_a Xo 0) xr (fun st => M_feed 2000 (xs (i + 1 + 0)) st) r H locs → W p l e room_1 s m #[Value.ref b] below meth c H locs (cells + 1) (slots + 700) Q (F0 m 426 ls [.int r]) := fun H locs r hJ => by
    refine W.widen (k := cells + 16) (n := slots + 1600) (by omega) (by omega) ?_
    exact lw_second (k := 1) (pc := 426) (iM := 47) (off := 908) hC hJ hl hi (by decide) (by decide +kernel) (by decide +kernel) (by decide) (fun ad st => c_feed l D xr ad cs 2000 _ st) lwlM_feed (by decide +kernel) ⟨Nat.le_of_ble_eq_true rfl, Nat.le_of_ble_eq_true rfl⟩ hr kk
  by_cases hb : inw (xs (i + 1 + 0)) 127 = 0
  · refine ln_cV (n := 1) (As := [.int (xs (i + 1 + 0))]) (rest := []) (Cl := RX11) C1 hHp hcv (n_feedA l D s.heap.size z Xo sc hokO p0 p1 _ _ n m' f _ hb) (lw_gdV lwlC_feed lw_Wsb sb_Wgood) (by decide +kernel) ⟨Nat.le_of_ble_eq_true rfl, Nat.le_of_ble_eq_true rfl⟩ rfl hl.1 rfl (by decide) (lw_dc hdx 1 rfl) (lw_rm hr (by decide) (by decide)) (fun r u H locs hp hH => ?_)
    obtain ⟨rfl, rfl⟩ := hp
    exact sec H locs _ (lw_mkJ h40 h40r hok hK (q_feedA hb) hR (fun _ _ _ => rfl) rfl h3 rfl hn100 hnm hm hf hfl hH)
  by_cases h100 : n = 100
  · subst h100
    refine ln_cV (n := 1) (As := [.int (xs (i + 1 + 0))]) (rest := []) (Cl := RX11) C1 hHp hcv (n_feedB l D s.heap.size z Xo sc hokO p0 p1 _ _ m' f _ hb) (lw_gdV lwlC_feed lw_Wsb sb_Wgood) (by decide +kernel) ⟨Nat.le_of_ble_eq_true rfl, Nat.le_of_ble_eq_true rfl⟩ rfl hl.1 rfl (by decide) (lw_dc hdx 1 rfl) (lw_rm hr (by decide) (by decide)) (fun r u H locs hp hH => ?_)
    obtain ⟨rfl, rfl⟩ := hp
    exact sec H locs _ (lw_mkJ h40 h40r hok hK (q_feedB hb h10) hR (fun _ _ _ => rfl) rfl h3 rfl hn100 hnm hm hf hfl hH)
  obtain ⟨x, hx, ek⟩ : ∃ x, x ≤ 127 ∧ xs (i + 1 + 0) = nI x := by
    rcases inw_c (xs (i + 1 + 0)) (m := 127) (by decide) with h | ⟨-, j, hj, e⟩
    · exact absurd h hb
    · exact ⟨j, hj, e⟩
  rw [ek] at hb sec
  obtain ⟨sm', eM, hR2⟩ := q_feedC (fu := 2000) hR (show x < 128 by omega) hb (show n < 100 by omega) h10
  refine ln_cV (n := 1) (As := [.int (nI x)]) (rest := []) (Cl := RX11) C1 hHp hcv (n_feedC l D s.heap.size z Xo sc hokO p0 p1 _ _ n m' f x (by omega) hb (by omega) hnm (by omega) hf) (lw_gdV lwlC_feed lw_Wsb sb_Wgood) (by decide +kernel) ⟨Nat.le_of_ble_eq_true rfl, Nat.le_of_ble_eq_true rfl⟩ rfl hl.1 ?_ (by decide) (lw_dc hdx 1 rfl) (lw_rm hr (by decide) (by decide)) (fun r u H locs hp hH => ?_)
  · show (lw_as xs i 1 0).reverse ++ [.ref (cx_a Xo 0)] = [.int (nI x)].reverse ++ [.ref (cx_a Xo 0)]
    rw [← ek]
    rfl
  obtain ⟨rfl, b2, m2, f2, rfl, hm2, g1, g2, g3, g4⟩ := hp
  refine sec H locs _ (lw_mkJ (n := n + 1) (sc1 := sc) h40 h40r hok hK eM hR2 (fun i k hi => by rw [cI_sI, if_neg (fun e => hi e.1)]) rfl (by rw [cI_sI, if_pos ⟨rfl, rfl⟩]) (by rw [cI_sI, if_neg (by decide)]) (by omega) g4 (by omega) g3 (fun j hj => ?_) hH)
  by_cases ej : j = n
  · rw [ej, g2]
    simp only [if_true]
  · rw [g1 j (by omega), hfl j (by omega)]
    simp only [if_neg ej]
theorem lk_archive (Cx : lw_C p s m meth c b L xs D ct cs z) (hI : lw_I s D ct cs x0 xr H locs) (hl : lv_has ls 4 [(3, .int (nI i)), (2, .ref xr), (1, .ref x0), (0, .ref b)]) (hi : i + 6 ≤ L) (hr : cells + 16 ≤ room_1.cells ∧ slots + 1600 ≤ room_1.slots) (kk : ∀ (H : Heap) (locs : List Loc), lw_I s D ct cs x0 xr H locs → W p l e room_1 s m #[Value.ref b] below meth c H locs (cells + 16) (slots + 1600) Q (F0 m 1343 ls [])) : W p l e room_1 s m #[Value.ref b] below meth c H locs cells slots Q (F0 m 440 ls []) := by
  have hdx : lw_ok [(440, .aload_n 1, 1), (441, .invokevirtual 48, 3)] = true := by decide +kernel
  obtain ⟨Xo, T, sm, sc, m', n, f, ad, h40, h40r, hok, rfl, rfl, hR, h10, hnm, hn100, hm, hf, hfl, hH⟩ := hI
  have hC := Cx
  obtain ⟨C1, C2, C3⟩ := Cx
  have o0 : 0 ∈ cx_o (x40 Xo) ∧ cx_K (x40 Xo) 0 = 13 := ⟨(hR.1.1 (0, 13) List.mem_cons_self).1, (hR.1.1 (0, 13) List.mem_cons_self).2⟩
  have o1 : 1 ∈ cx_o (x40 Xo) ∧ cx_K (x40 Xo) 1 = 9 := ⟨(hR.1.1 (1, 9) (List.mem_cons_of_mem _ List.mem_cons_self)).1, (hR.1.1 (1, 9) (List.mem_cons_of_mem _ List.mem_cons_self)).2⟩
  have hK : cx_K Xo 40 = 1 := (hR.1.1 (40, 1) (by decide)).2
  have p0 : 0 ∈ cx_o Xo ∧ cx_K Xo 0 = 13 := ⟨(List.mem_cons.mp o0.1).resolve_left (by decide), o0.2⟩
  have p1 : 1 ∈ cx_o Xo ∧ cx_K Xo 1 = 9 := ⟨(List.mem_cons.mp o1.1).resolve_left (by decide), o1.2⟩
  have hokO : cc_ok Xo := ⟨(List.nodup_cons.mp hok.1).2, hok.2⟩
  obtain ⟨h3, h1, hT⟩ := Rel_sb hR h10 hn100
  refine lv_aload_n C1.1 C1.2.1 (lw_dc hdx 0 rfl) rfl (lv_at hl 2 rfl) ?_
  have hcv := lx_rcv (X := x40 Xo) C1 hH o0 (ci := 13) (K := RX11) (T := TX11) (N := 8) rfl
  rw [x40_w hK h1 h3] at hH
  have hHp := nn_perm lw_pm hH
  have sec : ∀ (H : Heap) (locs : List Loc) (r : Int32), lw_J s D (cx_c Xo) cs (cx_a Xo 0) xr (fun st => M_archive 2000 st) r H locs → W p l e room_1 s m #[Value.ref b] below meth c H locs (cells + 16) (slots + 1600) Q (F0 m 444 ls [.int r]) := fun H locs r hJ =>
    lw_second (k := 0) (pc := 444) (iM := 52) (off := 895) hC hJ hl hi (by decide) (by decide +kernel) (by decide +kernel) (by decide) (fun ad st => c_archive l D xr ad cs 2000 st) lwlM_archive (by decide +kernel) ⟨Nat.le_of_ble_eq_true rfl, Nat.le_of_ble_eq_true rfl⟩ hr kk
  obtain ⟨A, hA6, hA, hA'⟩ := Rel_an hR
  by_cases h6 : A = 6
  · subst h6
    refine ln_cV (n := 0) (As := []) (rest := []) (Cl := RX11) C1 hHp hcv (n_archA l D s.heap.size z Xo sc hokO p0 p1 _ _ n m' f hA') (lw_gdV lwlC_archive lw_Wsb sb_Wgood) (by decide +kernel) ⟨Nat.le_of_ble_eq_true rfl, Nat.le_of_ble_eq_true rfl⟩ rfl hl.1 rfl (by decide) (lw_dc hdx 1 rfl) (lw_rm hr (by decide) (by decide)) (fun r u H locs hp hH => ?_)
    obtain ⟨rfl, rfl⟩ := hp
    exact sec H locs _ (lw_mkJ h40 h40r hok hK (q_archA hA) hR (fun _ _ _ => rfl) rfl h3 rfl hn100 hnm hm hf hfl hH)
  obtain ⟨y, hy⟩ := ex_fr (x40 Xo) sc
  have h50 := hy.1
  have hyO : ex_F Xo sc y := ⟨hy.1, fun h => hy.2.1 (List.mem_cons_of_mem _ h), hy.2.2.1, fun i hi => hy.2.2.2.1 i (List.mem_cons_of_mem _ hi), hy.2.2.2.2⟩
  have hz : ∀ t w, zOK (ar_z z t w n T) n T := fun t w => ⟨rfl, fun j hj => ⟨rfl, hT j hj⟩, hn100, fun i h1 h5 => by
    have e : ar_z z t w n T i = z i := if_neg (by omega)
    rw [e]
    exact C3.2.2.2 i h1 h5⟩
  have hPA : ∀ t w, ∃ rr st1, P_X0_takesClauses (ar_z z t w n T) 2000 ar_st0 = some (rr, st1) ∧ (rr = 0 ∨ rr = 1) := fun t w => by
    rcases q_archB (fu := 2000) (by decide) hR hA (by omega) h10 hn100 (hz t w) hy with ⟨st1, sm', e1, -⟩ | ⟨st1, sm', e1, -⟩
    · exact ⟨0, st1, e1, Or.inl rfl⟩
    · exact ⟨1, st1, e1, Or.inr rfl⟩
  refine ln_cV (n := 0) (As := []) (rest := []) (Cl := RX11) C1 hHp hcv (n_archB l D s.heap.size z Xo sc hokO p0 p1 _ _ n m' f A hA' (by omega) 2000 T hnm hn100 (by omega) hf hfl y hyO hPA) (lw_gdV lwlC_archive lw_Wsb sb_Wgood) (by decide +kernel) ⟨Nat.le_of_ble_eq_true rfl, Nat.le_of_ble_eq_true rfl⟩ rfl hl.1 rfl (by decide) (lw_dc hdx 1 rfl) (lw_rm hr (by decide) (by decide)) (fun r u H locs hp hH => ?_)
  obtain ⟨t, w, rr, st1, b2, ml2, f3, eP, -, hf3, k0, k1⟩ := hp
  rcases q_archB (fu := 2000) (by decide) hR hA (by omega) h10 hn100 (hz t w) hy with ⟨st1', sm', e1, eM, hR2⟩ | ⟨st1', sm', e1, eM, hR2⟩
  · obtain ⟨rfl, rfl⟩ := Prod.mk.inj (Option.some.inj (eP.symm.trans e1))
    obtain ⟨rfl, rfl⟩ := k0 rfl
    exact sec H locs _ (lw_mkJ (n := 0) (sc1 := sc) h40 h40r hok hK eM (hR2 ml2) (fun i k hi => by rw [cI_sI, if_neg (fun e => hi e.1), cI_sI, if_neg (fun e => hi e.1)]) rfl (by rw [cI_sI, if_neg (by decide), cI_sI, if_pos ⟨rfl, rfl⟩]) (by rw [cI_sI, if_pos ⟨rfl, rfl⟩]) (by omega) (by omega) hm hf3 (fun j hj => absurd hj (Nat.not_lt_zero j)) hH)
  · obtain ⟨rfl, rfl⟩ := Prod.mk.inj (Option.some.inj (eP.symm.trans e1))
    obtain ⟨rfl, a, ada, rfl⟩ := k1 rfl
    rw [show nI A + 1 - 1 = nI A from by rw [nI_1, show (1 : Int32) = nI 1 from rfl, nI_subN (by omega) (by omega)]; rfl]
    have hJ := lw_mkJ (X1 := ar_X Xo y a ada) (n := 0) (b2 := b2) (ml := ml2) (f := f3) (fM := fun st => M_archive 2000 st) (sc1 := cc_sI (cc_sP (ar_S sc y (mm_sI st1 1 1)) 1 16 0 (some y)) 0 6 (nI A + 1)) (s := s) (xr := xr) (ad := ad) (cs := cs) (D := D) (H := H) (locs := locs) (fun h => by
      rcases List.mem_append.mp h with h | h
      · exact h40 h
      · have := List.mem_singleton.mp h
        omega) (fun r h => by
      rcases List.mem_append.mp h with h | h
      · exact h40r r h
      · obtain ⟨k, -, rfl⟩ := List.mem_map.mp h
        show y ≠ 40
        omega) (ex_ok (rs := [3, 4, 5, 6]) hok hy (by decide)) ((if_neg (by omega)).trans hK) eM (hR2 a ada ml2) (fun i k hi => by rw [cI_sI, if_neg (fun e => hi e.1), cI_sI, if_neg (fun e => hi e.1)]) rfl (by rw [cI_sI, if_neg (by decide), cI_sI, if_pos ⟨rfl, rfl⟩]) (by rw [cI_sI, if_pos ⟨rfl, rfl⟩]) (by omega) (by omega) hm hf3 (fun j hj => absurd hj (Nat.not_lt_zero j)) (by
      rw [show cx_a (ar_X Xo y a ada) 40 = cx_a Xo 40 from if_neg (by omega)]
      exact hH)
    rw [show cx_a (ar_X Xo y a ada) 0 = cx_a Xo 0 from if_neg (by omega)] at hJ
    exact sec H locs _ hJ
end LG
