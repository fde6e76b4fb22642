/-! what a clause's signs say: a pile of truths -/
def bi (b : Bool) : Int32 := if b = true then 1 else 0
theorem bi_0 {b : Bool} : bi b = 0 ↔ b = false := by cases b <;> decide
theorem bi_n {b : Bool} : vp_nar .boolean (bi b) = bi b := by cases b <;> rfl
theorem bi_z {b : Bool} : fc_zb (bi b) = true := by cases b <;> rfl
def ev1 (F : Int32 → Bool) (t : Int32) (s : List Bool) : List Bool :=
  if t = -33 then (match s with | b :: r => (!b) :: r | [] => [])
  else if t < 0 then (match s with | b :: a :: r => (if t = -38 then a && b else a || b) :: r | r => r)
  else F t :: s
def evn (F : Int32 → Bool) (C : Nat → Int32) : Nat → Nat → List Bool → List Bool
  | _, 0, s => s
  | a, n + 1, s => evn F C (a + 1) n (ev1 F (C a) s)
def wfn (h : Nat) (C : Nat → Int32) : Nat → Nat → Nat → Nat → Prop
  | _, 0, n, m => n = m
  | a, k + 1, n, m => if C a = -33 then 1 ≤ n ∧ wfn h C (a + 1) k n m else if C a < 0 then 2 ≤ n ∧ wfn h C (a + 1) k (n - 1) m else n + 1 ≤ h ∧ wfn h C (a + 1) k (n + 1) m
def pl : List Bool → (Nat → Int32) → Prop
  | [], _ => True
  | b :: s, p => p s.length = bi b ∧ pl s p
theorem pl_up {p p' : Nat → Int32} : ∀ {s : List Bool}, pl s p → (∀ q, q < s.length → p' q = p q) → pl s p'
  | [], _, _ => trivial
  | _ :: _, h, hq => ⟨(hq _ (Nat.lt_succ_self _)).trans h.1, pl_up h.2 (fun q h2 => hq q (Nat.lt_succ_of_lt h2))⟩
def factv (sm : mm_S) (i y d f : Int32) : Int32 := if f = 0 then i else if f = 1 then mm_G sm 4 i.toNatClampNeg else if f = 2 then mm_G sm 5 i.toNatClampNeg else if f = 3 then y - y / 10 * 10 else if f = 4 then (y / 10) - (y / 10) / 10 * 10 else d
def testv (sm : mm_S) (i y d t : Int32) : Bool := if (t / 100) - (t / 100) / 10 * 10 = 0 then !decide (t - t / 100 * 100 ≤ factv sm i y d (t / 1000)) else if (t / 100) - (t / 100) / 10 * 10 = 1 then decide (factv sm i y d (t / 1000) = t - t / 100 * 100) else !decide (factv sm i y d (t / 1000) ≤ t - t / 100 * 100)
/-- what a question leaves as it was -/
def mq (st st' : mm_S) : Prop := (∀ k, k ≠ 27 → mm_I st' k = mm_I st k) ∧ (∀ k j, k ≠ 25 → mm_G st' k j = mm_G st k j) ∧ ∀ k j, k ≠ 26 → k ≠ 28 → mm_L st' k j = mm_L st k j
theorem mq_rf {st : mm_S} : mq st st := ⟨fun _ _ => rfl, fun _ _ _ => rfl, fun _ _ _ _ => rfl⟩
theorem mq_tr {a b c : mm_S} (h : mq a b) (h2 : mq b c) : mq a c := ⟨fun k q => (h2.1 k q).trans (h.1 k q), fun k j q => (h2.2.1 k j q).trans (h.2.1 k j q), fun k j q r => (h2.2.2 k j q r).trans (h.2.2 k j q r)⟩
theorem mq_25 {a b : mm_S} {i : Nat} {v : Int32} (h : mq a b) : mq a (mm_sG b 25 i v) := mq_tr h ⟨fun _ _ => rfl, fun k j q => by rw [mG_sG, if_neg q], fun _ _ _ _ => rfl⟩
theorem mq_27 {a b : mm_S} {v : Int32} (h : mq a b) : mq a (mm_sI b 27 v) := mq_tr h ⟨fun k q => by rw [mI_sI, if_neg q], fun _ _ _ => rfl, fun _ _ _ _ => rfl⟩
theorem mq_26 {a b : mm_S} {i : Nat} {v : Int64} (h : mq a b) : mq a (mm_sL b 26 i v) := mq_tr h ⟨fun _ _ => rfl, fun _ _ _ => rfl, fun k j q _ => by rw [mL_sL, if_neg q]⟩
theorem mq_28 {a b : mm_S} {i : Nat} {v : Int64} (h : mq a b) : mq a (mm_sL b 28 i v) := mq_tr h ⟨fun _ _ => rfl, fun _ _ _ => rfl, fun k j _ q => by rw [mL_sL, if_neg q]⟩
theorem mq_Gf {a b : mm_S} (h : mq a b) {k : Nat} (hk : k ≠ 25) : mm_G b k = mm_G a k := funext fun j => h.2.1 k j hk
theorem factv_q {a b : mm_S} (h : mq a b) {i y d f : Int32} : factv b i y d f = factv a i y d f := by
  unfold factv
  rw [h.2.1 4 _ (by decide), h.2.1 5 _ (by decide)]
theorem testv_q {a b : mm_S} (h : mq a b) {i y d t : Int32} : testv b i y d t = testv a i y d t := by
  unfold testv
  rw [factv_q h]
theorem e_factOf (fu : Nat) {i : Nat} {f y d : Int32} {st : mm_S} (hi : i < 6) : M_factOf fu f (nI i) y d st = some (factv st (nI i) y d f, st) := by
  unfold M_factOf factv
  rw [nI_ix hi (by decide), gd_true, gd_true]
  split
  · rfl
  split
  · rfl
  split
  · rfl
  split
  · rfl
  split
  · rfl
  rfl
theorem wfn_h {h : Nat} {C : Nat → Int32} : ∀ {k a n m : Nat}, wfn h C a k n m → n ≤ h → m ≤ h
  | 0, _, _, _, e, l => by
    have e : _ = _ := e
    omega
  | k + 1, a, n, m, e, l => by
    unfold wfn at e
    split at e
    · exact wfn_h e.2 l
    · split at e
      · exact wfn_h e.2 (by omega)
      · exact wfn_h e.2 e.1
/-- what a worth leaves as it was -/
def mq5 (st st' : mm_S) : Prop := (∀ k, k + 1 ≠ 0 → mm_I st' k = mm_I st k) ∧ (∀ k j, k ≠ 25 → mm_G st' k j = mm_G st k j) ∧ ∀ k j, mm_L st' k j = mm_L st k j
theorem mq5_rf {st : mm_S} : mq5 st st := ⟨fun _ _ => rfl, fun _ _ _ => rfl, fun _ _ => rfl⟩
theorem mq5_25 {a b : mm_S} {i : Nat} {v : Int32} (h : mq5 a b) : mq5 a (mm_sG b 25 i v) := ⟨h.1, fun k j q => by rw [mG_sG, if_neg q]; exact h.2.1 k j q, h.2.2⟩
theorem mq5_Gf {a b : mm_S} (h : mq5 a b) {k : Nat} (hk : k ≠ 25) : mm_G b k = mm_G a k := funext fun j => h.2.1 k j hk
theorem mq5_I {a b : mm_S} (h : mq5 a b) (k : Nat) : mm_I b k = mm_I a k := by
  exact h.1 k (Nat.succ_ne_zero k)
theorem factv_q5 {a b : mm_S} (h : mq5 a b) {i y d f : Int32} : factv b i y d f = factv a i y d f := by
  unfold factv
  rw [h.2.1 4 _ (by decide), h.2.1 5 _ (by decide)]
/-! the reference's clause -/
def holdv (sm : mm_S) (i y d : Int32) (c : Nat) : List Bool := evn (testv sm i y d) (mm_G sm 19) (mm_G sm 17 c).toNatClampNeg ((mm_G sm 18 c).toNatClampNeg - (mm_G sm 17 c).toNatClampNeg) []
theorem h_holds (fu : Nat) (hfu : 700 < fu) {sm st0 : mm_S} {c i : Nat} {y d : Int32} (hq : mq5 sm st0) (hi : i < 6) (hc : c < 60) {f0 f1 : Nat} (h0 : mm_G sm 17 c = nI f0) (h1 : mm_G sm 18 c = nI f1) (h01 : f0 ≤ f1) (h16 : f1 ≤ 600) (hw : wfn 12 (mm_G sm 19) f0 (f1 - f0) 0 1) :
    fc_ok (M_holds fu (nI c) (nI i) y d st0) (fun q => ∃ b, holdv sm (nI i) y d c = [b] ∧ q.1 = bi b ∧ mq5 sm q.2) := by
  have hcn : (nI c).toNatClampNeg = c := nI_clamp (by omega)
  unfold M_holds
  refine ok_gd.mpr ⟨nI_ix hc (by decide), ?_⟩
  rw [nm_eq, hcn, hq.2.1 17 _ (by decide), h0]
  unfold M_holds_b11
  have hv : holdv sm (nI i) y d c = evn (testv sm (nI i) y d) (mm_G sm 19) f0 (f1 - f0) [] := by
    unfold holdv
    rw [h0, h1, nI_clamp (by omega), nI_clamp (by omega)]
  rw [hv]
  refine ok_lp (fun a => ∃ (j : Nat) (s : List Bool) (st : mm_S), a = (nI c, nI i, y, d, nI s.length, nI j, st) ∧ mq5 sm st ∧ j ≤ f1 ∧ s.length ≤ 12 ∧ wfn 12 (mm_G sm 19) j (f1 - j) s.length 1 ∧ pl s (mm_G st 25) ∧ evn (testv sm (nI i) y d) (mm_G sm 19) j (f1 - j) s = evn (testv sm (nI i) y d) (mm_G sm 19) f0 (f1 - f0) [])
    (fun a => f1 - a.2.2.2.2.2.1.toNatClampNeg) _ ?_ fu _ ⟨f0, [], st0, rfl, hq, h01, by simp, hw, trivial, rfl⟩ (by show f1 - _ < fu; omega)
  rintro a K ⟨j, s, st, rfl, hqs, hj, hs, hwj, hp, hev⟩ hK
  have hK : ∀ (s' : List Bool) (st' : mm_S), j < f1 → mq5 sm st' → s'.length ≤ 12 → wfn 12 (mm_G sm 19) (j + 1) (f1 - (j + 1)) s'.length 1 → pl s' (mm_G st' 25) → evn (testv sm (nI i) y d) (mm_G sm 19) (j + 1) (f1 - (j + 1)) s' = evn (testv sm (nI i) y d) (mm_G sm 19) j (f1 - j) s → fc_ok (K (nI c, nI i, y, d, nI s'.length, nI (j + 1), st')) (fun q => ∃ b, evn (testv sm (nI i) y d) (mm_G sm 19) f0 (f1 - f0) [] = [b] ∧ q.1 = bi b ∧ mq5 sm q.2) := by
    intro s' st' hlt a1 a2 a3 a4 a5
    refine hK _ ⟨j + 1, s', st', rfl, a1, hlt, a2, a3, a4, a5.trans hev⟩ ?_
    show f1 - (nI (j + 1)).toNatClampNeg < f1 - (nI j).toNatClampNeg
    rw [nI_clamp (by omega), nI_clamp (by omega)]
    omega
  show fc_ok (M_holds_b11F fu (fun x1 x2 x3 x4 x5 x6 st => K (x1, x2, x3, x4, x5, x6, st)) (nI c) (nI i) y d (nI s.length) (nI j) st) _
  unfold M_holds_b11F
  refine ok_gd.mpr ⟨nI_ix hc (by decide), ?_⟩
  rw [hcn, hqs.2.1 18 _ (by decide), h1]
  refine ok_if.mpr ⟨fun hle => ?_, fun hle => ?_⟩
  · rw [nI_le_iff (by omega) (by omega)] at hle
    have ej : j = f1 := by omega
    subst ej
    rw [Nat.sub_self] at hwj hev
    have hl : s.length = 1 := hwj
    obtain ⟨b, rfl⟩ := List.length_eq_one_iff.mp hl
    refine ok_gd.mpr ⟨nI_ix (a := 0) (by decide) (by decide), ?_⟩
    have e0 : mm_G st 25 (0 : Int32).toNatClampNeg = bi b := hp.1
    rw [e0]
    exact ok_gd.mpr ⟨bi_z, ok_some.mpr ⟨b, hev.symm, rfl, hqs⟩⟩
  · rw [nI_le_iff (by omega) (by omega)] at hle
    have hlt : j < f1 := by omega
    refine ok_gd.mpr ⟨nI_ix (by omega) (by decide), ?_⟩
    rw [nm_eq, nI_clamp (by omega), hqs.2.1 19 _ (by decide)]
    obtain ⟨k, hk⟩ : ∃ k, f1 - j = k + 1 := ⟨f1 - j - 1, by omega⟩
    have hk2 : f1 - (j + 1) = k := by omega
    rw [hk] at hwj hK
    rw [hk2] at hK
    unfold wfn at hwj
    have hev1 : ∀ s', evn (testv sm (nI i) y d) (mm_G sm 19) (j + 1) k s' = evn (testv sm (nI i) y d) (mm_G sm 19) j (k + 1) s ↔ evn (testv sm (nI i) y d) (mm_G sm 19) (j + 1) k s' = evn (testv sm (nI i) y d) (mm_G sm 19) (j + 1) k (ev1 (testv sm (nI i) y d) (mm_G sm 19 j) s) := fun s' => Iff.rfl
    generalize mm_G sm 19 j = t at hwj hev1 ⊢
    refine ok_if.mpr ⟨fun ht => ?_, fun ht => ?_⟩
    · subst ht
      rw [if_pos rfl] at hwj
      obtain ⟨b, r, rfl⟩ : ∃ b r, s = b :: r := by
        cases s with
        | nil => exact absurd hwj.1 (by simp)
        | cons b r => exact ⟨b, r, rfl⟩
      have e1 : nI (b :: r).length - 1 = nI r.length := nI_pred r.length
      have hrl : r.length < 12 := by have := hs; simp at this; omega
      rw [e1]
      refine ok_gd.mpr ⟨nI_ix (by omega) (by decide), ?_⟩
      rw [nI_clamp (by omega), hp.1]
      have hfin : ∀ v : Int32, v = bi (!b) → fc_ok (M_holds_b63 fu (fun x1 x2 x3 x4 x5 x6 st => K (x1, x2, x3, x4, x5, x6, st)) (nI c) (nI i) y d (nI (b :: r).length) (nI j) v (nI r.length) st) (fun q => ∃ b, evn (testv sm (nI i) y d) (mm_G sm 19) f0 (f1 - f0) [] = [b] ∧ q.1 = bi b ∧ mq5 sm q.2) := by
        rintro v rfl
        unfold M_holds_b63 M_holds_b249
        refine ok_gd.mpr ⟨nI_ix (by omega) (by decide), ?_⟩
        rw [nm_eq, nm_eq, nI_clamp (by omega), bi_n, nI_1]
        refine hK ((!b) :: r) _ hlt (mq5_25 hqs) hs hwj.2 ⟨?_, pl_up hp.2 (fun q hq => ?_)⟩ ((hev1 _).mpr ?_)
        · rw [mG_sG, if_pos rfl, if_pos rfl]
        · rw [mG_sG, if_pos rfl, if_neg (by omega)]
        · rfl
      refine ok_if.mpr ⟨fun hb => hfin _ ?_, fun hb => hfin _ ?_⟩
      · rw [bi_0.mp hb]; rfl
      · rw [bi_0] at hb
        cases b
        · exact absurd rfl hb
        · rfl
    · rw [if_neg ht] at hwj
      refine ok_if.mpr ⟨fun h0 => ?_, fun h0 => ?_⟩
      · have hn : ¬ t < 0 := by rw [Int32.lt_iff_toInt_lt]; rw [Int32.le_iff_toInt_le] at h0; omega
        rw [if_neg hn] at hwj
        rw [e_factOf fu hi, bn_some, nm_eq, factv_q5 hqs]
        have hfin : ∀ v : Int32, v = bi (testv sm (nI i) y d t) → fc_ok (M_holds_b245 fu (fun x1 x2 x3 x4 x5 x6 st => K (x1, x2, x3, x4, x5, x6, st)) (nI c) (nI i) y d (nI s.length) (nI j) v (nI s.length) st) (fun q => ∃ b, evn (testv sm (nI i) y d) (mm_G sm 19) f0 (f1 - f0) [] = [b] ∧ q.1 = bi b ∧ mq5 sm q.2) := by
          rintro v rfl
          unfold M_holds_b245 M_holds_b249
          refine ok_gd.mpr ⟨nI_ix (by omega) (by decide), ?_⟩
          rw [nm_eq, nm_eq, nm_eq, nI_clamp (by omega), bi_n, nI_1, nI_1]
          refine hK (testv sm (nI i) y d t :: s) _ hlt (mq5_25 hqs) hwj.1 hwj.2 ⟨?_, pl_up hp (fun q hq => ?_)⟩ ((hev1 _).mpr ?_)
          · rw [mG_sG, if_pos rfl, if_pos rfl]
          · rw [mG_sG, if_pos rfl, if_neg (by omega)]
          · unfold ev1
            rw [if_neg ht, if_neg hn]
        unfold testv at hfin
        refine ok_if.mpr ⟨fun hm => ?_, fun hm => ?_⟩
        · rw [if_pos hm] at hfin
          refine ok_if.mpr ⟨fun hx => hfin _ ?_, fun hx => hfin _ ?_⟩
          · rw [decide_eq_true hx]; rfl
          · rw [decide_eq_false hx]; rfl
        · rw [if_neg hm] at hfin
          refine ok_if.mpr ⟨fun hm => ?_, fun hm => ?_⟩
          · rw [if_pos hm] at hfin
            refine ok_if.mpr ⟨fun hx => hfin _ ?_, fun hx => hfin _ ?_⟩
            · rw [decide_eq_true hx]; rfl
            · rw [decide_eq_false hx]; rfl
          · rw [if_neg hm] at hfin
            refine ok_if.mpr ⟨fun hx => hfin _ ?_, fun hx => hfin _ ?_⟩
            · rw [decide_eq_true hx]; rfl
            · rw [decide_eq_false hx]; rfl
      · have hn : t < 0 := by rw [Int32.lt_iff_toInt_lt]; rw [Int32.le_iff_toInt_le] at h0; omega
        rw [if_pos hn] at hwj
        obtain ⟨b, a, r, rfl⟩ : ∃ b a r, s = b :: a :: r := by
          cases s with
          | nil => exact absurd hwj.1 (by simp)
          | cons b s => cases s with
            | nil => exact absurd hwj.1 (by simp)
            | cons a r => exact ⟨b, a, r, rfl⟩
        have e1 : nI (b :: a :: r).length + (-1) = nI (a :: r).length := by
          rw [← Int32.sub_eq_add_neg]
          exact nI_pred (a :: r).length
        have e2 : nI (a :: r).length - 1 = nI r.length := nI_pred r.length
        have hrl : r.length < 11 := by have := hs; simp at this; omega
        have hrl2 : (a :: r).length < 12 := by simp; omega
        have pa : mm_G st 25 r.length = bi a := hp.2.1
        have pb : mm_G st 25 (a :: r).length = bi b := hp.1
        rw [nm_eq, e1, e2, nI_clamp (show r.length < 2 ^ 31 by omega), nI_clamp (show (a :: r).length < 2 ^ 31 by omega), pa, pb]
        have hfin : ∀ v : Int32, v = bi (if t = -38 then a && b else a || b) → fc_ok (M_holds_b147 fu (fun x1 x2 x3 x4 x5 x6 st => K (x1, x2, x3, x4, x5, x6, st)) (nI c) (nI i) y d (nI (a :: r).length) (nI j) v (nI r.length) st) (fun q => ∃ b, evn (testv sm (nI i) y d) (mm_G sm 19) f0 (f1 - f0) [] = [b] ∧ q.1 = bi b ∧ mq5 sm q.2) := by
          rintro v rfl
          unfold M_holds_b147 M_holds_b249
          refine ok_gd.mpr ⟨nI_ix (by omega) (by decide), ?_⟩
          rw [nm_eq, nm_eq, nI_clamp (by omega), bi_n, nI_1]
          refine hK ((if t = -38 then a && b else a || b) :: r) _ hlt (mq5_25 hqs) (by simp; omega) hwj.2 ⟨?_, pl_up hp.2.2 (fun q hq => ?_)⟩ ((hev1 _).mpr ?_)
          · rw [mG_sG, if_pos rfl, if_pos rfl]
          · rw [mG_sG, if_pos rfl, if_neg (by omega)]
          · unfold ev1
            rw [if_neg ht, if_pos hn]
        refine ok_if.mpr ⟨fun hm => ?_, fun hm => ?_⟩
        · subst hm
          rw [if_pos rfl] at hfin
          refine ok_gd.mpr ⟨nI_ix (by omega) (by decide), ok_if.mpr ⟨fun ha => ?_, fun ha => ok_gd.mpr ⟨nI_ix (by omega) (by decide), ok_if.mpr ⟨fun hb => ?_, fun hb => ?_⟩⟩⟩⟩
          · unfold M_holds_b116
            exact hfin _ (by rw [bi_0.mp ha]; rfl)
          · unfold M_holds_b116
            exact hfin _ (by rw [bi_0.mp hb]; cases a <;> rfl)
          · rw [bi_0] at ha hb
            cases a
            · exact absurd rfl ha
            cases b
            · exact absurd rfl hb
            exact hfin _ rfl
        · rw [if_neg hm] at hfin
          refine ok_gd.mpr ⟨nI_ix (by omega) (by decide), ok_if.mpr ⟨fun ha => ok_gd.mpr ⟨nI_ix (by omega) (by decide), ok_if.mpr ⟨fun hb => ?_, fun hb => ?_⟩⟩, fun ha => ?_⟩⟩
          · exact hfin _ (by rw [bi_0.mp ha, bi_0.mp hb]; rfl)
          · unfold M_holds_b142
            rw [bi_0] at hb
            cases b
            · exact absurd rfl hb
            exact hfin _ (by cases a <;> rfl)
          · unfold M_holds_b142
            rw [bi_0] at ha
            cases a
            · exact absurd rfl ha
            exact hfin _ rfl
