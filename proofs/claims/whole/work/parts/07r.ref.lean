/-! REFERENCE: joinedAll -/
theorem bst_min {p : Nat → Bool} {S : Nat → Nat} {lo : Nat} : ∀ {n b : Nat}, bst p S lo n = some b → ∀ j, j < n → p j = true → lo < S j → S b ≤ S j
  | 0, _, h, _, _, _, _ => by cases h
  | n + 1, b, h, j, hj, hp, hl => by
    unfold bst at h
    by_cases h1 : p n = true ∧ lo < S n
    · rw [if_pos h1] at h
      cases h2 : bst p S lo n with
      | none =>
        rw [h2] at h
        cases h
        rcases Nat.lt_or_ge j n with q | q
        · exact absurd hl (bst_none h2 j q hp)
        · rw [show j = n by omega]; exact Nat.le_refl _
      | some c =>
        rw [h2] at h
        have ih := bst_min h2
        by_cases h3 : S n < S c
        · simp [h3] at h
          subst h
          rcases Nat.lt_or_ge j n with q | q
          · have := ih j q hp hl; omega
          · rw [show j = n by omega]; exact Nat.le_refl _
        · simp [h3] at h
          subst h
          rcases Nat.lt_or_ge j n with q | q
          · exact ih j q hp hl
          · rw [show j = n by omega]; omega
    · rw [if_neg h1] at h
      rcases Nat.lt_or_ge j n with q | q
      · exact bst_min h j q hp hl
      · have : j = n := by omega
        subst this
        exact absurd ⟨hp, hl⟩ h1
/-- the reference's run over the siblings by their stamps -/
def rj (x : eKS) (s kd r : Nat) : Nat → Nat × (Int64 × Bool)
  | 0 => (0, (0, false))
  | i + 1 => match bst (kS x (4 + s)) (kSt x) (rj x s kd r i).1 160 with
    | some b => (kSt x b, if i = 0 then (kV x b, (rj x s kd r i).2.2) else jn kd r (rj x s kd r i).2 (kV x b))
    | none => rj x s kd r i
/-- stamps are distinct among the written -/
def dst (x : eKS) : Prop := ∀ i j, i < 160 → j < 160 → cov (kM x) i = true → cov (kM x) j = true → kSt x i = kSt x j → i = j
def abv (x : eKS) (s lo j : Nat) : Bool := decide (j < 160) && (kS x (4 + s) j && decide (lo < kSt x j))
theorem abv_next {x : eKS} {s lo b : Nat} (hm : mst x s) (hd : dst x) (h : bst (kS x (4 + s)) (kSt x) lo 160 = some b) : ct (abv x s (kSt x b)) 160 + 1 = ct (abv x s lo) 160 := by
  obtain ⟨b1, b2', b3⟩ := bst_in h
  refine ct_less (b := b) ?_ ?_ (fun j hj => ?_) 160 b1
  · unfold abv; simp [b1, b2', b3]
  · unfold abv; simp
  · unfold abv
    by_cases h1 : j < 160
    · cases h2 : kS x (4 + s) j
      · simp
      · have e : (kSt x b < kSt x j) ↔ lo < kSt x j := by
          constructor
          · intro q; omega
          · intro q
            have h3 := bst_min h j h1 h2 q
            rcases Nat.lt_or_ge (kSt x b) (kSt x j) with g | g
            · exact g
            · exact absurd (hd b j b1 h1 (hm.1 b b1 b2') (hm.1 j h1 h2) (by omega)).symm hj
        simp [e]
    · simp [h1]
theorem rj_ct {x : eKS} {s kd r : Nat} (hm : mst x s) (hd : dst x) : ∀ i, i ≤ ct (kS x (4 + s)) 160 → ct (abv x s (rj x s kd r i).1) 160 + i = ct (kS x (4 + s)) 160 ∧ (rj x s kd r i).1 < 2 ^ 31
  | 0, _ => by
    refine ⟨?_, by show 0 < 2 ^ 31; decide⟩
    show ct (abv x s 0) 160 + 0 = _
    rw [Nat.add_zero]
    refine ct_cong (fun j hj => ?_)
    unfold abv
    cases h2 : kS x (4 + s) j
    · simp
    · have := (hm.2 j hj (hm.1 j hj h2)).1
      simp [hj, this]
  | i + 1, hi => by
    obtain ⟨ih, ih2⟩ := rj_ct (kd := kd) (r := r) hm hd i (by omega)
    cases e : bst (kS x (4 + s)) (kSt x) (rj x s kd r i).1 160 with
    | none =>
      obtain ⟨j, j1, j2⟩ := ct_pos (p := abv x s (rj x s kd r i).1) (n := 160) (by omega)
      unfold abv at j2
      rw [Bool.and_eq_true, Bool.and_eq_true] at j2
      exact absurd (of_decide_eq_true j2.2.2) (bst_none e j j1 j2.2.1)
    | some b =>
      have h1 := abv_next hm hd e
      obtain ⟨b1, b2', _⟩ := bst_in e
      have h2 : (rj x s kd r (i + 1)).1 = kSt x b := by
        show (match bst (kS x (4 + s)) (kSt x) (rj x s kd r i).1 160 with | some b => _ | none => _ : Nat × (Int64 × Bool)).1 = _
        rw [e]
      rw [h2]
      exact ⟨by omega, (hm.2 b b1 (hm.1 b b1 b2')).2⟩
theorem rj_some {x : eKS} {s kd r i : Nat} (hm : mst x s) (hd : dst x) (hi : i < ct (kS x (4 + s)) 160) : ∃ b, bst (kS x (4 + s)) (kSt x) (rj x s kd r i).1 160 = some b ∧ rj x s kd r (i + 1) = (kSt x b, if i = 0 then (kV x b, (rj x s kd r i).2.2) else jn kd r (rj x s kd r i).2 (kV x b)) := by
  cases e : bst (kS x (4 + s)) (kSt x) (rj x s kd r i).1 160 with
  | none =>
    have := (rj_ct (kd := kd) (r := r) hm hd i (by omega)).1
    obtain ⟨j, j1, j2⟩ := ct_pos (p := abv x s (rj x s kd r i).1) (n := 160) (by omega)
    unfold abv at j2
    rw [Bool.and_eq_true, Bool.and_eq_true] at j2
    exact absurd (of_decide_eq_true j2.2.2) (bst_none e j j1 j2.2.1)
  | some b =>
    refine ⟨b, rfl, ?_⟩
    show (match bst (kS x (4 + s)) (kSt x) (rj x s kd r i).1 160 with | some b => _ | none => _ : Nat × (Int64 × Bool)) = _
    rw [e]
/-! the class's merger comes to the same -/
theorem neg_bit (x : Int64) : (x < 0) ↔ g64 x 63 = true := by
  rw [Int64.lt_iff_toInt_lt, Int64.toInt_zero]
  show x.toBitVec.toInt < 0 ↔ x.toBitVec.getLsbD 63 = true
  have h := BitVec.msb_eq_toInt (x := x.toBitVec)
  rw [BitVec.msb_eq_getLsbD_last] at h
  rw [show (64 - 1 : Nat) = 63 from rfl] at h
  rw [h, decide_eq_true_eq]
theorem neg_dec (x : Int64) : decide (x < 0) = g64 x 63 := by
  apply Bool.eq_iff_iff.mpr
  rw [decide_eq_true_eq]
  exact neg_bit x
theorem ovf_eq (a v : Int64) : (!decide ((0 : Int32) ≤ lg_cmp ((a ^^^ (a + v)) &&& (v ^^^ (a + v))) 0)) = ovf a v := by
  have e : ((0 : Int32) ≤ lg_cmp ((a ^^^ (a + v)) &&& (v ^^^ (a + v))) 0) ↔ ¬ ((a ^^^ (a + v)) &&& (v ^^^ (a + v)) < 0) := by
    rw [lg_ge0, Int64.not_lt]
  rw [decide_eq_decide.mpr e, decide_not, Bool.not_not]
  unfold ovf
  generalize a + v = c
  rw [neg_dec, neg_dec a, neg_dec v, neg_dec c, g_and, g_xor, g_xor]
  generalize g64 a 63 = p
  generalize g64 v 63 = q
  generalize g64 c 63 = r
  cases p <;> cases q <;> cases r <;> rfl
def VR (kd r : Nat) (z a : Int64 × Bool) : Prop := z.1 = (if r = 3 ∧ kd = 0 then nab a.1 else a.1) ∧ z.2 = a.2
theorem mAdd_30 (z : Int64 × Bool) (v : Int64) : mAdd 0 3 z v = (gcdL z.1 (nab v), z.2) := by
  unfold mAdd nab
  rw [if_neg (show ¬ (3 : Nat) = 0 by decide), if_neg (show ¬ (3 : Nat) = 1 by decide), if_neg (show ¬ (3 : Nat) = 2 by decide), if_pos rfl, if_neg (show ¬ (0 : Nat) = 1 by decide)]
theorem jn_30 (z : Int64 × Bool) (v : Int64) : jn 0 3 z v = (gcdL (nab z.1) (nab v), z.2) := by
  unfold jn
  rw [if_neg (show ¬ (3 : Nat) = 0 by decide), if_neg (show ¬ (3 : Nat) = 1 by decide), if_neg (show ¬ (3 : Nat) = 2 by decide), if_pos rfl, if_neg (show ¬ (0 : Nat) = 1 by decide)]
theorem VR_130 (v : Int64) : VR 0 3 (mAdd 0 3 (mBeg 0 3, false) v) (v, false) := by
  rw [mAdd_30]
  refine ⟨?_, rfl⟩
  rw [if_pos ⟨rfl, rfl⟩]
  exact gcd_0 (nab v)
theorem VR_1 {kd r : Nat} (hkd : kd < 2) (hr : r < 5) (v : Int64) : VR kd r (mAdd kd r (mBeg kd r, false) v) (v, false) := by
  have hc : r = 0 ∨ r = 1 ∨ r = 2 ∨ r = 3 ∨ r = 4 := by omega
  have hk : kd = 0 ∨ kd = 1 := by omega
  rcases hc with rfl | rfl | rfl | rfl | rfl
  · refine ⟨?_, rfl⟩
    show e_maxL (-9223372036854775808) v = v
    unfold e_maxL
    refine if_neg (fun q => ?_)
    have h1 := Int64.lt_iff_toInt_lt.mp q
    have h2 := Int64.le_toInt v
    rw [show (-9223372036854775808 : Int64).toInt = -9223372036854775808 by decide +kernel] at h1
    omega
  · refine ⟨?_, rfl⟩
    show e_minL 9223372036854775807 v = v
    unfold e_minL
    by_cases q : v < 9223372036854775807
    · exact if_pos q
    · rw [if_neg q]
      refine Int64.toInt_inj.mp ?_
      have h1 : ¬ v.toInt < (9223372036854775807 : Int64).toInt := fun e => q (Int64.lt_iff_toInt_lt.mpr e)
      have h2 := Int64.toInt_lt v
      rw [show (9223372036854775807 : Int64).toInt = 9223372036854775807 by decide +kernel] at h1 ⊢
      omega
  · rcases hk with rfl | rfl
    · refine ⟨Int64.zero_add v, ?_⟩
      show (false || !decide ((0 : Int32) ≤ lg_cmp ((0 ^^^ (0 + v)) &&& (v ^^^ (0 + v))) 0)) = false
      rw [ovf_eq, Bool.false_or]
      unfold ovf
      rw [Int64.zero_add, decide_eq_false (show ¬ (0 : Int64) < 0 by decide)]
      cases decide (v < 0) <;> rfl
    · exact ⟨Int64.zero_or, rfl⟩
  · rcases hk with rfl | rfl
    · exact VR_130 v
    · refine ⟨?_, rfl⟩
      show (-1 : Int64) &&& v = v
      refine g_ext (fun i hi => ?_)
      rw [g_and, g_m1 i hi, Bool.true_and]
  · exact ⟨rfl, rfl⟩
theorem VR_s {kd r : Nat} (hkd : kd < 2) (hr : r < 5) {z a : Int64 × Bool} (h : VR kd r z a) (v : Int64) : VR kd r (mAdd kd r z v) (jn kd r a v) := by
  obtain ⟨h1, h2⟩ := h
  have hc : r = 0 ∨ r = 1 ∨ r = 2 ∨ r = 3 ∨ r = 4 := by omega
  have hk : kd = 0 ∨ kd = 1 := by omega
  rcases hc with rfl | rfl | rfl | rfl | rfl
  · have h1' : z.1 = a.1 := h1
    refine ⟨?_, h2⟩
    show e_maxL z.1 v = (if lg_cmp a.1 v ≤ 0 then v else a.1)
    unfold e_maxL
    rw [h1']
    by_cases q : v < a.1
    · rw [if_pos q, if_neg (fun e => absurd ((lg_le0 _ _).mp e) (Int64.not_le.mpr q))]
    · rw [if_neg q, if_pos ((lg_le0 _ _).mpr (Int64.not_lt.mp q))]
  · have h1' : z.1 = a.1 := h1
    refine ⟨?_, h2⟩
    show e_minL z.1 v = (if (0 : Int32) ≤ lg_cmp a.1 v then v else a.1)
    unfold e_minL
    rw [h1']
    by_cases q : v < a.1
    · rw [if_pos q, if_pos ((lg_ge0 _ _).mpr (Int64.le_of_lt q))]
    · rw [if_neg q]
      by_cases q2 : v ≤ a.1
      · rw [if_pos ((lg_ge0 _ _).mpr q2)]
        exact Int64.le_antisymm (Int64.not_lt.mp q) q2
      · rw [if_neg (fun e => q2 ((lg_ge0 _ _).mp e))]
  · have h1' : z.1 = a.1 := h1
    rcases hk with rfl | rfl
    · refine ⟨?_, ?_⟩
      · show z.1 + v = a.1 + v
        rw [h1']
      · show (z.2 || !decide ((0 : Int32) ≤ lg_cmp ((z.1 ^^^ (z.1 + v)) &&& (v ^^^ (z.1 + v))) 0)) = (a.2 || ovf a.1 v)
        rw [ovf_eq, h1', h2]
    · refine ⟨?_, h2⟩
      show z.1 ||| v = a.1 ||| v
      rw [h1']
  · rcases hk with rfl | rfl
    · rw [if_pos ⟨rfl, rfl⟩] at h1
      rw [mAdd_30, jn_30]
      unfold VR
      rw [if_pos ⟨rfl, rfl⟩]
      refine ⟨?_, h2⟩
      show gcdL z.1 (nab v) = _
      rw [h1]
      exact (nab_id (gcd_np a.1 v)).symm
    · have h1' : z.1 = a.1 := h1
      refine ⟨?_, h2⟩
      show z.1 &&& v = a.1 &&& v
      rw [h1']
  · exact ⟨rfl, h2⟩
theorem bl_rj {x : eKS} {s kd r : Nat} (hm : mst x s) (hd : dst x) (hkd : kd < 2) (hr : r < 5) : ∀ i, i < ct (kS x (4 + s)) 160 → (bl x s kd r i).1 = (rj x s kd r i).1 ∧ (bl x s kd r (i + 1)).1 = (rj x s kd r (i + 1)).1 ∧ VR kd r (bl x s kd r (i + 1)).2 (rj x s kd r (i + 1)).2
  | 0, hi => by
    obtain ⟨b, e1, e2⟩ := rj_some (kd := kd) (r := r) hm hd hi
    have e3 : bl x s kd r 1 = (kSt x b, mAdd kd r (mBeg kd r, false) (kV x b)) := by
      show (match bst (kS x (4 + s)) (kSt x) 0 160 with | some b => _ | none => _ : Nat × (Int64 × Bool)) = _
      rw [show bst (kS x (4 + s)) (kSt x) 0 160 = some b from e1]
      rfl
    rw [e2, e3]
    exact ⟨rfl, rfl, VR_1 hkd hr _⟩
  | i + 1, hi => by
    obtain ⟨_, h1, h2⟩ := bl_rj hm hd hkd hr i (by omega)
    obtain ⟨b, e1, e2⟩ := rj_some (kd := kd) (r := r) hm hd hi
    have e3 : bl x s kd r (i + 1 + 1) = (kSt x b, mAdd kd r (bl x s kd r (i + 1)).2 (kV x b)) := by
      show (match bst (kS x (4 + s)) (kSt x) (bl x s kd r (i + 1)).1 160 with | some b => _ | none => _ : Nat × (Int64 × Bool)) = _
      rw [h1, e1]
    rw [e2, e3]
    refine ⟨h1, rfl, ?_⟩
    rw [if_neg (by omega)]
    exact VR_s hkd hr h2 _
section RALL
variable {B : Nat} {I : Nat → Nat → Int32} {J : Nat → Nat → Int64} {x : eKS} {k r s kd i m lo : Nat} {v : Int64}
/-- the next one by stamp, then on -/
theorem y_next {N : Nat} {K : Nat → Int32 → Int32 → Int32 → Int64 → Int32 → Int32 → Int32 → eH → Option (Int64 × eH)} (hN : 300 < N) (hk : k < 4) (hs : s < 4) (h : MoK k I J x) (hm : mst x s) (hlo : lo < 2 ^ 31) (hr : r < 5) (hkd : kd < 2) (h1 : I 126 k = nI kd) {o : Bool} (h2 : I 125 35 = b2 o) {b : Nat} (hb1 : bst (kS x (4 + s)) (kSt x) lo 160 = some b) (all : Int64) (hi : i < 2 ^ 31) : L_X12_joinedAll_40 N K (B + 125) (nI s) (nI k) (nI r) all (nI lo) (nI m) (nI i) (-9) (nI (164 * k)) (HP B I J) = K (B + 125) (nI s) (nI k) (nI r) (if i = 0 then (kV x b, o) else jn kd r (all, o) (kV x b)).1 (nI (kSt x b)) (nI m) (nI (i + 1)) (HP B (w2 I 125 35 (b2 (if i = 0 then (kV x b, o) else jn kd r (all, o) (kV x b)).2)) J) := by
  obtain ⟨b1, b2', b3⟩ := bst_in hb1
  have hp := plp_lt b1
  have hc := hm.1 b b1 b2'
  obtain ⟨g1, g2, g3⟩ := h.2.2.2.2.2 b b1 hc
  unfold L_X12_joinedAll_40
  have e1 := e_loop_f (body := fun (k : Nat × Int32 × Int32 × Int32 × Int64 × Int32 × Int32 × Int32 × Int32 × Int32 × eH → Option (Int64 × eH)) s => F_X12_joinedAll_40b N K (fun l0 l1 l2 l3 l4 l6 l7 l8 l9 l10 h => k (l0, l1, l2, l3, l4, l6, l7, l8, l9, l10, h)) s.1 s.2.1 s.2.2.1 s.2.2.2.1 s.2.2.2.2.1 s.2.2.2.2.2.1 s.2.2.2.2.2.2.1 s.2.2.2.2.2.2.2.1 s.2.2.2.2.2.2.2.2.1 s.2.2.2.2.2.2.2.2.2.1 s.2.2.2.2.2.2.2.2.2.2) (fun p0 => (B + 125, nI s, nI k, nI r, all, nI lo, nI m, nI i, en9 k (bst (plc (kS x (4 + s))) (fun m => kSt x (plj m)) lo p0), nI (164 * k + p0), HP B I J)) 164 (N := N) (fun p0 h0p k0 => by
    show F_X12_joinedAll_40b N K _ (B + 125) (nI s) (nI k) (nI r) (all) (nI lo) (nI m) (nI i) (en9 k (bst (plc (kS x (4 + s))) (fun m => kSt x (plj m)) lo p0)) (nI (164 * k + p0)) (HP B I J) = k0 _
    unfold F_X12_joinedAll_40b
    simp only [n_164, n_p164, if_neg (k164_ge k h0p hk), M_gr14, M_gr7, R_ai135 (show 164 * k + p0 < 656 by omega), R_ai128 (show 164 * k + p0 < 656 by omega), Y_beside h h0p, Option.bind_some, hb_has _ hs, e_bind_some, b2_0, F_X12_joinedAll_84, F_X12_joinedAll_85, F_X12_joinedAll_121, F_X12_joinedAll_116, F_X12_joinedAll_123, nI_1, if_true, if_neg (show ¬ (1 : Int32) = 0 by decide)]
    cases hp : plc (kS x (4 + s)) p0
    · rw [if_pos rfl, show bst (plc (kS x (4 + s))) (fun m => kSt x (plj m)) lo (p0 + 1) = bst (plc (kS x (4 + s))) (fun m => kSt x (plj m)) lo p0 by simp [bst, hp]]; rfl
    · obtain ⟨a1, a2, a3⟩ := Y_stampP h hm h0p hp
      rw [if_neg (by decide), a1]
      simp only [nI_leI a3 hlo]
      by_cases hl : kSt x (plj p0) ≤ lo
      · rw [if_pos hl, show bst (plc (kS x (4 + s))) (fun m => kSt x (plj m)) lo (p0 + 1) = bst (plc (kS x (4 + s))) (fun m => kSt x (plj m)) lo p0 by simp [bst, Nat.not_lt.mpr hl]]; rfl
      · rw [if_neg hl]
        have hl2 : lo < kSt x (plj p0) := by omega
        cases h3 : bst (plc (kS x (4 + s))) (fun m => kSt x (plj m)) lo p0 with
        | none => simp [en9, bst, hp, h3, hl2, Nat.add_assoc]
        | some c =>
          obtain ⟨c1, c2, c3⟩ := bst_in h3
          obtain ⟨d1, d2, d3⟩ := Y_stampP h hm (show c < 164 by omega) c2
          simp only [en9, if_neg (nI_m9 (show 164 * k + c < 2 ^ 31 by omega)), R_ai128 (show 164 * k + c < 656 by omega), Option.bind_some, d1, nI_leI d3 a3]
          by_cases h4 : kSt x (plj c) ≤ kSt x (plj p0)
          · rw [if_pos h4]; simp [bst, hp, h3, hl2, Nat.not_lt.mpr h4, Nat.add_assoc]
          · rw [if_neg h4]; simp [bst, hp, h3, hl2, Nat.lt_of_not_le h4, Nat.add_assoc]) (by omega)
  refine Eq.trans e1 ?_
  show F_X12_joinedAll_40b N K _ (B + 125) (nI s) (nI k) (nI r) (all) (nI lo) (nI m) (nI i) (en9 k (bst (plc (kS x (4 + s))) (fun m => kSt x (plj m)) lo 164)) (nI (164 * k + 164)) (HP B I J) = _
  unfold F_X12_joinedAll_40b
  rw [n_164, n_p164, if_pos (k164_n k hk), bst_pl (kS x (4 + s)) (kSt x) lo (fun _ _ => rfl) 164, plj_164, hb1]
  have hP : 164 * k + plp b < 656 := by omega
  have yj := y_joined (B := B) (J := J) (N := N) (z := (all, o)) (v := kV x b) (show 200 < N by omega) hk hr hkd h1 h2
  simp only [Option.map_some, en9, M_gr6, M_gr7, R_ai128 hP, R_al127 hP, g1, g2, Option.bind_some, F_X12_joinedAll_170, M_is, nI_1]
  by_cases q : i = 0
  · simp only [q, if_true, if_pos nI_0]
    rw [w2_id h2.symm]
  · have : ¬ nI i = 0 := nI_ne0 (by omega) hi
    simp only [if_neg this, if_neg q]
    rw [yj, e_bind_some]

theorem y_all {N : Nat} (hN : 300 < N) (hk : k < 4) (hs : s < 4) (h : MoK k I J x) (hm : mst x s) (hd : dst x) (hr : r < 5) (hkd : kd < 2) (h1 : I 126 k = nI kd) (hE : 0 < ct (kS x (4 + s)) 160) : F_X12_joinedAll N (B + 125) (nI s) (nI k) (nI r) (HP B I J) = some ((mEnd kd r (bl x s kd r (ct (kS x (4 + s)) 160)).2).1, HP B (w2 I 125 35 (b2 (mEnd kd r (bl x s kd r (ct (kS x (4 + s)) 160)).2).2)) J) := by
  have hle := ct_le (kS x (4 + s)) 160
  obtain ⟨E, hEd⟩ : ∃ E, E = ct (kS x (4 + s)) 160 := ⟨_, rfl⟩
  have hK : ∀ v, MoK k (w2 I 125 35 v) J x := fun v => MoK_id h (fun c _ _ z => w2_c _ _ (by omega)) (fun _ => rfl)
  have g126 : ∀ v, w2 I 125 35 v 126 k = nI kd := fun v => (w2_c _ _ (by decide)).trans h1
  have hrun : L_X12_joinedAll_22 N (B + 125) (nI s) (nI k) (nI r) 0 0 (nI E) 0 (HP B (w2 I 125 35 0) J) = some ((mEnd kd r (bl x s kd r E).2).1, HP B (w2 I 125 35 (b2 (mEnd kd r (bl x s kd r E).2).2)) J) := by
    unfold L_X12_joinedAll_22
    have e1 := e_loop_f (body := fun (k : Nat × Int32 × Int32 × Int32 × Int64 × Int32 × Int32 × Int32 × eH → Option (Int64 × eH)) s => F_X12_joinedAll_22b N (fun l0 l1 l2 l3 l4 l6 l7 l8 h => k (l0, l1, l2, l3, l4, l6, l7, l8, h)) s.1 s.2.1 s.2.2.1 s.2.2.2.1 s.2.2.2.2.1 s.2.2.2.2.2.1 s.2.2.2.2.2.2.1 s.2.2.2.2.2.2.2.1 s.2.2.2.2.2.2.2.2) (fun i => (B + 125, nI s, nI k, nI r, (rj x s kd r i).2.1, nI (rj x s kd r i).1, nI E, nI i, HP B (w2 I 125 35 (b2 (rj x s kd r i).2.2)) J)) (E) (N := N) (fun i hi k0 => by
      show F_X12_joinedAll_22b N _ (B + 125) (nI s) (nI k) (nI r) ((rj x s kd r i).2.1) (nI (rj x s kd r i).1) (nI E) (nI i) (HP B (w2 I 125 35 (b2 (rj x s kd r i).2.2)) J) = k0 _
      unfold F_X12_joinedAll_22b
      obtain ⟨b, e1, e2⟩ := rj_some (kd := kd) (r := r) hm hd (show i < ct (kS x (4 + s)) 160 by omega)
      have hlt := (rj_ct (kd := kd) (r := r) hm hd i (by omega)).2
      rw [if_neg (nI_ge hi (by omega)), n_164, e_let, y_next hN hk hs (hK _) hm hlt hr hkd (g126 _) (w2_s _ _ _ _) e1 _ (by omega), w2_w2, e2]) (by omega)
    refine Eq.trans e1 ?_
    show F_X12_joinedAll_22b N _ (B + 125) (nI s) (nI k) (nI r) ((rj x s kd r E).2.1) (nI (rj x s kd r E).1) (nI E) (nI E) (HP B (w2 I 125 35 (b2 (rj x s kd r E).2.2)) J) = _
    unfold F_X12_joinedAll_22b
    rw [if_pos (Int32.le_refl _)]
    obtain ⟨E2, hE2⟩ : ∃ E2, E = E2 + 1 := ⟨E - 1, by omega⟩
    obtain ⟨_, _, v1, v2⟩ := bl_rj (kd := kd) (r := r) hm hd hkd hr E2 (by omega)
    rw [← hE2] at v1 v2
    obtain ⟨a, ha⟩ : ∃ a, a = (rj x s kd r E).2 := ⟨_, rfl⟩
    obtain ⟨z, hz⟩ : ∃ z, z = (bl x s kd r E).2 := ⟨_, rfl⟩
    rw [← ha, ← hz] at v1 v2
    rw [← ha, ← hz]
    have hnab : ∀ hh, (if lg_cmp a.1 0 ≤ 0 then F_X12_joinedAll_207 N (B + 125) a.1 hh else F_X12_joinedAll_207 N (B + 125) (-a.1) hh) = F_X12_joinedAll_207 N (B + 125) (nab a.1) hh := by
      intro hh
      unfold nab
      split <;> rfl
    simp only [M_gr4, Option.bind_some, R_ai126 hk, g126, hnab]
    unfold mEnd
    by_cases q : r = 3
    · rw [if_pos (by rw [q]; rfl), if_pos q]
      by_cases q2 : kd = 0
      · rw [if_pos (by rw [q2]; rfl), if_pos q2]
        have z1 : z.1 = nab a.1 := by rw [v1, if_pos ⟨q, q2⟩]
        rw [← z1]
        unfold F_X12_joinedAll_207 F_X12_joinedAll_224
        simp only [M_pz35 (Or.inl rfl), M_pz35 (Or.inr rfl), Option.bind_some, e_let, w2_w2]
        by_cases q3 : z.1 = -9223372036854775808
        · rw [if_pos ((lg_cmp0 _ _).mpr q3), decide_eq_true q3]; rfl
        · rw [if_neg (fun e => q3 ((lg_cmp0 _ _).mp e)), decide_eq_false q3]; rfl
      · rw [if_neg (nI_ne0 (by omega) (by omega)), if_neg q2]
        rw [v1, v2, if_neg (fun e => q2 e.2)]
    · rw [if_neg (show ¬ nI r = 3 from fun e => q ((nI_eq (a := r) (b := 3) (by omega) (by decide)).mp e)), if_neg q]
      rw [v1, v2, if_neg (fun e => q e.1)]
  have hz := y_siblings (B := B) (show 200 < N by omega) hk hs (hK 0)
  unfold F_X12_joinedAll
  simp only [M_pz35 (Or.inl rfl), Option.bind_some, M_is, hz, e_bind_some, ← hEd]
  exact hrun
end RALL
