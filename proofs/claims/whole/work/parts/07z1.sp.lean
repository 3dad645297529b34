/-! SPREAD of the reference: what sets of sites are together -/
def rsN (A s : Nat) : Nat := st4 (fun u => A.testBit u && !decide (u = s))
theorem rs_I {A s : Nat} (hA : A < 16) (hs : s < 4) : nI A &&& (((1 : Int32) <<< (nI s &&& 31)) ^^^ (-1)) = nI (rsN A s) := by
  have key : ∀ A, A < 16 → ∀ s, s < 4 → nI A &&& (((1 : Int32) <<< (nI s &&& 31)) ^^^ (-1)) = nI (rsN A s) := by unfold rsN st4; decide +kernel
  exact key A hA s hs
def hiN (A : Nat) : Nat := if 8 ≤ A then 3 else if 4 ≤ A then 2 else if 2 ≤ A then 1 else 0
theorem hiN_b : ∀ A, A < 16 → 0 < A → A.testBit (hiN A) = true ∧ hiN A < 4 ∧ ∀ s, s < 4 → hiN A < s → A.testBit s = false := by
  unfold hiN
  decide +kernel
theorem hiN_n : ∀ n, n < 5 → ∀ A, A < 2 ^ n → 0 < A → hiN A < n := by
  unfold hiN
  decide +kernel
theorem rsN_lt : ∀ A, A < 16 → 0 < A → rsN A (hiN A) < A := by
  unfold rsN st4 hiN
  decide +kernel
/-- the greatest number of a set's sites -/
def mxr (y : eKS) (A t : Nat) : Nat := max (max (if A.testBit 0 = true then kR y 0 t else 0) (if A.testBit 1 = true then kR y 1 t else 0)) (max (if A.testBit 2 = true then kR y 2 t else 0) (if A.testBit 3 = true then kR y 3 t else 0))
/-- one bit of a set's siblings: number b of site t -/
def sbt (y : eKS) (A t b : Nat) : Bool := decide (1 ≤ b) && decide (b ≤ kM y t) && (cvb y A (40 * t + (b - 1)) && !gnb y A (40 * t + (b - 1)))
section SPR
variable {B N : Nat} {I I2 : Nat → Nat → Int32} {J J2 : Nat → Nat → Int64} {x : eST} {y : eKS} {n A C k s t o f l X Y i d T m : Nat} {u v : Int32}
theorem mxr_iff (hi : i < 40) (ht : t < 4) : cvb y A (40 * t + i) = decide (i < mxr y A t) := by
  unfold cvb mxr
  rw [cov_ti _ hi, cov_ti _ hi, cov_ti _ hi, cov_ti _ hi]
  apply Bool.eq_iff_iff.mpr
  simp only [Bool.or_eq_true, Bool.and_eq_true, decide_eq_true_eq]
  cases A.testBit 0 <;> cases A.testBit 1 <;> cases A.testBit 2 <;> cases A.testBit 3 <;> simp only [Bool.false_eq_true, false_and, true_and, if_true, if_false, false_or, or_false] <;> first | omega | simp
theorem mxr_le (h : ∀ o, o < 4 → kR y o t ≤ m) : mxr y A t ≤ m := by
  have h0 := h 0 (by decide)
  have h1 := h 1 (by decide)
  have h2 := h 2 (by decide)
  have h3 := h 3 (by decide)
  unfold mxr
  split <;> split <;> split <;> split <;> omega
theorem rs_b (hA : A < 16) (hu : o < 4) : (rsN A s).testBit o = (A.testBit o && !decide (o = s)) := st4_b _ hu
theorem rs_cv (hs : s < 4) (hA : A < 16) (hb1 : A.testBit s = true) (j : Nat) : cvb y A j = (cvb y (rsN A s) j || cov (kR y s) j) := by
  apply Bool.eq_iff_iff.mpr
  rw [Bool.or_eq_true, cvb_iff, cvb_iff]
  constructor
  · intro ⟨o, ho, o1, o2⟩
    by_cases e : o = s
    · subst e; exact Or.inr o2
    · exact Or.inl ⟨o, ho, by rw [rs_b hA ho, o1, decide_eq_false e]; rfl, o2⟩
  · intro h
    rcases h with ⟨o, ho, o1, o2⟩ | h
    · rw [rs_b hA ho, Bool.and_eq_true] at o1
      exact ⟨o, ho, o1.1, o2⟩
    · exact ⟨s, hs, hb1, h⟩
theorem rs_gn (hs : s < 4) (hA : A < 16) (hb1 : A.testBit s = true) (j : Nat) : gnb y A j = (gnb y (rsN A s) j || gon y s j) := by
  apply Bool.eq_iff_iff.mpr
  rw [Bool.or_eq_true, gnb_iff, gnb_iff]
  constructor
  · intro ⟨o, ho, o1, o2⟩
    by_cases e : o = s
    · subst e; exact Or.inr o2
    · exact Or.inl ⟨o, ho, by rw [rs_b hA ho, o1, decide_eq_false e]; rfl, o2⟩
  · intro h
    rcases h with ⟨o, ho, o1, o2⟩ | h
    · rw [rs_b hA ho, Bool.and_eq_true] at o1
      exact ⟨o, ho, o1.1, o2⟩
    · exact ⟨s, hs, hb1, h⟩
theorem gn_cv {j : Nat} (h : gnb y A j = true) : cvb y A j = true := by
  obtain ⟨o, ho, o1, o2⟩ := gnb_iff.mp h
  unfold gon at o2
  rw [Bool.and_eq_true] at o2
  exact cvb_iff.mpr ⟨o, ho, o1, o2.1⟩
/-- bits laid one by one -/
def hrq (q : Nat → Bool) : Nat → Int64
  | 0 => 0
  | i + 1 => hrq q i ||| (if q i = true then (1 : Int64) <<< ((nI (i + 1)).toInt64 &&& 63) else 0)
theorem g_one : ∀ n, n < 64 → ∀ i, i < 64 → g64 ((1 : Int64) <<< ((nI n).toInt64 &&& 63)) i = decide (i = n) := by decide +kernel
theorem g_hrq {q : Nat → Bool} {b : Nat} (hb1 : b < 64) : ∀ m, m < 63 → g64 (hrq q m) b = (decide (1 ≤ b) && decide (b ≤ m) && q (b - 1))
  | 0, _ => by
    show g64 0 b = _
    rw [g_0]
    by_cases e : 1 ≤ b
    · rw [decide_eq_false (show ¬ b ≤ 0 by omega)]; simp
    · rw [decide_eq_false e]; rfl
  | m + 1, hm => by
    show g64 (hrq q m ||| (if q m = true then (1 : Int64) <<< ((nI (m + 1)).toInt64 &&& 63) else 0)) b = _
    rw [g_or, g_hrq hb1 m (by omega)]
    have e2 : g64 (if q m = true then (1 : Int64) <<< ((nI (m + 1)).toInt64 &&& 63) else 0) b = (q m && decide (b = m + 1)) := by
      cases q m
      · rw [if_neg (by decide), g_0]; rfl
      · rw [if_pos rfl, g_one (m + 1) (by omega) b hb1]; rfl
    rw [e2]
    by_cases e : b = m + 1
    · subst e
      rw [decide_eq_false (show ¬ m + 1 ≤ m by omega), decide_eq_true (show 1 ≤ m + 1 by omega), decide_eq_true (Nat.le_refl (m + 1)), Nat.add_sub_cancel]
      simp
    · rw [decide_eq_false e, Bool.and_false, Bool.or_false]
      by_cases g : b ≤ m
      · rw [decide_eq_true g, decide_eq_true (show b ≤ m + 1 by omega)]
      · rw [decide_eq_false g, decide_eq_false (show ¬ b ≤ m + 1 by omega)]
theorem s_l64 : ∀ n, n < 64 → (((nI n).toInt64 &&& 63).toBitVec.smod 64).toNat = n := by decide +kernel
theorem bit_64 (x : Int64) (hm : m < 64) : (lg_cmp ((x >>> ((nI m).toInt64 &&& 63)) &&& 1) 1 = 0) ↔ g64 x m = true := by
  rw [lg_cmp0]
  have e0 : g64 (x >>> ((nI m).toInt64 &&& 63)) 0 = g64 x m := by
    unfold g64
    rw [Int64.toBitVec_shiftRight]
    show (x.toBitVec.sshiftRight (((nI m).toInt64 &&& 63).toBitVec.smod 64).toNat).getLsbD 0 = _
    rw [s_l64 m hm, BitVec.getLsbD_sshiftRight]
    simp [hm]
  have one : ∀ i, i < 64 → g64 1 i = decide (i = 0) := by decide +kernel
  constructor
  · intro h
    have := congrArg (fun z => g64 z 0) h
    simp only [g_and, e0, one 0 (by decide)] at this
    simpa using this
  · intro h
    apply g_ext
    intro i hi
    rw [g_and, one i hi]
    by_cases e : i = 0
    · subst e
      rw [e0, h]; rfl
    · rw [decide_eq_false e, Bool.and_false]
/-- what the reference keeps of a set -/
def SBM (I : Nat → Nat → Int32) (J : Nat → Nat → Int64) (y : eKS) (n A : Nat) : Prop := ∀ t, t < n → I 146 (4 * A + t) = nI (mxr y A t) ∧ ∀ b, b < 64 → g64 (J 147 (4 * A + t)) b = sbt y A t b
/-- a sibling of the set with a site more -/
def sqi (y : eKS) (A s t i : Nat) : Bool := cvb y A (40 * t + i) && !gnb y A (40 * t + i)
theorem sqi_eq (hb2 : ∀ j, j < 160 → kS y (4 + s) j = true → cov (kR y s) j = true) (hs : s < 4) (hA : A < 16) (hb1 : A.testBit s = true) (ht : t < 4) (hi : i < 40) : sqi y A s t i = (kS y (4 + s) (40 * t + i) && (cvb y (rsN A s) (40 * t + i) && !gnb y (rsN A s) (40 * t + i)) || kS y (4 + s) (40 * t + i) && !cvb y (rsN A s) (40 * t + i) || (cvb y (rsN A s) (40 * t + i) && !gnb y (rsN A s) (40 * t + i)) && !cov (kR y s) (40 * t + i)) := by
  unfold sqi
  rw [rs_cv hs hA hb1, rs_gn hs hA hb1]
  unfold gon
  have h1 := hb2 (40 * t + i) (by omega)
  have h2 := gn_cv (y := y) (A := rsN A s) (j := 40 * t + i)
  cases q1 : kS y (4 + s) (40 * t + i)
  · cases q2 : gnb y (rsN A s) (40 * t + i)
    · cases cvb y (rsN A s) (40 * t + i) <;> cases cov (kR y s) (40 * t + i) <;> rfl
    · rw [h2 q2]
      cases cov (kR y s) (40 * t + i) <;> rfl
  · rw [h1 q1]
    cases q2 : gnb y (rsN A s) (40 * t + i)
    · cases cvb y (rsN A s) (40 * t + i) <;> rfl
    · rw [h2 q2]; rfl
theorem y_joinsSet (hN : 200 < N) (hk : k < 4) (hs : s < n) (hn : n ≤ 4) (hA : A < 2 ^ n) (hb1 : A.testBit s = true) (h : MoK k I J y) (hW : WFK n T y) (h0 : I 125 0 = nI n) (hr : rsN A s ≠ 0 → SBM I J y n (rsN A s)) (hr2 : rsN A s < A) : ∃ I2 J2, F_X12_joinsSet N (B + 125) (nI k) (nI A) (nI s) (HP B I J) = some ((), HP B I2 J2) ∧ SBM I2 J2 y n A ∧ (∀ d z, ¬ (d = 146 ∧ z / 4 = A) → I2 d z = I d z) ∧ ∀ d z, ¬ (d = 147 ∧ z / 4 = A) → J2 d z = J d z := by
  have hA16 : A < 16 := (lt_sub hn hA).1
  have hs4 : s < 4 := by omega
  have hR : ∀ s, s < 4 → ∀ t, t < 4 → kR y s t ≤ 40 := fun s hs t ht => Nat.le_trans (hW.2.1 s hs t ht).1 (hW.1 t ht).1
  obtain ⟨R, hRd⟩ : ∃ R, R = rsN A s := ⟨_, rfl⟩
  rw [← hRd] at hr hr2
  have hR16 : R < 16 := by omega
  have hcv0 : ∀ j, cvb y 0 j = false := fun j => by
    cases e : cvb y 0 j
    · rfl
    · obtain ⟨o, _, o1, _⟩ := cvb_iff.mp e
      rw [Nat.zero_testBit] at o1; cases o1
  have body : ∀ (K12 : Nat → Int32 → Int32 → Int32 → Int32 → Int32 → eH → Option (Unit × eH)) (t : Nat) (I2 : Nat → Nat → Int32) (J2 : Nat → Nat → Int64), t < n → (∀ d z, ¬ (d = 146 ∧ z / 4 = A) → I2 d z = I d z) → (∀ d z, ¬ (d = 147 ∧ z / 4 = A) → J2 d z = J d z) → F_X12_joinsSet_12b N K12 (B + 125) (nI k) (nI A) (nI s) (nI R) (nI t) (HP B I2 J2) = K12 (B + 125) (nI k) (nI A) (nI s) (nI R) (nI (t + 1)) (HP B (w2 I2 146 (4 * A + t) (nI (mxr y A t))) (w2 J2 147 (4 * A + t) (hrq (sqi y A s t) (kM y t)))) := by
    intro K12 t I2 J2 ht fI fJ
    have ht4 : t < 4 := by omega
    have hMt := (hW.1 t ht4).1
    have gM : I2 136 (4 * k + t) = nI (kM y t) := (fI _ _ (by omega)).trans (Y_made h ht4)
    have gR : I2 137 (16 * k + 4 * s + t) = nI (kR y s t) := (fI _ _ (by omega)).trans (Y_row h hs4 ht4)
    have g0 : I2 125 0 = nI n := (fI _ _ (by omega)).trans h0
    have hmx : mxr y R t ≤ 40 := mxr_le (fun o ho => hR o ho t ht4)
    have hmine := hR s hs4 t ht4
    have run : ∀ oth, oth = nI (mxr y R t) → L_X12_joinsSet_65 N K12 (B + 125) (nI k) (nI A) (nI s) (nI R) (nI t) (nI (kR y s t)) oth 0 1 (HP B I2 J2) = K12 (B + 125) (nI k) (nI A) (nI s) (nI R) (nI (t + 1)) (HP B (w2 I2 146 (4 * A + t) (nI (mxr y A t))) (w2 J2 147 (4 * A + t) (hrq (sqi y A s t) (kM y t)))) := by
      intro oth hoth
      subst hoth
      unfold L_X12_joinsSet_65
      have e1 := e_loop_f (body := fun (k : Nat × Int32 × Int32 × Int32 × Int32 × Int32 × Int32 × Int32 × Int64 × Int32 × eH → Option (Unit × eH)) s => F_X12_joinsSet_65b N K12 (fun l0 l1 l2 l3 l4 l5 l6 l7 l8 l10 h => k (l0, l1, l2, l3, l4, l5, l6, l7, l8, l10, h)) s.1 s.2.1 s.2.2.1 s.2.2.2.1 s.2.2.2.2.1 s.2.2.2.2.2.1 s.2.2.2.2.2.2.1 s.2.2.2.2.2.2.2.1 s.2.2.2.2.2.2.2.2.1 s.2.2.2.2.2.2.2.2.2.1 s.2.2.2.2.2.2.2.2.2.2) (fun i => (B + 125, nI k, nI A, nI s, nI R, nI t, nI (kR y s t), nI (mxr y R t), hrq (sqi y A s t) i, nI (i + 1), HP B I2 J2)) (kM y t) (N := N) (fun i hi k0 => by
        show F_X12_joinsSet_65b N K12 _ (B + 125) (nI k) (nI A) (nI s) (nI R) (nI t) (nI (kR y s t)) (nI (mxr y R t)) (hrq (sqi y A s t) i) (nI (i + 1)) (HP B I2 J2) = k0 _
        unfold F_X12_joinsSet_65b
        have hi40 : i < 40 := by omega
        have hj : 40 * t + i < 160 := by omega
        have hp := plp_lt hj
        have hP : 164 * k + plp (40 * t + i) < 656 := by omega
        have gb : I2 135 (164 * k + plp (40 * t + i)) = hb (fun s => kS y (4 + s) (40 * t + i)) 4 := (fI _ _ (by omega)).trans (Y_besideJ h hj)
        have c1 : cov (kR y s) (40 * t + i) = decide (i < kR y s t) := cov_ti _ hi40
        have c2 : cvb y R (40 * t + i) = decide (i < mxr y R t) := mxr_iff hi40 ht4
        have hq := sqi_eq (y := y) (fun j hj q => hW.2.2.2.2.1 s hs4 j hj q) hs4 hA16 hb1 ht4 hi40
        rw [← hRd, c1, c2] at hq
        have f170 : ∀ hh, F_X12_joinsSet_170 N K12 (fun l0 l1 l2 l3 l4 l5 l6 l7 l8 l10 h => k0 (l0, l1, l2, l3, l4, l5, l6, l7, l8, l10, h)) (B + 125) (nI k) (nI A) (nI s) (nI R) (nI t) (nI (kR y s t)) (nI (mxr y R t)) (nI (i + 1)) (hrq (sqi y A s t) i) hh = k0 (B + 125, nI k, nI A, nI s, nI R, nI t, nI (kR y s t), nI (mxr y R t), hrq (sqi y A s t) i ||| (1 : Int64) <<< ((nI (i + 1)).toInt64 &&& 63), nI (i + 1 + 1), hh) := fun hh => by
          unfold F_X12_joinsSet_170 F_X12_joinsSet_178
          simp only [e_let, nI_1]
        have f177 : ∀ hh, F_X12_joinsSet_177 N K12 (fun l0 l1 l2 l3 l4 l5 l6 l7 l8 l10 h => k0 (l0, l1, l2, l3, l4, l5, l6, l7, l8, l10, h)) (B + 125) (nI k) (nI A) (nI s) (nI R) (nI t) (nI (kR y s t)) (nI (mxr y R t)) (nI (i + 1)) (hrq (sqi y A s t) i) hh = k0 (B + 125, nI k, nI A, nI s, nI R, nI t, nI (kR y s t), nI (mxr y R t), hrq (sqi y A s t) i ||| 0, nI (i + 1 + 1), hh) := fun hh => by
          unfold F_X12_joinsSet_177 F_X12_joinsSet_178
          simp only [e_let, nI_1]
        have hstep : hrq (sqi y A s t) (i + 1) = hrq (sqi y A s t) i ||| (if sqi y A s t i = true then (1 : Int64) <<< ((nI (i + 1)).toInt64 &&& 63) else 0) := rfl
        have done1 : sqi y A s t i = true → hrq (sqi y A s t) (i + 1) = hrq (sqi y A s t) i ||| (1 : Int64) <<< ((nI (i + 1)).toInt64 &&& 63) := fun e => by
          show hrq (sqi y A s t) i ||| (if sqi y A s t i = true then _ else _) = _
          rw [if_pos e]
        have done0 : sqi y A s t i = false → hrq (sqi y A s t) (i + 1) = hrq (sqi y A s t) i ||| 0 := fun e => by
          show hrq (sqi y A s t) i ||| (if sqi y A s t i = true then _ else _) = _
          rw [e]; rfl
        have l1 : (nI (mxr y R t) < nI (i + 1)) = ¬ (i < mxr y R t) := propext (by rw [nI_ltI (by omega) (by omega)]; omega)
        have l2 : (nI (i + 1) ≤ nI (kR y s t)) = (i < kR y s t) := propext (by rw [nI_leI (by omega) (by omega)]; omega)
        have there : ∀ (th : Int32) (tb : Bool), th = b2 tb → tb = (decide (i < mxr y R t) && !gnb y R (40 * t + i)) → F_X12_joinsSet_132 N K12 (fun l0 l1 l2 l3 l4 l5 l6 l7 l8 l10 h => k0 (l0, l1, l2, l3, l4, l5, l6, l7, l8, l10, h)) (B + 125) (nI k) (nI A) (nI s) (nI R) (nI t) (nI (kR y s t)) (nI (mxr y R t)) (hrq (sqi y A s t) i) (nI (i + 1)) (b2 (kS y (4 + s) (40 * t + i))) th (HP B I2 J2) = k0 (B + 125, nI k, nI A, nI s, nI R, nI t, nI (kR y s t), nI (mxr y R t), hrq (sqi y A s t) (i + 1), nI (i + 1 + 1), HP B I2 J2) := by
          intro th tb hth htb
          subst hth
          unfold F_X12_joinsSet_132 F_X12_joinsSet_146 F_X12_joinsSet_158
          simp only [b2_0, l1, l2, f170, f177]
          rw [← htb] at hq
          cases q1 : kS y (4 + s) (40 * t + i) <;> cases tb <;> by_cases q3 : i < mxr y R t <;> by_cases q4 : i < kR y s t <;> simp only [q3, q4, if_true, if_false, Bool.true_eq_false, not_true, not_false_eq_true] <;> (rw [hstep, hq]; simp [q1, q3, q4])
        unfold F_X12_joinsSet_131
        simp only [M_gr15, n_4, nI_add, R_ai136 (show 4 * k + t < 16 by omega), gM, Option.bind_some, if_neg (nI_nlt (show i + 1 ≤ kM y t from hi) (show kM y t < 2 ^ 31 by omega)), M_gr14, at_ti k hi40, e_bind_some, R_ai135 hP, gb, hb_has _ hs4]
        by_cases e0 : R = 0
        · rw [if_pos (by rw [e0]; rfl)]
          refine there 0 false rfl ?_
          rw [← c2, e0, hcv0]; rfl
        · rw [if_neg (nI_ne0 (by omega) (by omega))]
          have hx := (hr e0 t ht).2 (i + 1) (by omega)
          have ex : J2 147 (4 * R + t) = J 147 (4 * R + t) := fJ _ _ (by omega)
          simp only [M_gr37, R_al147 (show 4 * R + t < 64 by omega), Option.bind_some, ex]
          unfold sbt at hx
          rw [decide_eq_true (show 1 ≤ i + 1 by omega), decide_eq_true (show i + 1 ≤ kM y t from hi), Nat.add_sub_cancel, Bool.true_and, Bool.true_and, c2] at hx
          by_cases q : g64 (J 147 (4 * R + t)) (i + 1) = true
          · rw [if_pos ((bit_64 _ (by omega)).mpr q)]
            exact there 1 true rfl (by rw [← hx, q])
          · rw [if_neg (fun e => q ((bit_64 _ (by omega)).mp e))]
            exact there 0 false rfl (by rw [← hx]; cases e : g64 (J 147 (4 * R + t)) (i + 1); rfl; exact absurd e q)) (by omega)
      refine Eq.trans e1 ?_
      show F_X12_joinsSet_65b N K12 _ (B + 125) (nI k) (nI A) (nI s) (nI R) (nI t) (nI (kR y s t)) (nI (mxr y R t)) (hrq (sqi y A s t) (kM y t)) (nI ((kM y t) + 1)) (HP B I2 J2) = _
      unfold F_X12_joinsSet_65b
      have hmA : mxr y A t = max (kR y s t) (mxr y R t) := by
        have r1 : ∀ i, i < 40 → decide (i < mxr y A t) = (decide (i < mxr y R t) || decide (i < kR y s t)) := fun i hi => by
          rw [← mxr_iff hi ht4, rs_cv hs4 hA16 hb1, ← hRd, mxr_iff hi ht4, cov_ti _ hi]
        have hmA40 : mxr y A t ≤ 40 := mxr_le (fun o ho => hR o ho t ht4)
        rcases Nat.lt_trichotomy (mxr y A t) (max (kR y s t) (mxr y R t)) with g | g | g
        · have := r1 (mxr y A t) (by omega)
          rw [decide_eq_false (Nat.lt_irrefl _)] at this
          have h2 := this.symm
          rw [Bool.or_eq_false_iff, decide_eq_false_iff_not, decide_eq_false_iff_not] at h2
          omega
        · exact g
        · have := r1 (max (kR y s t) (mxr y R t)) (by omega)
          rw [decide_eq_true g] at this
          have h2 := this.symm
          rw [Bool.or_eq_true, decide_eq_true_eq, decide_eq_true_eq] at h2
          omega
      simp only [M_gr15, n_4, nI_add, R_ai136 (show 4 * k + t < 16 by omega), gM, Option.bind_some, if_pos (nI_lt (show kM y t < kM y t + 1 by omega) (show kM y t + 1 < 2 ^ 31 by omega)), M_gr37, M_gr36, R_sl147 (show 4 * A + t < 64 by omega), F_X12_joinsSet_224, R_si146 (show 4 * A + t < 64 by omega), nI_1, hmA]
      by_cases e : kR y s t ≤ mxr y R t
      · rw [if_pos (nI_le e (by omega)), Nat.max_eq_right e]
      · rw [if_neg (nI_ge (by omega) (by omega)), Nat.max_eq_left (by omega)]
    unfold F_X12_joinsSet_12b F_X12_joinsSet_57
    simp only [M_gi0, g0, Option.bind_some, if_neg (nI_ge ht (show n < 2 ^ 31 by omega)), M_gr16, X_rowAt, e_bind_some, nI_add, R_ai137 (show 16 * k + 4 * s + t < 64 by omega), gR]
    by_cases e0 : R = 0
    · rw [if_pos (by rw [e0]; rfl)]
      refine run 0 ?_
      rw [e0]
      have : mxr y 0 t = 0 := by unfold mxr; simp
      rw [this]; rfl
    · rw [if_neg (nI_ne0 (by omega) (by omega))]
      have ex : I2 146 (4 * R + t) = nI (mxr y R t) := (fI _ _ (by omega)).trans (hr e0 t ht).1
      simp only [M_gr36, n_4, nI_add, R_ai146 (show 4 * R + t < 64 by omega), Option.bind_some, ex]
      exact run _ rfl
  unfold F_X12_joinsSet
  simp only [rs_I hA16 hs4, e_let, ← hRd]
  unfold L_X12_joinsSet_12
  obtain ⟨s', ⟨I2, J2, hs', q1, q2, q3⟩, q4⟩ := e_loop_0 (body := fun (k : Nat × Int32 × Int32 × Int32 × Int32 × Int32 × eH → Option (Unit × eH)) s => F_X12_joinsSet_12b N (fun l0 l1 l2 l3 l4 l5 h => k (l0, l1, l2, l3, l4, l5, h)) s.1 s.2.1 s.2.2.1 s.2.2.2.1 s.2.2.2.2.1 s.2.2.2.2.2.1 s.2.2.2.2.2.2) (fun i st => ∃ I2 J2, st = (B + 125, nI k, nI A, nI s, nI R, nI i, HP B I2 J2) ∧ (∀ t, t < i → I2 146 (4 * A + t) = nI (mxr y A t) ∧ J2 147 (4 * A + t) = hrq (sqi y A s t) (kM y t)) ∧ (∀ d z, ¬ (d = 146 ∧ z / 4 = A) → I2 d z = I d z) ∧ ∀ d z, ¬ (d = 147 ∧ z / 4 = A) → J2 d z = J d z) n (N := N) (s := (B + 125, nI k, nI A, nI s, nI R, 0, HP B I J)) ⟨I, J, rfl, fun t ht => absurd ht (Nat.not_lt_zero t), fun _ _ _ => rfl, fun _ _ _ => rfl⟩ (fun i st hi hst => by
    obtain ⟨I2, J2, hst, c1, c2, c3⟩ := hst
    subst hst
    refine ⟨(B + 125, nI k, nI A, nI s, nI R, nI (i + 1), HP B (w2 I2 146 (4 * A + i) (nI (mxr y A i))) (w2 J2 147 (4 * A + i) (hrq (sqi y A s i) (kM y i)))), ⟨_, _, rfl, fun t ht => ?_, fun d z hdz => ?_, fun d z hdz => ?_⟩, fun K => body _ i I2 J2 hi c2 c3⟩
    · by_cases e : t = i
      · subst e
        exact ⟨w2_s _ _ _ _, w2_s _ _ _ _⟩
      · rw [w2_k _ _ (by omega), w2_k _ _ (by omega)]
        exact c1 t (by omega)
    · rw [w2_ne (fun e1 e2 => hdz ⟨e1, by omega⟩)]; exact c2 d z hdz
    · rw [w2_ne (fun e1 e2 => hdz ⟨e1, by omega⟩)]; exact c3 d z hdz) (by omega)
  refine ⟨I2, J2, ?_, fun t ht => ⟨(q1 t ht).1, fun b hb1 => ?_⟩, q2, q3⟩
  · refine Eq.trans q4 ?_
    rw [hs']
    show F_X12_joinsSet_12b N _ (B + 125) (nI k) (nI A) (nI s) (nI R) (nI n) (HP B I2 J2) = _
    unfold F_X12_joinsSet_12b
    simp only [M_gi0, (q2 125 0 (by omega)).trans h0, Option.bind_some, if_pos (nI_le (Nat.le_refl n) (show n < 2 ^ 31 by omega))]
  · have hMt := (hW.1 t (by omega)).1
    rw [(q1 t ht).2, g_hrq hb1 _ (by omega)]
    rfl
end SPR
