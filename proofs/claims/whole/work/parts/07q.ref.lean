/-! REFERENCE: the divisor, the sum, joined -/
theorem tmod_np {X : Int} (Y : Int) (h : X ≤ 0) : X.tmod Y ≤ 0 := by
  have h1 := Int.tmod_nonneg (a := -X) Y (by omega)
  rw [Int.neg_tmod] at h1
  omega
theorem rem_I (x y : Int64) : (x - x / y * y).toInt = x.toInt.tmod y.toInt := by
  have hx1 := Int64.le_toInt x
  have hx2 := Int64.toInt_lt x
  have hy1 := Int64.le_toInt y
  have hy2 := Int64.toInt_lt y
  have e : x / y = Int64.ofInt (x.toInt.tdiv y.toInt) := by
    rw [Int64.ofInt_tdiv (by rw [Int64.toInt_minValue]; exact hx1) (by rw [Int64.toInt_maxValue]; omega) (by rw [Int64.toInt_minValue]; exact hy1) (by rw [Int64.toInt_maxValue]; omega), Int64.ofInt_toInt, Int64.ofInt_toInt]
  have e2 : x - x / y * y = Int64.ofInt (x.toInt.tmod y.toInt) := by
    rw [Int.tmod_def, Int64.ofInt_sub, Int64.ofInt_mul, ← e, Int64.ofInt_toInt, Int64.ofInt_toInt, Int64.mul_comm]
  have h3 := Int.natAbs_tmod x.toInt y.toInt
  have h4 := Nat.mod_le x.toInt.natAbs y.toInt.natAbs
  rw [e2, Int64.toInt_ofInt_of_le]
  · omega
  · rcases Int.le_total x.toInt 0 with q | q
    · have := tmod_np y.toInt q
      omega
    · omega
/-- the least rest that is 0 -/
def ey (a b : Int64) (i : Nat) : Nat := (eu a b i).2.toInt.natAbs
theorem ey_0 {a b : Int64} {i : Nat} : ey a b i = 0 ↔ (eu a b i).2 = 0 := by
  unfold ey
  rw [Int.natAbs_eq_zero]
  constructor
  · intro h
    exact Int64.toInt_inj.mp (h.trans Int64.toInt_zero.symm)
  · intro h; rw [h]; exact Int64.toInt_zero
theorem ey_2 (a b : Int64) (i : Nat) : ey a b (i + 2) = ey a b i % ey a b (i + 1) := by
  show ((eu a b (i + 1)).1 - (eu a b (i + 1)).1 / (eu a b (i + 1)).2 * (eu a b (i + 1)).2).toInt.natAbs = _
  rw [rem_I, Int.natAbs_tmod]
  rfl
theorem ey_1 (a b : Int64) (i : Nat) : ey a b (i + 1) = (eu a b i).1.toInt.natAbs % ey a b i := by
  show ((eu a b i).1 - (eu a b i).1 / (eu a b i).2 * (eu a b i).2).toInt.natAbs = _
  rw [rem_I, Int.natAbs_tmod]
  rfl
theorem half_mod {n r : Nat} (h0 : 0 < r) (h : r ≤ n) : 2 * (n % r) ≤ n := by
  have h1 := Nat.mod_lt n h0
  have h2 := Nat.div_add_mod n r
  have h3 : 1 ≤ n / r := (Nat.le_div_iff_mul_le h0).mpr (by omega)
  have h4 : r * 1 ≤ r * (n / r) := Nat.mul_le_mul_left r h3
  omega
theorem eu_zero (a b : Int64) : ∀ k, (∃ j, j ≤ 2 * k ∧ (eu a b j).2 = 0) ∨ ey a b (2 * k) * 2 ^ k ≤ 2 ^ 63
  | 0 => Or.inr (by
    show (eu a b 0).2.toInt.natAbs * 1 ≤ 2 ^ 63
    have h1 := Int64.le_toInt (eu a b 0).2
    have h2 := Int64.toInt_lt (eu a b 0).2
    omega)
  | k + 1 => by
    rcases eu_zero a b k with ⟨j, j1, j2⟩ | h
    · exact Or.inl ⟨j, by omega, j2⟩
    · by_cases e0 : ey a b (2 * k) = 0
      · exact Or.inl ⟨2 * k, by omega, ey_0.mp e0⟩
      · by_cases e1 : ey a b (2 * k + 1) = 0
        · exact Or.inl ⟨2 * k + 1, by omega, ey_0.mp e1⟩
        · refine Or.inr ?_
          have h2 := ey_2 a b (2 * k)
          have h3 : ey a b (2 * k + 1) < ey a b (2 * k) := by
            rw [ey_1]; exact Nat.mod_lt _ (by omega)
          have h4 := half_mod (n := ey a b (2 * k)) (r := ey a b (2 * k + 1)) (by omega) (by omega)
          rw [show 2 * (k + 1) = 2 * k + 2 by omega, h2, Nat.pow_succ, ← Nat.mul_assoc, Nat.mul_comm (_ * 2 ^ k) 2, ← Nat.mul_assoc]
          exact Nat.le_trans (Nat.mul_le_mul_right _ h4) h
theorem eu_ends (a b : Int64) : ∃ j, j ≤ 128 ∧ (eu a b j).2 = 0 := by
  rcases eu_zero a b 64 with ⟨j, j1, j2⟩ | h
  · exact ⟨j, by omega, j2⟩
  · refine ⟨128, Nat.le_refl _, ey_0.mp ?_⟩
    rw [show 2 * 64 = 128 from rfl] at h
    rcases Nat.eq_zero_or_pos (ey a b 128) with q | q
    · exact q
    · have := Nat.mul_le_mul_right (2 ^ 64) q
      omega
theorem ex_at {α : Type} {g : Nat → Bool} {r : Nat → α} {e : α} : ∀ {n i j : Nat}, i ≤ j → j < i + n → (∀ l, i ≤ l → l < j → g l = true) → g j = false → ex g r e n i = r j
  | 0, _, _, h1, h2, _, _ => absurd h2 (by omega)
  | n + 1, i, j, h1, h2, h3, h4 => by
    unfold ex
    by_cases q : i = j
    · rw [q, h4]; rfl
    · rw [if_pos (h3 i (Nat.le_refl _) (by omega))]
      exact ex_at (by omega) (by omega) (fun l a b => h3 l (by omega) b) h4
theorem eu_gcd (a b : Int64) : ∃ j, j ≤ 128 ∧ (∀ i, i < j → (eu a b i).2 ≠ 0) ∧ (eu a b j).2 = 0 ∧ gcdL a b = (eu a b j).1 := by
  obtain ⟨j0, h1, h2⟩ := eu_ends a b
  obtain ⟨j, j1, j2⟩ := pk_least (fun i => (eu a b i).2 = 0) ⟨j0, h2⟩
  have hj : j ≤ j0 := Nat.le_of_not_lt (fun q => j2 j0 q h2)
  refine ⟨j, by omega, j2, j1, ?_⟩
  unfold gcdL
  exact ex_at (Nat.zero_le j) (by omega) (fun l _ hl => by rw [decide_eq_false (j2 l hl)]; rfl) (by rw [decide_eq_true j1]; rfl)
theorem eu_np {a b : Int64} (ha : a.toInt ≤ 0) (hb1 : b.toInt ≤ 0) : ∀ i, (eu a b i).1.toInt ≤ 0 ∧ (eu a b i).2.toInt ≤ 0
  | 0 => ⟨ha, hb1⟩
  | i + 1 => by
    obtain ⟨h1, h2⟩ := eu_np ha hb1 i
    refine ⟨h2, ?_⟩
    show ((eu a b i).1 - (eu a b i).1 / (eu a b i).2 * (eu a b i).2).toInt ≤ 0
    rw [rem_I]
    exact tmod_np _ h1
def nab (a : Int64) : Int64 := if lg_cmp a 0 ≤ 0 then a else -a
theorem np_le {a : Int64} : lg_cmp a 0 ≤ 0 ↔ a.toInt ≤ 0 := by
  rw [lg_le0, Int64.le_iff_toInt_le, Int64.toInt_zero]
theorem nab_np (a : Int64) : (nab a).toInt ≤ 0 := by
  unfold nab
  by_cases h : lg_cmp a 0 ≤ 0
  · rw [if_pos h]; exact np_le.mp h
  · rw [if_neg h]
    have h1 : ¬ a.toInt ≤ 0 := fun q => h (np_le.mpr q)
    have h2 := Int64.toInt_lt a
    have h3 := Int64.le_toInt a
    rw [Int64.toInt_neg, Int.bmod_eq_of_le (by omega) (by omega)]
    omega
theorem nab_id {a : Int64} (h : a.toInt ≤ 0) : nab a = a := if_pos (np_le.mpr h)
theorem gcd_np (a b : Int64) : (gcdL (nab a) (nab b)).toInt ≤ 0 := by
  obtain ⟨j, _, _, _, e⟩ := eu_gcd (nab a) (nab b)
  rw [e]
  exact (eu_np (nab_np a) (nab_np b) j).1
theorem gcd_0 (b : Int64) : gcdL 0 b = b := by
  have h1 : (eu 0 b 1).1 = b := rfl
  by_cases hb1 : b = 0
  · unfold gcdL
    rw [ex_at (j := 0) (Nat.le_refl _) (by omega) (fun l _ h => absurd h (Nat.not_lt_zero l)) (by
      show (!decide (b = 0)) = false
      rw [decide_eq_true hb1]; rfl)]
    exact hb1.symm
  · have h2 : (eu 0 b 1).2 = 0 := by
      refine Int64.toInt_inj.mp ?_
      show (0 - 0 / b * b).toInt = _
      rw [rem_I, Int64.toInt_zero, Int.zero_tmod]
    unfold gcdL
    rw [ex_at (j := 1) (Nat.zero_le _) (by omega) (fun l _ h => by
      rw [show l = 0 by omega]
      show (!decide (b = 0)) = true
      rw [decide_eq_false hb1]; rfl) (by rw [decide_eq_true h2]; rfl)]
    exact h1
theorem y_common {N : Nat} (hN : 200 < N) (a b : Int64) (h : eH) : F_X12_common N a b h = some (gcdL (nab a) (nab b), h) := by
  have key : ∀ x y : Int64, L_X12_common_28 N x y h = some (gcdL x y, h) := by
    intro x y
    obtain ⟨j, j0, j1, j2, j3⟩ := eu_gcd x y
    unfold L_X12_common_28
    have e1 := e_loop_f (body := fun (k : Int64 × Int64 × eH → Option (Int64 × eH)) s => F_X12_common_28b N (fun l4 l6 h => k (l4, l6, h)) s.1 s.2.1 s.2.2) (fun i => ((eu x y i).1, (eu x y i).2, h)) (j) (N := N) (fun i hi k0 => by
      show F_X12_common_28b N _ ((eu x y i).1) ((eu x y i).2) (h) = k0 _
      unfold F_X12_common_28b
      rw [if_neg (fun q => j1 i hi ((lg_cmp0 _ _).mp q)), if_neg (j1 i hi)]
      rfl) (by omega)
    refine Eq.trans e1 ?_
    show F_X12_common_28b N _ ((eu x y j).1) ((eu x y j).2) (h) = _
    unfold F_X12_common_28b
    rw [if_pos ((lg_cmp0 _ _).mpr j2), j3]
  unfold F_X12_common F_X12_common_12 F_X12_common_26 nab
  by_cases h1 : lg_cmp a 0 ≤ 0
  · by_cases h2 : lg_cmp b 0 ≤ 0
    · rw [if_pos h1, if_pos h2, if_pos h1, if_pos h2, key]
    · rw [if_pos h1, if_neg h2, if_pos h1, if_neg h2, key]
  · by_cases h2 : lg_cmp b 0 ≤ 0
    · rw [if_neg h1, if_pos h2, if_neg h1, if_pos h2, key]
    · rw [if_neg h1, if_neg h2, if_neg h1, if_neg h2, key]
/-- a sum leaves the longs -/
def ovf (a b : Int64) : Bool := (decide (a < 0) == decide (b < 0)) && (decide (a + b < 0) != decide (a < 0))
def jn (kd r : Nat) (z : Int64 × Bool) (v : Int64) : Int64 × Bool :=
  if r = 0 then (if lg_cmp z.1 v ≤ 0 then v else z.1, z.2) else if r = 1 then (if (0 : Int32) ≤ lg_cmp z.1 v then v else z.1, z.2)
  else if r = 2 then (if kd = 1 then (z.1 ||| v, z.2) else (z.1 + v, z.2 || ovf z.1 v))
  else if r = 3 then (if kd = 1 then (z.1 &&& v, z.2) else (gcdL (nab z.1) (nab v), z.2))
  else (v, z.2)
section RJOIN
variable {B : Nat} {I : Nat → Nat → Int32} {J : Nat → Nat → Int64} {k r kd i : Nat} {z : Int64 × Bool} {v : Int64}
theorem b2_01 (b : Bool) : b2 b = 0 ∨ b2 b = 1 := by cases b; exact Or.inl rfl; exact Or.inr rfl
theorem y_sum (o : Bool) (h : I 125 35 = b2 o) (a b : Int64) : F_X12_sum (B + 125) a b (HP B I J) = some (a + b, HP B (w2 I 125 35 (b2 (o || ovf a b))) J) := by
  have s69 : ∀ c : Bool, F_X12_sum_69 (a + b) (B + 125) (b2 c) (HP B I J) = some (a + b, HP B (w2 I 125 35 (b2 c)) J) := fun c => by
    unfold F_X12_sum_69
    rw [M_pz35 (b2_01 c), Option.bind_some]
  have s64 : F_X12_sum_64 (a + b) (B + 125) (HP B I J) = some (a + b, HP B (w2 I 125 35 (b2 true)) J) := s69 true
  have s68 : F_X12_sum_68 (a + b) (B + 125) (HP B I J) = some (a + b, HP B (w2 I 125 35 (b2 false)) J) := s69 false
  unfold F_X12_sum F_X12_sum_24 F_X12_sum_35 F_X12_sum_50 F_X12_sum_61 ovf
  simp only [e_let, M_gi35, h, Option.bind_some, b2_0, lg_lt0, s64, s68]
  cases o
  · simp only [if_true, Bool.false_or]
    by_cases h1 : a < 0 <;> by_cases h2 : b < 0 <;> by_cases h3 : a + b < 0 <;> simp [h1, h2, h3]
  · simp only [Bool.true_eq_false, if_false, Bool.true_or]
theorem y_joined {N : Nat} (hN : 200 < N) (hk : k < 4) (hr : r < 5) (hkd : kd < 2) (h1 : I 126 k = nI kd) (h2 : I 125 35 = b2 z.2) : F_X12_joined N (B + 125) (nI k) (nI r) z.1 v (HP B I J) = some ((jn kd r z v).1, HP B (w2 I 125 35 (b2 (jn kd r z v).2)) J) := by
  have hs := y_sum (B := B) (J := J) z.2 h2 z.1 v
  have hid : w2 I 125 35 (b2 z.2) = I := w2_id h2.symm
  have hq : nI kd = 1 ↔ kd = 1 := nI_eq (b := 1) (by omega) (by decide)
  unfold F_X12_joined jn
  simp only [M_gr4, Option.bind_some, R_ai126 hk, h1, M_is, hs, e_bind_some, y_common hN, hq]
  have hc : r = 0 ∨ r = 1 ∨ r = 2 ∨ r = 3 ∨ r = 4 := by omega
  rcases hc with rfl | rfl | rfl | rfl | rfl
  · simp only [if_pos nI_0, if_true]
    by_cases e : lg_cmp z.1 v ≤ 0
    · simp only [if_pos e, hid]
    · simp only [if_neg e, hid]
  · simp only [if_neg (show ¬ nI 1 = 0 by decide), if_neg (show ¬ (1 : Nat) = 0 by decide), if_neg (show ¬ nI 1 = 2 by decide), if_neg (show ¬ (1 : Nat) = 2 by decide), if_neg (show ¬ nI 1 = 3 by decide), if_neg (show ¬ (1 : Nat) = 3 by decide), if_pos (show nI 1 = 1 from rfl), if_true]
    by_cases e : (0 : Int32) ≤ lg_cmp z.1 v
    · simp only [if_pos e, hid]
    · simp only [if_neg e, hid]
  · simp only [if_neg (show ¬ nI 2 = 0 by decide), if_neg (show ¬ (2 : Nat) = 0 by decide), if_neg (show ¬ nI 2 = 1 by decide), if_neg (show ¬ (2 : Nat) = 1 by decide), if_neg (show ¬ nI 2 = 3 by decide), if_neg (show ¬ (2 : Nat) = 3 by decide), if_pos (show nI 2 = 2 from rfl), if_true]
    by_cases e : kd = 1
    · simp only [if_pos e, hid]
    · simp only [if_neg e, hid]
  · simp only [if_neg (show ¬ nI 3 = 0 by decide), if_neg (show ¬ (3 : Nat) = 0 by decide), if_neg (show ¬ nI 3 = 1 by decide), if_neg (show ¬ (3 : Nat) = 1 by decide), if_neg (show ¬ nI 3 = 2 by decide), if_neg (show ¬ (3 : Nat) = 2 by decide), if_pos (show nI 3 = 3 from rfl), if_true]
    by_cases e : kd = 1
    · simp only [if_pos e, hid]
    · simp only [if_neg e, hid]
  · simp only [if_neg (show ¬ nI 4 = 0 by decide), if_neg (show ¬ (4 : Nat) = 0 by decide), if_neg (show ¬ nI 4 = 1 by decide), if_neg (show ¬ (4 : Nat) = 1 by decide), if_neg (show ¬ nI 4 = 2 by decide), if_neg (show ¬ (4 : Nat) = 2 by decide), if_neg (show ¬ nI 4 = 3 by decide), if_neg (show ¬ (4 : Nat) = 3 by decide), if_true]
    rw [hid]
end RJOIN
