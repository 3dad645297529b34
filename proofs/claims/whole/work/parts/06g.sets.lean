/-! SETS of dots, as predicates -/
def dSet (J : Nat → Nat → Int64) (d : Nat) (p : Nat → Bool) : Prop := ∀ t, t < 4 → ∀ i, i < 64 → g64 (J (d + 1) t) i = (decide (i < 40) && p (40 * t + i))
/-- the dots that a row covers -/
def cov (m : Nat → Nat) (j : Nat) : Bool := decide (j % 40 < m (j / 40))
theorem cov_ti (m : Nat → Nat) {t i : Nat} (hi : i < 40) : cov m (40 * t + i) = decide (i < m t) := by
  unfold cov
  rw [show (40 * t + i) % 40 = i by omega, show (40 * t + i) / 40 = t by omega]
theorem ct_add (p : Nat → Bool) (m : Nat) : ∀ n, ct p (m + n) = ct p m + ct (fun i => p (m + i)) n
  | 0 => rfl
  | n + 1 => by
    show ct p (m + n) + _ = ct p m + (ct _ n + _)
    rw [ct_add p m n, Nat.add_assoc]
    rfl
theorem ct_0 {p : Nat → Bool} : ∀ {n : Nat}, (∀ i, i < n → p i = false) → ct p n = 0
  | 0, _ => rfl
  | n + 1, h => by
    show ct p n + _ = 0
    rw [ct_0 (fun i hi => h i (by omega)), h n (by omega)]
    rfl
theorem ct_pos {p : Nat → Bool} : ∀ {n : Nat}, 0 < ct p n → ∃ i, i < n ∧ p i = true
  | 0, h => by cases h
  | n + 1, h => by
    by_cases h1 : p n = true
    · exact ⟨n, Nat.lt_succ_self _, h1⟩
    · have : ct p (n + 1) = ct p n := by show ct p n + _ = _; simp [h1]
      rw [this] at h
      obtain ⟨i, a, b⟩ := ct_pos h
      exact ⟨i, by omega, b⟩
/-- one less -/
theorem ct_less {p q : Nat → Bool} {b : Nat} (hb : p b = true) (hq : q b = false) (h : ∀ i, i ≠ b → q i = p i) : ∀ n, b < n → ct q n + 1 = ct p n
  | 0, h0 => by cases h0
  | n + 1, h0 => by
    show ct q n + _ + 1 = ct p n + _
    by_cases e : n = b
    · subst e
      rw [hb, hq, ct_cong (p := q) (q := p) (fun i hi => h i (by omega))]
      simp
    · rw [h n e, ← ct_less hb hq h n (by omega)]
      omega
section SETS
variable {B : Nat} {I : Nat → Nat → Int32} {J J2 : Nat → Nat → Int64} {d e t n i j k : Nat} {m m2 : Nat → Nat} {p q : Nat → Bool}
theorem pd_of (h : dSet J d p) (hj : j < 160) : pd J d j = p j := by
  have := h (j / 40) (by omega) (j % 40) (by omega)
  unfold pd
  rw [this, show 40 * (j / 40) + j % 40 = j by omega]
  simp [show j % 40 < 40 by omega]
theorem dSet_fr (h : dSet J d p) (hJ : ∀ t, J2 (d + 1) t = J (d + 1) t) : dSet J2 d p := by
  intro t ht i hi
  rw [hJ t]; exact h t ht i hi
theorem dSet_cong (h : dSet J d p) (hp : ∀ j, j < 160 → q j = p j) : dSet J d q := by
  intro t ht i hi
  rw [h t ht i hi]
  by_cases h4 : i < 40
  · rw [hp (40 * t + i) (by omega)]
  · simp [h4]
theorem dSet_add (h : dSet J d p) (hj : j < 160) : dSet (w2 J (d + 1) (j / 40) (J (d + 1) (j / 40) ||| cb (j % 40 + 1))) d (fun x => p x || decide (x = j)) := by
  intro t ht i hi
  by_cases e : t = j / 40
  · subst e
    rw [w2_s, g_or, h _ ht i hi, g_cb (j % 40 + 1) (by omega) (by omega) i hi]
    by_cases h4 : i < 40
    · have : (40 * (j / 40) + i = j) ↔ i = j % 40 + 1 - 1 := by omega
      simp [h4, this]
    · have : ¬ i = j % 40 + 1 - 1 := by omega
      simp [h4]; omega
  · rw [w2_k J _ e, h t ht i hi]
    by_cases h4 : i < 40
    · have : ¬ 40 * t + i = j := by omega
      simp [h4, this]
    · simp [h4]
theorem dSet_remove (h : dSet J d p) (hj : j < 160) : dSet (w2 J (d + 1) (j / 40) (J (d + 1) (j / 40) &&& (cb (j % 40 + 1) ^^^ (-1)))) d (fun x => p x && !decide (x = j)) := by
  intro t ht i hi
  by_cases e : t = j / 40
  · subst e
    rw [w2_s, g_and, g_not _ hi, h _ ht i hi, g_cb (j % 40 + 1) (by omega) (by omega) i hi]
    by_cases h4 : i < 40
    · have : (40 * (j / 40) + i = j) ↔ i = j % 40 + 1 - 1 := by omega
      simp [h4, this]
    · simp [h4]
  · rw [w2_k J _ e, h t ht i hi]
    by_cases h4 : i < 40
    · have : ¬ 40 * t + i = j := by omega
      simp [h4, this]
    · simp [h4]
theorem dSet_wN {f : Nat → Int64} (h : ∀ t, t < 4 → ∀ i, i < 64 → g64 (f t) i = (decide (i < 40) && p (40 * t + i))) : dSet (wN J (d + 1) 4 f) d p := by
  intro t ht i hi
  rw [wN_in J (d + 1) 4 f ht]
  exact h t ht i hi
theorem dSet_empty : dSet (wN J (d + 1) 4 (fun _ => 0)) d (fun _ => false) := dSet_wN (fun t _ i _ => by rw [g_0]; simp)
theorem dSet_addAll (h : dSet J d p) (h2 : dSet J e q) : dSet (wN J (d + 1) 4 (fun t => J (d + 1) t ||| J (e + 1) t)) d (fun x => p x || q x) := dSet_wN (fun t ht i hi => by
  rw [g_or, h t ht i hi, h2 t ht i hi]
  cases decide (i < 40) <;> simp)
theorem dSet_addCovered (h : dSet J d p) (h2 : dSet J e q) (hm : ∀ t, t < 4 → m t ≤ 40) : dSet (wN J (d + 1) 4 (fun t => J (d + 1) t ||| (J (e + 1) t &&& cv (m t)))) d (fun x => p x || (q x && cov m x)) := dSet_wN (fun t ht i hi => by
  rw [g_or, g_and, h t ht i hi, h2 t ht i hi, g_cv (m t) (by have := hm t ht; omega) i hi]
  by_cases h4 : i < 40
  · simp [h4, cov_ti]
  · simp [h4])
theorem dSet_removeCovered (h : dSet J d p) (hm : ∀ t, t < 4 → m t ≤ 40) : dSet (wN J (d + 1) 4 (fun t => J (d + 1) t &&& (cv (m t) ^^^ (-1)))) d (fun x => p x && !cov m x) := dSet_wN (fun t ht i hi => by
  rw [g_and, g_not _ hi, h t ht i hi, g_cv (m t) (by have := hm t ht; omega) i hi]
  by_cases h4 : i < 40
  · simp [h4, cov_ti]
  · simp [h4])
theorem dSet_join (h : dSet J d p) (h2 : dSet J e q) (hm : ∀ t, t < 4 → m t ≤ 40) (hm2 : ∀ t, t < 4 → m2 t ≤ 40) : dSet (wN J (d + 1) 4 (fun t => J (d + 1) t &&& J (e + 1) t ||| J (d + 1) t &&& (cv (m2 t) ^^^ (-1)) ||| J (e + 1) t &&& (cv (m t) ^^^ (-1)))) d (fun x => p x && q x || p x && !cov m2 x || q x && !cov m x) := dSet_wN (fun t ht i hi => by
  rw [g_or, g_or, g_and, g_and, g_and, g_not _ hi, g_not _ hi, h t ht i hi, h2 t ht i hi, g_cv (m t) (by have := hm t ht; omega) i hi, g_cv (m2 t) (by have := hm2 t ht; omega) i hi]
  by_cases h4 : i < 40
  · simp [h4, cov_ti]
  · simp [h4])
theorem ct_64 {f : Nat → Bool} {p : Nat → Bool} (h : ∀ i, i < 64 → f i = (decide (i < 40) && p i)) : ct f 64 = ct p 40 := by
  rw [show (64 : Nat) = 40 + 24 from rfl, ct_add, ct_0 (n := 24) (fun i hi => by rw [h (40 + i) (by omega), decide_eq_false (by omega)]; rfl), Nat.add_zero]
  exact ct_cong (fun i hi => by rw [h i (by omega)]; simp [hi])
theorem ct_160 (p : Nat → Bool) : sz (fun t => ct (fun i => p (40 * t + i)) 40) 4 = ct p 160 := by
  rw [show (160 : Nat) = 40 + (40 + (40 + 40)) from rfl, ct_add, ct_add, ct_add]
  simp only [sz, Nat.mul_zero, Nat.zero_add, Nat.mul_one, ← Nat.add_assoc, Nat.reduceMul, Nat.reduceAdd]
theorem t_size {N : Nat} (hN : 5 < N) (hd : isD d) (h : dSet J d p) : F_X1_size N (B + d) (HP B I J) = some (nI (ct p 160), HP B I J) := by
  rw [s_size hN hd, ← ct_160 p]
  congr 3
  exact sz_cong (fun t ht => ct_64 (h t ht))
theorem t_coveredTotal {N : Nat} (hN : 5 < N) (hd : isD d) (h : dSet J d p) {x : Int32} (hx : rwN x m) : F_X1_coveredTotal N (B + d) x (HP B I J) = some (nI (ct (fun j => p j && cov m j) 160), HP B I J) := by
  rw [s_coveredTotal hN hd (m := m) (fun t ht => (hx t ht).1), ← ct_160]
  congr 3
  refine sz_cong (fun t ht => ct_64 (fun i hi => ?_))
  rw [g_and, h t ht i hi, g_cv (m t) (by have := (hx t ht).2; omega) i hi]
  by_cases h4 : i < 40
  · simp [h4, cov_ti]
  · simp [h4]
/-! rows -/
theorem rwN_0 : rwN 0 (fun _ => 0) := fun t ht => ⟨by rw [rn_0 t ht]; rfl, Nat.zero_le _⟩
theorem rwN_cong {x : Int32} (h : rwN x m) (he : ∀ t, t < 4 → m2 t = m t) : rwN x m2 := fun t ht => by rw [he t ht]; exact h t ht
theorem rwN_w {x : Int32} (h : rwN x m) (ht : t < 4) (hn : n ≤ 40) : rwN (rw_ x t (nI n)) (fun u => if u = t then n else m u) := by
  intro u hu
  rw [rn_rw ht hu (small_nI (by omega))]
  by_cases e : u = t
  · simp [e, hn]
  · simp only [if_neg e]; exact h u hu
theorem e_max_nI {a b : Nat} (ha : a < 2 ^ 31) (hb : b < 2 ^ 31) : e_max (nI a) (nI b) = nI (max a b) := by
  unfold e_max
  by_cases h : a < b
  · rw [if_pos ((nI_ltI ha hb).mpr h), Nat.max_eq_right (by omega)]
  · rw [if_neg (fun hc => h ((nI_ltI ha hb).mp hc)), Nat.max_eq_left (by omega)]
theorem rwN_gr {x y : Int32} (h : rwN x m) (h2 : rwN y m2) : rwN (rgr x y 4) (fun t => max (m t) (m2 t)) := by
  have key : ∀ i, i ≤ 4 → rwN (rgr x y i) (fun t => if t < i then max (m t) (m2 t) else 0) := by
    intro i
    induction i with
    | zero => intro _; exact rwN_cong rwN_0 (fun t ht => by simp)
    | succ i ih =>
      intro hi
      show rwN (rw_ (rgr x y i) i (e_max (rn x i) (rn y i))) _
      obtain ⟨a1, a2⟩ := h i (by omega)
      obtain ⟨b1, b2⟩ := h2 i (by omega)
      rw [a1, b1, e_max_nI (by omega) (by omega)]
      refine rwN_cong (rwN_w (ih (by omega)) (by omega) (n := max (m i) (m2 i)) (by omega)) (fun t ht => ?_)
      by_cases e : t = i
      · subst e; simp
      · simp only [if_neg e]
        by_cases l : t < i
        · rw [if_pos l, if_pos (by omega)]
        · rw [if_neg l, if_neg (by omega)]
  exact rwN_cong (key 4 (Nat.le_refl _)) (fun t ht => by simp [ht])
theorem rsm_nI {x : Int32} (h : rwN x m) : rsm x 4 = nI (m 0 + m 1 + m 2 + m 3) := by
  simp only [rsm, (h 0 (by decide)).1, (h 1 (by decide)).1, (h 2 (by decide)).1, (h 3 (by decide)).1, ← nI_add, Int32.zero_add]
theorem rab_nI {x : Int32} (h : rwN x m) : ∀ i, i ≤ 4 → rab x i = nI (ct (fun t => decide (0 < m t)) i)
  | 0, _ => rfl
  | i + 1, hi => by
    obtain ⟨a1, a2⟩ := h i (by omega)
    show rab x i + _ = nI (ct _ i + _)
    rw [rab_nI h i (by omega), a1, ← nI_add]
    congr 1
    by_cases e : m i = 0
    · simp [e, nI_0]
    · rw [if_neg (nI_nle (by omega) (by omega)), if_pos (by simp; omega)]; rfl
end SETS
