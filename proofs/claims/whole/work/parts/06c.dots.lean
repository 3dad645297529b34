/-! ROWS AND DOTS of the class, as functions of the memory -/
def b2 (b : Bool) : Int32 := if b then 1 else 0
theorem h_z0 : h_z 0 = some 0 := rfl
theorem h_z1 : h_z 1 = some 1 := rfl
theorem nI_n0 {i : Nat} (h : i < 2 ^ 31) : ¬ nI i < 0 := nI_pos h
theorem e_bind_some {α β : Type} (v : α) (h : eH) (f : α → eH → Option β) : e_bind (some (v, h)) f = f v h := rfl
theorem k4_lt : ∀ i, i < 4 → ¬ (4 : Int32) ≤ nI i := by decide
theorem k4_n : (4 : Int32) ≤ nI 4 := by decide
/-- writes at the first i places -/
def wN {α : Type} (I : Nat → Nat → α) (c i : Nat) (f : Nat → α) : Nat → Nat → α := fun c' k' => if c' = c ∧ k' < i then f k' else I c' k'
theorem wN_0 {α : Type} (I : Nat → Nat → α) (c : Nat) (f : Nat → α) : wN I c 0 f = I := by funext a b; simp [wN]
theorem wN_s {α : Type} (I : Nat → Nat → α) (c i : Nat) (f : Nat → α) : w2 (wN I c i f) c i (f i) = wN I c (i + 1) f := by
  funext a b
  unfold w2 wN
  by_cases h : a = c
  · by_cases h2 : b = i
    · subst h2; simp [h]
    · have e : (b < i + 1) = (b < i) := by apply propext; omega
      simp [h, h2, e]
  · simp [h]
theorem wN_at {α : Type} (I : Nat → Nat → α) (c i : Nat) (f : Nat → α) {k : Nat} (h : i ≤ k) : wN I c i f c k = I c k := by simp [wN, Nat.not_lt.mpr h]
theorem wN_in {α : Type} (I : Nat → Nat → α) (c i : Nat) (f : Nat → α) {k : Nat} (h : k < i) : wN I c i f c k = f k := by simp [wN, h]
theorem wN_c {α : Type} (I : Nat → Nat → α) {c c' : Nat} (i : Nat) (f : Nat → α) (k : Nat) (h : c' ≠ c) : wN I c i f c' k = I c' k := by simp [wN, h]
section AIN
variable {B : Nat} {I : Nat → Nat → Int32} {J : Nat → Nat → Int64} {c ci k n t i : Nat}
theorem m_aiN (hs : m_sh c = (2, t, n)) (hi : i < n) (hn : n < 2 ^ 31) : h_ai (HP B I J) t (B + c) (nI i) = some (I c i) := by
  rw [m_ai hs (nI_pos (Nat.lt_trans hi hn)) (by rw [nI_clamp (Nat.lt_trans hi hn)]; exact hi), nI_clamp (Nat.lt_trans hi hn)]
theorem m_alN (hs : m_sh c = (3, t, n)) (hi : i < n) (hn : n < 2 ^ 31) : h_al64 (HP B I J) (B + c) (nI i) = some (J c i) := by
  rw [m_al hs (nI_pos (Nat.lt_trans hi hn)) (by rw [nI_clamp (Nat.lt_trans hi hn)]; exact hi), nI_clamp (Nat.lt_trans hi hn)]
theorem m_arN (hs : m_sh c = (4, t, n)) (hi : i < n) (hn : n < 2 ^ 31) : h_ar (HP B I J) t (B + c) (nI i) = some (B + m_rf c i) := by
  rw [m_ar hs (nI_pos (Nat.lt_trans hi hn)) (by rw [nI_clamp (Nat.lt_trans hi hn)]; exact hi), nI_clamp (Nat.lt_trans hi hn)]
theorem m_siN {v : Int32} (hs : m_sh c = (2, t, n)) (hi : i < n) (hn : n < 2 ^ 31) : h_si (HP B I J) t (B + c) (nI i) v = some (HP B (w2 I c i v) J) := by
  rw [m_si hs (nI_pos (Nat.lt_trans hi hn)) (by rw [nI_clamp (Nat.lt_trans hi hn)]; exact hi), nI_clamp (Nat.lt_trans hi hn)]
theorem m_slN {v : Int64} (hs : m_sh c = (3, t, n)) (hi : i < n) (hn : n < 2 ^ 31) : h_sl (HP B I J) (B + c) (nI i) v = some (HP B I (w2 J c i v)) := by
  rw [m_sl hs (nI_pos (Nat.lt_trans hi hn)) (by rw [nI_clamp (Nat.lt_trans hi hn)]; exact hi), nI_clamp (Nat.lt_trans hi hn)]
end AIN
/-! rows -/
theorem s_number (x : Int32) (t : Nat) (h : eH) : F_X9_number x (nI t) h = some (rn x t, h) := rfl
theorem s_with (x : Int32) (t : Nat) (v : Int32) (h : eH) : F_X9_with x (nI t) v h = some (rw_ x t v, h) := rfl
/-- the greater row, number by number, up to the place t -/
def rgr (x y : Int32) : Nat → Int32
  | 0 => 0
  | t + 1 => rw_ (rgr x y t) t (e_max (rn x t) (rn y t))
theorem s_greater {N : Nat} (hN : 5 < N) (x y : Int32) (h : eH) : F_X9_greater N x y h = some (rgr x y 4, h) := by
  unfold F_X9_greater L_X9_greater_4
  have e := e_loop_f (body := fun (k : Int32 × Int32 × Int32 × Int32 × eH → Option (Int32 × eH)) s => F_X9_greater_4b N (fun l0 l1 l2 l3 h => k (l0, l1, l2, l3, h)) s.1 s.2.1 s.2.2.1 s.2.2.2.1 s.2.2.2.2) (fun i => (x, y, rgr x y i, nI i, h)) 4 (N := N) (fun i hi k => by
    show F_X9_greater_4b N _ x y (rgr x y i) (nI i) h = _
    unfold F_X9_greater_4b
    rw [if_neg (k4_lt i hi)]
    simp only [s_number, s_with, e_bind_some, nI_1]
    rfl) (by omega)
  refine Eq.trans e ?_
  show F_X9_greater_4b N _ x y (rgr x y 4) (nI 4) h = _
  unfold F_X9_greater_4b
  rw [if_pos k4_n]
def rsm (x : Int32) : Nat → Int32
  | 0 => 0
  | t + 1 => rsm x t + rn x t
theorem s_sum {N : Nat} (hN : 5 < N) (x : Int32) (h : eH) : F_X9_sum N x h = some (rsm x 4, h) := by
  unfold F_X9_sum L_X9_sum_4
  have e := e_loop_f (body := fun (k : Int32 × Int32 × Int32 × eH → Option (Int32 × eH)) s => F_X9_sum_4b N (fun l0 l1 l2 h => k (l0, l1, l2, h)) s.1 s.2.1 s.2.2.1 s.2.2.2) (fun i => (x, rsm x i, nI i, h)) 4 (N := N) (fun i hi k => by
    show F_X9_sum_4b N _ x (rsm x i) (nI i) h = _
    unfold F_X9_sum_4b
    rw [if_neg (k4_lt i hi)]
    simp only [s_number, e_bind_some, nI_1, e_let]
    rfl) (by omega)
  refine Eq.trans e ?_
  show F_X9_sum_4b N _ x (rsm x 4) (nI 4) h = _
  unfold F_X9_sum_4b
  rw [if_pos k4_n]
def rab (x : Int32) : Nat → Int32
  | 0 => 0
  | t + 1 => rab x t + (if rn x t ≤ 0 then 0 else 1)
theorem s_above {N : Nat} (hN : 5 < N) (x : Int32) (h : eH) : F_X9_aboveZero N x h = some (rab x 4, h) := by
  unfold F_X9_aboveZero L_X9_aboveZero_4
  have e := e_loop_f (body := fun (k : Int32 × Int32 × Int32 × eH → Option (Int32 × eH)) s => F_X9_aboveZero_4b N (fun l0 l1 l2 h => k (l0, l1, l2, h)) s.1 s.2.1 s.2.2.1 s.2.2.2) (fun i => (x, rab x i, nI i, h)) 4 (N := N) (fun i hi k => by
    show F_X9_aboveZero_4b N _ x (rab x i) (nI i) h = _
    unfold F_X9_aboveZero_4b F_X9_aboveZero_23
    rw [if_neg (k4_lt i hi)]
    simp only [s_number, e_bind_some, nI_1, e_let]
    show (if rn x i ≤ 0 then _ else _) = k (x, rab x (i + 1), nI (i + 1), h)
    rw [show rab x (i + 1) = rab x i + (if rn x i ≤ 0 then 0 else 1) from rfl]
    split <;> rfl) (by omega)
  refine Eq.trans e ?_
  show F_X9_aboveZero_4b N _ x (rab x 4) (nI 4) h = _
  unfold F_X9_aboveZero_4b
  rw [if_pos k4_n]
/-! dots: the dot of site t, number n -/
def dt (t n : Nat) : Int32 := nI (40 * t + (n - 1))
theorem dt_lt {t n : Nat} (ht : t < 4) (hn : n < 41) (h1 : 1 ≤ n) : 40 * t + (n - 1) < 160 := by omega
theorem s_of {t n : Nat} (h1 : 1 ≤ n) (h : eH) : F_X1_of (nI t) (nI n) h = some (dt t n, h) := by
  unfold F_X1_of dt
  congr 2
  obtain ⟨m, rfl⟩ : ∃ m, n = m + 1 := ⟨n - 1, by omega⟩
  rw [show (40 : Int32) = nI 40 from rfl, pk_mul, nI_add, Nat.add_sub_cancel, Nat.mul_comm t 40, show 40 * t + (m + 1) = (40 * t + m) + 1 by omega, nI_pred]
theorem s_isDot {t n : Nat} (ht : t < 4) (hn : n < 41) (h1 : 1 ≤ n) (h : eH) : F_X1_isDot (dt t n) h = some (1, h) := by
  have hl := dt_lt ht hn h1
  unfold F_X1_isDot dt
  rw [if_neg (nI_pos (by omega)), if_neg (show ¬ (160 : Int32) ≤ nI (40 * t + (n - 1)) from nI_ge hl (by decide))]
  rfl
theorem s_siteOf {t n : Nat} (ht : t < 4) (hn : n < 41) (h1 : 1 ≤ n) (h : eH) : F_X1_siteOf (dt t n) h = some (nI t, h) := by
  have hl := dt_lt ht hn h1
  unfold F_X1_siteOf dt
  rw [show (40 : Int32) = nI 40 from rfl, pk_div (by omega) (by omega) (by omega), show (40 * t + (n - 1)) / 40 = t by omega]
theorem s_numberOf {t n : Nat} (ht : t < 4) (hn : n < 41) (h1 : 1 ≤ n) (h : eH) : F_X1_numberOf (dt t n) h = some (nI n, h) := by
  have hl := dt_lt ht hn h1
  unfold F_X1_numberOf dt
  rw [show (40 : Int32) = nI 40 from rfl, pk_rem (by omega) (by omega) (by omega), show (40 * t + (n - 1)) % 40 = n - 1 by omega, nI_1, show n - 1 + 1 = n by omega]
theorem s_bitOf {t n : Nat} (ht : t < 4) (hn : n < 41) (h1 : 1 ≤ n) (h : eH) : F_X1_bitOf (dt t n) h = some (cb n, h) := by
  unfold F_X1_bitOf
  rw [s_numberOf ht hn h1, e_bind_some]
  rfl
theorem s_covered {x : Int32} {t m : Nat} (hm : rn x t = nI m) (h : eH) : F_X1_covered x (nI t) h = some (cv m, h) := by
  unfold F_X1_covered
  rw [s_number, e_bind_some, hm]
  rfl
section DOTS
variable {B : Nat} {I : Nat → Nat → Int32} {J : Nat → Nat → Int64} {d e t n i : Nat}
theorem d_is (hd : isD d) : h_is (HP B I J) 1 (B + d) = some () := m_is hd.1
theorem d_gr (hd : isD d) : h_gr (HP B I J) 1 (B + d) 0 = some (B + (d + 1)) := by rw [m_gr hd.1 (by decide) (by decide), hd.2.2]
theorem d_len (hd : isD d) : h_len (HP B I J) (B + (d + 1)) = some 4 := m_len3 hd.2.1
theorem d_al (hd : isD d) (ht : t < 4) : h_al64 (HP B I J) (B + (d + 1)) (nI t) = some (J (d + 1) t) := m_alN hd.2.1 ht (by decide)
theorem d_sl {v : Int64} (hd : isD d) (ht : t < 4) : h_sl (HP B I J) (B + (d + 1)) (nI t) v = some (HP B I (w2 J (d + 1) t v)) := m_slN hd.2.1 ht (by decide)
theorem s_has (hd : isD d) (ht : t < 4) (hn : n < 41) (h1 : 1 ≤ n) : F_X1_has (B + d) (dt t n) (HP B I J) = some (b2 (g64 (J (d + 1) t) (n - 1)), HP B I J) := by
  unfold F_X1_has
  simp only [s_isDot ht hn h1, s_siteOf ht hn h1, s_bitOf ht hn h1, e_bind_some, d_gr hd, d_al hd ht, Option.bind_some, if_neg (show ¬ ((1 : Int32) = 0) by decide), h_z0, h_z1, lg_cmp0, g_has h1 hn]
  cases g64 (J (d + 1) t) (n - 1) <;> simp [b2]
theorem s_add (hd : isD d) (ht : t < 4) (hn : n < 41) (h1 : 1 ≤ n) : F_X1_add (B + d) (dt t n) (HP B I J) = some ((), HP B I (w2 J (d + 1) t (J (d + 1) t ||| cb n))) := by
  unfold F_X1_add
  simp only [s_isDot ht hn h1, s_siteOf ht hn h1, s_bitOf ht hn h1, e_bind_some, d_gr hd, d_al hd ht, d_sl hd ht, Option.bind_some, if_neg (show ¬ ((1 : Int32) = 0) by decide)]
theorem s_remove (hd : isD d) (ht : t < 4) (hn : n < 41) (h1 : 1 ≤ n) : F_X1_remove (B + d) (dt t n) (HP B I J) = some ((), HP B I (w2 J (d + 1) t (J (d + 1) t &&& (cb n ^^^ (-1))))) := by
  unfold F_X1_remove
  simp only [s_isDot ht hn h1, s_siteOf ht hn h1, s_bitOf ht hn h1, e_bind_some, d_gr hd, d_al hd ht, d_sl hd ht, Option.bind_some, if_neg (show ¬ ((1 : Int32) = 0) by decide)]
theorem s_empty {N : Nat} (hN : 5 < N) (hd : isD d) : F_X1_empty N (B + d) (HP B I J) = some ((), HP B I (wN J (d + 1) 4 (fun _ => 0))) := by
  unfold F_X1_empty L_X1_empty_2
  have e := e_loop_f (body := fun (k : Nat × Int32 × eH → Option (Unit × eH)) s => F_X1_empty_2b N (fun l0 l1 h => k (l0, l1, h)) s.1 s.2.1 s.2.2) (fun i => (B + d, nI i, HP B I (wN J (d + 1) i (fun _ => 0)))) 4 (N := N) (fun i hi k => by
    show F_X1_empty_2b N _ (B + d) (nI i) (HP B I _) = _
    unfold F_X1_empty_2b
    rw [if_neg (k4_lt i hi)]
    simp only [d_gr hd, d_sl hd hi, Option.bind_some, nI_1, wN_s J (d + 1) i (fun _ => (0 : Int64))]) (by omega)
  simp only [wN_0] at e
  refine Eq.trans e ?_
  show F_X1_empty_2b N _ (B + d) (nI 4) (HP B I _) = _
  unfold F_X1_empty_2b
  rw [if_pos k4_n]
theorem s_addAll {N : Nat} (hN : 5 < N) (hd : isD d) (he : isD e) (hde : e + 1 ≠ d + 1) : F_X1_addAll N (B + d) (B + e) (HP B I J) = some ((), HP B I (wN J (d + 1) 4 (fun t => J (d + 1) t ||| J (e + 1) t))) := by
  unfold F_X1_addAll L_X1_addAll_2
  have e1 := e_loop_f (body := fun (k : Nat × Nat × Int32 × eH → Option (Unit × eH)) s => F_X1_addAll_2b N (fun l0 l1 l2 h => k (l0, l1, l2, h)) s.1 s.2.1 s.2.2.1 s.2.2.2) (fun i => (B + d, B + e, nI i, HP B I (wN J (d + 1) i (fun t => J (d + 1) t ||| J (e + 1) t)))) 4 (N := N) (fun i hi k => by
    show F_X1_addAll_2b N _ (B + d) (B + e) (nI i) (HP B I _) = _
    unfold F_X1_addAll_2b
    rw [if_neg (k4_lt i hi)]
    simp only [d_gr hd, d_gr he, d_al hd hi, d_al he hi, d_sl hd hi, Option.bind_some, nI_1, wN_at J (d + 1) i _ (Nat.le_refl i), wN_c J i _ i hde, wN_s J (d + 1) i (fun t => J (d + 1) t ||| J (e + 1) t)]) (by omega)
  simp only [wN_0] at e1
  refine Eq.trans e1 ?_
  show F_X1_addAll_2b N _ (B + d) (B + e) (nI 4) (HP B I _) = _
  unfold F_X1_addAll_2b
  rw [if_pos k4_n]
end DOTS
