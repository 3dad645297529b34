/-! REFERENCE: behind, tally -/
section RCALL3
variable {B : Nat} {I : Nat → Nat → Int32} {J : Nat → Nat → Int64} {x : eST} {y : eKS} {a b c k l s t i j n m r : Nat} {u v z : Int32}
theorem nI_max (a b : Nat) (ha : a < 2 ^ 31) (hb : b < 2 ^ 31) : (if nI b ≤ nI a then nI a else nI b) = nI (max a b) := by
  by_cases h : b ≤ a
  · rw [if_pos (nI_le h ha), Nat.max_eq_left h]
  · rw [if_neg (nI_ge (by omega) hb), Nat.max_eq_right (by omega)]
theorem gmx_le {R : Nat → Nat → Nat} {t M : Nat} (h : ∀ s, s < 4 → R s t ≤ M) : ∀ i, i ≤ 4 → gmx R i t ≤ M
  | 0, _ => Nat.zero_le _
  | i + 1, hi => by
    have := gmx_le h i (by omega)
    have := h i (by omega)
    show max _ _ ≤ M
    omega
theorem gmx_ge {R : Nat → Nat → Nat} {t s : Nat} : ∀ i, s < i → R s t ≤ gmx R i t
  | 0, h => absurd h (Nat.not_lt_zero _)
  | i + 1, h => by
    show _ ≤ max _ _
    by_cases e : s = i
    · subst e; omega
    · have := gmx_ge (R := R) (t := t) (s := s) i (by omega)
      omega
theorem gmx_tail {R : Nat → Nat → Nat} {t n : Nat} (h : ∀ s, n ≤ s → s < 4 → R s t = 0) : ∀ i, n + i ≤ 4 → gmx R (n + i) t = gmx R n t
  | 0, _ => rfl
  | i + 1, hi => by
    have := gmx_tail h i (by omega)
    have h2 := h (n + i) (by omega) (by omega)
    show max (gmx R (n + i) t) (R (n + i) t) = _
    rw [this, h2]; omega
theorem m_behind_no (h : Mo I J x) (w : WF x) {N : Nat} (hv : nix u (zN x) ∨ nix v (zK x)) : F_X12_behind N (B + 125) u v (HP B I J) = some (-1, HP B I J) := by
  have h1 := w.1.2
  have h2 := w.2.2.2.1
  unfold F_X12_behind
  rcases nix_c u (show zN x < 2 ^ 31 by omega) with e | ⟨s, hs, rfl⟩
  · simp only [M_is, Option.bind_some, X_site_no h w e, e_bind_some, if_true]
  · have e : nix v (zK x) := hv.resolve_left (nix_not hs (by omega))
    simp only [M_is, Option.bind_some, X_site_ok h w hs, X_key_no h w e, e_bind_some, if_true, if_neg (show ¬ (1 : Int32) = 0 by decide)]
theorem y_behind {N : Nat} (hN : 200 < N) (hk : k < 4) (hs : s < n) (h : MoK k I J y) (hR : ∀ s, s < 4 → ∀ t, t < 4 → kR y s t ≤ 40) (h0 : I 125 0 = nI n) (hn : n ≤ 4) : L_X12_behind_23 N (B + 125) (nI s) (nI k) 0 0 (HP B I J) = some (nI (sz (fun t => gmx (kR y) n t - kR y s t) n), HP B I J) := by
  have inner : ∀ (K : Nat → Int32 → Int32 → Int32 → Int32 → eH → Option (Int32 × eH)) (acc t : Nat), t < n → L_X12_behind_38 N K (B + 125) (nI s) (nI k) (nI acc) (nI t) 0 0 (HP B I J) = K (B + 125) (nI s) (nI k) (nI (acc + (gmx (kR y) n t - kR y s t))) (nI (t + 1)) (HP B I J) := by
    intro K acc t ht
    have hle : kR y s t ≤ gmx (kR y) n t := gmx_ge n hs
    unfold L_X12_behind_38
    have e1 := e_loop_f (body := fun (k : Nat × Int32 × Int32 × Int32 × Int32 × Int32 × Int32 × eH → Option (Int32 × eH)) s => F_X12_behind_38b N K (fun l0 l1 l2 l3 l4 l5 l6 h => k (l0, l1, l2, l3, l4, l5, l6, h)) s.1 s.2.1 s.2.2.1 s.2.2.2.1 s.2.2.2.2.1 s.2.2.2.2.2.1 s.2.2.2.2.2.2.1 s.2.2.2.2.2.2.2) (fun i => (B + 125, nI s, nI k, nI acc, nI t, nI (gmx (kR y) i t), nI i, HP B I J)) (n) (N := N) (fun i hi k0 => by
      show F_X12_behind_38b N K _ (B + 125) (nI s) (nI k) (nI acc) (nI t) (nI (gmx (kR y) i t)) (nI i) (HP B I J) = k0 _
      unfold F_X12_behind_38b
      have g1 := gmx_le (fun s hs => hR s hs t (by omega)) i (show i ≤ 4 by omega)
      have g2 := hR i (by omega) t (by omega)
      simp only [M_gi0, h0, Option.bind_some, if_neg (nI_ge hi (show n < 2 ^ 31 by omega)), M_gr16, X_rowAt, e_bind_some, nI_add, R_ai137 (show 16 * k + 4 * i + t < 64 by omega), Y_row h (show i < 4 by omega) (show t < 4 by omega), F_X12_behind_77, nI_1]
      by_cases q : kR y i t ≤ gmx (kR y) i t
      · rw [if_pos (nI_le q (by omega)), show gmx (kR y) (i + 1) t = gmx (kR y) i t from Nat.max_eq_left q]
      · rw [if_neg (nI_ge (by omega) (by omega)), show gmx (kR y) (i + 1) t = kR y i t from Nat.max_eq_right (by omega)]) (by omega)
    refine Eq.trans e1 ?_
    show F_X12_behind_38b N K _ (B + 125) (nI s) (nI k) (nI acc) (nI t) (nI (gmx (kR y) n t)) (nI n) (HP B I J) = _
    unfold F_X12_behind_38b
    simp only [M_gi0, h0, Option.bind_some, if_pos (nI_le (Nat.le_refl n) (show n < 2 ^ 31 by omega)), M_gr16, X_rowAt, e_bind_some, nI_add, R_ai137 (show 16 * k + 4 * s + t < 64 by omega), Y_row h (show s < 4 by omega) (show t < 4 by omega), e_let, pk_sub hle, nI_1]
  unfold L_X12_behind_23
  have e1 := e_loop_f (body := fun (k : Nat × Int32 × Int32 × Int32 × Int32 × eH → Option (Int32 × eH)) s => F_X12_behind_23b N (fun l0 l1 l2 l3 l4 h => k (l0, l1, l2, l3, l4, h)) s.1 s.2.1 s.2.2.1 s.2.2.2.1 s.2.2.2.2.1 s.2.2.2.2.2) (fun i => (B + 125, nI s, nI k, nI (sz (fun t => gmx (kR y) n t - kR y s t) i), nI i, HP B I J)) (n) (N := N) (fun i hi k0 => by
    show F_X12_behind_23b N _ (B + 125) (nI s) (nI k) (nI (sz (fun t => gmx (kR y) n t - kR y s t) i)) (nI i) (HP B I J) = k0 _
    unfold F_X12_behind_23b
    simp only [M_gi0, h0, Option.bind_some, if_neg (nI_ge hi (show n < 2 ^ 31 by omega))]
    exact inner _ _ i hi) (by omega)
  refine Eq.trans e1 ?_
  show F_X12_behind_23b N _ (B + 125) (nI s) (nI k) (nI (sz (fun t => gmx (kR y) n t - kR y s t) n)) (nI n) (HP B I J) = _
  unfold F_X12_behind_23b
  simp only [M_gi0, h0, Option.bind_some, if_pos (nI_le (Nat.le_refl n) (show n < 2 ^ 31 by omega))]

theorem sz_tail {f : Nat → Nat} {n : Nat} (h : ∀ t, n ≤ t → t < 4 → f t = 0) : ∀ i, n + i ≤ 4 → sz f (n + i) = sz f n
  | 0, _ => rfl
  | i + 1, hi => by
    have := sz_tail h i (by omega)
    have h2 := h (n + i) (by omega) (by omega)
    show sz f (n + i) + f (n + i) = _
    rw [this, h2]; omega
theorem sz_sub {f g : Nat → Nat} : ∀ n, (∀ t, t < n → g t ≤ f t) → sz g n ≤ sz f n ∧ sz (fun t => f t - g t) n = sz f n - sz g n
  | 0, _ => ⟨Nat.le_refl _, rfl⟩
  | n + 1, h => by
    obtain ⟨a, b⟩ := sz_sub n (fun t ht => h t (by omega))
    have := h n (by omega)
    refine ⟨?_, ?_⟩
    · show sz g n + g n ≤ sz f n + f n
      omega
    · show sz (fun t => f t - g t) n + (f n - g n) = sz f n + f n - (sz g n + g n)
      rw [b]; omega
theorem sz_4 (f : Nat → Nat) : sz f 4 = f 0 + f 1 + f 2 + f 3 := by
  show 0 + f 0 + f 1 + f 2 + f 3 = _
  omega
theorem m_behind_ok {N : Nat} (hN : 200 < N) (h : Mo I J x) (w : WF x) (hs : s < zN x) (hk : k < zK x) : F_X12_behind N (B + 125) (nI s) (nI k) (HP B I J) = some (nI (gmx (kR (zS x k)) 4 0 + gmx (kR (zS x k)) 4 1 + gmx (kR (zS x k)) 4 2 + gmx (kR (zS x k)) 4 3) - nI (kR (zS x k) s 0 + kR (zS x k) s 1 + kR (zS x k) s 2 + kR (zS x k) s 3), HP B I J) := by
  have h4 : k < 4 := Nat.lt_of_lt_of_le hk w.2.2.2.1
  have h5 : s < 4 := Nat.lt_of_lt_of_le hs w.1.2
  have hW := WF_k w h4
  have hn := w.1.2
  have hR : ∀ s, s < 4 → ∀ t, t < 4 → kR (zS x k) s t ≤ 40 := fun s hs t ht => Nat.le_trans (hW.2.1 s hs t ht).1 (hW.1 t ht).1
  have hG : ∀ t, t < 4 → gmx (kR (zS x k)) (zN x) t = gmx (kR (zS x k)) 4 t := by
    intro t ht
    have := gmx_tail (R := kR (zS x k)) (t := t) (n := zN x) (fun s h1 h2 => (hW.2.1 s h2 t ht).2 h1) (4 - zN x) (by omega)
    rw [show zN x + (4 - zN x) = 4 by omega] at this
    exact this.symm
  have e1 : sz (fun t => gmx (kR (zS x k)) (zN x) t - kR (zS x k) s t) (zN x) = sz (fun t => gmx (kR (zS x k)) 4 t - kR (zS x k) s t) 4 := by
    have := sz_tail (f := fun t => gmx (kR (zS x k)) 4 t - kR (zS x k) s t) (n := zN x) (fun t h1 h2 => by
      have g := gmx_le (R := kR (zS x k)) (t := t) (M := 0) (fun s hs => by have q1 := (hW.2.1 s hs t h2).1; have q2 := (hW.1 t h2).2 h1; omega) 4 (Nat.le_refl _)
      show gmx (kR (zS x k)) 4 t - kR (zS x k) s t = 0
      omega) (4 - zN x) (by omega)
    rw [show zN x + (4 - zN x) = 4 by omega] at this
    rw [this]
    exact sz_cong (fun t ht => by rw [hG t (by omega)])
  obtain ⟨e2, e3⟩ := sz_sub (f := fun t => gmx (kR (zS x k)) 4 t) (g := fun t => kR (zS x k) s t) 4 (fun t ht => gmx_ge 4 h5)
  unfold F_X12_behind
  simp only [M_is, Option.bind_some, X_site_ok h w hs, X_key_ok h w hk, e_bind_some, if_neg (show ¬ (1 : Int32) = 0 by decide), y_behind hN h4 hs (Mo_k h h4) hR h.1.1 hn]
  rw [e1, e3, ← pk_sub e2, sz_4, sz_4]
/-! tally -/
def aQ (y : eKS) (wh j : Nat) : Bool := if wh = 1 then true else if wh = 2 then kS y 2 j else if wh = 3 then kS y 3 j else if wh = 4 then kS y 1 j else los y j
theorem s_ct112 {N : Nat} {K5 : Nat → Int32 → Int32 → Int32 → Int32 → eH → Option (Int32 × eH)} {K : Nat → Int32 → Int32 → Int32 → Int32 → Int32 → eH → Option (Int32 × eH)} {l0 : Nat} {l1 l2 l4 : Int32} (acc i : Nat) (q : Bool) (h : eH) : F_X12_counted_112 N K5 K l0 l1 l2 (nI acc) l4 (nI i) (b2 q) h = K l0 l1 l2 (nI (acc + if q = true then 1 else 0)) l4 (nI (i + 1)) h := by
  unfold F_X12_counted_112
  simp only [X_bit, e_bind_some, e_let, nI_b2, nI_1]
theorem y_ctb {N : Nat} {K5 : Nat → Int32 → Int32 → Int32 → Int32 → eH → Option (Int32 × eH)} {K : Nat → Int32 → Int32 → Int32 → Int32 → Int32 → eH → Option (Int32 × eH)} (hk : k < 4) (ht : t < 4) (h : MoK k I J y) (hi : i < kM y t) (hM : kM y t ≤ 40) (acc wh : Nat) (h1 : 1 ≤ wh) (h2 : wh ≤ 5) : F_X12_counted_17b N K5 K (B + 125) (nI k) (nI wh) (nI acc) (nI t) (nI (i + 1)) (HP B I J) = K (B + 125) (nI k) (nI wh) (nI (acc + if aQ y wh (40 * t + i) = true then 1 else 0)) (nI t) (nI (i + 1 + 1)) (HP B I J) := by
  have hj : 40 * t + i < 160 := by omega
  have hc : cov (kM y) (40 * t + i) = true := by rw [cov_ti _ (by omega)]; exact decide_eq_true hi
  have hp := plp_lt hj
  have hp2 : 164 * k + plp (40 * t + i) < 656 := by omega
  have f107 : ∀ h, F_X12_counted_107 N K5 K (B + 125) (nI k) (nI wh) (nI acc) (nI t) (nI (i + 1)) h = K (B + 125) (nI k) (nI wh) (nI (acc + 1)) (nI t) (nI (i + 1 + 1)) h := fun h => s_ct112 acc (i + 1) true h
  have f111 : ∀ h, F_X12_counted_111 N K5 K (B + 125) (nI k) (nI wh) (nI acc) (nI t) (nI (i + 1)) h = K (B + 125) (nI k) (nI wh) (nI (acc + 0)) (nI t) (nI (i + 1 + 1)) h := fun h => s_ct112 acc (i + 1) false h
  unfold F_X12_counted_17b F_X12_counted_63 F_X12_counted_78 F_X12_counted_93
  simp only [M_gr15, n_4, nI_add, R_ai136 (show 4 * k + t < 16 by omega), Y_made h ht, Option.bind_some, if_neg (nI_nlt (show i + 1 ≤ kM y t from hi) (show kM y t < 2 ^ 31 by omega)), at_ti k (show i < 40 by omega), e_bind_some, M_gr11, M_gr12, M_gr13, M_is, R_ai132 hp2, R_ai133 hp2, R_ai134 hp2, Y_set1 h hj, Y_set2 h hj, Y_set3 h hj, y_isLost hk h hj hc, b2_0, f107, f111]
  have hw : wh = 1 ∨ wh = 2 ∨ wh = 3 ∨ wh = 4 ∨ wh = 5 := by omega
  rcases hw with rfl | rfl | rfl | rfl | rfl
  · rfl
  · show _ = K _ _ _ (nI (acc + if kS y 2 (40 * t + i) = true then 1 else 0)) _ _ _
    cases kS y 2 (40 * t + i) <;> rfl
  · show _ = K _ _ _ (nI (acc + if kS y 3 (40 * t + i) = true then 1 else 0)) _ _ _
    cases kS y 3 (40 * t + i) <;> rfl
  · show _ = K _ _ _ (nI (acc + if kS y 1 (40 * t + i) = true then 1 else 0)) _ _ _
    cases kS y 1 (40 * t + i) <;> rfl
  · show _ = K _ _ _ (nI (acc + if los y (40 * t + i) = true then 1 else 0)) _ _ _
    cases los y (40 * t + i) <;> rfl
theorem y_counted {N : Nat} (hN : 200 < N) (hk : k < 4) (h : MoK k I J y) (hM : ∀ t, t < 4 → kM y t ≤ 40) (h0 : I 125 0 = nI n) (hn : n ≤ 4) (wh : Nat) (h1 : 1 ≤ wh) (h2 : wh ≤ 5) : F_X12_counted N (B + 125) (nI k) (nI wh) (HP B I J) = some (nI (sz (fun t => ct (fun i => aQ y wh (40 * t + i)) (kM y t)) n), HP B I J) := by
  have inner : ∀ (K5 : Nat → Int32 → Int32 → Int32 → Int32 → eH → Option (Int32 × eH)) (acc t : Nat), t < 4 → L_X12_counted_17 N K5 (B + 125) (nI k) (nI wh) (nI acc) (nI t) 1 (HP B I J) = K5 (B + 125) (nI k) (nI wh) (nI (acc + ct (fun i => aQ y wh (40 * t + i)) (kM y t))) (nI (t + 1)) (HP B I J) := by
    intro K5 acc t ht
    have hMt := hM t ht
    unfold L_X12_counted_17
    have e1 := e_loop_f (body := fun (k : Nat × Int32 × Int32 × Int32 × Int32 × Int32 × eH → Option (Int32 × eH)) s => F_X12_counted_17b N K5 (fun l0 l1 l2 l3 l4 l5 h => k (l0, l1, l2, l3, l4, l5, h)) s.1 s.2.1 s.2.2.1 s.2.2.2.1 s.2.2.2.2.1 s.2.2.2.2.2.1 s.2.2.2.2.2.2) (fun i => (B + 125, nI k, nI wh, nI (acc + ct (fun z => aQ y wh (40 * t + z)) i), nI t, nI (i + 1), HP B I J)) (kM y t) (N := N) (fun i hi k0 => by
      show F_X12_counted_17b N K5 _ (B + 125) (nI k) (nI wh) (nI (acc + ct (fun z => aQ y wh (40 * t + z)) i)) (nI t) (nI (i + 1)) (HP B I J) = k0 _
      rw [y_ctb hk ht h hi hMt _ wh h1 h2, Nat.add_assoc acc]
      rfl) (by omega)
    refine Eq.trans e1 ?_
    show F_X12_counted_17b N K5 _ (B + 125) (nI k) (nI wh) (nI (acc + ct (fun z => aQ y wh (40 * t + z)) (kM y t))) (nI t) (nI ((kM y t) + 1)) (HP B I J) = _
    unfold F_X12_counted_17b
    simp only [M_gr15, n_4, nI_add, R_ai136 (show 4 * k + t < 16 by omega), Y_made h ht, Option.bind_some, if_pos (nI_lt (show kM y t < kM y t + 1 by omega) (show kM y t + 1 < 2 ^ 31 by omega)), nI_1]
  unfold F_X12_counted L_X12_counted_5
  have e1 := e_loop_f (body := fun (k : Nat × Int32 × Int32 × Int32 × Int32 × eH → Option (Int32 × eH)) s => F_X12_counted_5b N (fun l0 l1 l2 l3 l4 h => k (l0, l1, l2, l3, l4, h)) s.1 s.2.1 s.2.2.1 s.2.2.2.1 s.2.2.2.2.1 s.2.2.2.2.2) (fun i => (B + 125, nI k, nI wh, nI (sz (fun t => ct (fun z => aQ y wh (40 * t + z)) (kM y t)) i), nI i, HP B I J)) (n) (N := N) (fun i hi k0 => by
    show F_X12_counted_5b N _ (B + 125) (nI k) (nI wh) (nI (sz (fun t => ct (fun z => aQ y wh (40 * t + z)) (kM y t)) i)) (nI i) (HP B I J) = k0 _
    unfold F_X12_counted_5b
    simp only [M_gi0, h0, Option.bind_some, if_neg (nI_ge hi (show n < 2 ^ 31 by omega))]
    exact inner _ _ i (by omega)) (by omega)
  refine Eq.trans e1 ?_
  show F_X12_counted_5b N _ (B + 125) (nI k) (nI wh) (nI (sz (fun t => ct (fun z => aQ y wh (40 * t + z)) (kM y t)) n)) (nI n) (HP B I J) = _
  unfold F_X12_counted_5b
  simp only [M_gi0, h0, Option.bind_some, if_pos (nI_le (Nat.le_refl n) (show n < 2 ^ 31 by omega))]

theorem ct_cut {p : Nat → Bool} {m : Nat} : ∀ {n : Nat}, m ≤ n → ct (fun i => decide (i < m) && p i) n = ct p m
  | 0, h => by rw [show m = 0 by omega]; rfl
  | n + 1, h => by
    by_cases e : m = n + 1
    · subst e
      exact ct_cong (fun i hi => by simp [hi])
    · show ct _ n + _ = _
      rw [ct_cut (show m ≤ n by omega)]
      simp [show ¬ n < m by omega]
theorem ct_true : ∀ m, ct (fun _ => true) m = m
  | 0 => rfl
  | m + 1 => by show ct _ m + 1 = _; rw [ct_true m]
theorem ct_made {p : Nat → Bool} (hW : WFK n m y) (hn : n ≤ 4) : sz (fun t => ct (fun i => p (40 * t + i)) (kM y t)) n = ct (fun j => cov (kM y) j && p j) 160 := by
  have e := sz_tail (f := fun t => ct (fun i => p (40 * t + i)) (kM y t)) (n := n) (fun t h1 h2 => by
    show ct _ (kM y t) = 0
    rw [(hW.1 t h2).2 h1]; rfl) (4 - n) (by omega)
  rw [show n + (4 - n) = 4 by omega] at e
  rw [← e, ← ct_160]
  refine sz_cong (fun t ht => ?_)
  rw [← ct_cut (p := fun i => p (40 * t + i)) (hW.1 t ht).1]
  exact ct_cong (fun i hi => by rw [cov_ti _ hi])
theorem m_tally_no1 (h : Mo I J x) (w : WF x) {N : Nat} (hv : nix v (zK x)) {u : Int32} : F_X12_tally N (B + 125) v u (HP B I J) = some (-1, HP B I J) := by
  unfold F_X12_tally
  simp only [M_is, Option.bind_some, X_key_no h w hv, e_bind_some, if_true]
theorem l6 : (6 : Int64) = (nI 6).toInt64 := by decide +kernel
theorem l6' : (6 : Int64) = (nI 7 - 1).toInt64 := by decide +kernel
theorem m_tally_no2 (h : Mo I J x) (w : WF x) {N : Nat} (hk : k < zK x) (hv : nix v 7) : F_X12_tally N (B + 125) (nI k) v (HP B I J) = some (-1, HP B I J) := by
  unfold F_X12_tally
  simp only [M_is, Option.bind_some, X_key_ok h w hk, e_bind_some, if_neg (show ¬ (1 : Int32) = 0 by decide), X_in_no (m := 7) l6' hv (by decide), if_true]
theorem m_tally_ok {N : Nat} (hN : 200 < N) (h : Mo I J x) (w : WF x) (hk : k < zK x) (hj : j < 7) : F_X12_tally N (B + 125) (nI k) (nI j) (HP B I J) = some (aTa (zS x k) j, HP B I J) := by
  have h4 : k < 4 := Nat.lt_of_lt_of_le hk w.2.2.2.1
  have hK := Mo_k h h4
  have hW := WF_k w h4
  have hn := w.1.2
  have hf : ∀ f, f < 8 → ct (fun j => cov (kM (zS x k)) j && kS (zS x k) f j) 160 = ct (kS (zS x k) f) 160 := by
    intro f hf
    refine ct_cong (fun j hj => ?_)
    cases e : kS (zS x k) f j
    · simp
    · simp [hW.2.2.2.1 f hf j hj e]
  have e126 : I 126 k = nI (kkd (zS x k)) := h.2.2.2.2.1 k hk
  unfold F_X12_tally
  simp only [M_is, Option.bind_some, X_key_ok h w hk, e_bind_some, if_neg (show ¬ (1 : Int32) = 0 by decide), X_in_ok l6 (show j ≤ 6 by omega) (show 6 < 2 ^ 31 by decide), M_gr4, M_gr17, R_ai126 h4, R_ai138 h4, e126, hK.2.2.1]
  have yc := fun wh h1 h2 => y_counted (B := B) hN h4 hK (fun t ht => (hW.1 t ht).1) h.1.1 hn wh h1 h2
  have hc : j = 0 ∨ j = 1 ∨ j = 2 ∨ j = 3 ∨ j = 4 ∨ j = 5 ∨ j = 6 := by omega
  rcases hc with rfl | rfl | rfl | rfl | rfl | rfl | rfl
  · rfl
  · simp only [if_neg (show ¬ nI 1 = 0 by decide), if_neg (show ¬ nI 1 = 6 by decide), yc 1 (by decide) (by decide), e_bind_some]
    have e : sz (fun t => ct (fun i => aQ (zS x k) 1 (40 * t + i)) (kM (zS x k) t)) (zN x) = kM (zS x k) 0 + kM (zS x k) 1 + kM (zS x k) 2 + kM (zS x k) 3 := by
      rw [← sz_4]
      have e := sz_tail (f := fun t => kM (zS x k) t) (n := zN x) (fun t h1 h2 => (hW.1 t h2).2 h1) (4 - zN x) (by omega)
      rw [show zN x + (4 - zN x) = 4 by omega] at e
      rw [e]
      exact sz_cong (fun t _ => ct_true _)
    rw [e]; rfl
  · simp only [if_neg (show ¬ nI 2 = 0 by decide), if_neg (show ¬ nI 2 = 6 by decide), yc 2 (by decide) (by decide), e_bind_some]
    rw [ct_made (p := aQ (zS x k) 2) hW hn, show ct (fun j => cov (kM (zS x k)) j && aQ (zS x k) 2 j) 160 = ct (kS (zS x k) 2) 160 from hf 2 (by decide)]; rfl
  · simp only [if_neg (show ¬ nI 3 = 0 by decide), if_neg (show ¬ nI 3 = 6 by decide), yc 3 (by decide) (by decide), e_bind_some]
    rw [ct_made (p := aQ (zS x k) 3) hW hn, show ct (fun j => cov (kM (zS x k)) j && aQ (zS x k) 3 j) 160 = ct (kS (zS x k) 3) 160 from hf 3 (by decide)]; rfl
  · simp only [if_neg (show ¬ nI 4 = 0 by decide), if_neg (show ¬ nI 4 = 6 by decide), yc 4 (by decide) (by decide), e_bind_some]
    rw [ct_made (p := aQ (zS x k) 4) hW hn, show ct (fun j => cov (kM (zS x k)) j && aQ (zS x k) 4 j) 160 = ct (kS (zS x k) 1) 160 from hf 1 (by decide)]; rfl
  · simp only [if_neg (show ¬ nI 5 = 0 by decide), if_neg (show ¬ nI 5 = 6 by decide), yc 5 (by decide) (by decide), e_bind_some]
    rw [ct_made (p := aQ (zS x k) 5) hW hn, show ct (fun j => cov (kM (zS x k)) j && aQ (zS x k) 5 j) 160 = ct (los (zS x k)) 160 from ct_cong (fun j _ => by show (cov (kM (zS x k)) j && los (zS x k) j) = _; unfold los; cases cov (kM (zS x k)) j <;> simp)]; rfl
  · rfl
end RCALL3
