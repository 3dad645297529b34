/-! REFERENCE: reads -/
/-- writes at n places from b on -/
def wO {α : Type} (I : Nat → Nat → α) (c b n : Nat) (f : Nat → α) : Nat → Nat → α := fun c' k' => if c' = c ∧ b ≤ k' ∧ k' < b + n then f (k' - b) else I c' k'
theorem wO_0 {α : Type} (I : Nat → Nat → α) (c b : Nat) (f : Nat → α) : wO I c b 0 f = I := by
  funext a z
  exact if_neg (by omega)
theorem wO_s {α : Type} (I : Nat → Nat → α) (c b n : Nat) (f : Nat → α) : w2 (wO I c b n f) c (b + n) (f n) = wO I c b (n + 1) f := by
  funext a z
  unfold w2 wO
  by_cases h : a = c
  · by_cases h2 : z = b + n
    · rw [if_pos ⟨h, h2⟩, if_pos ⟨h, by omega, by omega⟩, h2, Nat.add_sub_cancel_left]
    · rw [if_neg (fun q => h2 q.2)]
      by_cases h3 : b ≤ z ∧ z < b + n
      · rw [if_pos ⟨h, h3⟩, if_pos ⟨h, by omega, by omega⟩]
      · rw [if_neg (fun q => h3 q.2), if_neg (fun q => h3 ⟨q.2.1, by omega⟩)]
  · rw [if_neg (fun q => h q.1), if_neg (fun q => h q.1), if_neg (fun q => h q.1)]
theorem wO_c {α : Type} (I : Nat → Nat → α) {c c' : Nat} (b n : Nat) (f : Nat → α) {k : Nat} (h : c' ≠ c) : wO I c b n f c' k = I c' k := if_neg (fun q => h q.1)
theorem wO_in {α : Type} (I : Nat → Nat → α) (c b n : Nat) (f : Nat → α) {k : Nat} (h : k < n) : wO I c b n f c (b + k) = f k := by
  unfold wO
  rw [if_pos ⟨rfl, by omega, by omega⟩, Nat.add_sub_cancel_left]
theorem wO_out {α : Type} (I : Nat → Nat → α) (c b n : Nat) (f : Nat → α) {k : Nat} (h : k < b ∨ b + n ≤ k) : wO I c b n f c k = I c k := if_neg (by omega)
theorem wO_skip {α : Type} (I : Nat → Nat → α) (c b n : Nat) (f : Nat → α) (d : Nat) (h : ∀ q, n ≤ q → q < n + d → f q = I c (b + q)) : wO I c b n f = wO I c b (n + d) f := by
  funext a z
  unfold wO
  by_cases h1 : a = c
  · by_cases h2 : b ≤ z ∧ z < b + n
    · rw [if_pos ⟨h1, h2⟩, if_pos ⟨h1, by omega, by omega⟩]
    · rw [if_neg (fun q => h2 q.2)]
      by_cases h3 : b ≤ z ∧ z < b + (n + d)
      · rw [if_pos ⟨h1, h3⟩, h (z - b) (by omega) (by omega), h1, show b + (z - b) = z by omega]
      · rw [if_neg (fun q => h3 q.2)]
  · rw [if_neg (fun q => h1 q.1), if_neg (fun q => h1 q.1)]
theorem osv_0 {r St : Nat → Nat} {i : Nat} (h : r i = 0) : osv r St i = 0 := if_pos h
theorem osv_1 {r St : Nat → Nat} {i : Nat} (h : r i ≠ 0) : osv r St i = St (40 * i + (r i - 1)) := if_neg h
theorem ost_p {r St : Nat → Nat} : ∀ i, (ost r St i).2 ≠ 0 → (ost r St i).1 < i ∧ r (ost r St i).1 ≠ 0 ∧ (ost r St i).2 = osv r St (ost r St i).1
  | 0, h => absurd rfl h
  | i + 1, h => by
    have ih := ost_p (r := r) (St := St) i
    have e : ost r St (i + 1) = os1 (ost r St i) i (osv r St i) := rfl
    rw [e] at h ⊢
    unfold os1 at h ⊢
    have hr : osv r St i ≠ 0 → r i ≠ 0 := fun q z => q (osv_0 z)
    by_cases h1 : osv r St i = 0
    · rw [if_pos h1] at h ⊢
      obtain ⟨a, b, c⟩ := ih h
      exact ⟨by omega, b, c⟩
    · rw [if_neg h1] at h ⊢
      by_cases h2 : (ost r St i).2 = 0
      · rw [if_pos h2]
        exact ⟨by show i < i + 1; omega, hr h1, rfl⟩
      · rw [if_neg h2] at h ⊢
        by_cases h3 : (ost r St i).2 ≤ osv r St i
        · rw [if_pos h3]
          obtain ⟨a, b, c⟩ := ih h2
          exact ⟨by omega, b, c⟩
        · rw [if_neg h3]
          exact ⟨by show i < i + 1; omega, hr h1, rfl⟩
theorem ost_z {r St : Nat → Nat} : ∀ i, (ost r St i).2 = 0 → ∀ t, t < i → osv r St t = 0
  | 0, _, t, ht => absurd ht (Nat.not_lt_zero t)
  | i + 1, h, t, ht => by
    have ih := ost_z (r := r) (St := St) i
    have e : ost r St (i + 1) = os1 (ost r St i) i (osv r St i) := rfl
    rw [e] at h
    unfold os1 at h
    by_cases h1 : osv r St i = 0
    · rw [if_pos h1] at h
      rcases Nat.lt_or_ge t i with q | q
      · exact ih h t q
      · rw [show t = i by omega]; exact h1
    · rw [if_neg h1] at h
      by_cases h2 : (ost r St i).2 = 0
      · rw [if_pos h2] at h; exact absurd h h1
      · rw [if_neg h2] at h
        by_cases h3 : (ost r St i).2 ≤ osv r St i
        · rw [if_pos h3] at h; exact absurd h h2
        · rw [if_neg h3] at h; exact absurd h h1
theorem ost_tail {r St : Nat → Nat} {n : Nat} (h : ∀ t, n ≤ t → t < 4 → r t = 0) : ∀ i, n + i ≤ 4 → ost r St (n + i) = ost r St n
  | 0, _ => rfl
  | i + 1, hi => by
    have ih := ost_tail (St := St) h i (by omega)
    show os1 (ost r St (n + i)) (n + i) (osv r St (n + i)) = _
    rw [osv_0 (h (n + i) (by omega) (by omega))]
    exact ih
theorem ost_4 {r St : Nat → Nat} {n : Nat} (hn : n ≤ 4) (h : ∀ t, n ≤ t → t < 4 → r t = 0) : ost r St 4 = ost r St n := by
  have := ost_tail (St := St) h (4 - n) (by omega)
  rwa [show n + (4 - n) = 4 by omega] at this
theorem prn_ct {r St : Nat → Nat} (hS : ∀ r2 : Nat → Nat, (∀ t, r2 t ≤ r t) → (∃ t, t < 4 ∧ 0 < r2 t) → (ost r2 St 4).2 ≠ 0) : ∀ e, e ≤ ct (fun t => decide (0 < r t)) 4 → ct (fun t => decide (0 < prn r St e t)) 4 + e = ct (fun t => decide (0 < r t)) 4
  | 0, _ => Nat.add_zero _
  | e + 1, he => by
    have ih := prn_ct hS e (by omega)
    obtain ⟨t, t1, t2⟩ := ct_pos (p := fun t => decide (0 < prn r St e t)) (n := 4) (by omega)
    have hz := hS (prn r St e) (prn_le r St e) ⟨t, t1, of_decide_eq_true t2⟩
    obtain ⟨p1, p2, _⟩ := ost_p 4 hz
    have hl := ct_less (p := fun t => decide (0 < prn r St e t)) (q := fun t => decide (0 < prn r St (e + 1) t)) (b := (ost (prn r St e) St 4).1) (decide_eq_true (by omega)) (by
      show decide (0 < (if (ost (prn r St e) St 4).1 = (ost (prn r St e) St 4).1 then 0 else prn r St e (ost (prn r St e) St 4).1)) = false
      rw [if_pos rfl]; rfl) (fun i hi => by
      show decide (0 < (if i = (ost (prn r St e) St 4).1 then 0 else prn r St e i)) = _
      rw [if_neg hi]) 4 p1
    omega
section RREAD
variable {B : Nat} {I : Nat → Nat → Int32} {J : Nat → Nat → Int64} {x : eST} {y : eKS} {a b c k l s t i j n m : Nat} {r : Nat → Nat} {u v z : Int32}
def enw (a : Nat × Nat) : Int32 := if a.2 = 0 then -9 else nI a.1
theorem dot_r {m r : Nat → Nat} (ht : t < 4) (hr : r t ≤ m t) (hm : m t ≤ 40) (h0 : r t ≠ 0) : 40 * t + (r t - 1) < 160 ∧ cov m (40 * t + (r t - 1)) = true := by
  refine ⟨by omega, ?_⟩
  rw [cov_ti _ (by omega), decide_eq_true_eq]; omega
theorem y_oldest {N : Nat} {K : Nat → Int32 → Int32 → Int32 → Int32 → eH → Option (Int32 × eH)} (hN : 200 < N) (hc : c < 4) (hk : k < 4) (h : MoK k I J y) (hst : ∀ j, j < 160 → cov (kM y) j = true → 0 < kSt y j ∧ kSt y j < 2 ^ 31) (hM : ∀ t, t < 4 → kM y t ≤ 40) (hr : ∀ t, t < 4 → r t ≤ kM y t) (h0 : I 125 0 = nI n) (hn : n ≤ 4) (hn0 : ∀ t, n ≤ t → t < 4 → r t = 0) (h141 : ∀ t, t < 4 → I 141 (4 * c + t) = nI (r t)) (hex : ∃ t, t < 4 ∧ 0 < r t) (q : Nat) : L_X12_reads_135 N K (B + 125) (nI c) (nI s) (nI k) (nI (q + 1)) (-9) 0 (HP B I J) = K (B + 125) (nI c) (nI s) (nI k) (nI q) (HP B (w2 I 141 (4 * c + (ost r (kSt y) 4).1) 0) J) ∧ (ost r (kSt y) 4).2 ≠ 0 := by
  have hz : (ost r (kSt y) 4).2 ≠ 0 := by
    intro z
    obtain ⟨t, t1, t2⟩ := hex
    have e := ost_z 4 z t t1
    rw [osv_1 (by omega)] at e
    obtain ⟨d1, d2⟩ := dot_r t1 (hr t t1) (hM t t1) (by omega)
    have := (hst _ d1 d2).1
    omega
  have e4 := ost_4 (St := kSt y) hn hn0
  refine ⟨?_, hz⟩
  unfold L_X12_reads_135
  have e1 := e_loop_f (body := fun (k : Nat × Int32 × Int32 × Int32 × Int32 × Int32 × Int32 × eH → Option (Int32 × eH)) s => F_X12_reads_135b N K (fun l0 l1 l2 l3 l4 l5 l6 h => k (l0, l1, l2, l3, l4, l5, l6, h)) s.1 s.2.1 s.2.2.1 s.2.2.2.1 s.2.2.2.2.1 s.2.2.2.2.2.1 s.2.2.2.2.2.2.1 s.2.2.2.2.2.2.2) (fun i => (B + 125, nI c, nI s, nI k, nI (q + 1), enw (ost r (kSt y) i), nI i, HP B I J)) (n) (N := N) (fun i hi k0 => by
    show F_X12_reads_135b N K _ (B + 125) (nI c) (nI s) (nI k) (nI (q + 1)) (enw (ost r (kSt y) i)) (nI i) (HP B I J) = k0 _
    unfold F_X12_reads_135b
    have hr40 : ∀ t, t < 4 → r t ≤ 40 := fun t ht => Nat.le_trans (hr t ht) (hM t ht)
    have hri := hr40 i (by omega)
    simp only [M_gi0, h0, Option.bind_some, if_neg (nI_ge hi (show n < 2 ^ 31 by omega)), M_gr20, n_4, nI_add, R_ai141 (show 4 * c + i < 16 by omega), h141 i (show i < 4 by omega), F_X12_reads_211, F_X12_reads_207, F_X12_reads_212, F_X12_reads_226, nI_1, if_true, if_neg (show ¬ (1 : Int32) = 0 by decide)]
    by_cases e : r i = 0
    · rw [if_pos (by rw [e]; decide), show ost r (kSt y) (i + 1) = ost r (kSt y) i by show os1 _ _ _ = _; rw [osv_0 e]; rfl]
    · obtain ⟨d1, d2⟩ := dot_r (show i < 4 by omega) (hr i (by omega)) (hM i (by omega)) e
      obtain ⟨s1, s2⟩ := hst _ d1 d2
      have g1 := Y_stamp h d1 d2
      have ev := osv_1 (St := kSt y) e
      have hne : osv r (kSt y) i ≠ 0 := by omega
      rw [if_neg (nI_nle (by omega) (by omega))]
      by_cases z : (ost r (kSt y) i).2 = 0
      · rw [show enw (ost r (kSt y) i) = -9 from if_pos z, if_pos rfl, show ost r (kSt y) (i + 1) = (i, osv r (kSt y) i) by show os1 _ _ _ = _; unfold os1; rw [if_neg hne, if_pos z], show enw (i, osv r (kSt y) i) = nI i from if_neg hne]
      · obtain ⟨p1, p2, p3⟩ := ost_p i z
        obtain ⟨d3, d4⟩ := dot_r (show (ost r (kSt y) i).1 < 4 by omega) (hr _ (by omega)) (hM _ (by omega)) p2
        obtain ⟨s3, s4⟩ := hst _ d3 d4
        have g2 := Y_stamp h d3 d4
        have hw40 := hr40 (ost r (kSt y) i).1 (by omega)
        have ev2 := osv_1 (St := kSt y) p2
        have b1 := plp_lt d1
        have b2' := plp_lt d3
        rw [show enw (ost r (kSt y) i) = nI (ost r (kSt y) i).1 from if_neg z, if_neg (nI_m9 (by omega))]
        simp only [M_gr7, M_gr20, at_tn k (show 1 ≤ r i by omega) hri, e_bind_some, R_ai128 (show 164 * k + plp (40 * i + (r i - 1)) < 656 by omega), g1, Option.bind_some, n_4, nI_add, R_ai141 (show 4 * c + (ost r (kSt y) i).1 < 16 by omega), h141 _ (show (ost r (kSt y) i).1 < 4 by omega), at_tn k (show 1 ≤ r (ost r (kSt y) i).1 by omega) hw40, R_ai128 (show 164 * k + plp (40 * (ost r (kSt y) i).1 + (r (ost r (kSt y) i).1 - 1)) < 656 by omega), g2, nI_leI s4 s2]
        by_cases q2 : kSt y (40 * (ost r (kSt y) i).1 + (r (ost r (kSt y) i).1 - 1)) ≤ kSt y (40 * i + (r i - 1))
        · rw [if_pos q2, show ost r (kSt y) (i + 1) = ost r (kSt y) i by show os1 _ _ _ = _; unfold os1; rw [if_neg hne, if_neg z, if_pos (by omega)], show enw (ost r (kSt y) i) = nI (ost r (kSt y) i).1 from if_neg z]
        · rw [if_neg q2, show ost r (kSt y) (i + 1) = (i, osv r (kSt y) i) by show os1 _ _ _ = _; unfold os1; rw [if_neg hne, if_neg z, if_neg (by omega)], show enw (i, osv r (kSt y) i) = nI i from if_neg hne]) (by omega)
  refine Eq.trans e1 ?_
  show F_X12_reads_135b N K _ (B + 125) (nI c) (nI s) (nI k) (nI (q + 1)) (enw (ost r (kSt y) n)) (nI n) (HP B I J) = _
  unfold F_X12_reads_135b
  rw [← e4]
  have p1 := (ost_p 4 hz).1
  simp only [M_gi0, h0, Option.bind_some, if_pos (nI_le (Nat.le_refl n) (show n < 2 ^ 31 by omega)), M_gr20, show enw (ost r (kSt y) 4) = nI (ost r (kSt y) 4).1 from if_neg hz, n_4, nI_add, R_si141 (show 4 * c + (ost r (kSt y) 4).1 < 16 by omega), pk_m1]

/-- the told row, pruned -/
theorem y_prune {N : Nat} (hN : 200 < N) (hc : c < 4) (hk : k < 4) (h : MoK k I J y) (hst : ∀ j, j < 160 → cov (kM y) j = true → 0 < kSt y j ∧ kSt y j < 2 ^ 31) (hM : ∀ t, t < 4 → kM y t ≤ 40) (hr : ∀ t, r t ≤ r t → t < 4 → r t ≤ kM y t) (h0 : I 125 0 = nI n) (hn : n ≤ 4) (hn0 : ∀ t, n ≤ t → t < 4 → r t = 0) (h141 : ∀ t, t < 4 → I 141 (4 * c + t) = nI (r t)) {L : Nat} (hL : I 125 2 = nI L) (hLl : L < 2 ^ 31) : ∃ I2, L_X12_reads_119 N (B + 125) (nI c) (nI s) (nI k) (nI (ct (fun t => decide (0 < r t)) 4)) (HP B I J) = L_X12_reads_259 N (B + 125) (nI s) (nI k) (nI (164 * k)) (HP B I2 J) ∧ (∀ t, t < 4 → I2 141 (4 * c + t) = nI (prn r (kSt y) (ct (fun t => decide (0 < r t)) 4 - L) t)) ∧ ∀ d z, ¬ (d = 141 ∧ z / 4 = c) → I2 d z = I d z := by
  have hr' : ∀ t, t < 4 → r t ≤ kM y t := fun t ht => hr t (Nat.le_refl _) ht
  have hle := ct_le (fun t => decide (0 < r t)) 4
  obtain ⟨E, hE⟩ : ∃ E, E = ct (fun t => decide (0 < r t)) 4 - L := ⟨_, rfl⟩
  have hS : ∀ r2 : Nat → Nat, (∀ t, r2 t ≤ r t) → (∃ t, t < 4 ∧ 0 < r2 t) → (ost r2 (kSt y) 4).2 ≠ 0 := by
    intro r2 h2 ⟨t, t1, t2⟩ z
    have e := ost_z 4 z t t1
    rw [osv_1 (by omega)] at e
    obtain ⟨d1, d2⟩ := dot_r t1 (Nat.le_trans (h2 t) (hr' t t1)) (hM t t1) (by omega)
    have := (hst _ d1 d2).1
    omega
  have hcnt := prn_ct hS
  obtain ⟨s', ⟨I2, hs', q1, q2⟩, q3⟩ := e_loop_0 (body := fun (k : Nat × Int32 × Int32 × Int32 × Int32 × eH → Option (Int32 × eH)) s => F_X12_reads_119b N (fun l0 l1 l2 l3 l4 h => k (l0, l1, l2, l3, l4, h)) s.1 s.2.1 s.2.2.1 s.2.2.2.1 s.2.2.2.2.1 s.2.2.2.2.2) (fun i st => ∃ I2, st = (B + 125, nI c, nI s, nI k, nI (ct (fun t => decide (0 < r t)) 4 - i), HP B I2 J) ∧ (∀ t, t < 4 → I2 141 (4 * c + t) = nI (prn r (kSt y) i t)) ∧ ∀ d z, ¬ (d = 141 ∧ z / 4 = c) → I2 d z = I d z) E (N := N) (s := (B + 125, nI c, nI s, nI k, nI (ct (fun t => decide (0 < r t)) 4), HP B I J)) ⟨I, rfl, h141, fun _ _ _ => rfl⟩ (fun i st hi hst2 => by
    obtain ⟨I2, hst2, c1, c2⟩ := hst2
    subst hst2
    have hci := hcnt i (by omega)
    obtain ⟨t, t1, t2⟩ := ct_pos (p := fun t => decide (0 < prn r (kSt y) i t)) (n := 4) (by omega)
    have hK2 : MoK k I2 J y := MoK_id h (fun d h1 h2 z => c2 d z (by omega)) (fun _ => rfl)
    obtain ⟨Cc, hCc⟩ : ∃ Cc, ct (fun t => decide (0 < r t)) 4 - i = Cc + 1 := ⟨ct (fun t => decide (0 < r t)) 4 - i - 1, by omega⟩
    have hold := fun K => y_oldest (B := B) (N := N) (s := s) (K := K) hN hc hk hK2 hst hM (r := prn r (kSt y) i) (fun t ht => Nat.le_trans (prn_le r (kSt y) i t) (hr' t ht)) ((c2 125 0 (by omega)).trans h0) hn (fun t h1 h2 => by have := prn_le r (kSt y) i t; have := hn0 t h1 h2; omega) c1 ⟨t, t1, of_decide_eq_true t2⟩ Cc
    have p1 := (ost_p 4 (hold (fun _ _ _ _ _ _ => none)).2).1
    refine ⟨(B + 125, nI c, nI s, nI k, nI (ct (fun t => decide (0 < r t)) 4 - (i + 1)), HP B (w2 I2 141 (4 * c + (ost (prn r (kSt y) i) (kSt y) 4).1) 0) J), ⟨_, rfl, fun t ht => ?_, fun d z hdz => ?_⟩, fun K => ?_⟩
    · show _ = nI (if t = (ost (prn r (kSt y) i) (kSt y) 4).1 then 0 else prn r (kSt y) i t)
      by_cases e : t = (ost (prn r (kSt y) i) (kSt y) 4).1
      · rw [if_pos e, e, w2_s]; rfl
      · rw [if_neg e, w2_k _ _ (by omega)]; exact c1 t ht
    · rw [← c2 d z hdz]
      by_cases e : d = 141
      · subst e
        exact w2_k _ _ (fun q => hdz ⟨rfl, by omega⟩)
      · exact w2_c _ _ e
    · show F_X12_reads_119b N _ (B + 125) (nI c) (nI s) (nI k) (nI (ct (fun t => decide (0 < r t)) 4 - i)) (HP B I2 J) = _
      unfold F_X12_reads_119b
      have hgt : ¬ nI (Cc + 1) ≤ nI L := nI_ge (by omega) (by omega)
      rw [hCc]
      simp only [M_gi2, (c2 125 2 (by omega)).trans hL, Option.bind_some, if_neg hgt]
      rw [(hold (fun l0 l1 l2 l3 l4 h => K (l0, l1, l2, l3, l4, h))).1, show ct (fun t => decide (0 < r t)) 4 - (i + 1) = Cc by omega]) (by omega)
  refine ⟨I2, ?_, by rw [← hE]; exact q1, q2⟩
  unfold L_X12_reads_119
  refine Eq.trans q3 ?_
  rw [hs']
  show F_X12_reads_119b N _ (B + 125) (nI c) (nI s) (nI k) (nI (ct (fun t => decide (0 < r t)) 4 - E)) (HP B I2 J) = _
  unfold F_X12_reads_119b
  simp only [M_gi2, (q2 125 2 (by omega)).trans hL, Option.bind_some, if_pos (nI_le (show ct (fun t => decide (0 < r t)) 4 - E ≤ L by omega) hLl), e_let, n_164]
/-- all siblings there have been seen -/
theorem y_seen {N : Nat} (hN : 200 < N) (hk : k < 4) (hs : s < 4) (h : MoK k I J y) : ∃ I2, L_X12_reads_259 N (B + 125) (nI s) (nI k) (nI (164 * k)) (HP B I J) = some (nI (ct (kS y (4 + s)) 160), HP B I2 J) ∧ MoK k I2 J (oS y 0 (fun j => kS y 0 j || kS y (4 + s) j)) ∧ frQ k I J I2 J := by
  have hp : ∀ p, p < 164 → plc (fun j => kS y 0 j || kS y (4 + s) j) p = (plc (kS y 0) p || plc (kS y (4 + s)) p) := by
    intro p _
    unfold plc
    cases decide (p % 41 ≠ 0) <;> simp
  have hfin : MoK k (wO I 131 (164 * k) 164 (fun p => b2 (plc (fun j => kS y 0 j || kS y (4 + s) j) p))) J (oS y 0 (fun j => kS y 0 j || kS y (4 + s) j)) := by
    refine MoK_S h (fun d hd z => wO_c _ _ _ _ (by omega)) (fun p hp2 => ?_) (fun f hf p hp2 => ?_)
    · rw [wO_c _ _ _ _ (by decide), Y_beside h hp2]
      exact hb_cong (fun u hu => by rw [if_neg (show ¬ 4 + u = 0 by omega)])
    · by_cases e : f = 0
      · subst e
        simp only [if_true]
        exact wO_in _ _ _ _ _ hp2
      · simp only [if_neg e]
        rw [wO_c _ _ _ _ (by omega)]; exact Y_set h hf hp2
  refine ⟨wO I 131 (164 * k) 164 (fun p => b2 (plc (fun j => kS y 0 j || kS y (4 + s) j) p)), ?_, hfin, fun d z hdz => ⟨?_, rfl⟩⟩
  · unfold L_X12_reads_259
    have e1 := e_loop_f (body := fun (k : Nat × Int32 × Int32 × Int32 × eH → Option (Int32 × eH)) s => F_X12_reads_259b N (fun l0 l2 l3 l5 h => k (l0, l2, l3, l5, h)) s.1 s.2.1 s.2.2.1 s.2.2.2.1 s.2.2.2.2) (fun i => (B + 125, nI s, nI k, nI (164 * k + i), HP B (wO I 131 (164 * k) i (fun p => b2 (plc (fun j => kS y 0 j || kS y (4 + s) j) p))) J)) 164 (N := N) (fun i hi k0 => by
      show F_X12_reads_259b N _ (B + 125) (nI s) (nI k) (nI (164 * k + i)) (HP B (wO I 131 (164 * k) i (fun p => b2 (plc (fun j => kS y 0 j || kS y (4 + s) j) p))) J) = k0 _
      unfold F_X12_reads_259b
      have e1 : wO I 131 (164 * k) i (fun p => b2 (plc (fun j => kS y 0 j || kS y (4 + s) j) p)) 131 (164 * k + i) = b2 (plc (kS y 0) i) := (wO_out _ _ _ _ _ (Or.inr (Nat.le_refl _))).trans (Y_set h (f := 0) (by decide) hi)
      have e2 : wO I 131 (164 * k) i (fun p => b2 (plc (fun j => kS y 0 j || kS y (4 + s) j) p)) 135 (164 * k + i) = hb (fun s => plc (kS y (4 + s)) i) 4 := (wO_c _ _ _ _ (by decide)).trans (Y_beside h hi)
      have ws := wO_s I 131 (164 * k) i (fun p => b2 (plc (fun j => kS y 0 j || kS y (4 + s) j) p))
      have hpi := hp i hi
      simp only [n_164, n_p164, if_neg (k164_ge k hi hk), M_gr10, M_gr14, R_ai131 (show 164 * k + i < 656 by omega), R_ai135 (show 164 * k + i < 656 by omega), e1, e2, Option.bind_some, hb_has _ hs, e_bind_some, b2_0, F_X12_reads_303, F_X12_reads_308, R_si131 (show 164 * k + i < 656 by omega), nar_0, nar_1, nI_1]
      cases q1 : plc (kS y 0) i
      · cases q2 : plc (kS y (4 + s)) i
        · rw [if_pos rfl, if_pos rfl]
          simp only [hpi, q1, q2, Bool.or_false, b2_f] at ws
          rw [ws]; rfl
        · rw [if_pos rfl, if_neg (by decide)]
          simp only [hpi, q1, q2, Bool.or_true, b2_t] at ws
          rw [ws]; rfl
      · rw [if_neg (by decide)]
        simp only [hpi, q1, Bool.true_or, b2_t] at ws
        rw [ws]; rfl) (by omega)
    simp only [wO_0] at e1
    refine Eq.trans e1 ?_
    show F_X12_reads_259b N _ (B + 125) (nI s) (nI k) (nI (164 * k + 164)) (HP B (wO I 131 (164 * k) 164 (fun p => b2 (plc (fun j => kS y 0 j || kS y (4 + s) j) p))) J) = _
    unfold F_X12_reads_259b
    have hz := y_siblings (B := B) hN hk hs hfin
    rw [show kS (oS y 0 (fun j => kS y 0 j || kS y (4 + s) j)) (4 + s) = kS y (4 + s) from oS_ne (by omega)] at hz
    rw [n_164, n_p164, if_pos (k164_n k hk), M_is, Option.bind_some, hz, e_bind_some]
  · by_cases e : d = 131
    · subst e
      refine wO_out _ _ _ _ _ ?_
      have : ¬ z / 164 = k := fun q => hdz ⟨by decide, by decide, q⟩
      omega
    · exact wO_c _ _ _ _ e
theorem m_reads_no (h : Mo I J x) (w : WF x) {N : Nat} {u v z : Int32} (hv : nix u 4 ∨ nix v (zN x) ∨ nix z (zK x)) : F_X12_reads N (B + 125) u v z (HP B I J) = some (-1, HP B I J) := by
  have h1 := w.1.2
  have h2 := w.2.2.2.1
  unfold F_X12_reads
  rcases nix_c u (show 4 < 2 ^ 31 by decide) with e | ⟨c, hc, rfl⟩
  · simp only [X_cl_no e, e_bind_some, if_true]
  · rcases nix_c v (show zN x < 2 ^ 31 by omega) with e | ⟨s, hs, rfl⟩
    · simp only [X_cl_ok hc, M_is, Option.bind_some, X_site_no h w e, e_bind_some, if_true, if_neg (show ¬ (1 : Int32) = 0 by decide)]
    · have e : nix z (zK x) := (hv.resolve_left (nix_not hc (by decide))).resolve_left (nix_not hs (by omega))
      simp only [X_cl_ok hc, M_is, Option.bind_some, X_site_ok h w hs, X_key_no h w e, e_bind_some, if_true, if_neg (show ¬ (1 : Int32) = 0 by decide)]
theorem m_reads_ok {N : Nat} (hN : 200 < N) (h : Mo I J x) (w : WF x) (hc : c < 4) (hs : s < zN x) (hk : k < zK x) : ∃ I2, F_X12_reads N (B + 125) (nI c) (nI s) (nI k) (HP B I J) = some (nI (ct (kS (zS x k) (4 + s)) 160), HP B I2 J) ∧ Mo I2 J (oRd x c s k) ∧ frR I J I2 J := by
  have h4 : k < 4 := Nat.lt_of_lt_of_le hk w.2.2.2.1
  have h5 : s < 4 := Nat.lt_of_lt_of_le hs w.1.2
  have hK := Mo_k h h4
  have hW := WF_k w h4
  have hn := w.1.2
  have hm := WF_mst w h4 h5
  obtain ⟨I1, hI1⟩ : ∃ I1, I1 = w2 I 139 c (nI k) := ⟨_, rfl⟩
  have f1 : ∀ d z, d ≠ 139 → I1 d z = I d z := fun d z hd => by rw [hI1]; exact w2_c _ _ hd
  have hK1 : MoK k I1 J (zS x k) := MoK_id hK (fun d h1 h2 z => f1 d z (by omega)) (fun _ => rfl)
  have hR : ∀ t, t < 4 → kR (zS x k) s t ≤ 40 := fun t ht => Nat.le_trans (hW.2.1 s h5 t ht).1 (hW.1 t ht).1
  have hR0 : ∀ t, zN x ≤ t → t < 4 → kR (zS x k) s t = 0 := fun t h1 h2 => by have := (hW.2.1 s h5 t h2).1; have := (hW.1 t h2).2 h1; omega
  -- the row is copied
  obtain ⟨s', ⟨I2, hs', q1, q2⟩, q3⟩ := e_loop_0 (body := fun (k : Nat × Int32 × Int32 × Int32 × Int32 × Int32 × eH → Option (Int32 × eH)) s => F_X12_reads_38b N (fun l0 l1 l2 l3 l4 l5 h => k (l0, l1, l2, l3, l4, l5, h)) s.1 s.2.1 s.2.2.1 s.2.2.2.1 s.2.2.2.2.1 s.2.2.2.2.2.1 s.2.2.2.2.2.2) (fun i st => ∃ I2, st = (B + 125, nI c, nI s, nI k, nI (ct (fun t => decide (0 < kR (zS x k) s t)) i), nI i, HP B I2 J) ∧ (∀ t, t < i → I2 140 (4 * c + t) = nI (kR (zS x k) s t) ∧ I2 141 (4 * c + t) = nI (kR (zS x k) s t)) ∧ ∀ d z, ¬ ((d = 140 ∨ d = 141) ∧ z / 4 = c) → I2 d z = I1 d z) 4 (N := N) (s := (B + 125, nI c, nI s, nI k, 0, 0, HP B I1 J)) ⟨I1, rfl, fun t ht => absurd ht (Nat.not_lt_zero t), fun _ _ _ => rfl⟩ (fun i st hi hst2 => by
    obtain ⟨I2, hst2, c1, c2⟩ := hst2
    subst hst2
    refine ⟨(B + 125, nI c, nI s, nI k, nI (ct (fun t => decide (0 < kR (zS x k) s t)) (i + 1)), nI (i + 1), HP B (w2 (w2 I2 140 (4 * c + i) (nI (kR (zS x k) s i))) 141 (4 * c + i) (nI (kR (zS x k) s i))) J), ⟨_, rfl, fun t ht => ?_, fun d z hdz => ?_⟩, fun K => ?_⟩
    · by_cases e : t = i
      · subst e
        exact ⟨(w2_c _ _ (by decide)).trans (w2_s _ _ _ _), w2_s _ _ _ _⟩
      · have := c1 t (by omega)
        exact ⟨((w2_c _ _ (by decide)).trans (w2_k _ _ (by omega))).trans this.1, ((w2_k _ _ (by omega)).trans (w2_c _ _ (by decide))).trans this.2⟩
    · rw [← c2 d z hdz]
      by_cases e1 : d = 141
      · subst e1
        rw [w2_k _ _ (fun q => hdz ⟨Or.inr rfl, by omega⟩), w2_c _ _ (by decide)]
      · rw [w2_c _ _ e1]
        by_cases e2 : d = 140
        · subst e2
          exact w2_k _ _ (fun q => hdz ⟨Or.inl rfl, by omega⟩)
        · exact w2_c _ _ e2
    · show F_X12_reads_38b N _ (B + 125) (nI c) (nI s) (nI k) (nI (ct (fun t => decide (0 < kR (zS x k) s t)) i)) (nI i) (HP B I2 J) = _
      have g0 : I2 125 0 = nI (zN x) := (c2 125 0 (by omega)).trans ((f1 125 0 (by decide)).trans h.1.1)
      have gr : I2 137 (16 * k + 4 * s + i) = nI (kR (zS x k) s i) := (c2 137 _ (by omega)).trans (Y_row hK1 h5 hi)
      have hRi := hR i hi
      have key : ∀ v, v = nI (kR (zS x k) s i) → F_X12_reads_70 N (fun l0 l1 l2 l3 l4 l5 h => K (l0, l1, l2, l3, l4, l5, h)) (B + 125) (nI c) (nI s) (nI k) (nI (ct (fun t => decide (0 < kR (zS x k) s t)) i)) (nI i) v (HP B I2 J) = K (B + 125, nI c, nI s, nI k, nI (ct (fun t => decide (0 < kR (zS x k) s t)) (i + 1)), nI (i + 1), HP B (w2 (w2 I2 140 (4 * c + i) (nI (kR (zS x k) s i))) 141 (4 * c + i) (nI (kR (zS x k) s i))) J) := by
        intro v hv
        subst hv
        unfold F_X12_reads_70
        simp only [M_gr19, M_gr20, n_4, nI_add, R_si140 (show 4 * c + i < 16 by omega), R_si141 (show 4 * c + i < 16 by omega), Option.bind_some, F_X12_reads_110, e_let, nI_1, Int32.add_zero]
        by_cases e : kR (zS x k) s i = 0
        · rw [if_pos (by rw [e]; decide), show ct (fun t => decide (0 < kR (zS x k) s t)) (i + 1) = ct (fun t => decide (0 < kR (zS x k) s t)) i by simp [ct, e]]
        · rw [if_neg (nI_nle (by omega) (by omega)), show ct (fun t => decide (0 < kR (zS x k) s t)) (i + 1) = ct (fun t => decide (0 < kR (zS x k) s t)) i + 1 by simp [ct, Nat.pos_of_ne_zero e]]
      unfold F_X12_reads_38b
      rw [if_neg (k4_lt i hi), M_gi0, g0, Option.bind_some]
      rcases Nat.lt_or_ge i (zN x) with e | e
      · rw [if_neg (nI_ge e (by omega))]
        simp only [M_gr16, X_rowAt, e_bind_some, nI_add, R_ai137 (show 16 * k + 4 * s + i < 64 by omega), gr, Option.bind_some]
        exact key _ rfl
      · rw [if_pos (nI_le e (by omega))]
        exact key _ (by rw [hR0 i e hi]; rfl)) (by omega)
  have g0 : I2 125 0 = nI (zN x) := (q2 125 0 (by omega)).trans ((f1 125 0 (by decide)).trans h.1.1)
  have gL : I2 125 2 = nI (zL x) := (q2 125 2 (by omega)).trans ((f1 125 2 (by decide)).trans h.1.2.2.1)
  have hK2 : MoK k I2 J (zS x k) := MoK_id hK1 (fun d h1 h2 z => q2 d z (by omega)) (fun _ => rfl)
  obtain ⟨I3, r1, r2, r3⟩ := y_prune (B := B) (s := s) (c := c) hN hc h4 hK2 hm.2 (fun t ht => (hW.1 t ht).1) (r := kR (zS x k) s) (fun t _ ht => (hW.2.1 s h5 t ht).1) g0 hn hR0 (fun t ht => (q1 t ht).2) gL (by have := w.2.2.1.2; omega)
  have hK3 : MoK k I3 J (zS x k) := MoK_id hK2 (fun d h1 h2 z => r3 d z (by omega)) (fun _ => rfl)
  obtain ⟨I4, t1, t2, t3⟩ := y_seen (B := B) hN h4 h5 hK3
  have all3 : ∀ d z, ¬ (139 ≤ d ∧ d ≤ 141) → I3 d z = I d z := fun d z hd => (r3 d z (by omega)).trans ((q2 d z (by omega)).trans (f1 d z (by omega)))
  have c139 : ∀ z, I3 139 z = I1 139 z := fun z => (r3 139 z (by omega)).trans (q2 139 z (by omega))
  have hMo3 : Mo I3 J (oC x c (k + 1) (kR (zS x k) s) (aPr x k s)) := by
    refine Mo_C h hc (fun d hd z => all3 d z (by omega)) (fun d hd hne => ⟨?_, fun t ht => ⟨?_, ?_⟩⟩) ?_ (fun _ t ht => ⟨?_, r2 t ht⟩)
    · rw [c139, hI1]; exact w2_k _ _ hne
    · rw [r3 140 _ (by omega), q2 140 _ (by omega), f1 140 _ (by decide)]
    · rw [r3 141 _ (by omega), q2 141 _ (by omega), f1 141 _ (by decide)]
    · rw [c139, hI1, w2_s, if_neg (by omega)]; rfl
    · rw [r3 140 _ (by omega)]; exact (q1 t ht).1
  refine ⟨I4, ?_, Mo_K h4 hMo3 t3 rfl t2, fun d hd z => ⟨((t3 d z (fun q => by have := q.1; omega)).1).trans (all3 d z (by omega)), rfl⟩⟩
  unfold F_X12_reads
  simp only [X_cl_ok hc, M_is, Option.bind_some, X_site_ok h w hs, X_key_ok h w hk, e_bind_some, if_neg (show ¬ (1 : Int32) = 0 by decide), M_gr18, R_si139 hc, ← hI1]
  unfold L_X12_reads_38
  refine Eq.trans q3 ?_
  rw [hs']
  show F_X12_reads_38b N _ (B + 125) (nI c) (nI s) (nI k) (nI (ct (fun t => decide (0 < kR (zS x k) s t)) 4)) (nI 4) (HP B I2 J) = _
  unfold F_X12_reads_38b
  rw [if_pos k4_n, r1, t1]
end RREAD
