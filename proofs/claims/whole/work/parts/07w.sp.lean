/-! SPREAD of the class -/
theorem nI_or (a b : Nat) : nI a ||| nI b = nI (a ||| b) := by
  apply b_ext
  intro i hi
  rw [b_or, bt_nI hi, bt_nI hi, bt_nI hi, Nat.testBit_or]
theorem nI_shl4 (b : Nat) {t : Nat} (ht : t < 4) : nI b <<< ((4 * nI t) &&& 31) = nI (b <<< (4 * t)) := by
  apply b_ext
  intro i hi
  rw [n_4, b_shl (4 * t) (by omega) _ hi, bt_nI hi, Nat.testBit_shiftLeft]
  by_cases h : 4 * t ≤ i
  · rw [bt_nI (by omega)]
  · rw [decide_eq_false h]; simp [show ¬ i ≥ 4 * t by omega]
theorem one_shl {n : Nat} (hn : n < 5) : (1 : Int32) <<< (nI n &&& 31) = nI (2 ^ n) := (by decide +kernel : ∀ n, n < 5 → (1 : Int32) <<< (nI n &&& 31) = nI (2 ^ n)) n hn
theorem setOf_X {X s : Nat} (hX : X < 65536) (hs : s < 4) : ((nI X >>> ((4 * nI s) &&& 31)) &&& 15) = nI (sg X s) := by
  apply b_ext
  intro i hi
  have h15 : bt 15 i = decide (i < 4) := (by decide +kernel : ∀ i, i < 32 → bt 15 i = decide (i < 4)) i hi
  rw [b_and, h15, n_4, b_sshr (4 * s) (by omega) _ hi, bt_nI hi]
  by_cases h4 : i < 4
  · rw [sg_b h4, decide_eq_true h4, Bool.and_true, if_pos (by omega), bt_nI (by omega)]
  · rw [sg_big (by omega), decide_eq_false h4, Bool.and_false]
theorem bit_A {A o : Nat} (hA : A < 16) (ho : o < 4) : (((nI A >>> (nI o &&& 31)) &&& 1) = 1) ↔ A.testBit o = true := (by decide +kernel : ∀ A, A < 16 → ∀ o, o < 4 → ((((nI A >>> (nI o &&& 31)) &&& 1) = 1) ↔ A.testBit o = true)) A hA o ho
theorem sub_lt {n A : Nat} (hn : n ≤ 4) (hA : A < 16) (h : subn n A) : A < 2 ^ n := (by decide +kernel : ∀ n, n < 5 → ∀ A, A < 16 → (∀ o, o < 4 → A.testBit o = true → o < n) → A < 2 ^ n) n (by omega) A hA h
theorem lt_sub {n A : Nat} (hn : n ≤ 4) (h : A < 2 ^ n) : A < 16 ∧ subn n A := (by decide +kernel : ∀ n, n < 5 → ∀ A, A < 2 ^ n → A < 16 ∧ ∀ o, o < 4 → A.testBit o = true → o < n) n (by omega) A h
theorem sg_os {X b t u : Nat} (hb1 : b < 16) (ht : t < 4) (hu : u < 4) : sg (X ||| (b <<< (4 * t))) u = if u = t then sg X t ||| b else sg X u := by
  have hbig : ∀ i, 4 ≤ i → b.testBit i = false := fun i hi => Nat.testBit_lt_two_pow (Nat.lt_of_lt_of_le hb1 (show 2 ^ 4 ≤ 2 ^ i from Nat.pow_le_pow_right (by decide) hi))
  refine ext4 sg_lt (by split; exact or_lt16 sg_lt hb1; exact sg_lt) (fun i hi => ?_)
  rw [sg_b hi, Nat.testBit_or, Nat.testBit_shiftLeft]
  by_cases e : u = t
  · rw [if_pos e, Nat.testBit_or, sg_b hi, e, decide_eq_true (show 4 * t + i ≥ 4 * t by omega), Bool.true_and, show 4 * t + i - 4 * t = i by omega]
  · rw [if_neg e, sg_b hi]
    by_cases g : 4 * u + i ≥ 4 * t
    · rw [decide_eq_true g, hbig _ (show 4 ≤ 4 * u + i - 4 * t by omega)]; simp
    · rw [decide_eq_false g]; simp
theorem os_lt {X b t : Nat} (hX : X < 65536) (hb1 : b < 16) (ht : t < 4) : X ||| (b <<< (4 * t)) < 65536 := by
  refine Nat.or_lt_two_pow (n := 16) hX ?_
  rw [Nat.shiftLeft_eq]
  rcases s4_c ht with rfl | rfl | rfl | rfl <;> omega
theorem and_not0 {x y : Int64} : x &&& (y ^^^ (-1)) = 0 ↔ ∀ i, i < 64 → g64 x i = true → g64 y i = true := by
  constructor
  · intro h i hi q
    have h2 := congrArg (fun z => g64 z i) h
    simp only [g_and, g_not _ hi, g_0, q, Bool.true_and, Bool.not_eq_false'] at h2
    exact h2
  · intro h
    apply g_ext
    intro i hi
    rw [g_and, g_not _ hi, g_0]
    cases q : g64 x i
    · rfl
    · rw [h i hi q]; rfl
theorem hb_nI (p : Nat → Bool) : hb p 4 = nI (st4 p) := by
  have key : ∀ a b c d : Bool, hb4 a b c d = nI ((if a = true then 1 else 0) + (if b = true then 2 else 0) + (if c = true then 4 else 0) + (if d = true then 8 else 0)) := by decide +kernel
  rw [hb_4, key]; rfl
theorem hb_cut (p : Nat → Bool) {n : Nat} (hn : n ≤ 4) : hb p n = nI (st4 (fun s => decide (s < n) && p s)) := by
  rw [← hb_nI, hb_4]
  have hc : n = 0 ∨ n = 1 ∨ n = 2 ∨ n = 3 ∨ n = 4 := by omega
  have key : ∀ a b c d : Bool, (0 : Int32) = hb4 false false false false ∧ (0 : Int32) ||| (b2 a <<< (nI 0 &&& 31)) = hb4 a false false false ∧ ((0 : Int32) ||| (b2 a <<< (nI 0 &&& 31))) ||| (b2 b <<< (nI 1 &&& 31)) = hb4 a b false false ∧ (((0 : Int32) ||| (b2 a <<< (nI 0 &&& 31))) ||| (b2 b <<< (nI 1 &&& 31))) ||| (b2 c <<< (nI 2 &&& 31)) = hb4 a b c false := by decide +kernel
  obtain ⟨k0, k1, k2, k3⟩ := key (p 0) (p 1) (p 2) (p 3)
  rcases hc with rfl | rfl | rfl | rfl | rfl
  · exact k0
  · exact k1
  · exact k2
  · exact k3
  · rfl
section SPC
variable {B N : Nat} {I I2 : Nat → Nat → Int32} {J J2 : Nat → Nat → Int64} {x : eST} {y : eKS} {n A k s t o f l X Y i d : Nat} {u v : Int32}
theorem Z_is : h_is (HP B I J) 2 (B + 11) = some () := m_is (c := 11) (n := 3) (by decide)
theorem Z_gr0 : h_gr (HP B I J) 2 (B + 11) 0 = some (B + 12) := m_gr (c := 11) (n := 3) (by decide) (by decide) (by decide)
theorem Z_gi1 : h_gi (HP B I J) 2 (B + 11) 1 = some (I 11 1) := m_gi (c := 11) (n := 3) (by decide) (by decide) (by decide)
theorem Z_gi2 : h_gi (HP B I J) 2 (B + 11) 2 = some (I 11 2) := m_gi (c := 11) (n := 3) (by decide) (by decide) (by decide)
theorem Z_p1 : h_p (HP B I J) 2 (B + 11) 1 (.int v) = some (HP B (w2 I 11 1 v) J) := m_pi (c := 11) (n := 3) (by decide) (by decide) (by decide)
theorem Z_p2 : h_p (HP B I J) 2 (B + 11) 2 (.int v) = some (HP B (w2 I 11 2 v) J) := m_pi (c := 11) (n := 3) (by decide) (by decide) (by decide)
theorem Z_ai (hi : i < 16) : h_ai (HP B I J) 0 (B + 12) (nI i) = some (I 12 i) := m_aiN (c := 12) (n := 16) (by decide) hi (by decide)
theorem Z_si (hi : i < 16) : h_si (HP B I J) 0 (B + 12) (nI i) v = some (HP B (w2 I 12 i v) J) := m_siN (c := 12) (n := 16) (by decide) hi (by decide)
/-- what the sites of a set cover, and what is gone there, as bits of a block -/
def cvr (y : eKS) (A t : Nat) : Nat → Int64
  | 0 => 0
  | o + 1 => if A.testBit o = true then cvr y A t o ||| cv (kR y o t) else cvr y A t o
def gnr (y : eKS) (J : Nat → Nat → Int64) (k A t : Nat) : Nat → Int64
  | 0 => 0
  | o + 1 => if A.testBit o = true then gnr y J k A t o ||| (cv (kR y o t) &&& (J (dF k (4 + o) + 1) t ^^^ (-1))) else gnr y J k A t o
theorem g_cvr (hR : ∀ o, o < 4 → ∀ t, t < 4 → kR y o t ≤ 40) (ht : t < 4) (hi : i < 40) : g64 (cvr y A t 4) i = cvb y A (40 * t + i) := by
  have c : ∀ o, o < 4 → g64 (cv (kR y o t)) i = cov (kR y o) (40 * t + i) := fun o ho => by rw [g_cv _ (by have := hR o ho t ht; omega) i (by omega), cov_ti _ hi]
  have st : ∀ o, o < 4 → g64 (cvr y A t (o + 1)) i = (g64 (cvr y A t o) i || (A.testBit o && cov (kR y o) (40 * t + i))) := by
    intro o ho
    show g64 (if A.testBit o = true then cvr y A t o ||| cv (kR y o t) else cvr y A t o) i = _
    cases A.testBit o
    · simp
    · rw [if_pos rfl, g_or, c o ho]; rfl
  rw [st 3 (by decide), st 2 (by decide), st 1 (by decide), st 0 (by decide)]
  show (((g64 0 i || _) || _) || _ || _) = _
  rw [g_0, Bool.false_or]
  rfl
theorem g_gone (h : ClK k I J y) (hk : k < 4) (ho : o < 4) (ht : t < 4) (hi : i < 40) : g64 (cv (kR y o t) &&& (J (dF k (4 + o) + 1) t ^^^ (-1))) i = gon y o (40 * t + i) := by
  have hR := (h.2.1 o ho t ht).2
  have hd := ClK_d h (show 4 + o < 8 by omega) t ht i (by omega)
  rw [g_and, g_not _ (by omega), hd, g_cv _ (by omega) i (by omega), decide_eq_true hi, Bool.true_and]
  unfold gon
  rw [cov_ti _ hi]
theorem g_gnr (h : ClK k I J y) (hk : k < 4) (ht : t < 4) (hi : i < 40) : g64 (gnr y J k A t 4) i = gnb y A (40 * t + i) := by
  have st : ∀ o, o < 4 → g64 (gnr y J k A t (o + 1)) i = (g64 (gnr y J k A t o) i || (A.testBit o && gon y o (40 * t + i))) := by
    intro o ho
    show g64 (if A.testBit o = true then gnr y J k A t o ||| (cv (kR y o t) &&& (J (dF k (4 + o) + 1) t ^^^ (-1))) else gnr y J k A t o) i = _
    cases A.testBit o
    · simp
    · rw [if_pos rfl, g_or, g_gone h hk ho ht hi]; rfl
  rw [st 3 (by decide), st 2 (by decide), st 1 (by decide), st 0 (by decide)]
  show (((g64 0 i || _) || _) || _ || _) = _
  rw [g_0, Bool.false_or]
  rfl
def okt (y : eKS) (J : Nat → Nat → Int64) (k s A t : Nat) : Bool := decide (cv (kR y s t) &&& (cvr y A t 4 ^^^ (-1)) = 0) && decide ((cv (kR y s t) &&& (J (dF k (4 + s) + 1) t ^^^ (-1))) &&& (gnr y J k A t 4 ^^^ (-1)) = 0)
theorem okt_wib (h : ClK k I J y) (hk : k < 4) (hs : s < 4) : al (okt y J k s A) 4 0 = wib y s A := by
  have hR : ∀ o, o < 4 → ∀ t, t < 4 → kR y o t ≤ 40 := fun o ho t ht => (h.2.1 o ho t ht).2
  apply Bool.eq_iff_iff.mpr
  rw [al_iff, wib_iff]
  have hbig : ∀ t, t < 4 → ∀ i, 40 ≤ i → i < 64 → g64 (cv (kR y s t)) i = false := fun t ht i h1 h2 => by
    have := hR s hs t ht
    rw [g_cv _ (by omega) i h2]; exact decide_eq_false (by omega)
  constructor
  · intro q j hj
    have ht : j / 40 < 4 := by omega
    have hi : j % 40 < 40 := by omega
    have := q (j / 40) (Nat.zero_le _) (by omega)
    unfold okt at this
    rw [Bool.and_eq_true, decide_eq_true_eq, decide_eq_true_eq, and_not0, and_not0] at this
    obtain ⟨a1, a2⟩ := this
    have b1 := a1 (j % 40) (by omega)
    have b2' := a2 (j % 40) (by omega)
    rw [g_cvr hR ht hi, g_cv _ (by have := hR s hs (j / 40) ht; omega) _ (by omega)] at b1
    rw [g_gnr h hk ht hi, g_gone h hk hs ht hi] at b2'
    rw [show 40 * (j / 40) + j % 40 = j by omega] at b1 b2'
    exact ⟨b1, b2'⟩
  · intro q t _ ht
    unfold okt
    rw [Bool.and_eq_true, decide_eq_true_eq, decide_eq_true_eq, and_not0, and_not0]
    refine ⟨fun i hi g => ?_, fun i hi g => ?_⟩
    · rcases Nat.lt_or_ge i 40 with h4 | h4
      · rw [g_cvr hR (by omega) h4]
        refine (q (40 * t + i) (by omega)).1 ?_
        rw [cov_ti _ h4]
        rwa [g_cv _ (by have := hR s hs t (by omega); omega) _ hi] at g
      · rw [hbig t (by omega) i h4 hi] at g; cases g
    · rcases Nat.lt_or_ge i 40 with h4 | h4
      · rw [g_gnr h hk (by omega) h4]
        refine (q (40 * t + i) (by omega)).2 ?_
        rwa [g_gone h hk hs (by omega) h4] at g
      · rw [g_and, hbig t (by omega) i h4 hi] at g; cases g
theorem s_cov (h : ClK k I J y) (hk : k < 4) (hs : s < 4) (ht : t < 4) : F_X8_covered (B + cR k s) (nI t) (HP B I J) = some (cv (kR y s t), HP B I J) := by
  unfold F_X8_covered
  simp only [R_gi3 hk hs, Option.bind_some, s_covered (h.2.1 s hs t ht).1, e_bind_some]
theorem s_gon (h : ClK k I J y) (hk : k < 4) (hs : s < 4) (ht : t < 4) : F_X8_gone (B + cR k s) (nI t) (HP B I J) = some (cv (kR y s t) &&& (J (dF k (4 + s) + 1) t ^^^ (-1)), HP B I J) := by
  unfold F_X8_gone
  simp only [R_gr2 hk hs, R_gi3 hk hs, Option.bind_some, F_is hk (show 4 + s < 8 by omega), s_gone (isD_F k hk (4 + s) (by omega)) ht (h.2.1 s hs t ht).1, e_bind_some]
theorem s_within (hN : 200 < N) (h : ClK k I J y) (hk : k < 4) (hs : s < 4) (hA : A < 16) : F_X4_isWithin N (B + cK k) (nI s) (nI A) (HP B I J) = some (b2 (wib y s A), HP B I J) := by
  have inner : ∀ (K9 : Nat → Int32 → Option Nat → Int32 → eH → Option (Int32 × eH)) (t : Nat), t < 4 → L_X4_isWithin_28 N K9 (B + cK k) (nI A) (B + cR k s) (nI t) 0 0 0 (HP B I J) = if okt y J k s A t = true then K9 (B + cK k) (nI A) (some (B + cR k s)) (nI (t + 1)) (HP B I J) else some (0, HP B I J) := by
    intro K9 t ht
    unfold L_X4_isWithin_28
    have e1 := e_loop_f (body := fun (k : Nat × Int32 × Nat × Int32 × Int64 × Int64 × Int32 × eH → Option (Int32 × eH)) s => F_X4_isWithin_28b N K9 (fun l0 l2 l3 l4 l5 l7 l9 h => k (l0, l2, l3, l4, l5, l7, l9, h)) s.1 s.2.1 s.2.2.1 s.2.2.2.1 s.2.2.2.2.1 s.2.2.2.2.2.1 s.2.2.2.2.2.2.1 s.2.2.2.2.2.2.2) (fun i => (B + cK k, nI A, B + cR k s, nI t, cvr y A t i, gnr y J k A t i, nI i, HP B I J)) 4 (N := N) (fun i hi k0 => by
      show F_X4_isWithin_28b N K9 _ (B + cK k) (nI A) (B + cR k s) (nI t) (cvr y A t i) (gnr y J k A t i) (nI i) (HP B I J) = k0 _
      unfold F_X4_isWithin_28b
      simp only [K_gr1 hk, K_len hk, Option.bind_some, if_neg (k4_lt i hi), K_ar hk hi, R_is hk hi, s_cov h hk hi ht, s_gon h hk hi ht, e_bind_some, e_let, F_X4_isWithin_82, nI_1]
      by_cases q : A.testBit i = true
      · rw [if_pos ((bit_A hA hi).mpr q), show cvr y A t (i + 1) = cvr y A t i ||| cv (kR y i t) from if_pos q, show gnr y J k A t (i + 1) = gnr y J k A t i ||| (cv (kR y i t) &&& (J (dF k (4 + i) + 1) t ^^^ (-1))) from if_pos q]
      · rw [if_neg (fun e => q ((bit_A hA hi).mp e)), show cvr y A t (i + 1) = cvr y A t i from if_neg q, show gnr y J k A t (i + 1) = gnr y J k A t i from if_neg q]) (by omega)
    refine Eq.trans e1 ?_
    show F_X4_isWithin_28b N K9 _ (B + cK k) (nI A) (B + cR k s) (nI t) (cvr y A t 4) (gnr y J k A t 4) (nI 4) (HP B I J) = _
    unfold F_X4_isWithin_28b
    simp only [K_gr1 hk, K_len hk, Option.bind_some, if_pos k4_n, R_is hk hs, s_cov h hk hs ht, s_gon h hk hs ht, e_bind_some, lg_cmp0, h_z0, nI_1]
    unfold okt
    by_cases q1 : cv (kR y s t) &&& (cvr y A t 4 ^^^ (-1)) = 0
    · rw [if_pos q1, decide_eq_true q1, Bool.true_and]
      by_cases q2 : (cv (kR y s t) &&& (J (dF k (4 + s) + 1) t ^^^ (-1))) &&& (gnr y J k A t 4 ^^^ (-1)) = 0
      · rw [if_pos q2, decide_eq_true q2, if_pos rfl]
      · rw [if_neg q2, decide_eq_false q2, if_neg (by decide)]
    · rw [if_neg q1, decide_eq_false q1, Bool.false_and, if_neg (by decide)]
  have e0 : L_X4_isWithin_9 N (B + cK k) (nI A) (some (B + cR k s)) 0 (HP B I J) = ex (okt y J k s A) (fun _ => some (0, HP B I J)) (some (1, HP B I J)) 4 0 := by
    unfold L_X4_isWithin_9
    have e1 := e_loop_e (body := fun (k : Nat × Int32 × (Option Nat) × Int32 × eH → Option (Int32 × eH)) s => F_X4_isWithin_9b N (fun l0 l2 l3 l4 h => k (l0, l2, l3, l4, h)) s.1 s.2.1 s.2.2.1 s.2.2.2.1 s.2.2.2.2) (fun i => (B + cK k, nI A, some (B + cR k s), nI i, HP B I J)) (fun i => okt y J k s A i) (fun i => some (0, HP B I J)) (some (1, HP B I J)) (4) (N := N) (fun i hi k0 => by
      show F_X4_isWithin_9b N _ (B + cK k) (nI A) (some (B + cR k s)) (nI i) (HP B I J) = if _ = true then k0 _ else _
      unfold F_X4_isWithin_9b
      rw [Option.elim_some, if_neg (k4_lt i hi)]
      exact inner _ i hi) (fun k0 => by
      show F_X4_isWithin_9b N _ (B + cK k) (nI A) (some (B + cR k s)) (nI 4) (HP B I J) = _
      unfold F_X4_isWithin_9b
      rw [Option.elim_some, if_pos k4_n]
      rfl) (by omega)
    exact e1
  unfold F_X4_isWithin
  simp only [K_is hk, Option.bind_some, replicaOf_ok hk hs, e_bind_some]
  rw [e0, ex_const, okt_wib h hk hs]
  cases wib y s A <;> rfl
end SPC
