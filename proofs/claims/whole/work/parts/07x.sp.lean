/-! SPREAD of the class: the search -/
def x0 (n : Nat) : Nat := en4 (fun s => if s < n then 2 ^ s else 0)
theorem good_x0 : ∀ n, n < 5 → good n (x0 n) := by
  unfold good subn x0 en4 sg
  decide +kernel
theorem sg_x0 : ∀ n, n < 5 → ∀ s, s < 4 → sg (x0 n) s = if s < n then 2 ^ s else 0 := by
  unfold x0 en4 sg
  decide +kernel
def bgn (y : eKS) (n : Nat) : Nat → Nat
  | 0 => 0
  | s + 1 => bgn y n s ||| (clN y n (2 ^ s) <<< (4 * s))
theorem wO_in0 {α : Type} (I : Nat → Nat → α) (c n : Nat) (f : Nat → α) {k : Nat} (h : k < n) : wO I c 0 n f c k = f k := by
  have := wO_in I c 0 n f h
  rwa [Nat.zero_add] at this
theorem wO_s0 {α : Type} (I : Nat → Nat → α) (c n : Nat) (f : Nat → α) : w2 (wO I c 0 n f) c n (f n) = wO I c 0 (n + 1) f := by
  have := wO_s I c 0 n f
  rwa [Nat.zero_add] at this
section SPS
variable {B N : Nat} {I I2 : Nat → Nat → Int32} {J J2 : Nat → Nat → Int64} {x : eST} {y : eKS} {n A k s t o f l X Y i d : Nat} {u v : Int32}
theorem bgn_lt : ∀ m, m ≤ 4 → bgn y n m < 65536
  | 0, _ => by show 0 < 65536; decide
  | m + 1, hm => os_lt (bgn_lt m (by omega)) clN_lt (by omega)
theorem sg_0 (u : Nat) : sg 0 u = 0 := by
  unfold sg
  rw [Nat.zero_shiftRight]
theorem sg_bgn : ∀ m, m ≤ 4 → ∀ u, u < 4 → sg (bgn y n m) u = if u < m then clN y n (2 ^ u) else 0
  | 0, _, u, _ => by rw [if_neg (Nat.not_lt_zero u)]; exact sg_0 u
  | m + 1, hm, u, hu => by
    have ih := sg_bgn m (by omega) u hu
    show sg (bgn y n m ||| (clN y n (2 ^ m) <<< (4 * m))) u = _
    rw [sg_os clN_lt (by omega) hu]
    by_cases e : u = m
    · rw [if_pos e, if_pos (by omega), sg_bgn m (by omega) m (by omega), if_neg (Nat.lt_irrefl m), Nat.zero_or, e]
    · rw [if_neg e, ih]
      by_cases g : u < m
      · rw [if_pos g, if_pos (by omega)]
      · rw [if_neg g, if_neg (by omega)]
theorem bgn_phi (hn : n ≤ 4) : bgn y n n = phi y n (x0 n) := by
  refine extX (bgn_lt n hn) (en4_lt phi_16) (fun u hu => ?_)
  rw [sg_bgn n hn u hu, sg_phi hu, sg_x0 n (by omega) u hu]
  by_cases e : u < n
  · rw [if_pos e, if_pos e, if_pos e]
  · rw [if_neg e, if_neg e]
/-- the class's row of closed sets, and where it begins -/
def GoM (I : Nat → Nat → Int32) (y : eKS) (n : Nat) : Prop := I 11 1 = nI n ∧ (∀ A, A < 2 ^ n → I 12 A = nI (clN y n A)) ∧ I 11 2 = nI (phi y n (x0 n))
theorem p2_le {n i : Nat} (h : i < n) (hn : n ≤ 4) : 2 ^ i < 2 ^ n ∧ 2 ^ n ≤ 16 := (by decide +kernel : ∀ n, n < 5 → ∀ i, i < n → 2 ^ i < 2 ^ n ∧ 2 ^ n ≤ 16) n (by omega) i h
theorem s_lookAt (hN : 200 < N) (h : ClK k I J y) (hk : k < 4) (h2 : 2 ≤ n) (hn : n ≤ 4) : ∃ I2, F_X2_lookAt N (B + 11) (B + cK k) (nI n) (HP B I J) = some ((), HP B I2 J) ∧ GoM I2 y n ∧ ∀ d z, d ≠ 11 → d ≠ 12 → I2 d z = I d z := by
  have h16 : 2 ^ n ≤ 16 := (p2_le (show 0 < n by omega) hn).2
  obtain ⟨f, hf⟩ : ∃ f : Nat → Int32, ∀ A, f A = nI (clN y n A) := ⟨fun A => nI (clN y n A), fun _ => rfl⟩
  obtain ⟨I1, hI1⟩ : ∃ I1, I1 = w2 I 11 1 (nI n) := ⟨_, rfl⟩
  have f1 : ∀ d z, d ≠ 11 → I1 d z = I d z := fun d z hd => by rw [hI1]; exact w2_c _ _ hd
  have n1 : I1 11 1 = nI n := by rw [hI1, w2_s]
  have hcl : ∀ I', (∀ d z, d ≠ 11 → d ≠ 12 → I' d z = I d z) → ClK k I' J y := fun I' hI' => ClK_fr hk h (fun c h1 h2 z => hI' c z (by omega) (by omega)) (fun _ _ _ _ => rfl)
  have inner : ∀ (K11 : Nat → Nat → Int32 → eH → Option (Unit × eH)) (A : Nat), A < 2 ^ n → L_X2_lookAt_31 N K11 (B + 11) (B + cK k) (nI A) 0 (HP B (w2 (wO I1 12 0 A f) 12 A 0) J) = K11 (B + 11) (B + cK k) (nI (A + 1)) (HP B (wO I1 12 0 (A + 1) f) J) := by
    intro K11 A hA
    have hA16 : A < 16 := by omega
    unfold L_X2_lookAt_31
    have e1 := e_loop_f (body := fun (k : Nat × Nat × Int32 × Int32 × eH → Option (Unit × eH)) s => F_X2_lookAt_31b N K11 (fun l0 l1 l3 l4 h => k (l0, l1, l3, l4, h)) s.1 s.2.1 s.2.2.1 s.2.2.2.1 s.2.2.2.2) (fun i => (B + 11, B + cK k, nI A, nI i, HP B (w2 (wO I1 12 0 A f) 12 A (hb (fun s => wib y s A) i)) J)) (n) (N := N) (fun i hi k0 => by
      show F_X2_lookAt_31b N K11 _ (B + 11) (B + cK k) (nI A) (nI i) (HP B (w2 (wO I1 12 0 A f) 12 A (hb (fun s => wib y s A) i)) J) = k0 _
      unfold F_X2_lookAt_31b
      have g1 : w2 (wO I1 12 0 A f) 12 A (hb (fun s => wib y s A) i) 11 1 = nI n := (w2_c _ _ (by decide)).trans ((wO_c _ _ _ _ (by decide)).trans n1)
      have g2 : w2 (wO I1 12 0 A f) 12 A (hb (fun s => wib y s A) i) 12 A = hb (fun s => wib y s A) i := w2_s _ _ _ _
      have hc := hcl (w2 (wO I1 12 0 A f) 12 A (hb (fun s => wib y s A) i)) (fun d z h1 h2 => (w2_c _ _ h2).trans ((wO_c _ _ _ _ h2).trans (f1 d z h1)))
      simp only [Z_gi1, g1, Option.bind_some, if_neg (nI_ge hi (show n < 2 ^ 31 by omega)), Z_gr0, Z_ai hA16, g2, K_is hk, s_within hN hc hk (show i < 4 by omega) hA16, e_bind_some, s_bit, Z_si hA16, w2_w2, nI_1]
      rfl) (by omega)
    refine Eq.trans e1 ?_
    show F_X2_lookAt_31b N K11 _ (B + 11) (B + cK k) (nI A) (nI n) (HP B (w2 (wO I1 12 0 A f) 12 A (hb (fun s => wib y s A) n)) J) = _
    unfold F_X2_lookAt_31b
    have g1 : w2 (wO I1 12 0 A f) 12 A (hb (fun s => wib y s A) n) 11 1 = nI n := (w2_c _ _ (by decide)).trans ((wO_c _ _ _ _ (by decide)).trans n1)
    have e : hb (fun s => wib y s A) n = f A := by rw [hb_cut _ hn, hf]; rfl
    simp only [Z_gi1, g1, Option.bind_some, if_pos (nI_le (Nat.le_refl n) (show n < 2 ^ 31 by omega)), nI_1]
    rw [e, wO_s0]
  obtain ⟨I2, hI2⟩ : ∃ I2, I2 = wO I1 12 0 (2 ^ n) f := ⟨_, rfl⟩
  have g2 : I2 11 1 = nI n := by rw [hI2, wO_c _ _ _ _ (by decide)]; exact n1
  have last : L_X2_lookAt_81 N (B + 11) 0 (HP B (w2 I2 11 2 0) J) = some ((), HP B (w2 I2 11 2 (nI (bgn y n n))) J) := by
    unfold L_X2_lookAt_81
    have e1 := e_loop_f (body := fun (k : Nat × Int32 × eH → Option (Unit × eH)) s => F_X2_lookAt_81b N (fun l0 l3 h => k (l0, l3, h)) s.1 s.2.1 s.2.2) (fun i => (B + 11, nI i, HP B (w2 I2 11 2 (nI (bgn y n i))) J)) (n) (N := N) (fun i hi k0 => by
      show F_X2_lookAt_81b N _ (B + 11) (nI i) (HP B (w2 I2 11 2 (nI (bgn y n i))) J) = k0 _
      unfold F_X2_lookAt_81b
      have p := (p2_le hi hn).1
      have q1 : w2 I2 11 2 (nI (bgn y n i)) 11 1 = nI n := (w2_k _ _ (by decide)).trans g2
      have q2 : w2 I2 11 2 (nI (bgn y n i)) 12 (2 ^ i) = nI (clN y n (2 ^ i)) := by rw [w2_c _ _ (by decide), hI2, wO_in0 _ _ _ _ p, hf]
      simp only [Z_gi1, q1, Option.bind_some, if_neg (nI_ge hi (show n < 2 ^ 31 by omega)), Z_gi2, w2_s, Z_gr0, one_shl (show i < 5 by omega), Z_ai (show 2 ^ i < 16 by omega), q2, nI_shl4 _ (show i < 4 by omega), nI_or, Z_p2, w2_w2, nI_1]
      rfl) (by omega)
    refine Eq.trans e1 ?_
    show F_X2_lookAt_81b N _ (B + 11) (nI n) (HP B (w2 I2 11 2 (nI (bgn y n n))) J) = _
    unfold F_X2_lookAt_81b
    have q1 : w2 I2 11 2 (nI (bgn y n n)) 11 1 = nI n := (w2_k _ _ (by decide)).trans g2
    simp only [Z_gi1, q1, Option.bind_some, if_pos (nI_le (Nat.le_refl n) (show n < 2 ^ 31 by omega))]
  refine ⟨w2 I2 11 2 (nI (bgn y n n)), ?_, ⟨(w2_k _ _ (by decide)).trans g2, fun A hA => ?_, ?_⟩, fun d z h1 h2 => ?_⟩
  · have e4 : e_min (nI n) 4 = nI n := if_neg (nI_nlt (a := 4) (b := n) hn (by decide))
    unfold F_X2_lookAt
    simp only [e4, Z_p1, Option.bind_some, ← hI1]
    unfold L_X2_lookAt_11
    have e1 := e_loop_f (body := fun (k : Nat × Nat × Int32 × eH → Option (Unit × eH)) s => F_X2_lookAt_11b N (fun l0 l1 l3 h => k (l0, l1, l3, h)) s.1 s.2.1 s.2.2.1 s.2.2.2) (fun i => (B + 11, B + cK k, nI i, HP B (wO I1 12 0 i f) J)) (2 ^ n) (N := N) (fun i hi k0 => by
      show F_X2_lookAt_11b N _ (B + 11) (B + cK k) (nI i) (HP B (wO I1 12 0 i f) J) = k0 _
      unfold F_X2_lookAt_11b
      have q1 : wO I1 12 0 i f 11 1 = nI n := (wO_c _ _ _ _ (by decide)).trans n1
      simp only [Z_gi1, q1, Option.bind_some, one_shl (show n < 5 by omega), if_neg (nI_ge hi (show 2 ^ n < 2 ^ 31 by omega)), Z_gr0, Z_si (show i < 16 by omega)]
      exact inner _ i hi) (by omega)
    simp only [wO_0] at e1
    refine Eq.trans e1 ?_
    show F_X2_lookAt_11b N _ (B + 11) (B + cK k) (nI (2 ^ n)) (HP B (wO I1 12 0 (2 ^ n) f) J) = _
    unfold F_X2_lookAt_11b
    rw [← hI2]
    simp only [Z_gi1, g2, Option.bind_some, one_shl (show n < 5 by omega), if_pos (nI_le (Nat.le_refl (2 ^ n)) (show 2 ^ n < 2 ^ 31 by omega)), Z_p2]
    exact last
  · rw [w2_c _ _ (by decide), hI2, wO_in0 _ _ _ _ hA, hf]
  · rw [w2_s, bgn_phi hn]
  · rw [w2_c _ _ h1, hI2, wO_c _ _ _ _ h2]; exact f1 d z h1
/-- digits within the sites -/
def dgs (n Y : Nat) : Prop := Y < 65536 ∧ ∀ s, s < 4 → subn n (sg Y s)
theorem dgs_aft (hs : dgs n Y) : dgs n (aft y n Y f t) := by
  refine ⟨en4_lt aft_16, fun u hu => ?_⟩
  rw [sg_aft hu]
  split
  · exact clN_sub
  · exact hs.2 u hu
theorem dgs_phi : dgs n (phi y n X) := by
  refine ⟨en4_lt phi_16, fun u hu => ?_⟩
  rw [sg_phi hu]
  split
  · exact clN_sub
  · intro o _ h; rw [Nat.zero_testBit] at h; cases h
theorem s_setOf {hh : eH} (hY : Y < 65536) (hs : s < 4) : F_X2_setOf (nI Y) (nI s) hh = some (nI (sg Y s), hh) := by
  unfold F_X2_setOf
  rw [setOf_X hY hs]
theorem s_lacking (hN : 200 < N) (hG : GoM I y n) (hn : n ≤ 4) (hY : Y < 65536) : F_X2_lackingSites N (B + 11) (nI Y) (HP B I J) = some (nI (lk n Y), HP B I J) := by
  have h16 : 2 ^ n ≤ 16 := (by decide +kernel : ∀ n, n < 5 → 2 ^ n ≤ 16) n (by omega)
  have e1 : ((1 : Int32) <<< (nI n &&& 31)) - 1 = nI (2 ^ n - 1) := (by decide +kernel : ∀ n, n < 5 → ((1 : Int32) <<< (nI n &&& 31)) - 1 = nI (2 ^ n - 1)) n (by omega)
  unfold F_X2_lackingSites
  simp only [Z_gi1, hG.1, Option.bind_some, e_let, e1]
  unfold L_X2_lackingSites_14
  have e1 := e_loop_f (body := fun (k : Nat × Int32 × Int32 × Int32 × Int32 × eH → Option (Int32 × eH)) s => F_X2_lackingSites_14b N (fun l0 l1 l2 l3 l4 h => k (l0, l1, l2, l3, l4, h)) s.1 s.2.1 s.2.2.1 s.2.2.2.1 s.2.2.2.2.1 s.2.2.2.2.2) (fun i => (B + 11, nI Y, nI (2 ^ n - 1), nI (ct (fun s => decide (sg Y s ≠ 2 ^ n - 1)) i), nI i, HP B I J)) (n) (N := N) (fun i hi k0 => by
    show F_X2_lackingSites_14b N _ (B + 11) (nI Y) (nI (2 ^ n - 1)) (nI (ct (fun s => decide (sg Y s ≠ 2 ^ n - 1)) i)) (nI i) (HP B I J) = k0 _
    unfold F_X2_lackingSites_14b
    have hsg := sg_lt (X := Y) (s := i)
    have b0 : F_X11_bit 0 (HP B I J) = some (0, HP B I J) := s_bit false _
    have b1 : F_X11_bit 1 (HP B I J) = some (1, HP B I J) := s_bit true _
    simp only [Z_gi1, hG.1, Option.bind_some, if_neg (nI_ge hi (show n < 2 ^ 31 by omega)), s_setOf hY (show i < 4 by omega), e_bind_some, F_X2_lackingSites_39, b0, b1, e_let, nI_1, Int32.add_zero]
    by_cases q : sg Y i = 2 ^ n - 1
    · rw [if_pos (by rw [q]), show ct (fun s => decide (sg Y s ≠ 2 ^ n - 1)) (i + 1) = ct (fun s => decide (sg Y s ≠ 2 ^ n - 1)) i by simp [ct, q]]
    · rw [if_neg (fun e => q ((nI_eq (by omega) (by omega)).mp e)), show ct (fun s => decide (sg Y s ≠ 2 ^ n - 1)) (i + 1) = ct (fun s => decide (sg Y s ≠ 2 ^ n - 1)) i + 1 by simp [ct, q]]) (by omega)
  refine Eq.trans e1 ?_
  show F_X2_lackingSites_14b N _ (B + 11) (nI Y) (nI (2 ^ n - 1)) (nI (ct (fun s => decide (sg Y s ≠ 2 ^ n - 1)) n)) (nI n) (HP B I J) = _
  unfold F_X2_lackingSites_14b
  simp only [Z_gi1, hG.1, Option.bind_some, if_pos (nI_le (Nat.le_refl n) (show n < 2 ^ 31 by omega))]
  rfl

theorem aft_I {V : Nat} (hY : Y < 65536) (hV : V < 16) (ht : t < 4) : ((nI Y &&& ((15 <<< ((4 * nI t) &&& 31)) ^^^ (-1))) ||| (nI V <<< ((4 * nI t) &&& 31))) = nI (en4 (fun u => if u = t then V else sg Y u)) := by
  have h16 : ∀ u, u < 4 → (if u = t then V else sg Y u) < 16 := fun u _ => by split; exact hV; exact sg_lt
  apply b_ext
  intro i hi
  have h15 : ∀ j, j < 32 → bt 15 j = decide (j < 4) := by decide +kernel
  rw [b_or, b_and, b_xor, b_m1 i hi, Bool.xor_true, n_4, b_shl (4 * t) (by omega) _ hi, b_shl (4 * t) (by omega) _ hi, h15 _ (by omega), bt_nI hi, bt_nI (show i - 4 * t < 32 by omega), bt_nI hi]
  rcases Nat.lt_or_ge i 16 with h | h
  · have e : (en4 (fun u => if u = t then V else sg Y u)).testBit i = (if i / 4 = t then V else sg Y (i / 4)).testBit (i % 4) := by
      have := sg_b (X := en4 (fun u => if u = t then V else sg Y u)) (s := i / 4) (show i % 4 < 4 by omega)
      rw [sg_en4 h16 (show i / 4 < 4 by omega), show 4 * (i / 4) + i % 4 = i by omega] at this
      exact this.symm
    rw [e]
    by_cases g : i / 4 = t
    · rw [if_pos g, decide_eq_true (show 4 * t ≤ i by omega), decide_eq_true (show i - 4 * t < 4 by omega), show i - 4 * t = i % 4 by omega]
      simp
    · rw [if_neg g, sg_b (by omega), show 4 * (i / 4) + i % 4 = i by omega]
      by_cases g2 : 4 * t ≤ i
      · rw [decide_eq_true g2, decide_eq_false (show ¬ i - 4 * t < 4 by omega), Nat.testBit_lt_two_pow (Nat.lt_of_lt_of_le hV (show 2 ^ 4 ≤ 2 ^ (i - 4 * t) from Nat.pow_le_pow_right (by decide) (by omega)))]
        simp
      · rw [decide_eq_false g2]; simp
  · have z1 : Y.testBit i = false := Nat.testBit_lt_two_pow (Nat.lt_of_lt_of_le hY (show 2 ^ 16 ≤ 2 ^ i from Nat.pow_le_pow_right (by decide) h))
    have z2 : (en4 (fun u => if u = t then V else sg Y u)).testBit i = false := Nat.testBit_lt_two_pow (Nat.lt_of_lt_of_le (en4_lt h16) (show 2 ^ 16 ≤ 2 ^ i from Nat.pow_le_pow_right (by decide) h))
    rw [z1, z2, Nat.testBit_lt_two_pow (Nat.lt_of_lt_of_le hV (show 2 ^ 4 ≤ 2 ^ (i - 4 * t) from Nat.pow_le_pow_right (by decide) (by omega)))]
    simp
theorem s_after (hG : GoM I y n) (hn : n ≤ 4) (hY : dgs n Y) (hf : f < 4) (ht : t < 4) : F_X2_afterSending (B + 11) (nI Y) (nI f) (nI t) (HP B I J) = some (nI (aft y n Y f t), HP B I J) := by
  have hA : sg Y f ||| sg Y t < 16 := or_lt16 sg_lt sg_lt
  have hA2 := sub_lt hn hA (sub_or (hY.2 f hf) (hY.2 t ht))
  unfold F_X2_afterSending
  simp only [Z_gr0, Option.bind_some, s_setOf hY.1 hf, s_setOf hY.1 ht, e_bind_some, nI_or, Z_ai hA, hG.2.1 _ hA2, aft_I hY.1 clN_lt ht]
  rfl
/-- one of the moves is enough -/
def mvs (y : eKS) (n l Y f t : Nat) : Bool := decide (aft y n Y f t ≠ Y) && Ecb y n l (aft y n Y f t)
theorem s_enough (hN : 200 < N) (hG : GoM I y n) (hn : n ≤ 4) : ∀ d l Y, l < d → l < 2 ^ 31 → dgs n Y → F_X2_isEnough N d (B + 11) (nI Y) (nI l) (HP B I J) = some (b2 (Ecb y n l Y), HP B I J)
  | 0, l, Y, hl, _, _ => absurd hl (Nat.not_lt_zero l)
  | d + 1, l, Y, hl, hl8, hY => by
    have ih := s_enough hN hG hn d
    have hlk4 : lk n Y ≤ n := ct_le _ n
    show F_X2_isEnough_b N (F_X2_isEnough N d) (B + 11) (nI Y) (nI l) (HP B I J) = _
    unfold F_X2_isEnough_b F_X2_isEnough_15
    simp only [Z_is, Option.bind_some, s_lacking hN hG hn hY.1, e_bind_some]
    by_cases h0 : lk n Y = 0
    · have e : Ecb y n l Y = true := by
        cases l with
        | zero => exact decide_eq_true h0
        | succ l => exact Ecb_s.mpr (Or.inl h0)
      rw [e, if_pos (by rw [h0]; rfl), if_pos (by rw [h0]; rfl)]
      rfl
    · rw [if_neg (nI_ne0 (by omega) (by omega))]
      by_cases h1 : lk n Y ≤ l
      · obtain ⟨m, rfl⟩ : ∃ m, l = m + 1 := ⟨l - 1, by omega⟩
        rw [if_pos (nI_le h1 hl8)]
        have inner : ∀ (K28 : Nat → Int32 → Int32 → Int32 → eH → Option (Int32 × eH)) (f : Nat), f < n → L_X2_isEnough_40 N (F_X2_isEnough N d) K28 (B + 11) (nI Y) (nI (m + 1)) (nI f) 0 (HP B I J) = if al (fun t => !mvs y n m Y f t) n 0 = true then K28 (B + 11) (nI Y) (nI (m + 1)) (nI (f + 1)) (HP B I J) else some (1, HP B I J) := by
          intro K28 f hf
          have e0 : L_X2_isEnough_40 N (F_X2_isEnough N d) K28 (B + 11) (nI Y) (nI (m + 1)) (nI f) 0 (HP B I J) = ex (fun t => !mvs y n m Y f t) (fun _ => some (1, HP B I J)) (K28 (B + 11) (nI Y) (nI (m + 1)) (nI (f + 1)) (HP B I J)) n 0 := by
            unfold L_X2_isEnough_40
            have e1 := e_loop_e (body := fun (k : Nat × Int32 × Int32 × Int32 × Int32 × eH → Option (Int32 × eH)) s => F_X2_isEnough_40b N (F_X2_isEnough N d) K28 (fun l0 l1 l2 l4 l5 h => k (l0, l1, l2, l4, l5, h)) s.1 s.2.1 s.2.2.1 s.2.2.2.1 s.2.2.2.2.1 s.2.2.2.2.2) (fun i => (B + 11, nI Y, nI (m + 1), nI f, nI i, HP B I J)) (fun i => !mvs y n m Y f i) (fun i => some (1, HP B I J)) (K28 (B + 11) (nI Y) (nI (m + 1)) (nI (f + 1)) (HP B I J)) (n) (N := N) (fun i hi k0 => by
              show F_X2_isEnough_40b N (F_X2_isEnough N d) K28 _ (B + 11) (nI Y) (nI (m + 1)) (nI f) (nI i) (HP B I J) = if _ = true then k0 _ else _
              unfold F_X2_isEnough_40b
              simp only [Z_gi1, hG.1, Option.bind_some, if_neg (nI_ge hi (show n < 2 ^ 31 by omega)), Z_is, s_after hG hn hY (show f < 4 by omega) (show i < 4 by omega), e_bind_some, nI_pred, ih m (aft y n Y f i) (by omega) (by omega) (dgs_aft hY), b2_0, h_z1, F_X2_isEnough_80, nI_1]
              unfold mvs
              have ha := (dgs_aft (y := y) (f := f) (t := i) hY).1
              have hY1 := hY.1
              by_cases q : aft y n Y f i = Y
              · rw [if_pos (by rw [q]), decide_eq_false (fun g => g q)]; rfl
              · rw [if_neg (fun e => q ((nI_eq (by omega) (by omega)).mp e)), decide_eq_true q, Bool.true_and]
                cases Ecb y n m (aft y n Y f i) <;> rfl) (fun k0 => by
              show F_X2_isEnough_40b N (F_X2_isEnough N d) K28 _ (B + 11) (nI Y) (nI (m + 1)) (nI f) (nI n) (HP B I J) = _
              unfold F_X2_isEnough_40b
              simp only [Z_gi1, hG.1, Option.bind_some, if_pos (nI_le (Nat.le_refl n) (show n < 2 ^ 31 by omega)), nI_1]) (by omega)
            exact e1
          rw [e0, ex_const]
        have e1 : L_X2_isEnough_28 N (F_X2_isEnough N d) (B + 11) (nI Y) (nI (m + 1)) 0 (HP B I J) = ex (fun f => al (fun t => !mvs y n m Y f t) n 0) (fun _ => some (1, HP B I J)) (some (0, HP B I J)) n 0 := by
          unfold L_X2_isEnough_28
          have e1 := e_loop_e (body := fun (k : Nat × Int32 × Int32 × Int32 × eH → Option (Int32 × eH)) s => F_X2_isEnough_28b N (F_X2_isEnough N d) (fun l0 l1 l2 l4 h => k (l0, l1, l2, l4, h)) s.1 s.2.1 s.2.2.1 s.2.2.2.1 s.2.2.2.2) (fun i => (B + 11, nI Y, nI (m + 1), nI i, HP B I J)) (fun i => al (fun t => !mvs y n m Y i t) n 0) (fun i => some (1, HP B I J)) (some (0, HP B I J)) (n) (N := N) (fun i hi k0 => by
            show F_X2_isEnough_28b N (F_X2_isEnough N d) _ (B + 11) (nI Y) (nI (m + 1)) (nI i) (HP B I J) = if _ = true then k0 _ else _
            unfold F_X2_isEnough_28b
            simp only [Z_gi1, hG.1, Option.bind_some, if_neg (nI_ge hi (show n < 2 ^ 31 by omega))]
            exact inner _ i hi) (fun k0 => by
            show F_X2_isEnough_28b N (F_X2_isEnough N d) _ (B + 11) (nI Y) (nI (m + 1)) (nI n) (HP B I J) = _
            unfold F_X2_isEnough_28b
            simp only [Z_gi1, hG.1, Option.bind_some, if_pos (nI_le (Nat.le_refl n) (show n < 2 ^ 31 by omega)), h_z0]) (by omega)
          exact e1
        refine e1.trans ?_
        rw [ex_const]
        have key : al (fun f => al (fun t => !mvs y n m Y f t) n 0) n 0 = !Ecb y n (m + 1) Y := by
          cases hE : Ecb y n (m + 1) Y
          · rw [Bool.not_false, al_iff]
            intro f _ hf
            rw [al_iff]
            intro t _ ht
            cases hm : mvs y n m Y f t
            · rfl
            · unfold mvs at hm
              rw [Bool.and_eq_true] at hm
              have := Ecb_s.mpr (Or.inr ⟨f, t, by omega, by omega, hm.2⟩)
              rw [hE] at this
              cases this
          · obtain ⟨f, t, hf, ht, q1, q2⟩ := Ecb_move m Y h0 hE
            rw [Bool.not_true]
            cases hh : al (fun f => al (fun t => !mvs y n m Y f t) n 0) n 0
            · rfl
            · have := al_iff.mp (al_iff.mp hh f (Nat.zero_le _) (by omega)) t (Nat.zero_le _) (by omega)
              unfold mvs at this
              rw [decide_eq_true q1, q2] at this
              cases this
        rw [key]
        cases Ecb y n (m + 1) Y <;> rfl
      · have e : Ecb y n l Y = false := by
          cases hE : Ecb y n l Y
          · rfl
          · exact absurd (Ecb_lk hn l Y hE) h1
        rw [e, if_neg (nI_ge (by omega) (by omega)), if_neg (nI_ne0 (by omega) (by omega))]
        rfl
end SPS
