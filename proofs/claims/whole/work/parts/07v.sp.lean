/-! SPREAD: sets of sites, what they are together, and the system of sendings -/
def st4 (p : Nat → Bool) : Nat := (if p 0 = true then 1 else 0) + (if p 1 = true then 2 else 0) + (if p 2 = true then 4 else 0) + (if p 3 = true then 8 else 0)
theorem st4_lt (p : Nat → Bool) : st4 p < 16 := by
  unfold st4
  cases p 0 <;> cases p 1 <;> cases p 2 <;> cases p 3 <;> decide
theorem st4_b (p : Nat → Bool) {i : Nat} (hi : i < 4) : (st4 p).testBit i = p i := by
  unfold st4
  rcases s4_c hi with rfl | rfl | rfl | rfl
  · cases p 0 <;> cases p 1 <;> cases p 2 <;> cases p 3 <;> decide
  · cases p 0 <;> cases p 1 <;> cases p 2 <;> cases p 3 <;> decide
  · cases p 0 <;> cases p 1 <;> cases p 2 <;> cases p 3 <;> decide
  · cases p 0 <;> cases p 1 <;> cases p 2 <;> cases p 3 <;> decide
theorem ext4 {A C : Nat} (hA : A < 16) (hC : C < 16) (h : ∀ i, i < 4 → A.testBit i = C.testBit i) : A = C := (by decide +kernel : ∀ A, A < 16 → ∀ C, C < 16 → (∀ i, i < 4 → A.testBit i = C.testBit i) → A = C) A hA C hC h
theorem or_lt16 {A C : Nat} (hA : A < 16) (hC : C < 16) : A ||| C < 16 := Nat.or_lt_two_pow (n := 4) hA hC
theorem st4_cong {p q : Nat → Bool} (h : ∀ i, i < 4 → p i = q i) : st4 p = st4 q := by
  unfold st4
  rw [h 0 (by decide), h 1 (by decide), h 2 (by decide), h 3 (by decide)]
def gon (y : eKS) (o j : Nat) : Bool := cov (kR y o) j && !kS y (4 + o) j
def cvb (y : eKS) (A j : Nat) : Bool := (A.testBit 0 && cov (kR y 0) j) || (A.testBit 1 && cov (kR y 1) j) || (A.testBit 2 && cov (kR y 2) j) || (A.testBit 3 && cov (kR y 3) j)
def gnb (y : eKS) (A j : Nat) : Bool := (A.testBit 0 && gon y 0 j) || (A.testBit 1 && gon y 1 j) || (A.testBit 2 && gon y 2 j) || (A.testBit 3 && gon y 3 j)
section SPM
variable {y : eKS} {n A C j s o f t u l X Y i : Nat}
theorem or4_iff {p : Nat → Bool} : (p 0 || p 1 || p 2 || p 3) = true ↔ ∃ o, o < 4 ∧ p o = true := by
  rw [Bool.or_eq_true, Bool.or_eq_true, Bool.or_eq_true]
  constructor
  · intro h
    rcases h with ((h | h) | h) | h
    · exact ⟨0, by decide, h⟩
    · exact ⟨1, by decide, h⟩
    · exact ⟨2, by decide, h⟩
    · exact ⟨3, by decide, h⟩
  · intro ⟨o, ho, h⟩
    rcases s4_c ho with rfl | rfl | rfl | rfl
    · exact Or.inl (Or.inl (Or.inl h))
    · exact Or.inl (Or.inl (Or.inr h))
    · exact Or.inl (Or.inr h)
    · exact Or.inr h
theorem cvb_iff : cvb y A j = true ↔ ∃ o, o < 4 ∧ A.testBit o = true ∧ cov (kR y o) j = true := by
  have := or4_iff (p := fun o => A.testBit o && cov (kR y o) j)
  simp only [Bool.and_eq_true] at this
  exact this
theorem gnb_iff : gnb y A j = true ↔ ∃ o, o < 4 ∧ A.testBit o = true ∧ gon y o j = true := by
  have := or4_iff (p := fun o => A.testBit o && gon y o j)
  simp only [Bool.and_eq_true] at this
  exact this
def wib (y : eKS) (s A : Nat) : Bool := an (fun j => (!cov (kR y s) j || cvb y A j) && (!gon y s j || gnb y A j)) 160
theorem wib_iff : wib y s A = true ↔ ∀ j, j < 160 → (cov (kR y s) j = true → cvb y A j = true) ∧ (gon y s j = true → gnb y A j = true) := by
  unfold wib
  rw [an_iff]
  constructor
  · intro h j hj
    have := h j hj
    rw [Bool.and_eq_true, Bool.or_eq_true, Bool.or_eq_true] at this
    exact ⟨fun q => this.1.resolve_left (by rw [q]; decide), fun q => this.2.resolve_left (by rw [q]; decide)⟩
  · intro h j hj
    obtain ⟨h1, h2⟩ := h j hj
    rw [Bool.and_eq_true]
    refine ⟨?_, ?_⟩
    · cases e : cov (kR y s) j
      · rfl
      · rw [h1 e]; rfl
    · cases e : gon y s j
      · rfl
      · rw [h2 e]; rfl
def clN (y : eKS) (n A : Nat) : Nat := st4 (fun s => decide (s < n) && wib y s A)
theorem clN_b (hs : s < 4) : (clN y n A).testBit s = (decide (s < n) && wib y s A) := st4_b _ hs
theorem clN_lt : clN y n A < 16 := st4_lt _
def subn (n A : Nat) : Prop := ∀ o, o < 4 → A.testBit o = true → o < n
theorem clN_sub : subn n (clN y n A) := fun o ho h => by
  rw [clN_b ho, Bool.and_eq_true] at h
  exact of_decide_eq_true h.1
theorem wib_self (ho : o < 4) (h : A.testBit o = true) : wib y o A = true := by
  rw [wib_iff]
  exact fun j _ => ⟨fun q => cvb_iff.mpr ⟨o, ho, h, q⟩, fun q => gnb_iff.mpr ⟨o, ho, h, q⟩⟩
theorem cl_in (hA : subn n A) (ho : o < 4) (h : A.testBit o = true) : (clN y n A).testBit o = true := by
  rw [clN_b ho, wib_self ho h, decide_eq_true (hA o ho h)]; rfl
theorem cv_cl (hA : subn n A) (hj : j < 160) : cvb y (clN y n A) j = cvb y A j := by
  apply Bool.eq_iff_iff.mpr
  rw [cvb_iff]
  constructor
  · intro ⟨o, ho, h1, h2⟩
    rw [clN_b ho, Bool.and_eq_true] at h1
    exact (wib_iff.mp h1.2 j hj).1 h2
  · intro h
    obtain ⟨o, ho, h1, h2⟩ := cvb_iff.mp h
    exact ⟨o, ho, cl_in hA ho h1, h2⟩
theorem gn_cl (hA : subn n A) (hj : j < 160) : gnb y (clN y n A) j = gnb y A j := by
  apply Bool.eq_iff_iff.mpr
  rw [gnb_iff]
  constructor
  · intro ⟨o, ho, h1, h2⟩
    rw [clN_b ho, Bool.and_eq_true] at h1
    exact (wib_iff.mp h1.2 j hj).2 h2
  · intro h
    obtain ⟨o, ho, h1, h2⟩ := gnb_iff.mp h
    exact ⟨o, ho, cl_in hA ho h1, h2⟩
/-- they come to the same -/
def eqv (y : eKS) (A C : Nat) : Prop := ∀ j, j < 160 → cvb y A j = cvb y C j ∧ gnb y A j = gnb y C j
theorem wib_cong (h : eqv y A C) : wib y s A = wib y s C := by
  apply Bool.eq_iff_iff.mpr
  rw [wib_iff, wib_iff]
  constructor
  · intro q j hj
    rw [← (h j hj).1, ← (h j hj).2]; exact q j hj
  · intro q j hj
    rw [(h j hj).1, (h j hj).2]; exact q j hj
theorem clN_cong (h : eqv y A C) : clN y n A = clN y n C := st4_cong (fun s _ => by rw [wib_cong h])
theorem or8 (a b c d e f g h p q r s : Bool) : ((a || e) && p || (b || f) && q || (c || g) && r || (d || h) && s) = ((a && p || b && q || c && r || d && s) || (e && p || f && q || g && r || h && s)) := by
  cases p <;> cases q <;> cases r <;> cases s <;> simp [Bool.or_assoc, Bool.or_comm, Bool.or_left_comm]
theorem cv_or : cvb y (A ||| C) j = (cvb y A j || cvb y C j) := by
  unfold cvb
  simp only [Nat.testBit_or]
  exact or8 _ _ _ _ _ _ _ _ _ _ _ _
theorem gn_or : gnb y (A ||| C) j = (gnb y A j || gnb y C j) := by
  unfold gnb
  simp only [Nat.testBit_or]
  exact or8 _ _ _ _ _ _ _ _ _ _ _ _
theorem sub_or (hA : subn n A) (hC : subn n C) : subn n (A ||| C) := fun o ho h => by
  rw [Nat.testBit_or, Bool.or_eq_true] at h
  exact h.elim (hA o ho) (hC o ho)
theorem cl_or (hA : subn n A) (hC : subn n C) : clN y n (clN y n A ||| clN y n C) = clN y n (A ||| C) := clN_cong (fun j hj => by
  rw [cv_or, cv_or, gn_or, gn_or, cv_cl hA hj, cv_cl hC hj, gn_cl hA hj, gn_cl hC hj]
  exact ⟨rfl, rfl⟩)
theorem eqv_s (h : eqv y A C) : eqv y C A := fun j hj => ⟨(h j hj).1.symm, (h j hj).2.symm⟩
theorem eqv_t {D : Nat} (h : eqv y A C) (h2 : eqv y C D) : eqv y A D := fun j hj => ⟨(h j hj).1.trans (h2 j hj).1, (h j hj).2.trans (h2 j hj).2⟩
/-! states: four sets in one number -/
def sg (X s : Nat) : Nat := (X >>> (4 * s)) % 16
theorem sg_lt : sg X s < 16 := Nat.mod_lt _ (by decide)
theorem sg_b (hi : i < 4) : (sg X s).testBit i = X.testBit (4 * s + i) := by
  unfold sg
  rw [show (16 : Nat) = 2 ^ 4 from rfl, Nat.testBit_mod_two_pow, Nat.testBit_shiftRight, decide_eq_true hi, Bool.true_and]
theorem sg_big (hi : 4 ≤ i) : (sg X s).testBit i = false := Nat.testBit_lt_two_pow (Nat.lt_of_lt_of_le sg_lt (Nat.pow_le_pow_right (n := 2) (by decide) hi))
def snt (X f t : Nat) : Nat := X ||| (sg X f <<< (4 * t))
theorem sg_snt (ht : t < 4) (hu : u < 4) : sg (snt X f t) u = if u = t then sg X t ||| sg X f else sg X u := by
  refine ext4 sg_lt (by split; exact or_lt16 sg_lt sg_lt; exact sg_lt) (fun i hi => ?_)
  rw [sg_b hi]
  unfold snt
  rw [Nat.testBit_or, Nat.testBit_shiftLeft]
  by_cases e : u = t
  · rw [if_pos e, Nat.testBit_or, sg_b hi, e, decide_eq_true (show 4 * t + i ≥ 4 * t by omega), Bool.true_and, show 4 * t + i - 4 * t = i by omega]
  · rw [if_neg e, sg_b hi]
    by_cases g : 4 * u + i ≥ 4 * t
    · rw [decide_eq_true g, sg_big (show 4 ≤ 4 * u + i - 4 * t by omega)]; simp
    · rw [decide_eq_false g]; simp
theorem snt_lt (ht : t < 4) (hX : X < 65536) : snt X f t < 65536 := by
  unfold snt
  refine Nat.or_lt_two_pow (n := 16) hX ?_
  have h := sg_lt (X := X) (s := f)
  rw [Nat.shiftLeft_eq]
  rcases s4_c ht with rfl | rfl | rfl | rfl <;> omega
theorem extX (hX : X < 65536) (hY : Y < 65536) (h : ∀ s, s < 4 → sg X s = sg Y s) : X = Y := by
  apply Nat.eq_of_testBit_eq
  intro i
  rcases Nat.lt_or_ge i 16 with hi | hi
  · have h1 := congrArg (fun z => z.testBit (i % 4)) (h (i / 4) (by omega))
    simp only [sg_b (show i % 4 < 4 by omega), show 4 * (i / 4) + i % 4 = i by omega] at h1
    exact h1
  · rw [Nat.testBit_lt_two_pow (Nat.lt_of_lt_of_le hX (show 2 ^ 16 ≤ 2 ^ i from Nat.pow_le_pow_right (by decide) hi)), Nat.testBit_lt_two_pow (Nat.lt_of_lt_of_le hY (show 2 ^ 16 ≤ 2 ^ i from Nat.pow_le_pow_right (by decide) hi))]
def en4 (c : Nat → Nat) : Nat := c 0 + 16 * c 1 + 256 * c 2 + 4096 * c 3
theorem sg_en4 {c : Nat → Nat} (hc : ∀ s, s < 4 → c s < 16) (hu : u < 4) : sg (en4 c) u = c u := by
  have h0 := hc 0 (by decide)
  have h1 := hc 1 (by decide)
  have h2 := hc 2 (by decide)
  have h3 := hc 3 (by decide)
  unfold sg en4
  rw [Nat.shiftRight_eq_div_pow]
  rcases s4_c hu with rfl | rfl | rfl | rfl
  · show (c 0 + 16 * c 1 + 256 * c 2 + 4096 * c 3) / 1 % 16 = c 0
    omega
  · show (c 0 + 16 * c 1 + 256 * c 2 + 4096 * c 3) / 16 % 16 = c 1
    omega
  · show (c 0 + 16 * c 1 + 256 * c 2 + 4096 * c 3) / 256 % 16 = c 2
    omega
  · show (c 0 + 16 * c 1 + 256 * c 2 + 4096 * c 3) / 4096 % 16 = c 3
    omega
theorem en4_lt {c : Nat → Nat} (hc : ∀ s, s < 4 → c s < 16) : en4 c < 65536 := by
  have h0 := hc 0 (by decide)
  have h1 := hc 1 (by decide)
  have h2 := hc 2 (by decide)
  have h3 := hc 3 (by decide)
  unfold en4
  omega
theorem en4_cong {c d : Nat → Nat} (h : ∀ s, s < 4 → c s = d s) : en4 c = en4 d := by
  unfold en4
  rw [h 0 (by decide), h 1 (by decide), h 2 (by decide), h 3 (by decide)]
/-- the class's state for the reference's -/
def phi (y : eKS) (n X : Nat) : Nat := en4 (fun s => if s < n then clN y n (sg X s) else 0)
theorem phi_16 : ∀ s, s < 4 → (if s < n then clN y n (sg X s) else 0) < 16 := fun s _ => by split; exact clN_lt; decide
theorem sg_phi (hu : u < 4) : sg (phi y n X) u = if u < n then clN y n (sg X u) else 0 := sg_en4 phi_16 hu
def aft (y : eKS) (n Y f t : Nat) : Nat := en4 (fun u => if u = t then clN y n (sg Y f ||| sg Y t) else sg Y u)
theorem aft_16 : ∀ u, u < 4 → (if u = t then clN y n (sg Y f ||| sg Y t) else sg Y u) < 16 := fun s _ => by split; exact clN_lt; exact sg_lt
theorem sg_aft (hu : u < 4) : sg (aft y n Y f t) u = if u = t then clN y n (sg Y f ||| sg Y t) else sg Y u := sg_en4 aft_16 hu
def good (n X : Nat) : Prop := X < 65536 ∧ ∀ s, s < 4 → subn n (sg X s) ∧ (s < n → (sg X s).testBit s = true) ∧ (n ≤ s → sg X s = 0)
theorem good_snt (hn : n ≤ 4) (hf : f < n) (ht : t < n) (h : good n X) : good n (snt X f t) := by
  refine ⟨snt_lt (by omega) h.1, fun s hs => ?_⟩
  rw [sg_snt (by omega) hs]
  obtain ⟨h1, h2, h3⟩ := h.2 s hs
  by_cases e : s = t
  · subst e
    rw [if_pos rfl]
    refine ⟨sub_or h1 (h.2 f (by omega)).1, fun q => ?_, fun q => by omega⟩
    rw [Nat.testBit_or, h2 q]; rfl
  · rw [if_neg e]; exact ⟨h1, h2, h3⟩
theorem aft_phi (hn : n ≤ 4) (hf : f < n) (ht : t < n) (h : good n X) : aft y n (phi y n X) f t = phi y n (snt X f t) := by
  refine en4_cong (fun u hu => ?_)
  rw [sg_snt (by omega) hu]
  by_cases e : u = t
  · rw [if_pos e, if_pos e, if_pos (by omega), sg_phi (by omega), sg_phi (by omega), if_pos hf, if_pos ht, cl_or (h.2 f (by omega)).1 (h.2 t (by omega)).1, Nat.or_comm]
  · rw [if_neg e, if_neg e, sg_phi hu]
def lk (n Y : Nat) : Nat := ct (fun s => decide (sg Y s ≠ 2 ^ n - 1)) n
theorem full_iff (hn : n ≤ 4) : clN y n A = 2 ^ n - 1 ↔ ∀ s, s < n → wib y s A = true := by
  have e : 2 ^ n - 1 = st4 (fun s => decide (s < n)) := (by decide +kernel : ∀ n, n < 5 → 2 ^ n - 1 = st4 (fun s => decide (s < n))) n (by omega)
  rw [e]
  constructor
  · intro h s hs
    have := congrArg (fun z => z.testBit s) h
    simp only [clN_b (show s < 4 by omega), st4_b _ (show s < 4 by omega), decide_eq_true hs, Bool.true_and] at this
    exact this
  · intro h
    refine st4_cong (fun s _ => ?_)
    by_cases q : s < n
    · rw [h s q, Bool.and_true]
    · rw [decide_eq_false q]; rfl
def dnR (y : eKS) (n X : Nat) : Prop := ∀ s, s < n → eqv y (sg X s) (sg X 0)
theorem lk_0 : lk n Y = 0 ↔ ∀ s, s < n → sg Y s = 2 ^ n - 1 := by
  unfold lk
  constructor
  · intro h s hs
    by_cases e : sg Y s = 2 ^ n - 1
    · exact e
    · have : 0 < ct (fun s => decide (sg Y s ≠ 2 ^ n - 1)) n := by
        have key : ∀ m, s < m → 0 < ct (fun s => decide (sg Y s ≠ 2 ^ n - 1)) m := by
          intro m
          induction m with
          | zero => intro q; omega
          | succ m ih =>
            intro q
            show 0 < ct _ m + (if decide (sg Y m ≠ 2 ^ n - 1) = true then 1 else 0)
            by_cases g : s = m
            · subst g
              rw [if_pos (decide_eq_true e)]; omega
            · have := ih (by omega)
              omega
        exact key n hs
      omega
  · intro h
    exact ct_0 (fun s hs => decide_eq_false (fun q => q (h s hs)))
theorem dn_iff (hn : n ≤ 4) (h0 : 0 < n) (h : good n X) : lk n (phi y n X) = 0 ↔ dnR y n X := by
  rw [lk_0]
  constructor
  · intro q
    have all : ∀ s, s < n → ∀ o, o < n → wib y o (sg X s) = true := by
      intro s hs
      have := q s hs
      rw [sg_phi (by omega), if_pos hs] at this
      exact (full_iff hn).mp this
    -- each set covers what any site covers
    have up : ∀ s, s < n → ∀ t, t < n → ∀ j, j < 160 → (cvb y (sg X t) j = true → cvb y (sg X s) j = true) ∧ (gnb y (sg X t) j = true → gnb y (sg X s) j = true) := by
      intro s hs t ht j hj
      refine ⟨fun g => ?_, fun g => ?_⟩
      · obtain ⟨o, ho, o1, o2⟩ := cvb_iff.mp g
        exact (wib_iff.mp (all s hs o ((h.2 t (by omega)).1 o ho o1)) j hj).1 o2
      · obtain ⟨o, ho, o1, o2⟩ := gnb_iff.mp g
        exact (wib_iff.mp (all s hs o ((h.2 t (by omega)).1 o ho o1)) j hj).2 o2
    intro s hs j hj
    exact ⟨Bool.eq_iff_iff.mpr ⟨(up 0 h0 s hs j hj).1, (up s hs 0 h0 j hj).1⟩, Bool.eq_iff_iff.mpr ⟨(up 0 h0 s hs j hj).2, (up s hs 0 h0 j hj).2⟩⟩
  · intro q s hs
    rw [sg_phi (by omega), if_pos hs]
    refine (full_iff hn).mpr (fun o ho => ?_)
    have e : eqv y (sg X o) (sg X s) := eqv_t (q o ho) (eqv_s (q s hs))
    rw [← wib_cong e]
    exact wib_self (by omega) ((h.2 o (by omega)).2.1 ho)
/-! how many sendings are enough -/
def anyB (p : Nat → Bool) : Nat → Bool
  | 0 => false
  | n + 1 => anyB p n || p n
theorem anyB_iff {p : Nat → Bool} : ∀ {n : Nat}, anyB p n = true ↔ ∃ i, i < n ∧ p i = true
  | 0 => ⟨fun h => by (cases h), fun h => h.elim (fun i q => absurd q.1 (Nat.not_lt_zero i))⟩
  | n + 1 => by
    show (anyB p n || p n) = true ↔ _
    rw [Bool.or_eq_true, anyB_iff]
    constructor
    · intro h
      rcases h with ⟨i, h1, h2⟩ | h
      · exact ⟨i, by omega, h2⟩
      · exact ⟨n, by omega, h⟩
    · intro ⟨i, h1, h2⟩
      by_cases e : i = n
      · subst e; exact Or.inr h2
      · exact Or.inl ⟨i, by omega, h2⟩
def Ecb (y : eKS) (n : Nat) : Nat → Nat → Bool
  | 0, Y => decide (lk n Y = 0)
  | l + 1, Y => decide (lk n Y = 0) || anyB (fun f => anyB (fun t => Ecb y n l (aft y n Y f t)) n) n
def Er (y : eKS) (n : Nat) : Nat → Nat → Prop
  | 0, X => dnR y n X
  | l + 1, X => dnR y n X ∨ ∃ f t, f < n ∧ t < n ∧ Er y n l (snt X f t)
theorem Ecb_s : Ecb y n (l + 1) Y = true ↔ lk n Y = 0 ∨ ∃ f t, f < n ∧ t < n ∧ Ecb y n l (aft y n Y f t) = true := by
  show (decide (lk n Y = 0) || anyB (fun f => anyB (fun t => Ecb y n l (aft y n Y f t)) n) n) = true ↔ _
  rw [Bool.or_eq_true, decide_eq_true_eq, anyB_iff]
  constructor
  · intro h
    rcases h with h | ⟨f, hf, h⟩
    · exact Or.inl h
    · obtain ⟨t, ht, h⟩ := anyB_iff.mp h
      exact Or.inr ⟨f, t, hf, ht, h⟩
  · intro h
    rcases h with h | ⟨f, t, hf, ht, h⟩
    · exact Or.inl h
    · exact Or.inr ⟨f, hf, anyB_iff.mpr ⟨t, ht, h⟩⟩
theorem sim (hn : n ≤ 4) (h0 : 0 < n) : ∀ l X, good n X → (Ecb y n l (phi y n X) = true ↔ Er y n l X)
  | 0, X, h => by
    show decide (lk n (phi y n X) = 0) = true ↔ dnR y n X
    rw [decide_eq_true_eq, dn_iff hn h0 h]
  | l + 1, X, h => by
    rw [Ecb_s, dn_iff hn h0 h]
    show _ ↔ dnR y n X ∨ ∃ f t, f < n ∧ t < n ∧ Er y n l (snt X f t)
    constructor
    · intro q
      rcases q with q | ⟨f, t, hf, ht, q⟩
      · exact Or.inl q
      · rw [aft_phi hn hf ht h] at q
        exact Or.inr ⟨f, t, hf, ht, (sim hn h0 l _ (good_snt hn hf ht h)).mp q⟩
    · intro q
      rcases q with q | ⟨f, t, hf, ht, q⟩
      · exact Or.inl q
      · refine Or.inr ⟨f, t, hf, ht, ?_⟩
        rw [aft_phi hn hf ht h]
        exact (sim hn h0 l _ (good_snt hn hf ht h)).mpr q
theorem Ecb_mono : ∀ l Y, Ecb y n l Y = true → Ecb y n (l + 1) Y = true
  | 0, Y, h => Ecb_s.mpr (Or.inl (of_decide_eq_true h))
  | l + 1, Y, h => by
    rcases Ecb_s.mp h with q | ⟨f, t, hf, ht, q⟩
    · exact Ecb_s.mpr (Or.inl q)
    · exact Ecb_s.mpr (Or.inr ⟨f, t, hf, ht, Ecb_mono l _ q⟩)
theorem ct_but {p q : Nat → Bool} {t : Nat} (h : ∀ i, i ≠ t → p i = q i) : ∀ n, ct p n ≤ ct q n + 1 ∧ (n ≤ t → ct p n = ct q n)
  | 0 => ⟨by show 0 ≤ 0 + 1; omega, fun _ => rfl⟩
  | n + 1 => by
    obtain ⟨h1, h2⟩ := ct_but h n
    show ct p n + (if p n = true then 1 else 0) ≤ ct q n + (if q n = true then 1 else 0) + 1 ∧ (n + 1 ≤ t → ct p n + (if p n = true then 1 else 0) = ct q n + (if q n = true then 1 else 0))
    by_cases e : n = t
    · have := h2 (by omega)
      refine ⟨?_, fun g => by omega⟩
      split <;> split <;> omega
    · rw [h n e]
      exact ⟨by omega, fun g => by rw [h2 (by omega)]⟩
theorem lk_aft (hn : n ≤ 4) : lk n Y ≤ lk n (aft y n Y f t) + 1 := by
  unfold lk
  have e : ct (fun s => decide (sg (aft y n Y f t) s ≠ 2 ^ n - 1)) n = ct (fun s => if s = t then decide (sg (aft y n Y f t) s ≠ 2 ^ n - 1) else decide (sg Y s ≠ 2 ^ n - 1)) n := by
    refine ct_cong (fun s hs => ?_)
    by_cases q : s = t
    · rw [if_pos q]
    · rw [if_neg q, sg_aft (by omega), if_neg q]
  rw [e]
  exact (ct_but (t := t) (fun i hi => by rw [if_neg hi]) n).1
theorem Ecb_lk (hn : n ≤ 4) : ∀ l Y, Ecb y n l Y = true → lk n Y ≤ l
  | 0, Y, h => by have := of_decide_eq_true h; omega
  | l + 1, Y, h => by
    rcases Ecb_s.mp h with q | ⟨f, t, hf, ht, q⟩
    · omega
    · have h1 := Ecb_lk hn l _ q
      have h2 := lk_aft (y := y) (Y := Y) (f := f) (t := t) hn
      omega
theorem Ecb_move : ∀ l Y, lk n Y ≠ 0 → Ecb y n (l + 1) Y = true → ∃ f t, f < n ∧ t < n ∧ aft y n Y f t ≠ Y ∧ Ecb y n l (aft y n Y f t) = true
  | 0, Y, h0, h => by
    rcases Ecb_s.mp h with q | ⟨f, t, hf, ht, q⟩
    · exact absurd q h0
    · refine ⟨f, t, hf, ht, fun e => ?_, q⟩
      rw [e] at q
      exact h0 (of_decide_eq_true q)
  | l + 1, Y, h0, h => by
    rcases Ecb_s.mp h with q | ⟨f, t, hf, ht, q⟩
    · exact absurd q h0
    · by_cases e : aft y n Y f t = Y
      · rw [e] at q
        obtain ⟨f2, t2, a1, a2, a3, a4⟩ := Ecb_move l Y h0 q
        exact ⟨f2, t2, a1, a2, a3, Ecb_mono l _ a4⟩
      · exact ⟨f, t, hf, ht, e, q⟩
end SPM
