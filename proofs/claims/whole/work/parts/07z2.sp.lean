/-! SPREAD of the reference: which sets come to the same -/
def eqvB (y : eKS) (A C : Nat) : Bool := an (fun j => decide (cvb y A j = cvb y C j) && decide (gnb y A j = gnb y C j)) 160
theorem eqvB_iff {y : eKS} {A C : Nat} : eqvB y A C = true ↔ eqv y A C := by
  unfold eqvB
  rw [an_iff]
  constructor
  · intro h j hj
    have := h j hj
    rw [Bool.and_eq_true, decide_eq_true_eq, decide_eq_true_eq] at this
    exact this
  · intro h j hj
    rw [Bool.and_eq_true, decide_eq_true_eq, decide_eq_true_eq]
    exact h j hj
/-- the lowest set that comes to the same, found downwards -/
def lwN (y : eKS) (A : Nat) : Nat → Nat
  | 0 => A
  | i + 1 => if eqvB y (A - 1 - i) A = true then A - 1 - i else lwN y A i
def lkN (y : eKS) (A : Nat) : Nat := lwN y A (A - 1)
section SPQ
variable {B N : Nat} {I I2 : Nat → Nat → Int32} {J J2 : Nat → Nat → Int64} {x : eST} {y : eKS} {n A C k s t o f l X Y i d T m : Nat} {u v : Int32}
theorem eqv_r : eqv y A A := fun _ _ => ⟨rfl, rfl⟩
theorem lwN_p : ∀ i, i ≤ A - 1 → 0 < A → eqv y (lwN y A i) A ∧ 0 < lwN y A i ∧ lwN y A i ≤ A ∧ ∀ m, A - i ≤ m → m < lwN y A i → ¬ eqv y m A
  | 0, _, h0 => ⟨eqv_r, h0, Nat.le_refl _, fun m h1 h2 => by have : m < A := h2; omega⟩
  | i + 1, hi, h0 => by
    obtain ⟨a1, a2, a3, a4⟩ := lwN_p i (by omega) h0
    show eqv y (if eqvB y (A - 1 - i) A = true then A - 1 - i else lwN y A i) A ∧ 0 < (if eqvB y (A - 1 - i) A = true then A - 1 - i else lwN y A i) ∧ (if eqvB y (A - 1 - i) A = true then A - 1 - i else lwN y A i) ≤ A ∧ ∀ m, A - (i + 1) ≤ m → m < (if eqvB y (A - 1 - i) A = true then A - 1 - i else lwN y A i) → ¬ eqv y m A
    by_cases e : eqvB y (A - 1 - i) A = true
    · rw [if_pos e]
      exact ⟨eqvB_iff.mp e, by omega, by omega, fun m h1 h2 => by omega⟩
    · rw [if_neg e]
      refine ⟨a1, a2, a3, fun m h1 h2 => ?_⟩
      by_cases g : m = A - 1 - i
      · rw [g]; exact fun q => e (eqvB_iff.mpr q)
      · exact a4 m (by omega) h2
theorem lkN_p (h0 : 0 < A) : eqv y (lkN y A) A ∧ 0 < lkN y A ∧ lkN y A ≤ A ∧ ∀ m, 0 < m → m < lkN y A → ¬ eqv y m A := by
  obtain ⟨a1, a2, a3, a4⟩ := lwN_p (y := y) (A - 1) (Nat.le_refl _) h0
  exact ⟨a1, a2, a3, fun m h1 h2 => a4 m (by omega) h2⟩
theorem lkN_iff (hA : 0 < A) (hC : 0 < C) : lkN y A = lkN y C ↔ eqv y A C := by
  obtain ⟨a1, a2, a3, a4⟩ := lkN_p (y := y) hA
  obtain ⟨c1, c2, c3, c4⟩ := lkN_p (y := y) hC
  constructor
  · intro h
    rw [h] at a1
    exact eqv_t (eqv_s a1) c1
  · intro h
    rcases Nat.lt_trichotomy (lkN y A) (lkN y C) with g | g | g
    · exact absurd (eqv_t a1 h) (c4 _ a2 g)
    · exact g
    · exact absurd (eqv_t c1 (eqv_s h)) (a4 _ c2 g)
theorem mx_40 (hW : WFK n T y) (ht : t < 4) : mxr y A t ≤ 40 := mxr_le (fun o ho => Nat.le_trans (hW.2.1 o ho t ht).1 (hW.1 t ht).1)
theorem mx_M (hW : WFK n T y) (ht : t < 4) : mxr y A t ≤ kM y t := mxr_le (fun o ho => (hW.2.1 o ho t ht).1)
theorem mx_0 (hW : WFK n T y) (ht : t < 4) (h : n ≤ t) : mxr y A t = 0 := by
  have h1 := mx_M (A := A) hW ht
  have := (hW.1 t ht).2 h
  omega
def lkb (y : eKS) (J : Nat → Nat → Int64) (A C t : Nat) : Bool := decide (mxr y A t = mxr y C t) && decide (J 147 (4 * A + t) = J 147 (4 * C + t))
theorem lkb_iff (hW : WFK n T y) (hn : n ≤ 4) (hA : SBM I J y n A) (hC : SBM I J y n C) : an (lkb y J A C) n = eqvB y A C := by
  apply Bool.eq_iff_iff.mpr
  rw [an_iff, eqvB_iff]
  constructor
  · intro h j hj
    have ht : j / 40 < 4 := by omega
    have hi : j % 40 < 40 := by omega
    have ej : 40 * (j / 40) + j % 40 = j := by omega
    have e1 : cvb y A j = cvb y C j := by
      rw [← ej, mxr_iff hi ht, mxr_iff hi ht]
      rcases Nat.lt_or_ge (j / 40) n with g | g
      · have := h (j / 40) g
        unfold lkb at this
        rw [Bool.and_eq_true, decide_eq_true_eq] at this
        rw [this.1]
      · rw [mx_0 hW ht g, mx_0 hW ht g]
    refine ⟨e1, ?_⟩
    cases q : cvb y A j
    · have q2 : cvb y C j = false := by rw [← e1, q]
      cases g1 : gnb y A j
      · cases g2 : gnb y C j
        · rfl
        · rw [gn_cv g2] at q2; cases q2
      · rw [gn_cv g1] at q; cases q
    · have q2 : cvb y C j = true := by rw [← e1, q]
      have hlt : j % 40 < mxr y A (j / 40) := by
        rw [← ej, mxr_iff hi ht] at q
        exact of_decide_eq_true q
      have hMt := mx_M (A := A) hW ht
      have hM40 := (hW.1 (j / 40) ht).1
      have g : j / 40 < n := by
        rcases Nat.lt_or_ge (j / 40) n with g | g
        · exact g
        · rw [mx_0 hW ht g] at hlt; omega
      have := h (j / 40) g
      unfold lkb at this
      rw [Bool.and_eq_true, decide_eq_true_eq, decide_eq_true_eq] at this
      have s1 := (hA (j / 40) g).2 (j % 40 + 1) (by omega)
      have s2 := (hC (j / 40) g).2 (j % 40 + 1) (by omega)
      rw [this.2, s2] at s1
      unfold sbt at s1
      rw [Nat.add_sub_cancel, ej, q, q2, decide_eq_true (show 1 ≤ j % 40 + 1 by omega), decide_eq_true (show j % 40 + 1 ≤ kM y (j / 40) by omega)] at s1
      cases g1 : gnb y A j <;> cases g2 : gnb y C j <;> rw [g1, g2] at s1 <;> first | rfl | cases s1
  · intro h t ht
    have ht4 : t < 4 := by omega
    unfold lkb
    rw [Bool.and_eq_true, decide_eq_true_eq, decide_eq_true_eq]
    have hA40 := mx_40 (A := A) hW ht4
    have hC40 := mx_40 (A := C) hW ht4
    refine ⟨?_, ?_⟩
    · rcases Nat.lt_trichotomy (mxr y A t) (mxr y C t) with g | g | g
      · have := (h (40 * t + mxr y A t) (by omega)).1
        rw [mxr_iff (by omega) ht4, mxr_iff (by omega) ht4, decide_eq_true g, decide_eq_false (Nat.lt_irrefl _)] at this
        cases this
      · exact g
      · have := (h (40 * t + mxr y C t) (by omega)).1
        rw [mxr_iff (by omega) ht4, mxr_iff (by omega) ht4, decide_eq_true g, decide_eq_false (Nat.lt_irrefl _)] at this
        cases this
    · apply g_ext
      intro b hb1
      rw [(hA t ht).2 b hb1, (hC t ht).2 b hb1]
      unfold sbt
      by_cases g1 : 1 ≤ b
      · by_cases g2 : b ≤ kM y t
        · have := (hW.1 t ht4).1
          obtain ⟨r1, r2⟩ := h (40 * t + (b - 1)) (by omega)
          rw [r1, r2]
        · rw [decide_eq_false g2]; simp
      · rw [decide_eq_false g1]; simp
theorem y_areLike (hN : 200 < N) (hn : n ≤ 4) (h0 : I 125 0 = nI n) (hA16 : A < 16) (hC16 : C < 16) (hW : WFK n T y) (hA : SBM I J y n A) (hC : SBM I J y n C) : F_X12_areLike N (B + 125) (nI A) (nI C) (HP B I J) = some (b2 (eqvB y A C), HP B I J) := by
  unfold F_X12_areLike L_X12_areLike_5
  have e1 := e_loop_f (body := fun (k : Nat × Int32 × Int32 × Int32 × Int32 × eH → Option (Int32 × eH)) s => F_X12_areLike_5b N (fun l0 l1 l2 l3 l4 h => k (l0, l1, l2, l3, l4, h)) s.1 s.2.1 s.2.2.1 s.2.2.2.1 s.2.2.2.2.1 s.2.2.2.2.2) (fun i => (B + 125, nI A, nI C, b2 (an (lkb y J A C) i), nI i, HP B I J)) (n) (N := N) (fun i hi k0 => by
    show F_X12_areLike_5b N _ (B + 125) (nI A) (nI C) (b2 (an (lkb y J A C) i)) (nI i) (HP B I J) = k0 _
    unfold F_X12_areLike_5b
    have ra := mx_40 (A := A) hW (show i < 4 by omega)
    have rc := mx_40 (A := C) hW (show i < 4 by omega)
    simp only [M_gi0, h0, Option.bind_some, if_neg (nI_ge hi (show n < 2 ^ 31 by omega)), b2_0, F_X12_areLike_73, F_X12_areLike_74, M_gr36, M_gr37, n_4, nI_add, R_ai146 (show 4 * A + i < 64 by omega), R_ai146 (show 4 * C + i < 64 by omega), R_al147 (show 4 * A + i < 64 by omega), R_al147 (show 4 * C + i < 64 by omega), (hA i hi).1, (hC i hi).1, lg_cmp0, nI_1]
    have st : an (lkb y J A C) (i + 1) = (an (lkb y J A C) i && lkb y J A C i) := rfl
    cases hq : an (lkb y J A C) i
    · rw [if_pos rfl, st, hq]; rfl
    · rw [if_neg (by decide), st, hq, Bool.true_and]
      unfold lkb
      by_cases q : mxr y A i = mxr y C i
      · rw [if_pos (by rw [q]), decide_eq_true q, Bool.true_and]
        by_cases q2 : J 147 (4 * A + i) = J 147 (4 * C + i)
        · rw [if_pos q2, decide_eq_true q2]; rfl
        · rw [if_neg q2, decide_eq_false q2]; rfl
      · rw [if_neg (fun e => q ((nI_eq (by omega) (by omega)).mp e)), decide_eq_false q]; rfl) (by omega)
  refine Eq.trans e1 ?_
  show F_X12_areLike_5b N _ (B + 125) (nI A) (nI C) (b2 (an (lkb y J A C) n)) (nI n) (HP B I J) = _
  unfold F_X12_areLike_5b
  simp only [M_gi0, h0, Option.bind_some, if_pos (nI_le (Nat.le_refl n) (show n < 2 ^ 31 by omega)), hz_b]
  rw [lkb_iff hW hn hA hC]

/-- all sets are laid -/
def LKM (I : Nat → Nat → Int32) (y : eKS) (n : Nat) : Prop := ∀ A, 0 < A → A < 2 ^ n → I 148 A = nI (lkN y A)
def scr (I I2 : Nat → Nat → Int32) : Prop := ∀ d z, d ≠ 146 → d ≠ 148 → I2 d z = I d z
theorem y_lays (hN : 200 < N) (hk : k < 4) (h2 : 2 ≤ n) (hn : n ≤ 4) (h : MoK k I J y) (hW : WFK n T y) (h0 : I 125 0 = nI n) : ∃ I2 J2, F_X12_laysSets N (B + 125) (nI k) (HP B I J) = some ((), HP B I2 J2) ∧ LKM I2 y n ∧ scr I I2 ∧ ∀ d z, d ≠ 147 → J2 d z = J d z := by
  have h16 : 2 ^ n ≤ 16 := (p2_le (show 0 < n by omega) hn).2
  -- one set more
  have one : ∀ A, 0 < A → A < 2 ^ n → ∀ I1 J1, scr I I1 → (∀ d z, d ≠ 147 → J1 d z = J d z) → (∀ C, 0 < C → C < A → SBM I1 J1 y n C ∧ I1 148 C = nI (lkN y C)) → ∃ I2 J2, (∀ K2 : Nat → Int32 → Int32 → eH → Option (Unit × eH), F_X12_laysSets_2b N K2 (B + 125) (nI k) (nI A) (HP B I1 J1) = K2 (B + 125) (nI k) (nI (A + 1)) (HP B I2 J2)) ∧ scr I I2 ∧ (∀ d z, d ≠ 147 → J2 d z = J d z) ∧ ∀ C, 0 < C → C < A + 1 → SBM I2 J2 y n C ∧ I2 148 C = nI (lkN y C) := by
    intro A hA0 hAn I1 J1 fI fJ hC
    have hA16 : A < 16 := by omega
    obtain ⟨b1, b2', b3⟩ := hiN_b A hA16 hA0
    have hin := hiN_n n (by omega) A hAn hA0
    have hrl := rsN_lt A hA16 hA0
    have hK1 : MoK k I1 J1 y := MoK_id h (fun c h1 h2 z => fI c z (by omega) (by omega)) (fun z => fJ 127 z (by decide))
    have g0 : I1 125 0 = nI n := (fI _ _ (by decide) (by decide)).trans h0
    obtain ⟨I2, J2, j1, j2, j3, j4⟩ := y_joinsSet (B := B) hN hk hin hn hAn b1 hK1 hW g0 (fun q => (hC _ (by omega) hrl).1) hrl
    have hSB : ∀ C, 0 < C → C < A + 1 → SBM I2 J2 y n C := by
      intro C h1 h2
      by_cases e : C = A
      · rw [e]; exact j2
      · intro t ht
        have := (hC C h1 (by omega)).1 t ht
        rw [j3 _ _ (by omega), j4 _ _ (by omega)]
        exact this
    -- downwards
    have down : ∀ K2 : Nat → Int32 → Int32 → eH → Option (Unit × eH), L_X12_laysSets_52 N K2 (B + 125) (nI k) (nI A) (nI (A - 1)) (HP B (w2 I2 148 A (nI A)) J2) = K2 (B + 125) (nI k) (nI (A + 1)) (HP B (w2 I2 148 A (nI (lkN y A))) J2) := by
      intro K2
      unfold L_X12_laysSets_52
      have e1 := e_loop_f (body := fun (k : Nat × Int32 × Int32 × Int32 × eH → Option (Unit × eH)) s => F_X12_laysSets_52b N K2 (fun l0 l1 l2 l4 h => k (l0, l1, l2, l4, h)) s.1 s.2.1 s.2.2.1 s.2.2.2.1 s.2.2.2.2) (fun i => (B + 125, nI k, nI A, nI (A - 1 - i), HP B (w2 I2 148 A (nI (lwN y A i))) J2)) (A - 1) (N := N) (fun i hi k0 => by
        show F_X12_laysSets_52b N K2 _ (B + 125) (nI k) (nI A) (nI (A - 1 - i)) (HP B (w2 I2 148 A (nI (lwN y A i))) J2) = k0 _
        unfold F_X12_laysSets_52b
        have g0' : w2 I2 148 A (nI (lwN y A i)) 125 0 = nI n := (w2_c _ _ (by decide)).trans ((j3 _ _ (by omega)).trans g0)
        have hSB' : ∀ C, 0 < C → C < A + 1 → SBM (w2 I2 148 A (nI (lwN y A i))) J2 y n C := fun C h1 h2 t ht => by rw [w2_c _ _ (by decide)]; exact hSB C h1 h2 t ht
        have em : A - 1 - i = A - 1 - (i + 1) + 1 := by omega
        have al := y_areLike (B := B) hN hn g0' (show A - 1 - i < 16 by omega) hA16 hW (hSB' (A - 1 - i) (by omega) (by omega)) (hSB' A hA0 (by omega))
        rw [if_neg (nI_nle (by omega) (by omega))]
        simp only [M_gr38, M_is, Option.bind_some, al, e_bind_some, b2_0, R_ai148 hA16, w2_s, F_X12_laysSets_83, R_si148 hA16, w2_w2]
        have st : lwN y A (i + 1) = if eqvB y (A - 1 - i) A = true then A - 1 - i else lwN y A i := rfl
        have ep : nI (A - 1 - i) + (-1) = nI (A - 1 - (i + 1)) := by rw [em, pk_m1]
        rw [ep, st]
        cases eqvB y (A - 1 - i) A <;> rfl) (by omega)
      refine Eq.trans e1 ?_
      show F_X12_laysSets_52b N K2 _ (B + 125) (nI k) (nI A) (nI (A - 1 - (A - 1))) (HP B (w2 I2 148 A (nI (lwN y A (A - 1)))) J2) = _
      unfold F_X12_laysSets_52b
      rw [Nat.sub_self, if_pos (by decide), nI_1]
      rfl
    refine ⟨w2 I2 148 A (nI (lkN y A)), J2, fun K2 => ?_, fun d z h1 h2 => ?_, fun d z h1 => ?_, fun C h1 h2 => ⟨fun t ht => ?_, ?_⟩⟩
    · have top : L_X12_laysSets_19 N K2 (B + 125) (nI k) (nI A) (nI (n - 1)) (HP B I1 J1) = K2 (B + 125) (nI k) (nI (A + 1)) (HP B (w2 I2 148 A (nI (lkN y A))) J2) := by
        unfold L_X12_laysSets_19
        have e1 := e_loop_f (body := fun (k : Nat × Int32 × Int32 × Int32 × eH → Option (Unit × eH)) s => F_X12_laysSets_19b N K2 (fun l0 l1 l2 l3 h => k (l0, l1, l2, l3, h)) s.1 s.2.1 s.2.2.1 s.2.2.2.1 s.2.2.2.2) (fun i => (B + 125, nI k, nI A, nI (n - 1 - i), HP B I1 J1)) (n - 1 - hiN A) (N := N) (fun i hi k0 => by
          show F_X12_laysSets_19b N K2 _ (B + 125) (nI k) (nI A) (nI (n - 1 - i)) (HP B I1 J1) = k0 _
          unfold F_X12_laysSets_19b
          have nb : A.testBit (n - 1 - i) = false := b3 _ (by omega) (by omega)
          have hh : F_X12_has (nI A) (nI (n - 1 - i)) (HP B I1 J1) = some (0, HP B I1 J1) := by
            unfold F_X12_has
            rw [if_neg (fun e => by rw [(bit_A hA16 (by omega)).mp e] at nb; cases nb)]
            rfl
          have em : n - 1 - i = n - 1 - (i + 1) + 1 := by omega
          simp only [hh, e_bind_some, if_true]
          rw [em, pk_m1]) (by omega)
        refine Eq.trans e1 ?_
        show F_X12_laysSets_19b N K2 _ (B + 125) (nI k) (nI A) (nI (n - 1 - (n - 1 - hiN A))) (HP B I1 J1) = _
        unfold F_X12_laysSets_19b
        have hh : F_X12_has (nI A) (nI (hiN A)) (HP B I1 J1) = some (1, HP B I1 J1) := by
          unfold F_X12_has
          rw [if_pos ((bit_A hA16 b2').mpr b1)]
          rfl
        rw [show n - 1 - (n - 1 - hiN A) = hiN A by omega]
        simp only [hh, e_bind_some, if_neg (show ¬ (1 : Int32) = 0 by decide), M_is, Option.bind_some, j1, M_gr38, R_si148 hA16, e_let]
        obtain ⟨m, hm⟩ : ∃ m, A = m + 1 := ⟨A - 1, by omega⟩
        have ed : nI A - 1 = nI (A - 1) := by rw [hm, nI_pred]; rfl
        rw [ed]
        exact down K2
      have ed : nI n - 1 = nI (n - 1) := by
        obtain ⟨m, hm⟩ : ∃ m, n = m + 1 := ⟨n - 1, by omega⟩
        rw [hm, nI_pred]; rfl
      unfold F_X12_laysSets_2b
      simp only [M_gi0, g0, Option.bind_some, one_shl (show n < 5 by omega), if_neg (nI_ge hAn (show 2 ^ n < 2 ^ 31 by omega)), e_let, ed]
      exact top
    · rw [w2_c _ _ h2, j3 d z (fun q => h1 q.1)]; exact fI d z h1 h2
    · rw [j4 d z (fun q => h1 q.1)]; exact fJ d z h1
    · rw [w2_c _ _ (by decide)]; exact hSB C h1 h2 t ht
    · by_cases e : C = A
      · rw [e, w2_s]
      · rw [w2_k _ _ e, j3 _ _ (by omega)]; exact (hC C h1 (by omega)).2
  obtain ⟨s', ⟨I2, J2, hs', q1, q2, q3⟩, q4⟩ := e_loop_0 (body := fun (k : Nat × Int32 × Int32 × eH → Option (Unit × eH)) s => F_X12_laysSets_2b N (fun l0 l1 l2 h => k (l0, l1, l2, h)) s.1 s.2.1 s.2.2.1 s.2.2.2) (fun i st => ∃ I2 J2, st = (B + 125, nI k, nI (i + 1), HP B I2 J2) ∧ scr I I2 ∧ (∀ d z, d ≠ 147 → J2 d z = J d z) ∧ ∀ C, 0 < C → C < i + 1 → SBM I2 J2 y n C ∧ I2 148 C = nI (lkN y C)) (2 ^ n - 1) (N := N) (s := (B + 125, nI k, 1, HP B I J)) ⟨I, J, rfl, fun _ _ _ _ => rfl, fun _ _ _ => rfl, fun C h1 h2 => by omega⟩ (fun i st hi hst => by
    obtain ⟨I1, J1, hst, c1, c2, c3⟩ := hst
    subst hst
    obtain ⟨I2, J2, d1, d2, d3, d4⟩ := one (i + 1) (by omega) (by omega) I1 J1 c1 c2 c3
    exact ⟨(B + 125, nI k, nI (i + 1 + 1), HP B I2 J2), ⟨I2, J2, rfl, d2, d3, d4⟩, fun K => d1 _⟩) (by omega)
  refine ⟨I2, J2, ?_, fun A h1 h2 => (q3 A h1 (by omega)).2, q1, q2⟩
  unfold F_X12_laysSets L_X12_laysSets_2
  refine Eq.trans q4 ?_
  rw [hs']
  show F_X12_laysSets_2b N _ (B + 125) (nI k) (nI (2 ^ n - 1 + 1)) (HP B I2 J2) = _
  unfold F_X12_laysSets_2b
  simp only [M_gi0, (q1 125 0 (by decide) (by decide)).trans h0, Option.bind_some, one_shl (show n < 5 by omega), if_pos (nI_le (show 2 ^ n ≤ 2 ^ n - 1 + 1 by omega) (show 2 ^ n - 1 + 1 < 2 ^ 31 by omega))]
/-- all sites are alike in a state -/
def dnB (y : eKS) (n X : Nat) : Bool := an (fun i => decide (lkN y (sg X (i + 1)) = lkN y (sg X 0))) (n - 1)
theorem sg_pos (hn : n ≤ 4) (h : good n X) (hs : s < n) : 0 < sg X s ∧ sg X s < 2 ^ n := by
  obtain ⟨h1, h2, _⟩ := h.2 s (by omega)
  refine ⟨?_, sub_lt hn sg_lt h1⟩
  rcases Nat.eq_zero_or_pos (sg X s) with e | e
  · have := h2 hs
    rw [e, Nat.zero_testBit] at this; cases this
  · exact e
theorem dnB_iff (h2 : 2 ≤ n) (hn : n ≤ 4) (h : good n X) : dnB y n X = true ↔ dnR y n X := by
  unfold dnB dnR
  rw [an_iff]
  constructor
  · intro q s hs
    cases s with
    | zero => exact eqv_r
    | succ s => exact (lkN_iff (sg_pos hn h hs).1 (sg_pos hn h (show 0 < n by omega)).1).mp (of_decide_eq_true (q s (by omega)))
  · intro q i hi
    exact decide_eq_true ((lkN_iff (sg_pos hn h (show i + 1 < n by omega)).1 (sg_pos hn h (show 0 < n by omega)).1).mpr (q (i + 1) (by omega)))
theorem y_isAll (hN : 200 < N) (h2 : 2 ≤ n) (hn : n ≤ 4) (h0 : I 125 0 = nI n) (hL : LKM I y n) (h : good n X) : F_X12_isAll N (B + 125) (nI X) (HP B I J) = some (b2 (dnB y n X), HP B I J) := by
  have h16 : 2 ^ n ≤ 16 := (p2_le (show 0 < n by omega) hn).2
  have so : ∀ s hh, s < 4 → F_X12_setOf (nI X) (nI s) hh = some (nI (sg X s), hh) := fun s hh hs => by
    unfold F_X12_setOf
    rw [setOf_X h.1 hs]
  have so0 : ∀ hh, F_X12_setOf (nI X) 0 hh = some (nI (sg X 0), hh) := fun hh => so 0 hh (by decide)
  obtain ⟨p0, p1⟩ := sg_pos hn h (show 0 < n by omega)
  obtain ⟨z1, z2, z3, _⟩ := lkN_p (y := y) p0
  unfold F_X12_isAll L_X12_isAll_4
  have e1 := e_loop_f (body := fun (k : Nat × Int32 × Int32 × Int32 × eH → Option (Int32 × eH)) s => F_X12_isAll_4b N (fun l0 l1 l2 l3 h => k (l0, l1, l2, l3, h)) s.1 s.2.1 s.2.2.1 s.2.2.2.1 s.2.2.2.2) (fun p0_ => (B + 125, nI X, b2 (an (fun i => decide (lkN y (sg X (i + 1)) = lkN y (sg X 0))) p0_), nI (p0_ + 1), HP B I J)) (n - 1) (N := N) (fun p0_ h0_ k0 => by
    show F_X12_isAll_4b N _ (B + 125) (nI X) (b2 (an (fun i => decide (lkN y (sg X (i + 1)) = lkN y (sg X 0))) p0_)) (nI (p0_ + 1)) (HP B I J) = k0 _
    unfold F_X12_isAll_4b
    obtain ⟨p2, p3⟩ := sg_pos hn h (show p0_ + 1 < n by omega)
    obtain ⟨w1, w2', w3, _⟩ := lkN_p (y := y) p2
    simp only [M_gi0, h0, Option.bind_some, if_neg (nI_ge (show p0_ + 1 < n by omega) (show n < 2 ^ 31 by omega)), b2_0, F_X12_isAll_43, F_X12_isAll_44, M_gr38, so (p0_ + 1) _ (show p0_ + 1 < 4 by omega), so0, e_bind_some, R_ai148 (show sg X (p0_ + 1) < 16 by omega), R_ai148 (show sg X 0 < 16 by omega), hL _ p2 p3, hL _ p0 p1, nI_1]
    have st : an (fun i => decide (lkN y (sg X (i + 1)) = lkN y (sg X 0))) (p0_ + 1) = (an (fun i => decide (lkN y (sg X (i + 1)) = lkN y (sg X 0))) p0_ && decide (lkN y (sg X (p0_ + 1)) = lkN y (sg X 0))) := rfl
    cases hq : an (fun i => decide (lkN y (sg X (i + 1)) = lkN y (sg X 0))) p0_
    · rw [if_pos rfl, st, hq]; rfl
    · rw [if_neg (by decide), st, hq, Bool.true_and]
      by_cases q : lkN y (sg X (p0_ + 1)) = lkN y (sg X 0)
      · rw [if_pos (by rw [q]), decide_eq_true q]; rfl
      · rw [if_neg (fun e => q ((nI_eq (by omega) (by omega)).mp e)), decide_eq_false q]; rfl) (by omega)
  refine Eq.trans e1 ?_
  show F_X12_isAll_4b N _ (B + 125) (nI X) (b2 (an (fun i => decide (lkN y (sg X (i + 1)) = lkN y (sg X 0))) (n - 1))) (nI (n - 1 + 1)) (HP B I J) = _
  unfold F_X12_isAll_4b
  simp only [M_gi0, h0, Option.bind_some, if_pos (nI_le (show n ≤ n - 1 + 1 by omega) (show n - 1 + 1 < 2 ^ 31 by omega)), hz_b]
  rfl

end SPQ
