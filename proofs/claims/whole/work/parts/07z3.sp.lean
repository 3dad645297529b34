/-! SPREAD of the reference: the search -/
/-- a loop with a way out, by relations -/
theorem e_loop_x {σ α : Type} {body : (σ → Option α) → σ → Option α} (P : Nat → σ → Prop) (R : Option α → Prop) (n : Nat) (hs : ∀ i s, i < n → P i s → (∃ s', P (i + 1) s' ∧ ∀ k, body k s = k s') ∨ ∀ k, R (body k s)) (he : ∀ s, P n s → ∀ k, R (body k s)) : ∀ (m N : Nat) (s : σ), m ≤ n → P (n - m) s → m < N → R (e_loop body N s) := by
  intro m
  induction m with
  | zero => intro N s _ hP hN; rw [e_loop_S hN]; exact he s hP _
  | succ m ih =>
    intro N s hm hP hN
    rw [e_loop_S (by omega)]
    rcases hs (n - (m + 1)) s (by omega) hP with ⟨s', h1, h2⟩ | h
    · rw [h2]
      exact ih (N - 1) s' (by omega) (by rw [show n - m = n - (m + 1) + 1 by omega]; exact h1) (by omega)
    · exact h _
def Rc (n fr : Nat) : Nat → Nat → Prop
  | 0, X => X = fr
  | l + 1, X => ∃ X' f t, f < n ∧ t < n ∧ Rc n fr l X' ∧ X = snt X' f t
section SPB
variable {B N : Nat} {I I2 : Nat → Nat → Int32} {J J2 : Nat → Nat → Int64} {x : eST} {y : eKS} {n k s t o f l X Y i d m fr : Nat} {u v : Int32}
theorem Er_s (hf : f < n) (ht : t < n) (h : Er y n l (snt X f t)) : Er y n (l + 1) X := Or.inr ⟨f, t, hf, ht, h⟩
theorem Rc_Er : ∀ l m X, Rc n fr l X → Er y n m X → Er y n (l + m) fr
  | 0, m, X, h, h2 => by
    have e : X = fr := h
    rw [Nat.zero_add, ← e]; exact h2
  | l + 1, m, X, h, h2 => by
    obtain ⟨X', f, t, hf, ht, h3, rfl⟩ := h
    have := Rc_Er l (m + 1) X' h3 (Er_s hf ht h2)
    rwa [show l + 1 + m = l + (m + 1) by omega]
/-- the state of the search: how many, which are there, how far, the row -/
def BI (y : eKS) (n fr kk many : Nat) (V : Nat → Bool) (D Q : Nat → Nat) : Prop :=
  (∀ i, i < many → V (Q i) = true ∧ good n (Q i) ∧ Rc n fr (D (Q i)) (Q i) ∧ D (Q i) ≤ i) ∧ (∀ X, V X = true → ∃ i, i < many ∧ Q i = X) ∧ ct V 65536 = many ∧ (∀ i j, i ≤ j → j < many → D (Q i) ≤ D (Q j)) ∧ (Q 0 = fr ∧ D fr = 0 ∧ 0 < many) ∧ (kk < many → ∀ i, i < many → D (Q i) ≤ D (Q kk) + 1) ∧ ∀ i, i < kk → i < many ∧ ¬ dnR y n (Q i) ∧ ∀ f t, f < n → t < n → V (snt (Q i) f t) = true ∧ D (snt (Q i) f t) ≤ D (Q i) + 1
def BM (I I2 : Nat → Nat → Int32) (many : Nat) (V : Nat → Bool) (D Q : Nat → Nat) : Prop :=
  (∀ X, X < 65536 → I2 149 X = if V X = true then nI (D X) else -1) ∧ (∀ i, i < many → I2 150 i = nI (Q i)) ∧ ∀ d z, d ≠ 149 → d ≠ 150 → I2 d z = I d z
/-- those before the one at hand are no ends, so nothing nearer is one -/
theorem BI_min {kk many : Nat} {V : Nat → Bool} {D Q : Nat → Nat} (h : BI y n fr kk many V D Q) (hk : kk < many) : ∀ l i, i < kk → D (Q i) + l < D (Q kk) → ¬ Er y n l (Q i)
  | 0, i, hi, _, q => (h.2.2.2.2.2.2 i hi).2.1 q
  | l + 1, i, hi, hd, q => by
    obtain ⟨h1, h2, h3, h4, h5, h6, h7⟩ := h
    rcases q with q | ⟨f, t, hf, ht, q⟩
    · exact (h7 i hi).2.1 q
    · obtain ⟨v1, v2⟩ := (h7 i hi).2.2 f t hf ht
      obtain ⟨j, hj, ej⟩ := h2 _ v1
      rw [← ej] at v2 q
      have hjk : j < kk := by
        rcases Nat.lt_or_ge j kk with g | g
        · exact g
        · have := h4 kk j g hj
          omega
      exact BI_min ⟨h1, h2, h3, h4, h5, h6, h7⟩ hk l j hjk (by omega) q
theorem BI_all {many : Nat} {V : Nat → Bool} {D Q : Nat → Nat} (h : BI y n fr many many V D Q) : ∀ l i, i < many → ¬ Er y n l (Q i)
  | 0, i, hi, q => (h.2.2.2.2.2.2 i hi).2.1 q
  | l + 1, i, hi, q => by
    rcases q with q | ⟨f, t, hf, ht, q⟩
    · exact (h.2.2.2.2.2.2 i hi).2.1 q
    · obtain ⟨v1, v2⟩ := (h.2.2.2.2.2.2 i hi).2.2 f t hf ht
      obtain ⟨j, hj, ej⟩ := h.2.1 _ v1
      rw [← ej] at q
      exact BI_all h l j hj q
theorem sg_same (ht : t < 4) : sg (snt X f t) t = sg X t ||| sg X f := by rw [sg_snt ht ht, if_pos rfl]
theorem sg_diff (ht : t < 4) (hu : s < 4) (h : s ≠ t) : sg (snt X f t) s = sg X s := by rw [sg_snt ht hu, if_neg h]
theorem eqv_eq {A C : Nat} (h : A = C) : eqv y A C := by rw [h]; exact fun _ _ => ⟨rfl, rfl⟩
/-- all is gathered at the first site, then sent to the others -/
theorem Er_ex (h2 : 2 ≤ n) (hn : n ≤ 4) : Er y n (2 * (n - 1)) X := by
  have hc : n = 2 ∨ n = 3 ∨ n = 4 := by omega
  rcases hc with rfl | rfl | rfl
  · refine Er_s (f := 1) (t := 0) (by decide) (by decide) (Er_s (f := 0) (t := 1) (by decide) (by decide) ?_)
    intro s hs
    have hs2 : s = 0 ∨ s = 1 := by omega
    rcases hs2 with rfl | rfl
    · exact eqv_eq rfl
    · refine eqv_eq ?_
      rw [sg_same (t := 1) (by decide), sg_diff (t := 1) (s := 0) (by decide) (by decide) (by decide), sg_same (t := 0) (by decide), sg_diff (t := 0) (s := 1) (by decide) (by decide) (by decide)]
      apply Nat.eq_of_testBit_eq
      intro i
      simp only [Nat.testBit_or]
      cases (sg X 0).testBit i <;> cases (sg X 1).testBit i <;> rfl
  · refine Er_s (f := 1) (t := 0) (by decide) (by decide) (Er_s (f := 2) (t := 0) (by decide) (by decide) (Er_s (f := 0) (t := 1) (by decide) (by decide) (Er_s (f := 0) (t := 2) (by decide) (by decide) ?_)))
    intro s hs
    have hs2 : s = 0 ∨ s = 1 ∨ s = 2 := by omega
    rcases hs2 with rfl | rfl | rfl
    · exact eqv_eq rfl
    · refine eqv_eq ?_
      simp (decide := true) only [sg_same, sg_diff]
      apply Nat.eq_of_testBit_eq
      intro i
      simp only [Nat.testBit_or]
      cases (sg X 0).testBit i <;> cases (sg X 1).testBit i <;> cases (sg X 2).testBit i <;> rfl
    · refine eqv_eq ?_
      simp (decide := true) only [sg_same, sg_diff]
      apply Nat.eq_of_testBit_eq
      intro i
      simp only [Nat.testBit_or]
      cases (sg X 0).testBit i <;> cases (sg X 1).testBit i <;> cases (sg X 2).testBit i <;> rfl
  · refine Er_s (f := 1) (t := 0) (by decide) (by decide) (Er_s (f := 2) (t := 0) (by decide) (by decide) (Er_s (f := 3) (t := 0) (by decide) (by decide) (Er_s (f := 0) (t := 1) (by decide) (by decide) (Er_s (f := 0) (t := 2) (by decide) (by decide) (Er_s (f := 0) (t := 3) (by decide) (by decide) ?_)))))
    intro s hs
    rcases s4_c hs with rfl | rfl | rfl | rfl
    · exact eqv_eq rfl
    · refine eqv_eq ?_
      simp (decide := true) only [sg_same, sg_diff]
      apply Nat.eq_of_testBit_eq
      intro i
      simp only [Nat.testBit_or]
      cases (sg X 0).testBit i <;> cases (sg X 1).testBit i <;> cases (sg X 2).testBit i <;> cases (sg X 3).testBit i <;> rfl
    · refine eqv_eq ?_
      simp (decide := true) only [sg_same, sg_diff]
      apply Nat.eq_of_testBit_eq
      intro i
      simp only [Nat.testBit_or]
      cases (sg X 0).testBit i <;> cases (sg X 1).testBit i <;> cases (sg X 2).testBit i <;> cases (sg X 3).testBit i <;> rfl
    · refine eqv_eq ?_
      simp (decide := true) only [sg_same, sg_diff]
      apply Nat.eq_of_testBit_eq
      intro i
      simp only [Nat.testBit_or]
      cases (sg X 0).testBit i <;> cases (sg X 1).testBit i <;> cases (sg X 2).testBit i <;> cases (sg X 3).testBit i <;> rfl
theorem s_sent {hh : eH} (hX : X < 65536) (hf : f < 4) (ht : t < 4) : F_X12_sent (nI X) (nI f) (nI t) hh = some (nI (snt X f t), hh) := by
  unfold F_X12_sent F_X12_setOf
  rw [setOf_X hX hf, e_bind_some, nI_shl4 _ ht, nI_or]
  rfl
/-- a new one comes to the row -/
theorem BI_new {kk many Z : Nat} {V V2 : Nat → Bool} {D Q D2 Q2 : Nat → Nat} (hn : n ≤ 4) (h : BI y n fr kk many V D Q) (hk : kk < many) (hf : f < n) (ht : t < n) (hZ : Z = snt (Q kk) f t) (hv : V Z = false) (eV : ∀ X, V2 X = (V X || decide (X = Z))) (eD : ∀ X, D2 X = if X = Z then D (Q kk) + 1 else D X) (eQ : ∀ i, Q2 i = if i = many then Z else Q i) : many < 65536 ∧ BI y n fr kk (many + 1) V2 D2 Q2 := by
  obtain ⟨h1, h2, h3, h4, h5, h6, h7⟩ := h
  obtain ⟨k1, k2, k3, k4⟩ := h1 kk hk
  have gZ : good n Z := by rw [hZ]; exact good_snt hn hf ht k2
  have hct := ct_less (p := V2) (q := V) (b := Z) (by rw [eV]; simp) hv (fun i hi => by rw [eV, decide_eq_false hi, Bool.or_false]) 65536 gZ.1
  have hle := ct_le V2 65536
  have ne : ∀ i, i < many → Q i ≠ Z := fun i hi e => by
    have := (h1 i hi).1
    rw [e, hv] at this; cases this
  have eQo : ∀ i, i < many → Q2 i = Q i := fun i hi => by rw [eQ, if_neg (by omega)]
  have eQn : Q2 many = Z := by rw [eQ, if_pos rfl]
  have eDo : ∀ i, i < many → D2 (Q i) = D (Q i) := fun i hi => by rw [eD, if_neg (ne i hi)]
  have eDn : D2 Z = D (Q kk) + 1 := by rw [eD, if_pos rfl]
  refine ⟨by omega, ⟨fun i hi => ?_, fun X hX => ?_, by omega, fun i j hij hj => ?_, ⟨?_, ?_, by omega⟩, fun _ i hi => ?_, fun i hi => ?_⟩⟩
  · by_cases e : i = many
    · subst e
      rw [eQn, eDn, eV, decide_eq_true rfl, Bool.or_true]
      exact ⟨rfl, gZ, ⟨Q kk, f, t, hf, ht, k3, hZ⟩, by omega⟩
    · obtain ⟨a1, a2, a3, a4⟩ := h1 i (by omega)
      rw [eQo i (by omega), eDo i (by omega), eV, a1]
      exact ⟨rfl, a2, a3, a4⟩
  · rw [eV, Bool.or_eq_true, decide_eq_true_eq] at hX
    rcases hX with hX | hX
    · obtain ⟨i, hi, e⟩ := h2 X hX
      exact ⟨i, by omega, by rw [eQo i hi]; exact e⟩
    · exact ⟨many, by omega, by rw [eQn]; exact hX.symm⟩
  · by_cases e : j = many
    · subst e
      rw [eQn, eDn]
      by_cases e2 : i = j
      · subst e2
        rw [eQn, eDn]; exact Nat.le_refl _
      · rw [eQo i (by omega), eDo i (by omega)]
        exact h6 hk i (by omega)
    · rw [eQo i (by omega), eQo j (by omega), eDo i (by omega), eDo j (by omega)]
      exact h4 i j hij (by omega)
  · rw [eQo 0 h5.2.2]; exact h5.1
  · rw [← h5.1, eDo 0 h5.2.2, h5.1]; exact h5.2.1
  · rw [eQo kk hk, eDo kk hk]
    by_cases e : i = many
    · subst e
      rw [eQn, eDn]; exact Nat.le_refl _
    · rw [eQo i (by omega), eDo i (by omega)]
      exact h6 hk i (by omega)
  · obtain ⟨a1, a2, a3⟩ := h7 i hi
    rw [eQo i a1, eDo i a1]
    refine ⟨by omega, a2, fun f2 t2 hf2 ht2 => ?_⟩
    obtain ⟨b1, b2'⟩ := a3 f2 t2 hf2 ht2
    rw [eV, b1, eD, if_neg (fun e => by rw [e, hv] at b1; cases b1)]
    exact ⟨rfl, b2'⟩
/-- the moves below m from the one at hand are seen to -/
def BP (n kk m : Nat) (V : Nat → Bool) (D Q : Nat → Nat) : Prop := ∀ m', m' < m → V (snt (Q kk) (m' / n) (m' % n)) = true ∧ D (snt (Q kk) (m' / n) (m' % n)) ≤ D (Q kk) + 1
def bS : Type := Nat × (Nat → Bool) × (Nat → Nat) × (Nat → Nat) × (Nat → Nat → Int32)
def bOK (y : eKS) (n fr kk X m : Nat) (I : Nat → Nat → Int32) (a : bS) : Prop := BI y n fr kk a.1 a.2.1 a.2.2.1 a.2.2.2.1 ∧ kk < a.1 ∧ a.2.2.2.1 kk = X ∧ BP n kk m a.2.1 a.2.2.1 a.2.2.2.1 ∧ BM I a.2.2.2.2 a.1 a.2.1 a.2.2.1 a.2.2.2.1
theorem b_step (h2 : 2 ≤ n) (hn : n ≤ 4) (h0 : I 125 0 = nI n) {kk : Nat} (hm : m < n * n) (a : bS) (h : bOK y n fr kk X m I a) : ∃ b : bS, bOK y n fr kk X (m + 1) I b ∧ ∀ (K39 : Nat → Int32 → Int32 → eH → Option (Int32 × eH)) (K72 : Nat → Int32 → Int32 → Int32 → Int32 → eH → Option (Int32 × eH)), F_X12_fewest_72b N K39 K72 (B + 125) (nI a.1) (nI kk) (nI X) (nI m) (HP B a.2.2.2.2 J) = K72 (B + 125) (nI b.1) (nI kk) (nI X) (nI (m + 1)) (HP B b.2.2.2.2 J) := by
  obtain ⟨many, V, D, Q, I2⟩ := a
  obtain ⟨hB, hk, hX, hP, hM⟩ := h
  simp only at hB hk hX hP hM
  obtain ⟨h1, hV, h3, h4, h5, h6, h7⟩ := hB
  have hB : BI y n fr kk many V D Q := ⟨h1, hV, h3, h4, h5, h6, h7⟩
  obtain ⟨k1, k2, k3, k4⟩ := h1 kk hk
  have hf : m / n < n := by rw [Nat.div_lt_iff_lt_mul (by omega)]; exact hm
  have ht : m % n < n := Nat.mod_lt _ (by omega)
  have hX16 : X < 65536 := by rw [← hX]; exact k2.1
  have hle := ct_le V 65536
  have hnn : n * n ≤ 16 := Nat.mul_le_mul hn hn
  obtain ⟨Z, hZ⟩ : ∃ Z, Z = snt X (m / n) (m % n) := ⟨_, rfl⟩
  have hZ16 : Z < 65536 := by rw [hZ]; exact snt_lt (by omega) hX16
  have g0 : I2 125 0 = nI n := (hM.2.2 _ _ (by decide) (by decide)).trans h0
  have gX : I2 149 X = nI (D X) := by rw [hM.1 X hX16, ← hX, if_pos k1]
  have ed : nI m / nI n = nI (m / n) := pk_div (by omega) (by omega) (by omega)
  have er : nI m - nI m / nI n * nI n = nI (m % n) := pk_rem (by omega) (by omega) (by omega)
  have hn0 : ¬ nI n = 0 := nI_ne0 (by omega) (by omega)
  have body : ∀ (K39 : Nat → Int32 → Int32 → eH → Option (Int32 × eH)) (K72 : Nat → Int32 → Int32 → Int32 → Int32 → eH → Option (Int32 × eH)), F_X12_fewest_72b N K39 K72 (B + 125) (nI many) (nI kk) (nI X) (nI m) (HP B I2 J) = (if (0 : Int32) ≤ I2 149 Z then K72 (B + 125) (nI many) (nI kk) (nI X) (nI (m + 1)) (HP B I2 J) else ((h_si (HP B (w2 I2 149 Z (nI (D X + 1))) J) 0 (B + 150) (nI many) (nI Z)).bind fun h14 => K72 (B + 125) (nI (many + 1)) (nI kk) (nI X) (nI (m + 1)) h14)) := by
    intro K39 K72
    unfold F_X12_fewest_72b F_X12_fewest_144
    simp only [M_gi0, g0, Option.bind_some, pk_mul, if_neg (nI_ge hm (show n * n < 2 ^ 31 by omega)), if_neg hn0]
    rw [er, ed]
    simp only [s_sent hX16 (show m / n < 4 by omega) (show m % n < 4 by omega), ← hZ, e_bind_some, M_gr39, M_gr40, R_ai149 hZ16, R_ai149 hX16, R_si149 hZ16, gX, Option.bind_some, nI_1]
  have hPm : ∀ (V2 : Nat → Bool) (D2 Q2 : Nat → Nat), Q2 kk = X → (∀ m', m' < m → V2 (snt X (m' / n) (m' % n)) = true ∧ D2 (snt X (m' / n) (m' % n)) ≤ D2 X + 1) → V2 Z = true → D2 Z ≤ D2 X + 1 → BP n kk (m + 1) V2 D2 Q2 := by
    intro V2 D2 Q2 e1 e2 e3 e4 m' hm'
    rw [e1]
    by_cases g : m' = m
    · rw [g, ← hZ]; exact ⟨e3, e4⟩
    · exact e2 m' (by omega)
  have hP' : ∀ m', m' < m → V (snt X (m' / n) (m' % n)) = true ∧ D (snt X (m' / n) (m' % n)) ≤ D X + 1 := fun m' hm' => by
    have := hP m' hm'
    rwa [hX] at this
  cases hv : V Z
  · have eI : I2 149 Z = -1 := by rw [hM.1 Z hZ16, hv, if_neg (by decide)]
    obtain ⟨n1, n2⟩ := BI_new (V2 := fun X => V X || decide (X = Z)) (D2 := fun Y => if Y = Z then D X + 1 else D Y) (Q2 := fun i => if i = many then Z else Q i) hn hB hk hf ht (by rw [hX]; exact hZ) hv (fun _ => rfl) (fun _ => by rw [hX]) (fun _ => rfl)
    have neX : X ≠ Z := fun e => by rw [← hX] at e; rw [e, hv] at k1; cases k1
    refine ⟨(many + 1, fun X => V X || decide (X = Z), fun Y => if Y = Z then D X + 1 else D Y, fun i => if i = many then Z else Q i, w2 (w2 I2 149 Z (nI (D X + 1))) 150 many (nI Z)), ⟨n2, by show kk < many + 1; omega, ?_, hPm _ _ _ ?_ (fun m' hm' => ?_) ?_ ?_, ⟨fun Y hY => ?_, fun i hi => ?_, fun d z h1 h2 => ?_⟩⟩, fun K39 K72 => ?_⟩
    · show (if kk = many then Z else Q kk) = X
      rw [if_neg (by omega)]; exact hX
    · show (if kk = many then Z else Q kk) = X
      rw [if_neg (by omega)]; exact hX
    · obtain ⟨p1, p2⟩ := hP' m' hm'
      show (V (snt X (m' / n) (m' % n)) || decide (snt X (m' / n) (m' % n) = Z)) = true ∧ (if snt X (m' / n) (m' % n) = Z then D X + 1 else D (snt X (m' / n) (m' % n))) ≤ (if X = Z then D X + 1 else D X) + 1
      rw [p1, if_neg neX]
      refine ⟨rfl, ?_⟩
      split
      · exact Nat.le_refl _
      · exact p2
    · show (V Z || decide (Z = Z)) = true
      simp
    · show (if Z = Z then D X + 1 else D Z) ≤ (if X = Z then D X + 1 else D X) + 1
      rw [if_pos rfl, if_neg neX]
      exact Nat.le_refl _
    · show w2 (w2 I2 149 Z (nI (D X + 1))) 150 many (nI Z) 149 Y = if (V Y || decide (Y = Z)) = true then nI (if Y = Z then D X + 1 else D Y) else -1
      rw [w2_c _ _ (by decide)]
      by_cases e : Y = Z
      · rw [e, w2_s]; simp
      · rw [w2_k _ _ e, hM.1 Y hY, decide_eq_false e, Bool.or_false, if_neg e]
    · show w2 (w2 I2 149 Z (nI (D X + 1))) 150 many (nI Z) 150 i = nI (if i = many then Z else Q i)
      have hi2 : i < many + 1 := hi
      by_cases e : i = many
      · rw [e, w2_s, if_pos rfl]
      · rw [w2_k _ _ e, w2_c _ _ (by decide), if_neg e]; exact hM.2.1 i (by omega)
    · show w2 (w2 I2 149 Z (nI (D X + 1))) 150 many (nI Z) d z = I d z
      rw [w2_c _ _ h2, w2_c _ _ h1]; exact hM.2.2 d z h1 h2
    · show F_X12_fewest_72b N K39 K72 (B + 125) (nI many) (nI kk) (nI X) (nI m) (HP B I2 J) = _
      rw [body, eI, if_neg (by decide), R_si150 n1, Option.bind_some]
  · obtain ⟨j, hj, ej⟩ := hV Z hv
    have hDj := (h1 j hj).2.2.2
    rw [ej] at hDj
    have eI : I2 149 Z = nI (D Z) := by rw [hM.1 Z hZ16, hv, if_pos rfl]
    have hDZ : D Z ≤ D X + 1 := by
      have := h6 hk j hj
      rwa [ej, hX] at this
    refine ⟨(many, V, D, Q, I2), ⟨hB, hk, hX, hPm _ _ _ hX hP' hv hDZ, hM⟩, fun K39 K72 => ?_⟩
    show F_X12_fewest_72b N K39 K72 (B + 125) (nI many) (nI kk) (nI X) (nI m) (HP B I2 J) = _
    rw [body, eI, if_pos (nI_pos' (by omega))]
end SPB
