/-! TELLS: the tokens, and the class's reading of them -/
def xko (c : Nat) : Nat := if 97 ≤ c ∧ c ≤ 122 then 1 else if 48 ≤ c ∧ c ≤ 57 then 2 else if c = 59 then 3 else if c = 32 then 4 else 5
def xso (X : Nat → Nat) (E p : Nat) : Nat := if p < E then xko (X p) else 0
def xrn (P : Nat → Bool) : Nat → Nat → Nat
  | 0, p => p
  | n + 1, p => if P p = true then xrn P n (p + 1) else p
def xsk (X : Nat → Nat) (E p : Nat) : Nat := xrn (fun i => decide (xso X E i = 4)) (E - p) p
def xnd (X : Nat → Nat) (E s : Nat) : Nat := if xso X E s = 1 ∨ xso X E s = 2 then xrn (fun i => decide (xso X E i = xso X E s)) (E - (s + 1)) (s + 1) else min (s + 1) E
def xTX (I : Nat → Nat → Int32) (X : Nat → Nat) (E : Nat) : Prop := I 1 1 = nI E ∧ (∀ i, i < E → I 2 i = nI (X i)) ∧ E ≤ 100 ∧ ∀ i, i < E → X i ≤ 255
def xAT (I : Nat → Nat → Int32) (X : Nat → Nat) (E s : Nat) : Prop := I 1 2 = nI s ∧ I 1 3 = nI (xnd X E s) ∧ I 1 4 = nI (xso X E s)
def frS (I I2 : Nat → Nat → Int32) : Prop := ∀ c z, ¬ (c = 1 ∧ 2 ≤ z ∧ z ≤ 4) → I2 c z = I c z
theorem frS_r {I : Nat → Nat → Int32} : frS I I := fun _ _ _ => rfl
theorem frS_t {I I2 I3 : Nat → Nat → Int32} (h : frS I I2) (h2 : frS I2 I3) : frS I I3 := fun c z q => (h2 c z q).trans (h c z q)
theorem frS_w {I : Nat → Nat → Int32} {z : Nat} {v : Int32} (h1 : 2 ≤ z) (h2 : z ≤ 4) : frS I (w2 I 1 z v) := fun c z2 q => by
  unfold w2
  rw [if_neg]
  rintro ⟨rfl, rfl⟩
  exact q ⟨rfl, h1, h2⟩
theorem xrn_at {P : Nat → Bool} : ∀ i n p, i ≤ n → (∀ j, j < i → P (p + j) = true) → (i = n ∨ P (p + i) = false) → xrn P n p = p + i
  | 0, 0, p, _, _, _ => rfl
  | 0, n + 1, p, _, _, h => by
    have h2 : P p = false := h.resolve_left (by omega)
    show (if P p = true then xrn P n (p + 1) else p) = p
    rw [h2]; rfl
  | i + 1, n + 1, p, hi, hP, h => by
    show (if P p = true then xrn P n (p + 1) else p) = p + (i + 1)
    rw [if_pos (show P p = true from hP 0 (by omega)), xrn_at i n (p + 1) (by omega) (fun j hj => by rw [show p + 1 + j = p + (j + 1) by omega]; exact hP (j + 1) (by omega)) (h.elim (fun e => Or.inl (by omega)) (fun e => Or.inr (by rw [show p + 1 + i = p + (i + 1) by omega]; exact e)))]
    omega
theorem xrn_ex (P : Nat → Bool) : ∀ n p, ∃ i, i ≤ n ∧ (∀ j, j < i → P (p + j) = true) ∧ (i = n ∨ P (p + i) = false)
  | 0, p => ⟨0, Nat.le_refl _, fun j hj => by omega, Or.inl rfl⟩
  | n + 1, p => by
    cases e : P p
    · exact ⟨0, by omega, fun j hj => by omega, Or.inr e⟩
    · obtain ⟨i, h1, h2, h3⟩ := xrn_ex P n (p + 1)
      refine ⟨i + 1, by omega, fun j hj => ?_, ?_⟩
      · rcases j with _ | j
        · exact e
        · rw [show p + (j + 1) = p + 1 + j by omega]; exact h2 j (by omega)
      · rw [show p + (i + 1) = p + 1 + i by omega]
        exact h3.elim (fun q => Or.inl (by omega)) Or.inr
section TL
variable {B N : Nat} {I I2 : Nat → Nat → Int32} {J : Nat → Nat → Int64} {X : Nat → Nat} {E p s q i j n : Nat}
theorem xso_0 (h : ¬ p < E) : xso X E p = 0 := if_neg h
theorem xso_lt (h : xso X E p ≠ 0) : p < E := Decidable.byContradiction fun q => h (xso_0 q)
theorem xso_n0 (h : p < E) : xso X E p ≠ 0 := by
  unfold xso xko
  rw [if_pos h]
  repeat' split
  all_goals omega
theorem xso_le : xso X E p ≤ 5 := by
  unfold xso xko
  repeat' split
  all_goals omega
theorem xsk_e (hp : p ≤ E) : ∃ i, xsk X E p = p + i ∧ p + i ≤ E ∧ (∀ j, j < i → xso X E (p + j) = 4) ∧ xso X E (p + i) ≠ 4 := by
  obtain ⟨i, h1, h2, h3⟩ := xrn_ex (fun i => decide (xso X E i = 4)) (E - p) p
  refine ⟨i, xrn_at i _ _ h1 h2 h3, by omega, fun j hj => of_decide_eq_true (h2 j hj), fun e => ?_⟩
  rcases h3 with h3 | h3
  · exact absurd (xso_lt (show xso X E (p + i) ≠ 0 by omega)) (by omega)
  · exact of_decide_eq_false h3 e
theorem xsk_at (hp : p + i ≤ E) (h1 : ∀ j, j < i → xso X E (p + j) = 4) (h2 : xso X E (p + i) ≠ 4) : xsk X E p = p + i := xrn_at i _ _ (by omega) (fun j hj => decide_eq_true (h1 j hj)) (Or.inr (decide_eq_false h2))
theorem xsk_le (hp : p ≤ E) : xsk X E p ≤ E := by
  obtain ⟨i, h1, h2, _⟩ := xsk_e (X := X) hp
  omega
theorem xsk_4 (hp : p ≤ E) : xso X E (xsk X E p) ≠ 4 := by
  obtain ⟨i, h1, h2, h3, h4⟩ := xsk_e (X := X) hp
  rw [h1]; exact h4
theorem xsk_i (hp : xso X E p ≠ 4) (hE : p ≤ E) : xsk X E p = p := xsk_at (i := 0) hE (fun j hj => by omega) hp
theorem xnd_e (hs : s ≤ E) (h : xso X E s = 1 ∨ xso X E s = 2) : ∃ i, xnd X E s = s + 1 + i ∧ s + 1 + i ≤ E ∧ (∀ j, j < i → xso X E (s + 1 + j) = xso X E s) ∧ xso X E (s + 1 + i) ≠ xso X E s := by
  have hE := xso_lt (X := X) (E := E) (p := s) (by omega)
  obtain ⟨i, h1, h2, h3⟩ := xrn_ex (fun i => decide (xso X E i = xso X E s)) (E - (s + 1)) (s + 1)
  refine ⟨i, ?_, by omega, fun j hj => of_decide_eq_true (h2 j hj), fun e => ?_⟩
  · unfold xnd
    rw [if_pos h]
    exact xrn_at i _ _ h1 h2 h3
  · rcases h3 with h3 | h3
    · rw [xso_0 (show ¬ s + 1 + i < E by omega)] at e; omega
    · exact of_decide_eq_false h3 e
theorem xnd_at (h : xso X E s = 1 ∨ xso X E s = 2) (hi : s + 1 + i ≤ E) (h1 : ∀ j, j < i → xso X E (s + 1 + j) = xso X E s) (h2 : s + 1 + i = E ∨ xso X E (s + 1 + i) ≠ xso X E s) : xnd X E s = s + 1 + i := by
  unfold xnd
  rw [if_pos h]
  exact xrn_at i _ _ (by omega) (fun j hj => decide_eq_true (h1 j hj)) (h2.elim (fun e => Or.inl (by omega)) (fun e => Or.inr (decide_eq_false e)))
theorem xnd_o (h : ¬ (xso X E s = 1 ∨ xso X E s = 2)) : xnd X E s = min (s + 1) E := if_neg h
theorem xnd_le (hs : s ≤ E) : xnd X E s ≤ E := by
  by_cases h : xso X E s = 1 ∨ xso X E s = 2
  · obtain ⟨i, h1, h2, _⟩ := xnd_e hs h
    omega
  · rw [xnd_o h]; exact Nat.min_le_right _ _
theorem xTX_fr (h : xTX I X E) (hf : frS I I2) : xTX I2 X E := ⟨(hf 1 1 (by omega)).trans h.1, fun i hi => (hf 2 i (by omega)).trans (h.2.1 i hi), h.2.2⟩
theorem xt_byteAt (h : xTX I X E) (hp : p < 2 ^ 31) : F_X10_byteAt (B + 1) (nI p) (HP B I J) = some (if p < E then nI (X p) else -1, HP B I J) := by
  unfold F_X10_byteAt
  have hE := h.2.2.1
  rw [if_neg (nI_pos hp), T_gi (by decide), Option.bind_some, h.1]
  by_cases e : p < E
  · simp only [if_neg (nI_ge e (by omega)), T_gr, T_len, Option.bind_some, if_neg (show ¬ (100 : Int32) ≤ nI p from nI_ge (show p < 100 by omega) (by decide)), T_ai (show p < 100 by omega), h.2.1 p e, if_pos e]
  · rw [if_pos (nI_le (by omega) hp), if_neg e]
theorem xk_sort {c : Nat} (hc : c ≤ 255) (h : eH) : (if (0 : Int32) ≤ nI c then (if nI c < 97 then (F_X10_sortAt_26 (nI c) h) else (if (122 : Int32) < nI c then (F_X10_sortAt_26 (nI c) h) else (some (1, h)))) else (some (0, h))) = some (nI (xko c), h) := by
  have e1 : (nI c < 97) ↔ c < 97 := nI_ltI (show c < 2 ^ 31 by omega) (show 97 < 2 ^ 31 by decide)
  have e2 : ((122 : Int32) < nI c) ↔ 122 < c := nI_ltI (show 122 < 2 ^ 31 by decide) (show c < 2 ^ 31 by omega)
  have e3 : (nI c < 48) ↔ c < 48 := nI_ltI (show c < 2 ^ 31 by omega) (show 48 < 2 ^ 31 by decide)
  have e4 : ((57 : Int32) < nI c) ↔ 57 < c := nI_ltI (show 57 < 2 ^ 31 by decide) (show c < 2 ^ 31 by omega)
  have e5 : (nI c = 59) ↔ c = 59 := nI_eq (show c < 2 ^ 31 by omega) (show 59 < 2 ^ 31 by decide)
  have e6 : (nI c = 32) ↔ c = 32 := nI_eq (show c < 2 ^ 31 by omega) (show 32 < 2 ^ 31 by decide)
  have e0 : (0 : Int32) ≤ nI c := nI_le (show 0 ≤ c by omega) (by omega)
  unfold F_X10_sortAt_26 F_X10_sortAt_40 xko
  simp only [if_pos e0, e1, e2, e3, e4, e5, e6]
  repeat' split
  all_goals first | rfl | (exfalso; omega)
theorem xt_sortAt (h : xTX I X E) (hp : p < 2 ^ 31) : F_X10_sortAt (B + 1) (nI p) (HP B I J) = some (nI (xso X E p), HP B I J) := by
  unfold F_X10_sortAt
  rw [T_is, Option.bind_some, xt_byteAt h hp, e_bind_some]
  by_cases e : p < E
  · rw [if_pos e, xk_sort (h.2.2.2 p e)]
    unfold xso
    rw [if_pos e]
  · rw [if_neg e, if_neg (by decide), xso_0 e]
    rfl
theorem T_gi2 : h_gi (HP B I J) 9 (B + 1) 2 = some (I 1 2) := T_gi (by decide)
theorem T_gi3 : h_gi (HP B I J) 9 (B + 1) 3 = some (I 1 3) := T_gi (by decide)
theorem T_gi4 : h_gi (HP B I J) 9 (B + 1) 4 = some (I 1 4) := T_gi (by decide)
theorem T_gi1 : h_gi (HP B I J) 9 (B + 1) 1 = some (I 1 1) := T_gi (by decide)
theorem T_p2 {v : Int32} : h_p (HP B I J) 9 (B + 1) 2 (.int v) = some (HP B (w2 I 1 2 v) J) := T_p (by decide)
theorem T_p3 {v : Int32} : h_p (HP B I J) 9 (B + 1) 3 (.int v) = some (HP B (w2 I 1 3 v) J) := T_p (by decide)
theorem T_p4 {v : Int32} : h_p (HP B I J) 9 (B + 1) 4 (.int v) = some (HP B (w2 I 1 4 v) J) := T_p (by decide)
def xR95 (B : Nat) (I : Nat → Nat → Int32) (J : Nat → Nat → Int64) (v : Nat) (r : Option (Unit × eH)) : Prop := ∃ I2, r = some ((), HP B I2 J) ∧ I2 1 3 = nI v ∧ ∀ c z, ¬ (c = 1 ∧ z = 3) → I2 c z = I c z
theorem xt_95 (hN : 200 < N) (h : xTX I X E) (hs : s < E) (hk : xso X E s = 1 ∨ xso X E s = 2) (h4 : I 1 4 = nI (xso X E s)) (h3 : I 1 3 = nI (s + 1)) : xR95 B I J (xnd X E s) (L_X10_step_95 N (B + 1) 1 (HP B I J)) := by
  have hE := h.2.2.1
  have hle := xso_le (X := X) (E := E) (p := s)
  unfold L_X10_step_95
  refine e_loop_x (body := fun (k : Nat × Int32 × eH → Option (Unit × eH)) s => F_X10_step_95b N (fun l0 l1 h => k (l0, l1, h)) s.1 s.2.1 s.2.2) (fun i st => ∃ I', st = (B + 1, 1, HP B I' J) ∧ I' 1 3 = nI (s + 1 + i) ∧ (∀ c z, ¬ (c = 1 ∧ z = 3) → I' c z = I c z) ∧ ∀ j, j < i → xso X E (s + 1 + j) = xso X E s) (xR95 B I J (xnd X E s)) (E - (s + 1)) (fun i st hi hst => ?_) (fun st hst K => ?_) (E - (s + 1)) N (B + 1, 1, HP B I J) (Nat.le_refl _) ⟨I, rfl, by rw [Nat.sub_self]; exact h3, fun _ _ _ => rfl, fun j hj => by omega⟩ (by omega)
  · obtain ⟨I', rfl, a1, a2, a3⟩ := hst
    have hx : xTX I' X E := xTX_fr h (fun c z q => a2 c z (by omega))
    have g4 : I' 1 4 = nI (xso X E s) := (a2 1 4 (by omega)).trans h4
    have hstep : ∀ k : Nat × Int32 × eH → Option (Unit × eH), F_X10_step_95b N (fun l0 l1 h => k (l0, l1, h)) (B + 1) 1 (HP B I' J) = if xso X E (s + 1 + i) = xso X E s then k (B + 1, 1, HP B (w2 I' 1 3 (nI (s + 1 + (i + 1)))) J) else some ((), HP B I' J) := fun k => by
      unfold F_X10_step_95b
      simp only [if_neg (show ¬ (1 : Int32) = 0 by decide), T_gi3, T_gi1, T_gi4, T_is, T_p3, Option.bind_some, a1, hx.1, g4, if_neg (nI_ge (show s + 1 + i < E by omega) (show E < 2 ^ 31 by omega)), xt_sortAt hx (show s + 1 + i < 2 ^ 31 by omega), e_bind_some, nI_1]
      have e := nI_eq (show xso X E (s + 1 + i) < 2 ^ 31 by have := xso_le (X := X) (E := E) (p := s + 1 + i); omega) (show xso X E s < 2 ^ 31 by omega)
      by_cases q : xso X E (s + 1 + i) = xso X E s
      · rw [if_pos (e.mpr q), if_pos q]; rfl
      · rw [if_neg (fun r => q (e.mp r)), if_neg q]
    by_cases q : xso X E (s + 1 + i) = xso X E s
    · refine Or.inl ⟨(B + 1, 1, HP B (w2 I' 1 3 (nI (s + 1 + (i + 1)))) J), ⟨_, rfl, w2_s _ _ _ _, fun c z r => ?_, fun j hj => ?_⟩, fun k => (hstep k).trans (if_pos q)⟩
      · exact (show w2 I' 1 3 _ c z = I' c z by unfold w2; rw [if_neg r]).trans (a2 c z r)
      · by_cases e : j = i
        · subst e; exact q
        · exact a3 j (by omega)
    · refine Or.inr (fun k => ?_)
      show xR95 B I J (xnd X E s) (F_X10_step_95b N (fun l0 l1 h => k (l0, l1, h)) (B + 1) 1 (HP B I' J))
      rw [hstep k, if_neg q, xnd_at hk (by omega) a3 (Or.inr q)]
      exact ⟨I', rfl, a1, a2⟩
  · obtain ⟨I', rfl, a1, a2, a3⟩ := hst
    have hx : xTX I' X E := xTX_fr h (fun c z q => a2 c z (by omega))
    rw [xnd_at hk (show s + 1 + (E - (s + 1)) ≤ E by omega) a3 (Or.inl (by omega))]
    refine ⟨I', ?_, a1, a2⟩
    show F_X10_step_95b N (fun l0 l1 h => K (l0, l1, h)) (B + 1) 1 (HP B I' J) = _
    unfold F_X10_step_95b
    simp only [if_neg (show ¬ (1 : Int32) = 0 by decide), T_gi3, T_gi1, Option.bind_some, a1, hx.1, if_pos (nI_le (show E ≤ s + 1 + (E - (s + 1)) by omega) (by omega))]
def xRst (B : Nat) (I : Nat → Nat → Int32) (J : Nat → Nat → Int64) (X : Nat → Nat) (E s : Nat) (r : Option (Unit × eH)) : Prop := ∃ I2, r = some ((), HP B I2 J) ∧ xAT I2 X E s ∧ frS I I2
theorem xmin (a b : Nat) (ha : a < 2 ^ 31) (hb : b < 2 ^ 31) : e_min (nI a) (nI b) = nI (min a b) := by
  unfold e_min
  by_cases q : b < a
  · rw [if_pos ((nI_ltI hb ha).mpr q), Nat.min_eq_right (by omega)]
  · rw [if_neg (fun r => q ((nI_ltI hb ha).mp r)), Nat.min_eq_left (by omega)]
theorem xt_44 (hN : 200 < N) (h : xTX I X E) (hs : s ≤ E) (h2 : I 1 2 = nI s) : xRst B I J X E s (F_X10_step_44 N (B + 1) (HP B I J)) := by
  have hE := h.2.2.1
  have hle := xso_le (X := X) (E := E) (p := s)
  obtain ⟨I1, hI1⟩ : ∃ I1, I1 = w2 (w2 I 1 4 (nI (xso X E s))) 1 3 (nI (min (s + 1) E)) := ⟨_, rfl⟩
  have f1 : frS I I1 := by rw [hI1]; exact frS_t (frS_w (by decide) (by decide)) (frS_w (by decide) (by decide))
  have g2 : I1 1 2 = nI s := by rw [hI1, w2_k _ _ (by decide), w2_k _ _ (by decide), h2]
  have g3 : I1 1 3 = nI (min (s + 1) E) := by rw [hI1, w2_s]
  have g4 : I1 1 4 = nI (xso X E s) := by rw [hI1, w2_k _ _ (by decide), w2_s]
  have e1 := nI_eq (show xso X E s < 2 ^ 31 by omega) (show 1 < 2 ^ 31 by decide)
  have e2 := nI_eq (show xso X E s < 2 ^ 31 by omega) (show 2 < 2 ^ 31 by decide)
  have hmid : F_X10_step_44 N (B + 1) (HP B I J) = if xso X E s = 1 ∨ xso X E s = 2 then L_X10_step_95 N (B + 1) 1 (HP B I1 J) else L_X10_step_95 N (B + 1) 0 (HP B I1 J) := by
    unfold F_X10_step_44 F_X10_step_89 F_X10_step_94
    simp only [T_gi2, T_gi3, T_gi1, T_gi4, T_is, T_p3, T_p4, Option.bind_some, h2, xt_sortAt h (show s < 2 ^ 31 by omega), e_bind_some, w2_k _ _ (show (2 : Nat) ≠ 4 by decide), w2_k _ _ (show (1 : Nat) ≠ 4 by decide), w2_k _ _ (show (4 : Nat) ≠ 3 by decide), w2_s, h.1, nI_1, xmin (s + 1) E (by omega) (by omega), ← hI1]
    by_cases q : xso X E s = 1
    · rw [if_pos (show nI (xso X E s) = 1 from e1.mpr q), if_pos (Or.inl q)]
    · rw [if_neg (show ¬ nI (xso X E s) = 1 from fun r => q (e1.mp r))]
      by_cases q2 : xso X E s = 2
      · rw [if_pos (show nI (xso X E s) = 2 from e2.mpr q2), if_pos (Or.inr q2)]
      · rw [if_neg (show ¬ nI (xso X E s) = 2 from fun r => q2 (e2.mp r)), if_neg (fun r => r.elim q q2)]
  rw [hmid]
  by_cases q : xso X E s = 1 ∨ xso X E s = 2
  · rw [if_pos q]
    have hsE := xso_lt (X := X) (E := E) (p := s) (by omega)
    obtain ⟨I2, a1, a2, a3⟩ := xt_95 (B := B) (J := J) hN (xTX_fr h f1) hsE q g4 (by rw [g3, Nat.min_eq_left (by omega)])
    exact ⟨I2, a1, ⟨(a3 1 2 (by decide)).trans g2, a2, (a3 1 4 (by decide)).trans g4⟩, frS_t f1 (fun c z r => a3 c z (by omega))⟩
  · rw [if_neg q]
    refine ⟨I1, ?_, ⟨g2, by rw [g3, xnd_o q], g4⟩, f1⟩
    unfold L_X10_step_95
    rw [e_loop_S (by omega)]
    show F_X10_step_95b N _ (B + 1) 0 (HP B I1 J) = _
    unfold F_X10_step_95b
    rw [if_pos rfl]
theorem xt_step (hN : 200 < N) (h : xTX I X E) (hp : p ≤ E) (h3 : I 1 3 = nI p) : xRst B I J X E (xsk X E p) (F_X10_step N (B + 1) (HP B I J)) := by
  have hE := h.2.2.1
  unfold F_X10_step
  simp only [T_gi3, T_p2, Option.bind_some, h3]
  unfold L_X10_step_8
  refine e_loop_x (body := fun (k : Nat × eH → Option (Unit × eH)) s => F_X10_step_8b N (fun l0 h => k (l0, h)) s.1 s.2) (fun i st => ∃ I', st = (B + 1, HP B I' J) ∧ I' 1 2 = nI (p + i) ∧ frS I I' ∧ ∀ j, j < i → xso X E (p + j) = 4) (xRst B I J X E (xsk X E p)) (E - p) (fun i st hi hst => ?_) (fun st hst K => ?_) (E - p) N (B + 1, HP B (w2 I 1 2 (nI p)) J) (Nat.le_refl _) ⟨_, rfl, by rw [Nat.sub_self]; exact w2_s _ _ _ _, frS_w (by decide) (by decide), fun j hj => by omega⟩ (by omega)
  · obtain ⟨I', rfl, a1, a2, a3⟩ := hst
    have hx : xTX I' X E := xTX_fr h a2
    have hstep : ∀ k : Nat × eH → Option (Unit × eH), F_X10_step_8b N (fun l0 h => k (l0, h)) (B + 1) (HP B I' J) = if xso X E (p + i) = 4 then k (B + 1, HP B (w2 I' 1 2 (nI (p + (i + 1)))) J) else F_X10_step_44 N (B + 1) (HP B I' J) := fun k => by
      unfold F_X10_step_8b
      simp only [T_gi2, T_gi1, T_is, T_p2, Option.bind_some, a1, hx.1, if_neg (nI_ge (show p + i < E by omega) (show E < 2 ^ 31 by omega)), xt_sortAt hx (show p + i < 2 ^ 31 by omega), e_bind_some, nI_1]
      have e : (nI (xso X E (p + i)) = 4) ↔ xso X E (p + i) = 4 := nI_eq (show xso X E (p + i) < 2 ^ 31 by have := xso_le (X := X) (E := E) (p := p + i); omega) (show 4 < 2 ^ 31 by decide)
      by_cases q : xso X E (p + i) = 4
      · rw [if_pos (e.mpr q), if_pos q]; rfl
      · rw [if_neg (fun r => q (e.mp r)), if_neg q]
    by_cases q : xso X E (p + i) = 4
    · refine Or.inl ⟨(B + 1, HP B (w2 I' 1 2 (nI (p + (i + 1)))) J), ⟨_, rfl, w2_s _ _ _ _, frS_t a2 (frS_w (by decide) (by decide)), fun j hj => ?_⟩, fun k => (hstep k).trans (if_pos q)⟩
      by_cases e : j = i
      · subst e; exact q
      · exact a3 j (by omega)
    · refine Or.inr (fun k => ?_)
      show xRst B I J X E (xsk X E p) (F_X10_step_8b N (fun l0 h => k (l0, h)) (B + 1) (HP B I' J))
      rw [hstep k, if_neg q, xsk_at (by omega) a3 q]
      obtain ⟨I2, b1, b2', b3⟩ := xt_44 (B := B) (J := J) hN hx (show p + i ≤ E by omega) a1
      exact ⟨I2, b1, b2', frS_t a2 b3⟩
  · obtain ⟨I', rfl, a1, a2, a3⟩ := hst
    have hx : xTX I' X E := xTX_fr h a2
    have hk : xsk X E p = p + (E - p) := xsk_at (by omega) a3 (by rw [xso_0 (by omega)]; decide)
    rw [hk]
    obtain ⟨I2, b1, b2', b3⟩ := xt_44 (B := B) (J := J) hN hx (show p + (E - p) ≤ E by omega) a1
    refine ⟨I2, ?_, b2', frS_t a2 b3⟩
    show F_X10_step_8b N (fun l0 h => K (l0, h)) (B + 1) (HP B I' J) = _
    unfold F_X10_step_8b
    simp only [T_gi2, T_gi1, Option.bind_some, a1, hx.1, if_pos (nI_le (show E ≤ p + (E - p) by omega) (by omega))]
    exact b1
/-- the words -/
def xwl (q : Nat) : Nat := if q = 1 then 4 else 5
def xwb (q i : Nat) : Nat := (([[119, 104, 111, 108, 101], [98, 105, 116, 115], [115, 105, 116, 101, 115], [98, 111, 117, 110, 100], [108, 105, 109, 105, 116]] : List (List Nat)).getD q []).getD i 0
def xW (X : Nat → Nat) (E s q : Nat) : Bool := decide (xso X E s = 1 ∧ xnd X E s = s + xwl q ∧ ∀ i, i < xwl q → X (s + i) = xwb q i)
def xinj (G : eG) : Prop := ∀ i j, i < 5 → j < 5 → G.2.2.1 i = G.2.2.1 j → i = j
theorem s_ix_K {G : eG} (hG : xinj G) (hq : q < 5) : s_ix G.2.2.1 (G.2.2.1 q) = some q := by
  unfold s_ix
  have a : ∀ j, j < 5 → (G.2.2.1 q = G.2.2.1 j ↔ q = j) := fun j hj => ⟨fun e => hG q j hq hj e, fun e => by rw [e]⟩
  simp only [a 0 (by decide), a 1 (by decide), a 2 (by decide), a 3 (by decide), a 4 (by decide)]
  repeat' split
  all_goals first | (subst q; rfl) | (exfalso; omega)
theorem xwl_s (hq : q < 5) : e_slen.getD q 0 = xwl q := (by decide : ∀ q, q < 5 → e_slen.getD q 0 = xwl q) q hq
theorem xwb_s (hq : q < 5) (hi : i < xwl q) : (e_sbyt.getD q []).getD i 0 = nI (xwb q i) := (by decide +kernel : ∀ q, q < 5 → ∀ i, i < xwl q → (e_sbyt.getD q []).getD i 0 = nI (xwb q i)) q hq i hi
theorem xwb_b (hq : q < 5) (hi : i < xwl q) : xwb q i < 256 := (by decide +kernel : ∀ q, q < 5 → ∀ i, i < xwl q → xwb q i < 256) q hq i hi
theorem xt_len {G : eG} (hG : xinj G) (hq : q < 5) (h : eH) : F_s_length G (G.2.2.1 q) h = some (nI (xwl q), h) := by
  unfold F_s_length
  rw [s_ix_K hG hq, Option.map_some, xwl_s hq]; rfl
theorem xt_is {G : eG} (hG : xinj G) (hq : q < 5) : s_is G (G.2.2.1 q) = some () := by
  unfold s_is
  rw [s_ix_K hG hq]; rfl
theorem xt_char {G : eG} (hG : xinj G) (hq : q < 5) (hi : i < xwl q) (h : eH) : F_s_charAt G (G.2.2.1 q) (nI i) h = some (nI (xwb q i), h) := by
  have hl : xwl q ≤ 5 := by unfold xwl; split <;> omega
  unfold F_s_charAt
  rw [s_ix_K hG hq, Option.bind_some, nI_clamp (by omega), if_pos ⟨nI_pos (by omega), by rw [xwl_s hq]; exact hi⟩, xwb_s hq hi]
theorem xt_isWord {G : eG} (hN : 200 < N) (hG : xinj G) (hq : q < 5) (h : xTX I X E) (hs : s ≤ E) (ha : xAT I X E s) : F_X10_isWord N G (B + 1) (G.2.2.1 q) (HP B I J) = some (b2 (xW X E s q), HP B I J) := by
  have hE := h.2.2.1
  have hle := xso_le (X := X) (E := E) (p := s)
  have hnd := xnd_le (X := X) hs
  have hl : xwl q ≤ 5 := by unfold xwl; split <;> omega
  obtain ⟨a2, a3, a4⟩ := ha
  unfold F_X10_isWord
  simp only [T_gi4, T_gi3, T_gi2, Option.bind_some, a2, a3, a4, xt_is hG hq, xt_len hG hq, e_bind_some]
  have e1 : (nI (xso X E s) = 1) ↔ xso X E s = 1 := nI_eq (show xso X E s < 2 ^ 31 by omega) (show 1 < 2 ^ 31 by decide)
  by_cases q1 : xso X E s = 1
  · rw [if_pos (e1.mpr q1)]
    have hsn : s ≤ xnd X E s := by
      obtain ⟨i, b1, _⟩ := xnd_e hs (Or.inl q1)
      omega
    rw [pk_sub hsn]
    have e2 := nI_eq (show xnd X E s - s < 2 ^ 31 by omega) (show xwl q < 2 ^ 31 by omega)
    by_cases q2 : xnd X E s = s + xwl q
    · rw [if_pos (e2.mpr (by omega))]
      unfold L_X10_isWord_28
      refine e_loop_x (body := fun (k : Nat × Nat × Int32 × eH → Option (Int32 × eH)) s => F_X10_isWord_28b N G (fun l0 l1 l2 h => k (l0, l1, l2, h)) s.1 s.2.1 s.2.2.1 s.2.2.2) (fun i st => st = (B + 1, G.2.2.1 q, nI i, HP B I J) ∧ ∀ j, j < i → X (s + j) = xwb q j) (fun r => r = some (b2 (xW X E s q), HP B I J)) (xwl q) (fun i st hi hst => ?_) (fun st hst K => ?_) (xwl q) N (B + 1, G.2.2.1 q, 0, HP B I J) (Nat.le_refl _) ⟨by rw [Nat.sub_self]; rfl, fun j hj => by omega⟩ (by omega)
      · obtain ⟨rfl, b1⟩ := hst
        have hstep : ∀ k : Nat × Nat × Int32 × eH → Option (Int32 × eH), F_X10_isWord_28b N G (fun l0 l1 l2 h => k (l0, l1, l2, h)) (B + 1) (G.2.2.1 q) (nI i) (HP B I J) = if X (s + i) = xwb q i then k (B + 1, G.2.2.1 q, nI (i + 1), HP B I J) else some (0, HP B I J) := fun k => by
          unfold F_X10_isWord_28b
          simp only [xt_is hG hq, xt_len hG hq, e_bind_some, Option.bind_some, if_neg (nI_ge hi (show xwl q < 2 ^ 31 by omega)), T_gi2, T_is, a2, nI_add, xt_byteAt h (show s + i < 2 ^ 31 by omega), xt_char hG hq hi, if_pos (show s + i < E by omega), nI_1, h_z0]
          have e := nI_eq (show X (s + i) < 2 ^ 31 by have := h.2.2.2 (s + i) (by omega); omega) (show xwb q i < 2 ^ 31 by have := xwb_b hq hi; omega)
          by_cases r : X (s + i) = xwb q i
          · rw [if_pos (e.mpr r), if_pos r]
          · rw [if_neg (fun w => r (e.mp w)), if_neg r]
        by_cases r : X (s + i) = xwb q i
        · refine Or.inl ⟨(B + 1, G.2.2.1 q, nI (i + 1), HP B I J), ⟨rfl, fun j hj => ?_⟩, fun k => (hstep k).trans (if_pos r)⟩
          by_cases e : j = i
          · subst e; exact r
          · exact b1 j (by omega)
        · refine Or.inr (fun k => ?_)
          show F_X10_isWord_28b N G (fun l0 l1 l2 h => k (l0, l1, l2, h)) (B + 1) (G.2.2.1 q) (nI i) (HP B I J) = _
          rw [hstep k, if_neg r]
          unfold xW
          rw [decide_eq_false (fun w => r (w.2.2 i hi))]
          rfl
      · obtain ⟨rfl, b1⟩ := hst
        show F_X10_isWord_28b N G (fun l0 l1 l2 h => K (l0, l1, l2, h)) (B + 1) (G.2.2.1 q) (nI (xwl q)) (HP B I J) = _
        unfold F_X10_isWord_28b xW
        simp only [xt_is hG hq, xt_len hG hq, e_bind_some, Option.bind_some, if_pos (Int32.le_refl (nI (xwl q))), h_z1]
        rw [decide_eq_true ⟨q1, q2, b1⟩]
        rfl
    · rw [if_neg (fun r => q2 (by have := e2.mp r; omega)), h_z0]
      unfold xW
      rw [decide_eq_false (fun w => q2 w.2.1)]
      rfl
  · rw [if_neg (fun r => q1 (e1.mp r)), h_z0]
    unfold xW
    rw [decide_eq_false (fun w => q1 w.1)]
    rfl
end TL
