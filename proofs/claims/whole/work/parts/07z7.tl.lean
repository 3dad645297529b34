/-! TELLS: the reference's tokens -/
def rTX (I : Nat → Nat → Int32) (X : Nat → Nat) (E : Nat) : Prop := I 125 24 = nI E ∧ (∀ i, i < E → I 144 i = nI (X i)) ∧ E ≤ 100 ∧ ∀ i, i < E → X i ≤ 255
def xrs (X : Nat → Nat) (E s : Nat) : Nat := if xso X E s = 2 then (if xnd X E s = s + 1 then 2 else 4) else if xso X E s = 5 then 4 else xso X E s
def tkv (X : Nat → Nat) (s : Nat) : Nat → Nat
  | 0 => 0
  | n + 1 => 32 * tkv X s n + (X (s + n) - 96)
def tkI (X : Nat → Nat) (s n : Nat) : Int64 := if n ≤ 6 then Int64.ofNat (tkv X s n) else -1
def rAT (I : Nat → Nat → Int32) (J : Nat → Nat → Int64) (X : Nat → Nat) (E s : Nat) : Prop := I 125 27 = nI s ∧ I 125 26 = nI (xnd X E s) ∧ I 125 28 = nI (xrs X E s) ∧ (xso X E s = 1 → J 125 29 = tkI X s (xnd X E s - s)) ∧ (xso X E s = 2 → J 125 29 = (nI (X s - 48)).toInt64)
def frN (I : Nat → Nat → Int32) (J : Nat → Nat → Int64) (I2 : Nat → Nat → Int32) (J2 : Nat → Nat → Int64) : Prop := (∀ c z, ¬ (c = 125 ∧ 26 ≤ z ∧ z ≤ 28) → I2 c z = I c z) ∧ ∀ c z, ¬ (c = 125 ∧ z = 29) → J2 c z = J c z
theorem frN_r {I : Nat → Nat → Int32} {J : Nat → Nat → Int64} : frN I J I J := ⟨fun _ _ _ => rfl, fun _ _ _ => rfl⟩
theorem frN_t {I I2 I3 : Nat → Nat → Int32} {J J2 J3 : Nat → Nat → Int64} (h : frN I J I2 J2) (h2 : frN I2 J2 I3 J3) : frN I J I3 J3 := ⟨fun c z q => (h2.1 c z q).trans (h.1 c z q), fun c z q => (h2.2 c z q).trans (h.2 c z q)⟩
theorem frN_w {I : Nat → Nat → Int32} {J : Nat → Nat → Int64} {z : Nat} {v : Int32} (h1 : 26 ≤ z) (h2 : z ≤ 28) : frN I J (w2 I 125 z v) J := ⟨fun c z2 q => by
  unfold w2
  rw [if_neg]
  rintro ⟨rfl, rfl⟩
  exact q ⟨rfl, h1, h2⟩, fun _ _ _ => rfl⟩
theorem frN_l {I : Nat → Nat → Int32} {J : Nat → Nat → Int64} {v : Int64} : frN I J I (w2 J 125 29 v) := ⟨fun _ _ _ => rfl, fun c z q => by
  unfold w2
  rw [if_neg q]⟩
def xRn (B : Nat) (I : Nat → Nat → Int32) (J : Nat → Nat → Int64) (X : Nat → Nat) (E s : Nat) (r : Option (Unit × eH)) : Prop := ∃ I2 J2, r = some ((), HP B I2 J2) ∧ rAT I2 J2 X E s ∧ frN I J I2 J2
section TL3
variable {B N : Nat} {I I2 : Nat → Nat → Int32} {J J2 : Nat → Nat → Int64} {X : Nat → Nat} {E p s q i j n lo hi : Nat} {g : gS} {v : Int32}
theorem rTX_N (h : rTX I X E) (hf : frN I J I2 J2) : rTX I2 X E := ⟨(hf.1 125 24 (by omega)).trans h.1, fun i hi => (hf.1 144 i (by omega)).trans (h.2.1 i hi), h.2.2⟩
theorem xm_btw {lo' hi' : Int32} (h : rTX I X E) (hp : p < 2 ^ 31) (h26 : I 125 26 = nI p) (hl : lo' = nI lo) (hh : hi' = nI hi) (h1 : lo < 2 ^ 31) (h2 : hi < 2 ^ 31) : F_X12_isBetween (B + 125) lo' hi' (HP B I J) = some (b2 (decide (p < E ∧ lo ≤ X p ∧ X p ≤ hi)), HP B I J) := by
  have hE := h.2.2.1
  unfold F_X12_isBetween
  simp only [M_gi26, M_gi24, Option.bind_some, h26, h.1]
  by_cases e : p < E
  · have hX := h.2.2.2 p e
    simp only [if_neg (nI_ge e (show E < 2 ^ 31 by omega)), M_gr25, Option.bind_some, R_ai144 (show p < 100 by omega), h.2.1 p e, hl, hh, in_w, e_bind_some, h_z0, h_z1]
    have e1 := nI_ltI (show X p < 2 ^ 31 by omega) h1
    have e2 := nI_ltI h2 (show X p < 2 ^ 31 by omega)
    by_cases r1 : X p < lo
    · rw [decide_eq_true (e1.mpr r1), decide_eq_false (show ¬ (p < E ∧ lo ≤ X p ∧ X p ≤ hi) from fun w => by omega)]; rfl
    · rw [decide_eq_false (fun w => r1 (e1.mp w))]
      by_cases r2 : hi < X p
      · rw [decide_eq_true (e2.mpr r2), decide_eq_false (show ¬ (p < E ∧ lo ≤ X p ∧ X p ≤ hi) from fun w => by omega)]; rfl
      · rw [decide_eq_false (fun w => r2 (e2.mp w)), decide_eq_true (show p < E ∧ lo ≤ X p ∧ X p ≤ hi from ⟨e, by omega, by omega⟩)]; rfl
  · rw [if_pos (nI_le (by omega) hp), h_z0, decide_eq_false (fun w => e w.1)]; rfl
theorem xso_i1 : (p < E ∧ 97 ≤ X p ∧ X p ≤ 122) ↔ xso X E p = 1 := by
  unfold xso xko
  repeat' split
  all_goals omega
theorem xso_i2 : (p < E ∧ 48 ≤ X p ∧ X p ≤ 57) ↔ xso X E p = 2 := by
  unfold xso xko
  repeat' split
  all_goals omega
theorem xso_i3 : (p < E ∧ X p = 59) ↔ xso X E p = 3 := by
  unfold xso xko
  repeat' split
  all_goals omega
theorem xso_i4 : (p < E ∧ 32 ≤ X p ∧ X p ≤ 32) ↔ xso X E p = 4 := by
  unfold xso xko
  repeat' split
  all_goals omega
theorem xm_b1 (h : rTX I X E) (hp : p < 2 ^ 31) (h26 : I 125 26 = nI p) : F_X12_isBetween (B + 125) 97 122 (HP B I J) = some (b2 (decide (xso X E p = 1)), HP B I J) := by
  rw [xm_btw (lo' := 97) (hi' := 122) (lo := 97) (hi := 122) h hp h26 rfl rfl (by decide) (by decide), decide_eq_decide.mpr xso_i1]
theorem xm_b2 (h : rTX I X E) (hp : p < 2 ^ 31) (h26 : I 125 26 = nI p) : F_X12_isBetween (B + 125) 48 57 (HP B I J) = some (b2 (decide (xso X E p = 2)), HP B I J) := by
  rw [xm_btw (lo' := 48) (hi' := 57) (lo := 48) (hi := 57) h hp h26 rfl rfl (by decide) (by decide), decide_eq_decide.mpr xso_i2]
theorem xm_b4 (h : rTX I X E) (hp : p < 2 ^ 31) (h26 : I 125 26 = nI p) : F_X12_isBetween (B + 125) 32 32 (HP B I J) = some (b2 (decide (xso X E p = 4)), HP B I J) := by
  rw [xm_btw (lo' := 32) (hi' := 32) (lo := 32) (hi := 32) h hp h26 rfl rfl (by decide) (by decide), decide_eq_decide.mpr xso_i4]
theorem l64_nI {c : Nat} (hc : c ≤ 255) : (nI c).toInt64 = Int64.ofNat c := (by decide +kernel : ∀ c, c < 256 → (nI c).toInt64 = Int64.ofNat c) c (by omega)
theorem l64_go (a : Nat) {c : Nat} (h1 : 97 ≤ c) : 32 * Int64.ofNat a + Int64.ofNat c - 97 + 1 = Int64.ofNat (32 * a + (c - 96)) := by
  obtain ⟨d, rfl⟩ : ∃ d, c = d + 96 := ⟨c - 96, by omega⟩
  rw [Nat.add_sub_cancel, Int64.ofNat_add, Int64.ofNat_add, Int64.ofNat_mul, show Int64.ofNat 32 = 32 from rfl, Int64.sub_eq_add_neg, Int64.add_assoc, Int64.add_assoc, Int64.add_assoc, show Int64.ofNat 96 + (-97 + 1) = 0 by decide, Int64.add_zero]
/-- the letters of a word -/
theorem xm_72 (hN : 200 < N) (h : rTX I X E) (hs : xso X E s = 1) (h27 : I 125 27 = nI s) (h26 : I 125 26 = nI s) (h28 : I 125 28 = 1) (h29 : J 125 29 = 0) : xRn B I J X E s (L_X12_next_72 N (B + 125) (HP B I J)) := by
  have hE := h.2.2.1
  have hsE := xso_lt (X := X) (E := E) (p := s) (by omega)
  have hrs : xrs X E s = 1 := by unfold xrs; rw [if_neg (by omega), if_neg (by omega), hs]
  unfold L_X12_next_72
  have hfin : ∀ i I' J', 0 < i → I' 125 26 = nI (s + i) → J' 125 29 = tkI X s i → frN I J I' J' → I' 125 27 = nI s → I' 125 28 = 1 → s + i ≤ E → (∀ j, j < i → xso X E (s + j) = 1) → (s + i = E ∨ xso X E (s + i) ≠ 1) → rAT I' J' X E s := fun i I' J' h0 a1 a2 a3 a4 a5 a6 a7 a8 => by
    have hx : xnd X E s = s + i := by
      have := xnd_at (X := X) (E := E) (s := s) (i := i - 1) (Or.inl hs) (by omega) (fun j hj => by rw [hs, show s + 1 + j = s + (j + 1) by omega]; exact a7 (j + 1) (by omega)) (by rw [hs, show s + 1 + (i - 1) = s + i by omega]; exact a8)
      rw [this]; omega
    refine ⟨a4, by rw [hx]; exact a1, by rw [hrs]; exact a5, fun _ => by rw [hx, show s + i - s = i by omega]; exact a2, fun q => by omega⟩
  refine e_loop_x (body := fun (k : Nat × eH → Option (Unit × eH)) s => F_X12_next_72b N (fun l0 h => k (l0, h)) s.1 s.2) (fun i st => ∃ I' J', st = (B + 125, HP B I' J') ∧ I' 125 26 = nI (s + i) ∧ J' 125 29 = tkI X s i ∧ frN I J I' J' ∧ I' 125 27 = nI s ∧ I' 125 28 = 1 ∧ ∀ j, j < i → xso X E (s + j) = 1) (xRn B I J X E s) (E - s) (fun i st hi hst => ?_) (fun st hst K => ?_) (E - s) N (B + 125, HP B I J) (Nat.le_refl _) ⟨I, J, rfl, by rw [Nat.sub_self]; exact h26, by rw [Nat.sub_self, h29]; rfl, frN_r, h27, h28, fun j hj => by omega⟩ (by omega)
  · obtain ⟨I', J', rfl, a1, a2, a3, a4, a5, a6⟩ := hst
    have hx := rTX_N h a3
    by_cases q : xso X E (s + i) = 1
    · have hc := xso_i1.mpr q
      have hX := h.2.2.2 (s + i) hc.1
      refine Or.inl ⟨(B + 125, HP B (w2 I' 125 26 (nI (s + (i + 1)))) (w2 J' 125 29 (tkI X s (i + 1)))), ⟨_, _, rfl, w2_s _ _ _ _, w2_s _ _ _ _, frN_t a3 (frN_t frN_l (frN_w (by decide) (by decide))), (w2_k _ _ (by decide)).trans a4, (w2_k _ _ (by decide)).trans a5, fun j hj => ?_⟩, fun k => ?_⟩
      · by_cases e : j = i
        · subst e; exact q
        · exact a6 j (by omega)
      · show F_X12_next_72b N (fun l0 h => k (l0, h)) (B + 125) (HP B I' J') = _
        unfold F_X12_next_72b F_X12_next_129
        simp only [M_is, Option.bind_some, xm_b1 hx (show s + i < 2 ^ 31 by omega) a1, e_bind_some, b2_0, decide_eq_true q, Bool.true_eq_false, if_false, M_gi26, M_gi27, a1, a4, pk_sub (show s ≤ s + i by omega), Nat.add_sub_cancel_left, M_gl29, M_gr25, R_ai144 (show s + i < 100 by omega), hx.2.1 _ hc.1, M_pl29, M_p26, nI_1, a2, Nat.add_assoc]
        by_cases r : 6 ≤ i
        · rw [if_pos (show (6 : Int32) ≤ nI i from nI_le r (by omega)), show tkI X s (i + 1) = -1 from if_neg (by omega)]
        · rw [if_neg (show ¬ (6 : Int32) ≤ nI i from nI_ge (show i < 6 by omega) (by decide)), show tkI X s i = Int64.ofNat (tkv X s i) from if_pos (by omega), l64_nI hX, l64_go _ hc.2.1, show tkI X s (i + 1) = Int64.ofNat (tkv X s (i + 1)) from if_pos (by omega)]
          rfl
    · refine Or.inr (fun k => ?_)
      refine ⟨I', J', ?_, hfin i I' J' ?_ a1 a2 a3 a4 a5 (by omega) a6 (Or.inr q), a3⟩
      · show F_X12_next_72b N (fun l0 h => k (l0, h)) (B + 125) (HP B I' J') = _
        unfold F_X12_next_72b
        simp only [M_is, Option.bind_some, xm_b1 hx (show s + i < 2 ^ 31 by omega) a1, e_bind_some, b2_0, decide_eq_false q, if_true]
      · rcases Nat.eq_zero_or_pos i with e | e
        · subst e; exact absurd hs q
        · exact e
  · obtain ⟨I', J', rfl, a1, a2, a3, a4, a5, a6⟩ := hst
    have hx := rTX_N h a3
    have q : ¬ xso X E (s + (E - s)) = 1 := by rw [xso_0 (by omega)]; decide
    refine ⟨I', J', ?_, hfin (E - s) I' J' (by omega) a1 a2 a3 a4 a5 (by omega) a6 (Or.inr q), a3⟩
    show F_X12_next_72b N (fun l0 h => K (l0, h)) (B + 125) (HP B I' J') = _
    unfold F_X12_next_72b
    simp only [M_is, Option.bind_some, xm_b1 hx (show s + (E - s) < 2 ^ 31 by omega) a1, e_bind_some, b2_0, decide_eq_false q, if_true]
/-- the digits of a number, from the second on -/
theorem xm_188 (hN : 200 < N) (h : rTX I X E) (hs : xso X E s = 2) (h27 : I 125 27 = nI s) (h26 : I 125 26 = nI (s + 1)) (h28 : I 125 28 = 2) (h29 : J 125 29 = (nI (X s - 48)).toInt64) : xRn B I J X E s (L_X12_next_188 N (B + 125) (HP B I J)) := by
  have hE := h.2.2.1
  have hsE := xso_lt (X := X) (E := E) (p := s) (by omega)
  unfold L_X12_next_188
  have hfin : ∀ i I' J', I' 125 26 = nI (s + 1 + i) → J' 125 29 = (nI (X s - 48)).toInt64 → I' 125 27 = nI s → I' 125 28 = (if i = 0 then 2 else 4) → s + 1 + i ≤ E → (∀ j, j < i → xso X E (s + 1 + j) = 2) → xso X E (s + 1 + i) ≠ 2 → rAT I' J' X E s := fun i I' J' a1 a2 a4 a5 a6 a7 a8 => by
    have hx : xnd X E s = s + 1 + i := xnd_at (X := X) (E := E) (s := s) (i := i) (Or.inr hs) a6 (fun j hj => by rw [hs]; exact a7 j hj) (Or.inr (by rw [hs]; exact a8))
    refine ⟨a4, by rw [hx]; exact a1, ?_, fun q => by omega, fun _ => a2⟩
    rw [a5]
    unfold xrs
    rw [if_pos hs, hx]
    rcases Nat.eq_zero_or_pos i with e | e
    · subst e; rw [if_pos rfl, if_pos (show s + 1 + 0 = s + 1 from rfl)]; rfl
    · rw [if_neg (by omega), if_neg (by omega)]; rfl
  refine e_loop_x (body := fun (k : Nat × eH → Option (Unit × eH)) s => F_X12_next_188b N (fun l0 h => k (l0, h)) s.1 s.2) (fun i st => ∃ I' J', st = (B + 125, HP B I' J') ∧ I' 125 26 = nI (s + 1 + i) ∧ J' 125 29 = (nI (X s - 48)).toInt64 ∧ frN I J I' J' ∧ I' 125 27 = nI s ∧ I' 125 28 = (if i = 0 then 2 else 4) ∧ ∀ j, j < i → xso X E (s + 1 + j) = 2) (xRn B I J X E s) (E - (s + 1)) (fun i st hi hst => ?_) (fun st hst K => ?_) (E - (s + 1)) N (B + 125, HP B I J) (Nat.le_refl _) ⟨I, J, rfl, by rw [Nat.sub_self]; exact h26, h29, frN_r, h27, by rw [Nat.sub_self]; exact h28, fun j hj => by omega⟩ (by omega)
  · obtain ⟨I', J', rfl, a1, a2, a3, a4, a5, a6⟩ := hst
    have hx := rTX_N h a3
    by_cases q : xso X E (s + 1 + i) = 2
    · refine Or.inl ⟨(B + 125, HP B (w2 (w2 I' 125 28 4) 125 26 (nI (s + 1 + (i + 1)))) J'), ⟨_, _, rfl, w2_s _ _ _ _, a2, frN_t a3 (frN_t (frN_w (by decide) (by decide)) (frN_w (by decide) (by decide))), ?_, ?_, fun j hj => ?_⟩, fun k => ?_⟩
      · rw [w2_k _ _ (by decide), w2_k _ _ (by decide)]; exact a4
      · rw [w2_k _ _ (by decide), w2_s, if_neg (by omega)]
      · by_cases e : j = i
        · subst e; exact q
        · exact a6 j (by omega)
      · show F_X12_next_188b N (fun l0 h => k (l0, h)) (B + 125) (HP B I' J') = _
        unfold F_X12_next_188b
        have a1' : w2 I' 125 28 4 125 26 = nI (s + 1 + i) := (w2_k _ _ (by decide)).trans a1
        simp only [M_is, Option.bind_some, xm_b2 hx (show s + 1 + i < 2 ^ 31 by omega) a1, e_bind_some, b2_0, decide_eq_true q, Bool.true_eq_false, if_false, M_p28, M_gi26, M_p26, a1', nI_1]
        rfl
    · refine Or.inr (fun k => ?_)
      refine ⟨I', J', ?_, hfin i I' J' a1 a2 a4 a5 (by omega) a6 q, a3⟩
      show F_X12_next_188b N (fun l0 h => k (l0, h)) (B + 125) (HP B I' J') = _
      unfold F_X12_next_188b
      simp only [M_is, Option.bind_some, xm_b2 hx (show s + 1 + i < 2 ^ 31 by omega) a1, e_bind_some, b2_0, decide_eq_false q, if_true]
  · obtain ⟨I', J', rfl, a1, a2, a3, a4, a5, a6⟩ := hst
    have hx := rTX_N h a3
    have q : ¬ xso X E (s + 1 + (E - (s + 1))) = 2 := by rw [xso_0 (by omega)]; decide
    refine ⟨I', J', ?_, hfin (E - (s + 1)) I' J' a1 a2 a4 a5 (by omega) a6 q, a3⟩
    show F_X12_next_188b N (fun l0 h => K (l0, h)) (B + 125) (HP B I' J') = _
    unfold F_X12_next_188b
    simp only [M_is, Option.bind_some, xm_b2 hx (show s + 1 + (E - (s + 1)) < 2 ^ 31 by omega) a1, e_bind_some, b2_0, decide_eq_false q, if_true]
/-- a token that begins here -/
theorem xm_0b (hN : 200 < N) (h : rTX I X E) (hs : s ≤ E) (h4 : xso X E s ≠ 4) (h26 : I 125 26 = nI s) (k : Nat → eH → Option (Unit × eH)) : xRn B I J X E s (F_X12_next_0b N k (B + 125) (HP B I J)) := by
  have hE := h.2.2.1
  unfold F_X12_next_0b F_X12_next_237
  simp only [M_is, Option.bind_some, xm_b4 h (show s < 2 ^ 31 by omega) h26, e_bind_some, b2_0, decide_eq_false h4, if_true, M_gi26, h26, M_p27, M_pl29, M_gi24, w2_k _ _ (show (26 : Nat) ≠ 27 by decide), w2_k _ _ (show (24 : Nat) ≠ 27 by decide), h.1]
  obtain ⟨I1, hI1⟩ : ∃ I1, I1 = w2 I 125 27 (nI s) := ⟨_, rfl⟩
  obtain ⟨J1, hJ1⟩ : ∃ J1, J1 = w2 J 125 29 0 := ⟨_, rfl⟩
  have f1 : frN I J I1 J1 := by rw [hI1, hJ1]; exact frN_t frN_l (frN_w (by decide) (by decide))
  have x1 := rTX_N h f1
  have g26 : I1 125 26 = nI s := by rw [hI1, w2_k _ _ (by decide)]; exact h26
  have g27 : I1 125 27 = nI s := by rw [hI1, w2_s]
  have gJ : J1 125 29 = 0 := by rw [hJ1, w2_s]
  rw [← hI1, ← hJ1]
  have e0 := nI_eq (show s < 2 ^ 31 by omega) (show E < 2 ^ 31 by omega)
  by_cases q0 : s = E
  · rw [if_pos (e0.mpr q0), M_p28, Option.bind_some]
    have hso : xso X E s = 0 := xso_0 (by omega)
    refine ⟨_, _, rfl, ⟨(w2_k _ _ (by decide)).trans g27, (w2_k _ _ (by decide)).trans (g26.trans ?_), (w2_s _ _ _ _).trans ?_, fun q => by omega, fun q => by omega⟩, frN_t f1 (frN_w (by decide) (by decide))⟩
    · rw [xnd_o (by omega), Nat.min_eq_right (by omega), q0]
    · unfold xrs; rw [if_neg (by omega), if_neg (by omega), hso]; rfl
  · rw [if_neg (fun w => q0 (e0.mp w))]
    have hsE : s < E := by omega
    have hX := h.2.2.2 s hsE
    simp only [M_is, Option.bind_some, xm_b1 x1 (show s < 2 ^ 31 by omega) g26, e_bind_some, b2_0]
    by_cases q1 : xso X E s = 1
    · rw [decide_eq_true q1, if_neg (by decide), M_p28, Option.bind_some]
      obtain ⟨I2, J2, c1, c2, c3⟩ := xm_72 (B := B) hN (rTX_N x1 (frN_w (v := 1) (z := 28) (J := J1) (by decide) (by decide))) q1 ((w2_k _ _ (by decide)).trans g27) ((w2_k _ _ (by decide)).trans g26) (w2_s _ _ _ _) gJ
      exact ⟨I2, J2, c1, c2, frN_t f1 (frN_t (frN_w (by decide) (by decide)) c3)⟩
    · rw [decide_eq_false q1, if_pos rfl]
      simp only [M_is, Option.bind_some, xm_b2 x1 (show s < 2 ^ 31 by omega) g26, e_bind_some, b2_0]
      by_cases q2 : xso X E s = 2
      · have hb := xso_2 q2
        rw [decide_eq_true q2, if_neg (by decide)]
        simp only [M_gr25, M_gi26, Option.bind_some, g26, R_ai144 (show s < 100 by omega), x1.2.1 s hsE, M_pl29, M_p26, M_p28, show (48 : Int32) = nI 48 from rfl, pk_sub hb.1, nI_1]
        obtain ⟨I2, hI2⟩ : ∃ I2, I2 = w2 (w2 I1 125 26 (nI (s + 1))) 125 28 2 := ⟨_, rfl⟩
        obtain ⟨J2, hJ2⟩ : ∃ J2, J2 = w2 J1 125 29 (nI (X s - 48)).toInt64 := ⟨_, rfl⟩
        have f2 : frN I1 J1 I2 J2 := by rw [hI2, hJ2]; exact frN_t frN_l (frN_t (frN_w (by decide) (by decide)) (frN_w (by decide) (by decide)))
        rw [← hI2, ← hJ2]
        obtain ⟨I3, J3, c1, c2, c3⟩ := xm_188 (B := B) (I := I2) (J := J2) hN (rTX_N x1 f2) q2 (by rw [hI2, w2_k _ _ (by decide), w2_k _ _ (by decide)]; exact g27) (by rw [hI2, w2_k _ _ (by decide), w2_s]) (by rw [hI2, w2_s]) (by rw [hJ2, w2_s])
        exact ⟨I3, J3, c1, c2, frN_t f1 (frN_t f2 c3)⟩
      · rw [decide_eq_false q2, if_pos rfl]
        simp only [M_gr25, M_gi26, Option.bind_some, g26, R_ai144 (show s < 100 by omega), x1.2.1 s hsE, M_p28, M_p26, w2_k _ _ (show (26 : Nat) ≠ 28 by decide), nI_1]
        have hnd : xnd X E s = s + 1 := by rw [xnd_o (by omega), Nat.min_eq_left (by omega)]
        have e59 : (nI (X s) = 59) ↔ X s = 59 := nI_eq (show X s < 2 ^ 31 by omega) (show 59 < 2 ^ 31 by decide)
        have hfin : ∀ v : Int32, v = nI (xrs X E s) → xRn B I J X E s (some ((), HP B (w2 (w2 I1 125 28 v) 125 26 (nI (s + 1))) J1)) := fun v hv => by
          refine ⟨_, _, rfl, ⟨?_, ?_, ?_, fun q => absurd q q1, fun q => absurd q q2⟩, frN_t f1 (frN_t (frN_w (by decide) (by decide)) (frN_w (by decide) (by decide)))⟩
          · rw [w2_k _ _ (by decide), w2_k _ _ (by decide)]; exact g27
          · rw [w2_s, hnd]
          · rw [w2_k _ _ (by decide), w2_s]; exact hv
        have hle := xso_le (X := X) (E := E) (p := s)
        have hn0 := xso_n0 (X := X) hsE
        by_cases q3 : X s = 59
        · have h3 := xso_i3.mp ⟨hsE, q3⟩
          rw [if_pos (e59.mpr q3)]
          exact hfin 3 (by unfold xrs; rw [if_neg q2, if_neg (by omega), h3]; rfl)
        · have h3 : xso X E s ≠ 3 := fun w => q3 (xso_i3.mpr w).2
          rw [if_neg (fun w => q3 (e59.mp w))]
          exact hfin 4 (by unfold xrs; rw [if_neg q2, if_pos (by omega)]; rfl)
theorem xm_next (hN : 200 < N) (h : rTX I X E) (hp : p ≤ E) (h26 : I 125 26 = nI p) : xRn B I J X E (xsk X E p) (F_X12_next N (B + 125) (HP B I J)) := by
  have hE := h.2.2.1
  unfold F_X12_next L_X12_next_0
  refine e_loop_x (body := fun (k : Nat × eH → Option (Unit × eH)) s => F_X12_next_0b N (fun l0 h => k (l0, h)) s.1 s.2) (fun i st => ∃ I', st = (B + 125, HP B I' J) ∧ I' 125 26 = nI (p + i) ∧ frN I J I' J ∧ ∀ j, j < i → xso X E (p + j) = 4) (xRn B I J X E (xsk X E p)) (E - p) (fun i st hi hst => ?_) (fun st hst K => ?_) (E - p) N (B + 125, HP B I J) (Nat.le_refl _) ⟨I, rfl, by rw [Nat.sub_self]; exact h26, frN_r, fun j hj => by omega⟩ (by omega)
  · obtain ⟨I', rfl, a1, a2, a3⟩ := hst
    have hx := rTX_N h a2
    by_cases q : xso X E (p + i) = 4
    · refine Or.inl ⟨(B + 125, HP B (w2 I' 125 26 (nI (p + (i + 1)))) J), ⟨_, rfl, w2_s _ _ _ _, frN_t a2 (frN_w (by decide) (by decide)), fun j hj => ?_⟩, fun k => ?_⟩
      · by_cases e : j = i
        · subst e; exact q
        · exact a3 j (by omega)
      · show F_X12_next_0b N (fun l0 h => k (l0, h)) (B + 125) (HP B I' J) = _
        unfold F_X12_next_0b
        simp only [M_is, Option.bind_some, xm_b4 hx (show p + i < 2 ^ 31 by omega) a1, e_bind_some, b2_0, decide_eq_true q, Bool.true_eq_false, if_false, M_gi26, a1, M_p26, nI_1]
        rfl
    · refine Or.inr (fun k => ?_)
      rw [xsk_at (by omega) a3 q]
      obtain ⟨I2, J2, c1, c2, c3⟩ := xm_0b (B := B) hN hx (show p + i ≤ E by omega) q a1 (fun l0 h => k (l0, h))
      exact ⟨I2, J2, c1, c2, frN_t a2 c3⟩
  · obtain ⟨I', rfl, a1, a2, a3⟩ := hst
    have hx := rTX_N h a2
    have q : xso X E (p + (E - p)) ≠ 4 := by rw [xso_0 (by omega)]; decide
    rw [xsk_at (i := E - p) (by omega) a3 q]
    obtain ⟨I2, J2, c1, c2, c3⟩ := xm_0b (B := B) hN hx (show p + (E - p) ≤ E by omega) q a1 (fun l0 h => K (l0, h))
    exact ⟨I2, J2, c1, c2, frN_t a2 c3⟩
theorem xrs_1 : xrs X E s = 1 ↔ xso X E s = 1 := by
  unfold xrs
  repeat' split
  all_goals omega
theorem xrs_3 : xrs X E s = 3 ↔ xso X E s = 3 := by
  unfold xrs
  repeat' split
  all_goals omega
theorem xrs_2 : xrs X E s = 2 ↔ xso X E s = 2 ∧ xnd X E s = s + 1 := by
  unfold xrs
  repeat' split
  all_goals omega
theorem xrs_le : xrs X E s ≤ 5 := by
  have := xso_le (X := X) (E := E) (p := s)
  unfold xrs
  repeat' split
  all_goals omega
theorem xm_stops (hN : 200 < N) (h : rTX I X E) (hp : p ≤ E) (h26 : I 125 26 = nI p) : ∃ I2 J2, F_X12_stops N (B + 125) (HP B I J) = some (b2 (decide (xso X E (xsk X E p) = 3)), HP B I2 J2) ∧ rAT I2 J2 X E (xsk X E p) ∧ frN I J I2 J2 := by
  obtain ⟨I2, J2, a1, a2, a3⟩ := xm_next (B := B) (J := J) hN h hp h26
  refine ⟨I2, J2, ?_, a2, a3⟩
  unfold F_X12_stops
  simp only [M_is, Option.bind_some, a1, e_bind_some, M_gi28, a2.2.2.1, h_z0, h_z1]
  have e : (nI (xrs X E (xsk X E p)) = 3) ↔ xrs X E (xsk X E p) = 3 := nI_eq (show xrs X E (xsk X E p) < 2 ^ 31 by have := xrs_le (X := X) (E := E) (s := xsk X E p); omega) (show 3 < 2 ^ 31 by decide)
  by_cases r : xso X E (xsk X E p) = 3
  · rw [if_pos (e.mpr (xrs_3.mpr r)), decide_eq_true r]; rfl
  · rw [if_neg (fun w => r (xrs_3.mp (e.mp w))), decide_eq_false r]; rfl
theorem xm_num {lo' hi' : Int32} (hN : 200 < N) (h : rTX I X E) (hp : p ≤ E) (h26 : I 125 26 = nI p) (hlo : lo' = nI lo) (hhi : hi' = nI hi) (h0 : 1 ≤ lo) (h1 : hi ≤ 9) (h2 : lo ≤ 9) : ∃ I2 J2, F_X12_number N (B + 125) lo' hi' (HP B I J) = some (b2 (decide (xtk X E lo hi (xsk X E p) ≠ 0)), HP B I2 J2) ∧ (xtk X E lo hi (xsk X E p) ≠ 0 → J2 125 29 = (nI (xtk X E lo hi (xsk X E p))).toInt64) ∧ rAT I2 J2 X E (xsk X E p) ∧ frN I J I2 J2 := by
  obtain ⟨I2, J2, a1, a2, a3⟩ := xm_next (B := B) (J := J) hN h hp h26
  refine ⟨I2, J2, ?_, fun hz => ?_, a2, a3⟩
  · unfold F_X12_number
    simp only [M_is, Option.bind_some, a1, e_bind_some, M_gi28, a2.2.2.1, h_z0, h_z1, hlo, hhi]
    generalize xsk X E p = s at *
    have e : (nI (xrs X E s) = 2) ↔ xrs X E s = 2 := nI_eq (show xrs X E s < 2 ^ 31 by have := xrs_le (X := X) (E := E) (s := s); omega) (show 2 < 2 ^ 31 by decide)
    have t0 : ¬ (xso X E s = 2 ∧ xnd X E s = s + 1 ∧ lo + 48 ≤ X s ∧ X s ≤ hi + 48) → decide (xtk X E lo hi s ≠ 0) = false := fun w => decide_eq_false (fun q => q (if_neg w))
    have t1 : (xso X E s = 2 ∧ xnd X E s = s + 1 ∧ lo + 48 ≤ X s ∧ X s ≤ hi + 48) → decide (xtk X E lo hi s ≠ 0) = true := fun w => decide_eq_true (by
      have : xtk X E lo hi s = X s - 48 := if_pos w
      omega)
    by_cases r : xso X E s = 2 ∧ xnd X E s = s + 1
    · have hb := xso_2 r.1
      rw [if_pos (e.mpr (xrs_2.mpr r)), M_gl29, Option.bind_some, a2.2.2.2.2 r.1, in_w, e_bind_some]
      have e1 := nI_ltI (show X s - 48 < 2 ^ 31 by omega) (show lo < 2 ^ 31 by omega)
      have e2 := nI_ltI (show hi < 2 ^ 31 by omega) (show X s - 48 < 2 ^ 31 by omega)
      by_cases r1 : X s - 48 < lo
      · rw [decide_eq_true (e1.mpr r1), t0 (fun w => by omega)]; rfl
      · rw [decide_eq_false (fun w => r1 (e1.mp w))]
        by_cases r2 : hi < X s - 48
        · rw [decide_eq_true (e2.mpr r2), t0 (fun w => by omega)]; rfl
        · rw [decide_eq_false (fun w => r2 (e2.mp w)), t1 ⟨r.1, r.2, by omega, by omega⟩]; rfl
    · rw [if_neg (fun w => r (xrs_2.mp (e.mp w))), t0 (fun w => r ⟨w.1, w.2.1⟩)]; rfl
  · generalize xsk X E p = s at *
    by_cases w : xso X E s = 2 ∧ xnd X E s = s + 1 ∧ lo + 48 ≤ X s ∧ X s ≤ hi + 48
    · rw [show xtk X E lo hi s = X s - 48 from if_pos w]
      exact a2.2.2.2.2 w.1
    · exact absurd (if_neg w) hz
/-- the words' codes -/
def xwc (q : Nat) : Nat := if q = 0 then 24395141 else if q = 1 then 75411 else if q = 2 then 20238515 else if q = 3 then 2610628 else 12891444
theorem tkv_lt (hX : ∀ j, j < n → xso X E (s + j) = 1) : tkv X s n < 32 ^ n ∧ (0 < n → 0 < tkv X s n) := by
  induction n with
  | zero => exact ⟨show 0 < 1 from Nat.one_pos, fun q => absurd q (Nat.lt_irrefl 0)⟩
  | succ n ih =>
    have h1 := (ih (fun j hj => hX j (by omega))).1
    have h2 := xso_i1.mpr (hX n (by omega))
    show 32 * tkv X s n + (X (s + n) - 96) < 32 ^ (n + 1) ∧ (0 < n + 1 → 0 < 32 * tkv X s n + (X (s + n) - 96))
    rw [Nat.pow_succ]
    omega
/-- the last letter of a code -/
theorem tkv_s {c d : Nat} (hX : ∀ j, j < n → xso X E (s + j) = 1) (hd : 0 < d ∧ d < 32) : tkv X s n = 32 * c + d ↔ ∃ m, n = m + 1 ∧ X (s + m) = d + 96 ∧ tkv X s m = c := by
  rcases n with _ | m
  · refine ⟨fun q => ?_, fun ⟨m, q, _⟩ => by omega⟩
    have q : 0 = 32 * c + d := q
    omega
  · have h2 := xso_i1.mpr (hX m (by omega))
    show 32 * tkv X s m + (X (s + m) - 96) = 32 * c + d ↔ _
    refine ⟨fun q => ⟨m, rfl, by omega, by omega⟩, fun ⟨m2, q1, q2, q3⟩ => ?_⟩
    have : m = m2 := by omega
    subst this
    rw [q2, q3]; omega
theorem tkv_0 (hX : ∀ j, j < n → xso X E (s + j) = 1) : tkv X s n = 0 ↔ n = 0 := by
  refine ⟨fun q => ?_, fun q => by subst q; rfl⟩
  rcases Nat.eq_zero_or_pos n with e | e
  · exact e
  · have := (tkv_lt hX).2 e; omega
theorem tkI_eq {W : Nat} (hX : ∀ j, j < n → xso X E (s + j) = 1) (hW : 0 < W ∧ W < 32 ^ 5) : tkI X s n = Int64.ofNat W ↔ tkv X s n = W := by
  have inj : ∀ a b, a < 2 ^ 31 → b < 2 ^ 31 → (Int64.ofNat a = Int64.ofNat b ↔ a = b) := fun a b ha hb => by
    refine ⟨fun q => ?_, fun q => by rw [q]⟩
    have := congrArg Int64.toInt q
    rw [Int64.toInt_ofNat_of_lt (by omega), Int64.toInt_ofNat_of_lt (by omega)] at this
    omega
  have hlt := tkv_lt hX
  unfold tkI
  by_cases h6 : n ≤ 6
  · rw [if_pos h6]
    have : 32 ^ n ≤ 32 ^ 6 := Nat.pow_le_pow_right (by decide) h6
    exact inj _ _ (by omega) (by omega)
  · rw [if_neg h6]
    have hbig : ∀ m, 5 < m → m ≤ n → 32 ^ 5 ≤ tkv X s m := by
      intro m h5 hm
      induction m with
      | zero => omega
      | succ m ih =>
        have h2 := xso_i1.mpr (hX m (by omega))
        have hp := (tkv_lt (n := m) (fun j hj => hX j (by omega))).2 (by omega)
        show 32 ^ 5 ≤ 32 * tkv X s m + (X (s + m) - 96)
        rcases Nat.lt_or_ge 5 m with e | e
        · have := ih e (by omega); omega
        · have e5 : m = 5 := by omega
          subst e5
          have l : ∀ j, j < 5 → 1 ≤ X (s + j) - 96 := fun j hj => by have := xso_i1.mpr (hX j (by omega)); omega
          have l0 := l 0 (by decide)
          simp only [tkv] 
          omega
    refine ⟨fun q => ?_, fun q => ?_⟩
    · exfalso
      have := congrArg Int64.toInt q
      rw [Int64.toInt_ofNat_of_lt (by omega)] at this
      have h3 : (-1 : Int64).toInt = -1 := by decide
      omega
    · have := hbig n (by omega) (Nat.le_refl n); omega
theorem tkv_w0 (hX : ∀ j, j < n → xso X E (s + j) = 1) : tkv X s n = 24395141 ↔ n = 5 ∧ X (s + 0) = 119 ∧ X (s + 1) = 104 ∧ X (s + 2) = 111 ∧ X (s + 3) = 108 ∧ X (s + 4) = 101 := by
  constructor
  · intro h0
    obtain ⟨m4, e4, a4, h1⟩ := (tkv_s (c := 762348) (d := 5) hX (by decide)).mp h0
    obtain ⟨m3, e3, a3, h2⟩ := (tkv_s (c := 23823) (d := 12) (fun j hj => hX j (by omega)) (by decide)).mp h1
    obtain ⟨m2, e2, a2, h3⟩ := (tkv_s (c := 744) (d := 15) (fun j hj => hX j (by omega)) (by decide)).mp h2
    obtain ⟨m1, e1, a1, h4⟩ := (tkv_s (c := 23) (d := 8) (fun j hj => hX j (by omega)) (by decide)).mp h3
    obtain ⟨m0, e0, a0, h5⟩ := (tkv_s (c := 0) (d := 23) (fun j hj => hX j (by omega)) (by decide)).mp h4
    have hz := (tkv_0 (n := m0) (fun j hj => hX j (by omega))).mp h5
    have f0 : m0 = 0 := by omega
    have f1 : m1 = 1 := by omega
    have f2 : m2 = 2 := by omega
    have f3 : m3 = 3 := by omega
    have f4 : m4 = 4 := by omega
    exact ⟨by omega, by rw [f0] at a0; exact a0, by rw [f1] at a1; exact a1, by rw [f2] at a2; exact a2, by rw [f3] at a3; exact a3, by rw [f4] at a4; exact a4⟩
  · rintro ⟨rfl, b0, b1, b2, b3, b4⟩
    simp only [tkv, b0, b1, b2, b3, b4]
theorem tkv_w1 (hX : ∀ j, j < n → xso X E (s + j) = 1) : tkv X s n = 75411 ↔ n = 4 ∧ X (s + 0) = 98 ∧ X (s + 1) = 105 ∧ X (s + 2) = 116 ∧ X (s + 3) = 115 := by
  constructor
  · intro h0
    obtain ⟨m3, e3, a3, h1⟩ := (tkv_s (c := 2356) (d := 19) hX (by decide)).mp h0
    obtain ⟨m2, e2, a2, h2⟩ := (tkv_s (c := 73) (d := 20) (fun j hj => hX j (by omega)) (by decide)).mp h1
    obtain ⟨m1, e1, a1, h3⟩ := (tkv_s (c := 2) (d := 9) (fun j hj => hX j (by omega)) (by decide)).mp h2
    obtain ⟨m0, e0, a0, h4⟩ := (tkv_s (c := 0) (d := 2) (fun j hj => hX j (by omega)) (by decide)).mp h3
    have hz := (tkv_0 (n := m0) (fun j hj => hX j (by omega))).mp h4
    have f0 : m0 = 0 := by omega
    have f1 : m1 = 1 := by omega
    have f2 : m2 = 2 := by omega
    have f3 : m3 = 3 := by omega
    exact ⟨by omega, by rw [f0] at a0; exact a0, by rw [f1] at a1; exact a1, by rw [f2] at a2; exact a2, by rw [f3] at a3; exact a3⟩
  · rintro ⟨rfl, b0, b1, b2, b3⟩
    simp only [tkv, b0, b1, b2, b3]
theorem tkv_w2 (hX : ∀ j, j < n → xso X E (s + j) = 1) : tkv X s n = 20238515 ↔ n = 5 ∧ X (s + 0) = 115 ∧ X (s + 1) = 105 ∧ X (s + 2) = 116 ∧ X (s + 3) = 101 ∧ X (s + 4) = 115 := by
  constructor
  · intro h0
    obtain ⟨m4, e4, a4, h1⟩ := (tkv_s (c := 632453) (d := 19) hX (by decide)).mp h0
    obtain ⟨m3, e3, a3, h2⟩ := (tkv_s (c := 19764) (d := 5) (fun j hj => hX j (by omega)) (by decide)).mp h1
    obtain ⟨m2, e2, a2, h3⟩ := (tkv_s (c := 617) (d := 20) (fun j hj => hX j (by omega)) (by decide)).mp h2
    obtain ⟨m1, e1, a1, h4⟩ := (tkv_s (c := 19) (d := 9) (fun j hj => hX j (by omega)) (by decide)).mp h3
    obtain ⟨m0, e0, a0, h5⟩ := (tkv_s (c := 0) (d := 19) (fun j hj => hX j (by omega)) (by decide)).mp h4
    have hz := (tkv_0 (n := m0) (fun j hj => hX j (by omega))).mp h5
    have f0 : m0 = 0 := by omega
    have f1 : m1 = 1 := by omega
    have f2 : m2 = 2 := by omega
    have f3 : m3 = 3 := by omega
    have f4 : m4 = 4 := by omega
    exact ⟨by omega, by rw [f0] at a0; exact a0, by rw [f1] at a1; exact a1, by rw [f2] at a2; exact a2, by rw [f3] at a3; exact a3, by rw [f4] at a4; exact a4⟩
  · rintro ⟨rfl, b0, b1, b2, b3, b4⟩
    simp only [tkv, b0, b1, b2, b3, b4]
theorem tkv_w3 (hX : ∀ j, j < n → xso X E (s + j) = 1) : tkv X s n = 2610628 ↔ n = 5 ∧ X (s + 0) = 98 ∧ X (s + 1) = 111 ∧ X (s + 2) = 117 ∧ X (s + 3) = 110 ∧ X (s + 4) = 100 := by
  constructor
  · intro h0
    obtain ⟨m4, e4, a4, h1⟩ := (tkv_s (c := 81582) (d := 4) hX (by decide)).mp h0
    obtain ⟨m3, e3, a3, h2⟩ := (tkv_s (c := 2549) (d := 14) (fun j hj => hX j (by omega)) (by decide)).mp h1
    obtain ⟨m2, e2, a2, h3⟩ := (tkv_s (c := 79) (d := 21) (fun j hj => hX j (by omega)) (by decide)).mp h2
    obtain ⟨m1, e1, a1, h4⟩ := (tkv_s (c := 2) (d := 15) (fun j hj => hX j (by omega)) (by decide)).mp h3
    obtain ⟨m0, e0, a0, h5⟩ := (tkv_s (c := 0) (d := 2) (fun j hj => hX j (by omega)) (by decide)).mp h4
    have hz := (tkv_0 (n := m0) (fun j hj => hX j (by omega))).mp h5
    have f0 : m0 = 0 := by omega
    have f1 : m1 = 1 := by omega
    have f2 : m2 = 2 := by omega
    have f3 : m3 = 3 := by omega
    have f4 : m4 = 4 := by omega
    exact ⟨by omega, by rw [f0] at a0; exact a0, by rw [f1] at a1; exact a1, by rw [f2] at a2; exact a2, by rw [f3] at a3; exact a3, by rw [f4] at a4; exact a4⟩
  · rintro ⟨rfl, b0, b1, b2, b3, b4⟩
    simp only [tkv, b0, b1, b2, b3, b4]
theorem tkv_w4 (hX : ∀ j, j < n → xso X E (s + j) = 1) : tkv X s n = 12891444 ↔ n = 5 ∧ X (s + 0) = 108 ∧ X (s + 1) = 105 ∧ X (s + 2) = 109 ∧ X (s + 3) = 105 ∧ X (s + 4) = 116 := by
  constructor
  · intro h0
    obtain ⟨m4, e4, a4, h1⟩ := (tkv_s (c := 402857) (d := 20) hX (by decide)).mp h0
    obtain ⟨m3, e3, a3, h2⟩ := (tkv_s (c := 12589) (d := 9) (fun j hj => hX j (by omega)) (by decide)).mp h1
    obtain ⟨m2, e2, a2, h3⟩ := (tkv_s (c := 393) (d := 13) (fun j hj => hX j (by omega)) (by decide)).mp h2
    obtain ⟨m1, e1, a1, h4⟩ := (tkv_s (c := 12) (d := 9) (fun j hj => hX j (by omega)) (by decide)).mp h3
    obtain ⟨m0, e0, a0, h5⟩ := (tkv_s (c := 0) (d := 12) (fun j hj => hX j (by omega)) (by decide)).mp h4
    have hz := (tkv_0 (n := m0) (fun j hj => hX j (by omega))).mp h5
    have f0 : m0 = 0 := by omega
    have f1 : m1 = 1 := by omega
    have f2 : m2 = 2 := by omega
    have f3 : m3 = 3 := by omega
    have f4 : m4 = 4 := by omega
    exact ⟨by omega, by rw [f0] at a0; exact a0, by rw [f1] at a1; exact a1, by rw [f2] at a2; exact a2, by rw [f3] at a3; exact a3, by rw [f4] at a4; exact a4⟩
  · rintro ⟨rfl, b0, b1, b2, b3, b4⟩
    simp only [tkv, b0, b1, b2, b3, b4]
end TL3
