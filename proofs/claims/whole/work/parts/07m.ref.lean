/-! REFERENCE: sends, comes -/
section RSEND
variable {B : Nat} {I : Nat → Nat → Int32} {J : Nat → Nat → Int64} {x : eST} {y z : eKS} {a b c k l s t i j n m : Nat}
theorem m_sends_no (h : Mo I J x) (w : WF x) {N : Nat} {u v z : Int32} (hv : nix u (zN x) ∨ nix v (zN x) ∨ nix z (zK x)) : F_X12_sends N (B + 125) u v z (HP B I J) = some (-1, HP B I J) := by
  have h1 := w.1.2
  have h2 := w.2.2.2.1
  unfold F_X12_sends
  rcases nix_c u (show zN x < 2 ^ 31 by omega) with e | ⟨s, hs, rfl⟩
  · simp only [M_is, Option.bind_some, X_site_no h w e, e_bind_some, if_true]
  · rcases nix_c v (show zN x < 2 ^ 31 by omega) with e | ⟨t, ht, rfl⟩
    · simp only [M_is, Option.bind_some, X_site_ok h w hs, X_site_no h w e, e_bind_some, if_true, if_neg (show ¬ (1 : Int32) = 0 by decide)]
    · have e : nix z (zK x) := (hv.resolve_left (nix_not hs (by omega))).resolve_left (nix_not ht (by omega))
      simp only [M_is, Option.bind_some, X_site_ok h w hs, X_site_ok h w ht, X_key_no h w e, e_bind_some, if_true, if_neg (show ¬ (1 : Int32) = 0 by decide)]
      split <;> rfl
theorem m_sends_eq (h : Mo I J x) (w : WF x) {N : Nat} {z : Int32} (hs : s < zN x) : F_X12_sends N (B + 125) (nI s) (nI s) z (HP B I J) = some (-1, HP B I J) := by
  unfold F_X12_sends
  simp only [M_is, Option.bind_some, X_site_ok h w hs, e_bind_some, if_true, if_neg (show ¬ (1 : Int32) = 0 by decide)]
/-- what the receiver has then -/
def stay (y : eKS) (s u : Nat) (j : Nat) : Bool := kS y (4 + s) j && kS y (4 + u) j || kS y (4 + s) j && !cov (kR y u) j || kS y (4 + u) j && !cov (kR y s) j
theorem oRc_S (y : eKS) (s u : Nat) : kS (oRc y s u) = fun f => if f = 4 + s then stay y s u else kS y f := rfl
/-- the place's holders then -/
def nbs (y : eKS) (s u p : Nat) : Int32 := hb (fun v => plc (kS (oRc y s u) (4 + v)) p) 4
theorem nbs_same (hk : k < 4) (h : MoK k I J y) (hc : ∀ f, f < 8 → ∀ j, j < 160 → kS y f j = true → cov (kM y) j = true) (hs : s < 4) (hu : a < 4) {p : Nat} (hp : p < 164) (hn : p % 41 = 0 ∨ cov (kM y) (plj p) = false) : nbs y s a p = I 135 (164 * k + p) := by
  rw [Y_beside h hp]
  unfold nbs
  refine hb_cong (fun v hv => ?_)
  by_cases h0 : p % 41 = 0
  · rw [plc_0 _ h0, plc_0 _ h0]
  · have hcf := hn.resolve_left h0
    have hl := plj_lt hp
    have kf : ∀ f, f < 8 → kS y f (plj p) = false := by
      intro f hf
      cases e : kS y f (plj p)
      · rfl
      · rw [hc f hf _ hl e] at hcf; cases hcf
    rw [plc_1 _ h0, plc_1 _ h0, oRc_S]
    by_cases e : 4 + v = 4 + s
    · simp only [if_pos e]
      unfold stay
      rw [kf (4 + s) (by omega), kf (4 + a) (by omega), kf (4 + v) (by omega)]; rfl
    · simp only [if_neg e]
theorem s_sn167 {N : Nat} {K48 : Nat → Int32 → Int32 → Int32 → Int32 → Int32 → Int32 → eH → Option (Int32 × eH)} {K : Nat → Int32 → Int32 → Int32 → Int32 → Int32 → Int32 → Int32 → eH → Option (Int32 × eH)} {l1 l3 l4 l5 l6 : Int32} {P : Nat} (hb1 : b < 4) (hP : P < 656) {p : Nat → Bool} (hp : I 135 P = hb p 4) (st : Bool) : F_X12_sends_167 N K48 K (B + 125) l1 (nI b) l3 l4 l5 l6 (nI i) (nI P) (b2 st) (HP B I J) = K (B + 125) l1 (nI b) l3 l4 l5 l6 (nI (i + 1)) (HP B (w2 I 135 P (hb (fun u => if u = b then st else p u) 4)) J) := by
  unfold F_X12_sends_167 F_X12_sends_207
  simp only [M_gr14, Option.bind_some, R_ai135 hP, R_si135 hP, hp, hb_rem _ hb1, hb_add _ hb1, b2_0, nI_1]
  cases st
  · rw [if_pos rfl]
    congr 3
    refine hb_cong (fun u _ => ?_)
    by_cases e : u = b <;> simp [e]
  · rw [if_neg (by decide)]
    congr 3
    refine hb_cong (fun u _ => ?_)
    by_cases e : u = b <;> simp [e]
theorem y_sn60 {N : Nat} {K48 : Nat → Int32 → Int32 → Int32 → Int32 → Int32 → Int32 → eH → Option (Int32 × eH)} {K : Nat → Int32 → Int32 → Int32 → Int32 → Int32 → Int32 → Int32 → eH → Option (Int32 × eH)} {I2 : Nat → Nat → Int32} (hk : k < 4) (ha : a < 4) (hb1 : b < 4) (ht : t < 4) (h : MoK k I J y) (hI : ∀ d z, d ≠ 135 → I2 d z = I d z) (hP : I2 135 (164 * k + plp (40 * t + i)) = I 135 (164 * k + plp (40 * t + i))) (hi : i < kM y t) (hM : kM y t ≤ 40) (hR : ∀ s, s < 4 → ∀ t, t < 4 → kR y s t ≤ 40) : F_X12_sends_60b N K48 K (B + 125) (nI a) (nI b) (nI k) (nI (16 * k + 4 * a)) (nI (16 * k + 4 * b)) (nI t) (nI (i + 1)) (HP B I2 J) = K (B + 125) (nI a) (nI b) (nI k) (nI (16 * k + 4 * a)) (nI (16 * k + 4 * b)) (nI t) (nI (i + 1 + 1)) (HP B (w2 I2 135 (164 * k + plp (40 * t + i)) (nbs y b a (plp (40 * t + i)))) J) := by
  have hj : 40 * t + i < 160 := by omega
  have hp := plp_lt hj
  have hpp : 164 * k + plp (40 * t + i) < 656 := by omega
  have g1 : I2 135 (164 * k + plp (40 * t + i)) = hb (fun s => kS y (4 + s) (40 * t + i)) 4 := hP.trans (Y_besideJ h hj)
  have g2 : I2 136 (4 * k + t) = nI (kM y t) := (hI _ _ (by decide)).trans (Y_made h ht)
  have g3 : I2 137 (16 * k + 4 * a + t) = nI (kR y a t) := (hI _ _ (by decide)).trans (Y_row h ha ht)
  have g4 : I2 137 (16 * k + 4 * b + t) = nI (kR y b t) := (hI _ _ (by decide)).trans (Y_row h hb1 ht)
  have r1 := hR a ha t ht
  have r2 := hR b hb1 t ht
  have key : ∀ (st : Bool) (v : Int32), v = b2 st → st = stay y b a (40 * t + i) → F_X12_sends_167 N K48 K (B + 125) (nI a) (nI b) (nI k) (nI (16 * k + 4 * a)) (nI (16 * k + 4 * b)) (nI t) (nI (i + 1)) (nI (164 * k + plp (40 * t + i))) v (HP B I2 J) = K (B + 125) (nI a) (nI b) (nI k) (nI (16 * k + 4 * a)) (nI (16 * k + 4 * b)) (nI t) (nI (i + 1 + 1)) (HP B (w2 I2 135 (164 * k + plp (40 * t + i)) (nbs y b a (plp (40 * t + i)))) J) := by
    intro st v hv hst
    rw [hv, s_sn167 hb1 hpp g1 st]
    congr 3
    unfold nbs
    refine hb_cong (fun u hu => ?_)
    rw [plc_p, oRc_S]
    by_cases e : u = b
    · simp only [if_pos e, if_pos (show 4 + u = 4 + b by omega), hst]
    · simp only [if_neg e, if_neg (show ¬ 4 + u = 4 + b by omega)]
  have key1 := key true 1 rfl
  have key0 := key false 0 rfl
  have c1 : cov (kR y a) (40 * t + i) = decide (i < kR y a t) := cov_ti _ (by omega)
  have c2 : cov (kR y b) (40 * t + i) = decide (i < kR y b t) := cov_ti _ (by omega)
  unfold F_X12_sends_60b F_X12_sends_122 F_X12_sends_142 F_X12_sends_162 F_X12_sends_166
  simp only [M_gr15, M_gr14, M_gr16, n_4, nI_add, R_ai136 (show 4 * k + t < 16 by omega), g2, Option.bind_some, if_neg (nI_nlt (show i + 1 ≤ kM y t from hi) (show kM y t < 2 ^ 31 by omega)), at_ti k (show i < 40 by omega), e_bind_some, R_ai135 hpp, g1, hb_has _ ha, hb_has _ hb1, b2_0, R_ai137 (show 16 * k + 4 * a + t < 64 by omega), R_ai137 (show 16 * k + 4 * b + t < 64 by omega), g3, g4, nI_ltI (show kR y a t < 2 ^ 31 by omega) (show i + 1 < 2 ^ 31 by omega), nI_leI (show i + 1 < 2 ^ 31 by omega) (show kR y b t < 2 ^ 31 by omega)]
  cases q1 : kS y (4 + a) (40 * t + i) <;> cases q2 : kS y (4 + b) (40 * t + i) <;> by_cases q3 : i < kR y a t <;> by_cases q4 : i < kR y b t <;> simp only [show (kR y a t < i + 1) = ¬ (i < kR y a t) from propext ⟨fun h => by omega, fun h => by omega⟩, show (i + 1 ≤ kR y b t) = (i < kR y b t) from rfl, q3, q4, if_true, if_false, Bool.true_eq_false, not_true, not_false_eq_true] <;> first | exact key1 (by unfold stay; simp [q1, q2, c1, c2, q3, q4]) | exact key0 (by unfold stay; simp [q1, q2, c1, c2, q3, q4])
theorem y_sends {N : Nat} (hN : 300 < N) (hk : k < 4) (ha : a < n) (hb1 : b < n) (hab : a ≠ b) (h : MoK k I J y) (hW : WFK n m y) (hm : m < 2 ^ 30) (h0 : I 125 0 = nI n) (hn : n ≤ 4) (hB : I 125 1 = nI c) (hc : c < 2 ^ 31) : ∃ I2, L_X12_sends_48 N (B + 125) (nI a) (nI b) (nI k) (nI (16 * k + 4 * a)) (nI (16 * k + 4 * b)) 0 (HP B I J) = some (nI (ct (kS (oSe y b a c) (4 + b)) 160), HP B I2 J) ∧ MoK k I2 J (oSe y b a c) ∧ frQ k I J I2 J := by
  have hR : ∀ s, s < 4 → ∀ t, t < 4 → kR y s t ≤ 40 := fun s hs t ht => Nat.le_trans (hW.2.1 s hs t ht).1 (hW.1 t ht).1
  have hcv : ∀ f, f < 8 → ∀ j, j < 160 → kS y f j = true → cov (kM y) j = true := hW.2.2.2.1
  have ha4 : a < 4 := by omega
  have hb4 : b < 4 := by omega
  have same := fun (p : Nat) (hp : p < 164) hnn => nbs_same (p := p) hk h hcv hb4 ha4 hp hnn
  have inner : ∀ (K48 : Nat → Int32 → Int32 → Int32 → Int32 → Int32 → Int32 → eH → Option (Int32 × eH)) (t : Nat), t < 4 → L_X12_sends_60 N K48 (B + 125) (nI a) (nI b) (nI k) (nI (16 * k + 4 * a)) (nI (16 * k + 4 * b)) (nI t) 1 (HP B (wO I 135 (164 * k) (41 * t) (nbs y b a)) J) = K48 (B + 125) (nI a) (nI b) (nI k) (nI (16 * k + 4 * a)) (nI (16 * k + 4 * b)) (nI (t + 1)) (HP B (wO I 135 (164 * k) (41 * (t + 1)) (nbs y b a)) J) := by
    intro K48 t ht
    have hMt := (hW.1 t ht).1
    rw [wO_skip I 135 (164 * k) (41 * t) (nbs y b a) 1 (fun q h1 h2 => same q (by omega) (Or.inl (by omega)))]
    unfold L_X12_sends_60
    have e1 := e_loop_f (body := fun (k : Nat × Int32 × Int32 × Int32 × Int32 × Int32 × Int32 × Int32 × eH → Option (Int32 × eH)) s => F_X12_sends_60b N K48 (fun l0 l1 l2 l3 l4 l5 l6 l7 h => k (l0, l1, l2, l3, l4, l5, l6, l7, h)) s.1 s.2.1 s.2.2.1 s.2.2.2.1 s.2.2.2.2.1 s.2.2.2.2.2.1 s.2.2.2.2.2.2.1 s.2.2.2.2.2.2.2.1 s.2.2.2.2.2.2.2.2) (fun i => (B + 125, nI a, nI b, nI k, nI (16 * k + 4 * a), nI (16 * k + 4 * b), nI t, nI (i + 1), HP B (wO I 135 (164 * k) (41 * t + 1 + i) (nbs y b a)) J)) (kM y t) (N := N) (fun i hi k0 => by
      show F_X12_sends_60b N K48 _ (B + 125) (nI a) (nI b) (nI k) (nI (16 * k + 4 * a)) (nI (16 * k + 4 * b)) (nI t) (nI (i + 1)) (HP B (wO I 135 (164 * k) (41 * t + 1 + i) (nbs y b a)) J) = k0 _
      have e := plp_ti (t := t) (show i < 40 by omega)
      rw [y_sn60 (I := I) hk ha4 hb4 ht h (fun d z hd => wO_c _ _ _ _ hd) (wO_out _ _ _ _ _ (Or.inr (by omega))) hi hMt hR, e, show 41 * t + (i + 1) = 41 * t + 1 + i by omega, wO_s]
      rfl) (by omega)
    refine Eq.trans e1 ?_
    show F_X12_sends_60b N K48 _ (B + 125) (nI a) (nI b) (nI k) (nI (16 * k + 4 * a)) (nI (16 * k + 4 * b)) (nI t) (nI ((kM y t) + 1)) (HP B (wO I 135 (164 * k) (41 * t + 1 + (kM y t)) (nbs y b a)) J) = _
    unfold F_X12_sends_60b
    have g2 : wO I 135 (164 * k) (41 * t + 1 + kM y t) (nbs y b a) 136 (4 * k + t) = nI (kM y t) := (wO_c _ _ _ _ (by decide)).trans (Y_made h ht)
    simp only [M_gr15, n_4, nI_add, R_ai136 (show 4 * k + t < 16 by omega), g2, Option.bind_some, if_pos (nI_lt (show kM y t < kM y t + 1 by omega) (show kM y t + 1 < 2 ^ 31 by omega)), nI_1]
    rw [wO_skip I 135 (164 * k) (41 * t + 1 + kM y t) (nbs y b a) (40 - kM y t) (fun q h1 h2 => same q (by omega) (Or.inr (by
      unfold cov plj
      rw [show (40 * (q / 41) + (q % 41 - 1)) / 40 = t by omega]
      exact decide_eq_false (by omega)))), show 41 * t + 1 + kM y t + (40 - kM y t) = 41 * (t + 1) by omega]
  obtain ⟨I1, hI1⟩ : ∃ I1, I1 = wO I 135 (164 * k) 164 (nbs y b a) := ⟨_, rfl⟩
  have f1 : ∀ d z, d ≠ 135 → I1 d z = I d z := fun d z hd => by rw [hI1]; exact wO_c _ _ _ _ hd
  obtain ⟨I2, hI2⟩ : ∃ I2, I2 = wO I1 137 (16 * k + 4 * b) 4 (fun t => nI (max (kR y b t) (kR y a t))) := ⟨_, rfl⟩
  have f2 : ∀ d z, d ≠ 137 → I2 d z = I1 d z := fun d z hd => by rw [hI2]; exact wO_c _ _ _ _ hd
  have hMo2 : MoK k I2 J (oRc y b a) := by
    obtain ⟨h1, h2, h3, h4, h5, h6⟩ := h
    refine ⟨fun t ht => ?_, fun s hs t ht => ?_, ?_, fun p hp => ?_, fun f hf p hp => ?_, fun j hj hcj => ?_⟩
    · rw [f2 _ _ (by decide), f1 _ _ (by decide)]; exact h1 t ht
    · show I2 137 (16 * k + 4 * s + t) = nI ((if s = b then fun t => max (kR y b t) (kR y a t) else kR y s) t)
      rw [hI2]
      by_cases e : s = b
      · subst e
        rw [if_pos rfl]
        exact wO_in _ _ _ _ _ ht
      · rw [if_neg e, wO_out _ _ _ _ _ (by omega), f1 _ _ (by decide)]; exact h2 s hs t ht
    · rw [f2 _ _ (by decide), f1 _ _ (by decide)]; exact h3
    · rw [f2 _ _ (by decide), hI1]
      exact wO_in _ _ _ _ _ hp
    · rw [f2 _ _ (by omega), f1 _ _ (by omega), h5 f hf p hp, oRc_S]
      simp only [if_neg (show ¬ f = 4 + b by omega)]
    · obtain ⟨g1, g2, g3⟩ := h6 j hj hcj
      refine ⟨?_, g2, fun t ht => ⟨?_, ?_⟩⟩
      · rw [f2 _ _ (by decide), f1 _ _ (by decide)]; exact g1
      · rw [f2 _ _ (by decide), f1 _ _ (by decide)]; exact (g3 t ht).1
      · rw [f2 _ _ (by decide), f1 _ _ (by decide)]; exact (g3 t ht).2
  have hfr : frQ k I J I2 J := by
    intro d z hdz
    refine ⟨?_, rfl⟩
    have e1 : I2 d z = I1 d z := by
      by_cases e : d = 137
      · subst e
        rw [hI2]
        refine wO_out _ _ _ _ _ ?_
        have : ¬ z / 16 = k := fun q => hdz ⟨by decide, by decide, q⟩
        omega
      · exact f2 d z e
    have e2 : I1 d z = I d z := by
      by_cases e : d = 135
      · subst e
        rw [hI1]
        refine wO_out _ _ _ _ _ ?_
        have : ¬ z / 164 = k := fun q => hdz ⟨by decide, by decide, q⟩
        omega
      · exact f1 d z e
    exact e1.trans e2
  have hmst : mst (oRc y b a) b := by
    refine ⟨fun j hj q => ?_, fun j hj q => ?_⟩
    · rw [oRc_S] at q
      simp only [if_true] at q
      unfold stay at q
      cases q1 : kS y (4 + b) j
      · cases q2 : kS y (4 + a) j
        · rw [q1, q2] at q; simp at q
        · exact hcv _ (by omega) j hj q2
      · exact hcv _ (by omega) j hj q1
    · obtain ⟨a1, a2⟩ := hW.2.2.2.2.2.1 j hj q
      exact ⟨a1, Nat.lt_of_le_of_lt a2 (by omega)⟩
  obtain ⟨I3, t1, t2, t3⟩ := y_bounds (B := B) hN hk hb4 hMo2 hmst (((hfr 125 1 (fun q => by have := q.1; omega)).1).trans hB) hc
  refine ⟨I3, ?_, t2, frQ_t hfr t3⟩
  have rows : L_X12_sends_223 N (B + 125) (nI b) (nI k) (nI (16 * k + 4 * a)) (nI (16 * k + 4 * b)) 0 (HP B I1 J) = some (nI (ct (kS (oSe y b a c) (4 + b)) 160), HP B I3 J) := by
    unfold L_X12_sends_223
    have e1 := e_loop_f (body := fun (k : Nat × Int32 × Int32 × Int32 × Int32 × Int32 × eH → Option (Int32 × eH)) s => F_X12_sends_223b N (fun l0 l2 l3 l4 l5 l6 h => k (l0, l2, l3, l4, l5, l6, h)) s.1 s.2.1 s.2.2.1 s.2.2.2.1 s.2.2.2.2.1 s.2.2.2.2.2.1 s.2.2.2.2.2.2) (fun i => (B + 125, nI b, nI k, nI (16 * k + 4 * a), nI (16 * k + 4 * b), nI i, HP B (wO I1 137 (16 * k + 4 * b) i (fun t => nI (max (kR y b t) (kR y a t)))) J)) 4 (N := N) (fun i hi k0 => by
      show F_X12_sends_223b N _ (B + 125) (nI b) (nI k) (nI (16 * k + 4 * a)) (nI (16 * k + 4 * b)) (nI i) (HP B (wO I1 137 (16 * k + 4 * b) i (fun t => nI (max (kR y b t) (kR y a t)))) J) = k0 _
      unfold F_X12_sends_223b
      have g3 : wO I1 137 (16 * k + 4 * b) i (fun t => nI (max (kR y b t) (kR y a t))) 137 (16 * k + 4 * a + i) = nI (kR y a i) := (wO_out _ _ _ _ _ (by omega)).trans ((f1 _ _ (by decide)).trans (Y_row h ha4 hi))
      have g4 : wO I1 137 (16 * k + 4 * b) i (fun t => nI (max (kR y b t) (kR y a t))) 137 (16 * k + 4 * b + i) = nI (kR y b i) := (wO_out _ _ _ _ _ (Or.inr (Nat.le_refl _))).trans ((f1 _ _ (by decide)).trans (Y_row h hb4 hi))
      have ws := wO_s I1 137 (16 * k + 4 * b) i (fun t => nI (max (kR y b t) (kR y a t)))
      have r1 := hR a ha4 i hi
      have r2 := hR b hb4 i hi
      simp only [if_neg (k4_lt i hi), M_gr16, Option.bind_some, nI_add, R_ai137 (show 16 * k + 4 * a + i < 64 by omega), R_ai137 (show 16 * k + 4 * b + i < 64 by omega), g3, g4, F_X12_sends_284, R_si137 (show 16 * k + 4 * b + i < 64 by omega), nI_1]
      by_cases e : kR y a i ≤ kR y b i
      · rw [if_pos (nI_le e (by omega))]
        simp only [Nat.max_eq_left e] at ws
        rw [ws]
      · rw [if_neg (nI_ge (by omega) (by omega))]
        simp only [Nat.max_eq_right (show kR y b i ≤ kR y a i by omega)] at ws
        rw [ws]) (by omega)
    simp only [wO_0] at e1
    refine Eq.trans e1 ?_
    show F_X12_sends_223b N _ (B + 125) (nI b) (nI k) (nI (16 * k + 4 * a)) (nI (16 * k + 4 * b)) (nI 4) (HP B (wO I1 137 (16 * k + 4 * b) 4 (fun t => nI (max (kR y b t) (kR y a t)))) J) = _
    unfold F_X12_sends_223b
    rw [if_pos k4_n, ← hI2]
    simp only [M_is, Option.bind_some, t1, e_bind_some, y_siblings (B := B) (show 200 < N by omega) hk hb4 t2]
    rfl
  unfold L_X12_sends_48
  have e1 := e_loop_f (body := fun (k : Nat × Int32 × Int32 × Int32 × Int32 × Int32 × Int32 × eH → Option (Int32 × eH)) s => F_X12_sends_48b N (fun l0 l1 l2 l3 l4 l5 l6 h => k (l0, l1, l2, l3, l4, l5, l6, h)) s.1 s.2.1 s.2.2.1 s.2.2.2.1 s.2.2.2.2.1 s.2.2.2.2.2.1 s.2.2.2.2.2.2.1 s.2.2.2.2.2.2.2) (fun i => (B + 125, nI a, nI b, nI k, nI (16 * k + 4 * a), nI (16 * k + 4 * b), nI i, HP B (wO I 135 (164 * k) (41 * i) (nbs y b a)) J)) (n) (N := N) (fun i hi k0 => by
    show F_X12_sends_48b N _ (B + 125) (nI a) (nI b) (nI k) (nI (16 * k + 4 * a)) (nI (16 * k + 4 * b)) (nI i) (HP B (wO I 135 (164 * k) (41 * i) (nbs y b a)) J) = k0 _
    unfold F_X12_sends_48b
    have g0 : wO I 135 (164 * k) (41 * i) (nbs y b a) 125 0 = nI n := (wO_c _ _ _ _ (by decide)).trans h0
    simp only [M_gi0, g0, Option.bind_some, if_neg (nI_ge hi (show n < 2 ^ 31 by omega))]
    exact inner _ i (by omega)) (by omega)
  simp only [Nat.mul_zero, wO_0] at e1
  refine Eq.trans e1 ?_
  show F_X12_sends_48b N _ (B + 125) (nI a) (nI b) (nI k) (nI (16 * k + 4 * a)) (nI (16 * k + 4 * b)) (nI n) (HP B (wO I 135 (164 * k) (41 * n) (nbs y b a)) J) = _
  unfold F_X12_sends_48b
  have g0 : wO I 135 (164 * k) (41 * n) (nbs y b a) 125 0 = nI n := (wO_c _ _ _ _ (by decide)).trans h0
  simp only [M_gi0, g0, Option.bind_some, if_pos (nI_le (Nat.le_refl n) (show n < 2 ^ 31 by omega))]
  rw [wO_skip I 135 (164 * k) (41 * n) (nbs y b a) (164 - 41 * n) (fun q h1 h2 => same q (by omega) (Or.inr (by
    have := (hW.1 (plj q / 40) (by have := plj_lt (show q < 164 by omega); omega)).2 (by unfold plj; omega)
    unfold cov
    rw [this]
    exact decide_eq_false (Nat.not_lt_zero _)))), show 41 * n + (164 - 41 * n) = 164 by omega, ← hI1]
  exact rows

theorem m_sends_ok {N : Nat} (hN : 300 < N) (h : Mo I J x) (w : WF x) (ha : a < zN x) (hb1 : b < zN x) (hab : a ≠ b) (hk : k < zK x) : ∃ I2, F_X12_sends N (B + 125) (nI a) (nI b) (nI k) (HP B I J) = some (nI (ct (kS (oSe (zS x k) b a (zB x)) (4 + b)) 160), HP B I2 J) ∧ Mo I2 J (oK x k (oSe (zS x k) b a (zB x))) ∧ frR I J I2 J := by
  have h4 : k < 4 := Nat.lt_of_lt_of_le hk w.2.2.2.1
  have hn := w.1.2
  have hT : zT x ≤ 1000 := w.2.2.2.2.1
  obtain ⟨I2, e1, e2, e3⟩ := y_sends (B := B) hN h4 ha hb1 hab (Mo_k h h4) (WF_k w h4) (by omega) h.1.1 hn h.1.2.1 (by have := w.2.1.2; omega)
  refine ⟨I2, ?_, Mo_K h4 h e3 rfl e2, frQ_R e3⟩
  unfold F_X12_sends
  simp only [M_is, Option.bind_some, X_site_ok h w ha, X_site_ok h w hb1, X_key_ok h w hk, e_bind_some, if_neg (show ¬ (1 : Int32) = 0 by decide), if_neg (fun q => hab ((nI_eq (show a < 2 ^ 31 by omega) (show b < 2 ^ 31 by omega)).mp q)), X_rowAt]
  exact e1
end RSEND
