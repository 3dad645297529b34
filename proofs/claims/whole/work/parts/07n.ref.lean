/-! REFERENCE: comes -/
theorem w2_ne {α : Type} {I : Nat → Nat → α} {c k c2 k2 : Nat} {v : α} (h : c2 = c → k2 = k → False) : w2 I c k v c2 k2 = I c2 k2 := if_neg (fun q => h q.1 q.2)
section RCOMES
variable {B : Nat} {I : Nat → Nat → Int32} {J : Nat → Nat → Int64} {x : eST} {z : eKS} {a b c k l s t i j n m T : Nat} {mt mk : Nat → Nat} {v : Int64}
/-- a key with a new write as a sibling more -/
def oCm (z : eKS) (s : Nat) (v : Int64) (st : Nat) (mt mk : Nat → Nat) : eKS :=
  oS (oW (oRw z s (fun t => if t = s then kR z s s + 1 else max (kR z s t) (mt t))) s (kR z s s + 1) v st mt mk) (4 + s) (fun y => kS z (4 + s) y || decide (y = 40 * s + kR z s s))
theorem oCm_T (y : eKS) (s : Nat) (v : Int64) (st : Nat) (mt mk : Nat → Nat) : oCm (oT3 y s mt mk) s v st mt mk = oT y s v st mt mk := rfl
theorem oCm_M (z : eKS) (s : Nat) (v : Int64) (st : Nat) (mt mk : Nat → Nat) : kM (oCm z s v st mt mk) = fun t => if t = s then kR z s s + 1 else kM z t := rfl
theorem oCm_S (z : eKS) (s : Nat) (v : Int64) (st : Nat) (mt mk : Nat → Nat) : kS (oCm z s v st mt mk) = fun f => if f = 4 + s then (fun y => kS z (4 + s) y || decide (y = 40 * s + kR z s s)) else kS z f := rfl
theorem oCm_cov (hM : kM z s = kR z s s) (hn : kR z s s < 40) {st : Nat} (hj : j < 160) : cov (kM (oCm z s v st mt mk)) j = (cov (kM z) j || decide (j = 40 * s + kR z s s)) := by
  rw [oCm_M]
  unfold cov
  by_cases e : j / 40 = s
  · simp only [if_pos e]
    rw [e, hM]
    apply Bool.eq_iff_iff.mpr
    rw [Bool.or_eq_true, decide_eq_true_eq, decide_eq_true_eq, decide_eq_true_eq]
    omega
  · simp only [if_neg e]
    rw [decide_eq_false (show ¬ j = 40 * s + kR z s s by omega), Bool.or_false]
theorem y_comes {N : Nat} (hN : 300 < N) (hk : k < 4) (hs : s < 4) (h : MoK k I J z) (hM : kM z s = kR z s s) (hn : kR z s s < 40) (hMb : ∀ t, t < 4 → kM z t ≤ 40) (hRM : ∀ t, t < 4 → kR z s t ≤ 40) (hmt : ∀ t, t < 4 → mt t ≤ 40) (hcv : ∀ f, f < 8 → ∀ j, j < 160 → kS z f j = true → cov (kM z) j = true) (hst : ∀ j, j < 160 → cov (kM z) j = true → 0 < kSt z j ∧ kSt z j < 2 ^ 31) (hto : ∀ t, t < 4 → I 129 (4 * (164 * k + plp (40 * s + kR z s s)) + t) = nI (mt t) ∧ I 130 (4 * (164 * k + plp (40 * s + kR z s s)) + t) = nI (mk t)) (hT : I 125 5 = nI T) (hT2 : T < 2 ^ 30) (hB : I 125 1 = nI b) (hb2 : b < 2 ^ 31) : ∃ I2 J2, F_X12_comes N (B + 125) (nI k) (nI s) v (HP B I J) = some (nI (kR z s s + 1), HP B I2 J2) ∧ MoK k I2 J2 (uS (oCm z s v (T + 1) mt mk) (drn (kSt (oCm z s v (T + 1) mt mk)) s (kS (oCm z s v (T + 1) mt mk)) (ct (kS (oCm z s v (T + 1) mt mk) (4 + s)) 160 - b))) ∧ frQ k (w2 I 125 5 (nI (T + 1))) J I2 J2 := by
  have hd : 40 * s + kR z s s < 160 := by omega
  have hp := plp_lt hd
  have hcd : cov (kM z) (40 * s + kR z s s) = false := by rw [cov_ti _ hn, hM]; exact decide_eq_false (Nat.lt_irrefl _)
  obtain ⟨W, hW⟩ : ∃ W, W = 164 * k + plp (40 * s + kR z s s) := ⟨_, rfl⟩
  have hW6 : W < 656 := by omega
  obtain ⟨I1, hI1⟩ : ∃ I1, I1 = w2 I 136 (4 * k + s) (nI (kR z s s + 1)) := ⟨_, rfl⟩
  obtain ⟨I2, hI2⟩ : ∃ I2, I2 = w2 I1 125 5 (nI (T + 1)) := ⟨_, rfl⟩
  obtain ⟨I3, hI3⟩ : ∃ I3, I3 = w2 I2 128 W (nI (T + 1)) := ⟨_, rfl⟩
  obtain ⟨J3, hJ3⟩ : ∃ J3, J3 = w2 J 127 W v := ⟨_, rfl⟩
  obtain ⟨I4, hI4⟩ : ∃ I4, I4 = wO I3 137 (16 * k + 4 * s) 4 (fun t => nI (if t = s then kR z s s + 1 else max (kR z s t) (mt t))) := ⟨_, rfl⟩
  obtain ⟨I5, hI5⟩ : ∃ I5, I5 = w2 I4 135 W (hb (fun u => decide (u = s)) 4) := ⟨_, rfl⟩
  have f3 : ∀ d q, d ≠ 136 → d ≠ 125 → d ≠ 128 → I3 d q = I d q := fun d q h1 h2 h3 => by rw [hI3, w2_c _ _ h3, hI2, w2_c _ _ h2, hI1, w2_c _ _ h1]
  have f5 : ∀ d q, d ≠ 136 → d ≠ 125 → d ≠ 128 → d ≠ 137 → d ≠ 135 → I5 d q = I d q := fun d q h1 h2 h3 h4 h5 => by rw [hI5, w2_c _ _ h5, hI4, wO_c _ _ _ _ h4, f3 d q h1 h2 h3]
  have hfr : frQ k (w2 I 125 5 (nI (T + 1))) J I5 J3 := by
    intro d q hdq
    refine ⟨?_, ?_⟩
    · rw [hI5, w2_ne (fun e1 e2 => hdq (by rw [e1, e2, hW]; exact inK_a (by decide) hp)), hI4]
      have e4 : wO I3 137 (16 * k + 4 * s) 4 (fun t => nI (if t = s then kR z s s + 1 else max (kR z s t) (mt t))) d q = I3 d q := by
        by_cases e : d = 137
        · subst e
          refine wO_out _ _ _ _ _ ?_
          have : ¬ q / 16 = k := fun r => hdq ⟨by decide, by decide, r⟩
          omega
        · exact wO_c _ _ _ _ e
      rw [e4, hI3, w2_ne (fun e1 e2 => hdq (by rw [e1, e2, hW]; exact inK_a (by decide) hp)), hI2]
      by_cases e : d = 125 ∧ q = 5
      · rw [e.1, e.2, w2_s, w2_s]
      · rw [w2_ne (fun e1 e2 => e ⟨e1, e2⟩), w2_ne (fun e1 e2 => e ⟨e1, e2⟩), hI1]
        exact w2_ne (fun e1 e2 => hdq (by rw [e1, e2]; exact ⟨by decide, by decide, by show (4 * k + s) / 4 = k; omega⟩))
    · rw [hJ3]
      exact w2_ne (fun e1 e2 => hdq (by rw [e1, e2, hW]; exact inK_a (by decide) hp))
  have hplp : ∀ j, j ≠ 40 * s + kR z s s → 164 * k + plp j ≠ W := fun j hj e => hj (plp_i.mp (by omega))
  have hMo5 : MoK k I5 J3 (oCm z s v (T + 1) mt mk) := by
    obtain ⟨h1, h2, h3, h4, h5, h6⟩ := h
    refine ⟨fun t ht => ?_, fun a ha t ht => ?_, ?_, fun p hp2 => ?_, fun f hf p hp2 => ?_, fun j hj hcj => ?_⟩
    · rw [hI5, w2_c _ _ (by decide), hI4, wO_c _ _ _ _ (by decide), hI3, w2_c _ _ (by decide), hI2, w2_c _ _ (by decide), hI1, oCm_M]
      by_cases e : t = s
      · simp only [if_pos e]; rw [e, w2_s]
      · simp only [if_neg e]; rw [w2_k _ _ (by omega)]; exact h1 t ht
    · show I5 137 (16 * k + 4 * a + t) = nI ((if a = s then (fun t => if t = s then kR z s s + 1 else max (kR z s t) (mt t)) else kR z a) t)
      rw [hI5, w2_c _ _ (by decide), hI4]
      by_cases e : a = s
      · rw [if_pos e, e]
        exact wO_in _ _ _ _ _ ht
      · rw [if_neg e, wO_out _ _ _ _ _ (by omega), f3 _ _ (by decide) (by decide) (by decide)]; exact h2 a ha t ht
    · rw [f5 _ _ (by decide) (by decide) (by decide) (by decide) (by decide)]; exact h3
    · rw [hI5, oCm_S]
      by_cases e : p = plp (40 * s + kR z s s)
      · rw [e, ← hW, w2_s]
        refine hb_cong (fun u hu => ?_)
        rw [plc_p]
        by_cases q : u = s
        · simp only [q, if_true, decide_true, Bool.or_true]
        · simp only [if_neg (show ¬ 4 + u = 4 + s by omega), decide_eq_false q]
          cases e2 : kS z (4 + u) (40 * s + kR z s s)
          · rfl
          · rw [hcv (4 + u) (by omega) _ hd e2] at hcd; cases hcd
      · rw [w2_k _ _ (by omega), hI4, wO_c _ _ _ _ (by decide), f3 _ _ (by decide) (by decide) (by decide), h4 p hp2]
        refine hb_cong (fun u hu => ?_)
        by_cases q : u = s
        · simp only [q, if_true]; rw [plc_or, decide_eq_false e, Bool.or_false]
        · simp only [if_neg (show ¬ 4 + u = 4 + s by omega)]
    · rw [f5 _ _ (by omega) (by omega) (by omega) (by omega) (by omega), h5 f hf p hp2, oCm_S]
      simp only [if_neg (show ¬ f = 4 + s by omega)]
    · rw [oCm_cov hM hn hj, Bool.or_eq_true, decide_eq_true_eq] at hcj
      show I5 128 (164 * k + plp j) = nI (if j = 40 * s + (kR z s s + 1 - 1) then T + 1 else kSt z j) ∧ J3 127 (164 * k + plp j) = (if j = 40 * s + (kR z s s + 1 - 1) then v else kV z j) ∧ ∀ t, t < 4 → I5 129 (4 * (164 * k + plp j) + t) = nI ((if j = 40 * s + (kR z s s + 1 - 1) then mt else kTo z j) t) ∧ I5 130 (4 * (164 * k + plp j) + t) = nI ((if j = 40 * s + (kR z s s + 1 - 1) then mk else kKn z j) t)
      rw [Nat.add_sub_cancel]
      have e128 : I5 128 (164 * k + plp j) = I3 128 (164 * k + plp j) := by rw [hI5, w2_c _ _ (by decide), hI4, wO_c _ _ _ _ (by decide)]
      rw [e128]
      by_cases e : j = 40 * s + kR z s s
      · refine ⟨?_, ?_, fun t ht => ⟨?_, ?_⟩⟩
        · rw [if_pos e, e, ← hW, hI3, w2_s]
        · rw [if_pos e, e, ← hW, hJ3, w2_s]
        · rw [if_pos e, f5 _ _ (by decide) (by decide) (by decide) (by decide) (by decide), e]; exact (hto t ht).1
        · rw [if_pos e, f5 _ _ (by decide) (by decide) (by decide) (by decide) (by decide), e]; exact (hto t ht).2
      · obtain ⟨g1, g2, g3⟩ := h6 j hj (hcj.resolve_right e)
        refine ⟨?_, ?_, fun t ht => ⟨?_, ?_⟩⟩
        · rw [if_neg e, hI3, w2_k _ _ (hplp j e), hI2, w2_c _ _ (by decide), hI1, w2_c _ _ (by decide)]; exact g1
        · rw [if_neg e, hJ3, w2_k _ _ (hplp j e)]; exact g2
        · rw [if_neg e, f5 _ _ (by decide) (by decide) (by decide) (by decide) (by decide)]; exact (g3 t ht).1
        · rw [if_neg e, f5 _ _ (by decide) (by decide) (by decide) (by decide) (by decide)]; exact (g3 t ht).2
  have hmst : mst (oCm z s v (T + 1) mt mk) s := by
    refine ⟨fun j hj q => ?_, fun j hj q => ?_⟩
    · rw [oCm_S] at q
      simp only [if_true] at q
      rw [oCm_cov hM hn hj]
      rw [Bool.or_eq_true] at q ⊢
      exact q.imp (fun q => hcv (4 + s) (by omega) j hj q) id
    · rw [oCm_cov hM hn hj, Bool.or_eq_true, decide_eq_true_eq] at q
      show 0 < (if j = 40 * s + (kR z s s + 1 - 1) then T + 1 else kSt z j) ∧ (if j = 40 * s + (kR z s s + 1 - 1) then T + 1 else kSt z j) < 2 ^ 31
      rw [Nat.add_sub_cancel]
      by_cases e : j = 40 * s + kR z s s
      · rw [if_pos e]; omega
      · rw [if_neg e]; exact hst j hj (q.resolve_right e)
  have hB5 : I5 125 1 = nI b := by
    rw [hI5, w2_c _ _ (by decide), hI4, wO_c _ _ _ _ (by decide), hI3, w2_c _ _ (by decide), hI2, w2_k _ _ (by decide), hI1, w2_c _ _ (by decide)]; exact hB
  obtain ⟨I6, t1, t2, t3⟩ := y_bounds (B := B) hN hk hs hMo5 hmst hB5 hb2
  refine ⟨I6, J3, ?_, t2, frQ_t hfr t3⟩
  have rows : L_X12_comes_74 N (B + 125) (nI k) (nI s) (nI (16 * k + 4 * s)) (nI (kR z s s + 1)) (nI W) 0 (HP B I3 J3) = some (nI (kR z s s + 1), HP B I6 J3) := by
    unfold L_X12_comes_74
    have e1 := e_loop_f (body := fun (k : Nat × Int32 × Int32 × Int32 × Int32 × Int32 × Int32 × eH → Option (Int32 × eH)) s => F_X12_comes_74b N (fun l0 l1 l2 l5 l6 l7 l8 h => k (l0, l1, l2, l5, l6, l7, l8, h)) s.1 s.2.1 s.2.2.1 s.2.2.2.1 s.2.2.2.2.1 s.2.2.2.2.2.1 s.2.2.2.2.2.2.1 s.2.2.2.2.2.2.2) (fun i => (B + 125, nI k, nI s, nI (16 * k + 4 * s), nI (kR z s s + 1), nI W, nI i, HP B (wO I3 137 (16 * k + 4 * s) i (fun t => nI (if t = s then kR z s s + 1 else max (kR z s t) (mt t)))) J3)) 4 (N := N) (fun i hi k0 => by
      show F_X12_comes_74b N _ (B + 125) (nI k) (nI s) (nI (16 * k + 4 * s)) (nI (kR z s s + 1)) (nI W) (nI i) (HP B (wO I3 137 (16 * k + 4 * s) i (fun t => nI (if t = s then kR z s s + 1 else max (kR z s t) (mt t)))) J3) = k0 _
      unfold F_X12_comes_74b
      have g3 : wO I3 137 (16 * k + 4 * s) i (fun t => nI (if t = s then kR z s s + 1 else max (kR z s t) (mt t))) 129 (4 * W + i) = nI (mt i) := (wO_c _ _ _ _ (by decide)).trans ((f3 _ _ (by decide) (by decide) (by decide)).trans (by rw [hW]; exact (hto i hi).1))
      have g4 : wO I3 137 (16 * k + 4 * s) i (fun t => nI (if t = s then kR z s s + 1 else max (kR z s t) (mt t))) 137 (16 * k + 4 * s + i) = nI (kR z s i) := (wO_out _ _ _ _ _ (Or.inr (Nat.le_refl _))).trans ((f3 _ _ (by decide) (by decide) (by decide)).trans (Y_row h hs hi))
      have ws := wO_s I3 137 (16 * k + 4 * s) i (fun t => nI (if t = s then kR z s s + 1 else max (kR z s t) (mt t)))
      have r1 := hRM i hi
      have r2 := hmt i hi
      simp only [if_neg (k4_lt i hi), M_gr16, M_gr8, Option.bind_some, n_4, nI_add, R_ai129 (show 4 * W + i < 2624 by omega), R_ai137 (show 16 * k + 4 * s + i < 64 by omega), g3, g4, F_X12_comes_150, R_si137 (show 16 * k + 4 * s + i < 64 by omega), nI_1]
      by_cases q : i = s
      · rw [if_pos (by rw [q])]
        simp only [if_pos q] at ws
        rw [ws]
      · rw [if_neg (fun e => q ((nI_eq (by omega) (by omega)).mp e))]
        simp only [if_neg q] at ws
        by_cases e : mt i ≤ kR z s i
        · rw [if_pos (nI_le e (by omega))]
          simp only [Nat.max_eq_left e] at ws
          rw [ws]
        · rw [if_neg (nI_ge (by omega) (by omega))]
          simp only [Nat.max_eq_right (show kR z s i ≤ mt i by omega)] at ws
          rw [ws]) (by omega)
    simp only [wO_0] at e1
    refine Eq.trans e1 ?_
    show F_X12_comes_74b N _ (B + 125) (nI k) (nI s) (nI (16 * k + 4 * s)) (nI (kR z s s + 1)) (nI W) (nI 4) (HP B (wO I3 137 (16 * k + 4 * s) 4 (fun t => nI (if t = s then kR z s s + 1 else max (kR z s t) (mt t)))) J3) = _
    unfold F_X12_comes_74b
    rw [if_pos k4_n, ← hI4, hb_one hs]
    simp only [M_gr14, Option.bind_some, R_si135 hW6, ← hI5, M_is, t1, e_bind_some]
  have g1 : I 136 (4 * k + s) = nI (kR z s s) := by rw [Y_made h hs, hM]
  have g2 : w2 I 136 (4 * k + s) (nI (kR z s s + 1)) 136 (4 * k + s) = nI (kR z s s + 1) := w2_s _ _ _ _
  have g3 : I1 125 5 = nI T := by rw [hI1, w2_c _ _ (by decide)]; exact hT
  have g4 : I2 125 5 = nI (T + 1) := by rw [hI2, w2_s]
  have hat : ∀ hh, F_X12_at (nI k) (nI s) (nI (kR z s s + 1)) hh = some (nI W, hh) := fun hh => by rw [at_ti k hn, hW]
  unfold F_X12_comes
  simp only [X_rowAt, e_bind_some, M_gr15, n_4, nI_add, R_ai136 (show 4 * k + s < 16 by omega), R_si136 (show 4 * k + s < 16 by omega), Option.bind_some, g1, nI_1, ← hI1]
  rw [show I1 136 (4 * k + s) = nI (kR z s s + 1) by rw [hI1]; exact g2]
  simp only [hat, e_bind_some, M_gi5, g3, Option.bind_some, nI_1, M_p5, ← hI2, M_gr7, g4, R_si128 hW6, ← hI3, M_gr6, R_sl127 hW6, ← hJ3]
  exact rows
end RCOMES
