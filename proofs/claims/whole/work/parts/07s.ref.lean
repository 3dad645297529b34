/-! REFERENCE: merges -/
section RMERGE
variable {B : Nat} {I I2 I3 : Nat → Nat → Int32} {J : Nat → Nat → Int64} {x : eST} {y z : eKS} {a b c k l s t i j n m T W r : Nat} {u v : Int32} {val : Int64}
theorem m_merges_no (h : Mo I J x) (w : WF x) {N : Nat} (hv : nix u (zN x) ∨ nix v (zK x)) : F_X12_merges N (B + 125) u v (HP B I J) = some (-1, HP B I J) := by
  have h1 := w.1.2
  have h2 := w.2.2.2.1
  unfold F_X12_merges
  rcases nix_c u (show zN x < 2 ^ 31 by omega) with e | ⟨s, hs, rfl⟩
  · simp only [M_is, Option.bind_some, X_site_no h w e, e_bind_some, if_true]
  · have e : nix v (zK x) := hv.resolve_left (nix_not hs (by omega))
    simp only [M_is, Option.bind_some, X_site_ok h w hs, X_key_no h w e, e_bind_some, if_true, if_neg (show ¬ (1 : Int32) = 0 by decide)]
theorem m_merges_rule {N : Nat} (hN : 300 < N) (h : Mo I J x) (w : WF x) (hs : s < zN x) (hk : k < zK x) (hf : fd x k = none) : F_X12_merges N (B + 125) (nI s) (nI k) (HP B I J) = some (-2, HP B I J) := by
  have h4 : k < 4 := Nat.lt_of_lt_of_le hk w.2.2.2.1
  have ha : aRo x k = -9 := by unfold aRo; rw [hf]
  unfold F_X12_merges
  simp only [M_is, Option.bind_some, X_site_ok h w hs, X_key_ok h w hk, e_bind_some, if_neg (show ¬ (1 : Int32) = 0 by decide), y_ruleOf (show 200 < N by omega) h w h4, ha, if_true]
theorem m_merges_few {N : Nat} (hN : 300 < N) (h : Mo I J x) (w : WF x) (hs : s < zN x) (hk : k < zK x) (hf : fd x k = some i) (h2 : ct (kS (zS x k) (4 + s)) 160 < 2) : F_X12_merges N (B + 125) (nI s) (nI k) (HP B I J) = some (-2, HP B I J) := by
  have h4 : k < 4 := Nat.lt_of_lt_of_le hk w.2.2.2.1
  have h5 : s < 4 := Nat.lt_of_lt_of_le hs w.1.2
  have ha : aRo x k = nI (zRR x i) := by unfold aRo; rw [hf]
  have hr := (w.2.2.2.2.2.2.1.2 i (fd_in hf).1).2
  unfold F_X12_merges
  simp only [M_is, Option.bind_some, X_site_ok h w hs, X_key_ok h w hk, e_bind_some, if_neg (show ¬ (1 : Int32) = 0 by decide), y_ruleOf (show 200 < N by omega) h w h4, ha, if_neg (nI_m9 (show zRR x i < 2 ^ 31 by omega)), y_siblings (show 200 < N by omega) h4 h5 (Mo_k h h4), if_neg (show ¬ (2 : Int32) ≤ nI (ct (kS (zS x k) (4 + s)) 160) from nI_ge h2 (by decide))]
theorem m_mrg {N : Nat} (hN : 300 < N) (h : Mo I J x) (w : WF x) (hs : s < zN x) (hk : k < zK x) (hf : fd x k = some i) (h2 : 2 ≤ ct (kS (zS x k) (4 + s)) 160) : F_X12_merges N (B + 125) (nI s) (nI k) (HP B I J) = if kR (zS x k) s s = 40 then some (-3, HP B I J) else if (aMg x s k i).2 = true then some (-5, HP B (w2 I 125 35 (b2 (aMg x s k i).2)) J) else L_X12_merges_87 N (B + 125) (nI s) (nI k) (aMg x s k i).1 (nI (164 * k)) (HP B (w2 I 125 35 (b2 (aMg x s k i).2)) J) := by
  have h4 : k < 4 := Nat.lt_of_lt_of_le hk w.2.2.2.1
  have h5 : s < 4 := Nat.lt_of_lt_of_le hs w.1.2
  have ha : aRo x k = nI (zRR x i) := by unfold aRo; rw [hf]
  have hr := (w.2.2.2.2.2.2.1.2 i (fd_in hf).1).2
  have hK := Mo_k h h4
  have hW := WF_k w h4
  have hM : kM (zS x k) s = kR (zS x k) s s := (hW.2.2.1 s hs).symm
  have hle := ct_le (kS (zS x k) (4 + s)) 160
  have hR40 := Nat.le_trans (hW.2.1 s h5 s h5).1 (hW.1 s h5).1
  have hall := y_all (B := B) hN h4 h5 hK (WF_mst w h4 h5) hW.2.2.2.2.2.2.1 (r := zRR x i) (kd := kkd (zS x k)) (by omega) (by have := hW.2.2.2.2.2.2.2.2; omega) (h.2.2.2.2.1 k hk) (by omega)
  have e40 : (nI (kR (zS x k) s s) = 40) ↔ kR (zS x k) s s = 40 := nI_eq (b := 40) (by omega) (by decide)
  unfold F_X12_merges
  simp only [M_is, Option.bind_some, X_site_ok h w hs, X_key_ok h w hk, e_bind_some, if_neg (show ¬ (1 : Int32) = 0 by decide), y_ruleOf (show 200 < N by omega) h w h4, ha, if_neg (nI_m9 (show zRR x i < 2 ^ 31 by omega)), y_siblings (show 200 < N by omega) h4 h5 hK, if_pos (show (2 : Int32) ≤ nI (ct (kS (zS x k) (4 + s)) 160) from nI_le h2 (by omega)), M_gr15, n_4, nI_add, R_ai136 (show 4 * k + s < 16 by omega), Y_made hK h5, hM, e40, hall]
  by_cases q : kR (zS x k) s s = 40
  · rw [if_pos q, if_pos q]
  · rw [if_neg q, if_neg q]
    unfold aMg
    simp only [M_gi35, w2_s, Option.bind_some, b2_0, n_164, e_let]
    cases (mEnd (kkd (zS x k)) (zRR x i) (bl (zS x k) s (kkd (zS x k)) (zRR x i) (ct (kS (zS x k) (4 + s)) 160)).2).2
    · simp only [if_true, Bool.false_eq_true, if_false]
    · simp only [Bool.true_eq_false, if_true, if_false]
theorem m_merges_full {N : Nat} (hN : 300 < N) (h : Mo I J x) (w : WF x) (hs : s < zN x) (hk : k < zK x) (hf : fd x k = some i) (h2 : 2 ≤ ct (kS (zS x k) (4 + s)) 160) (hn : 40 ≤ kR (zS x k) s s) : F_X12_merges N (B + 125) (nI s) (nI k) (HP B I J) = some (-3, HP B I J) := by
  have h4 : k < 4 := Nat.lt_of_lt_of_le hk w.2.2.2.1
  have h5 : s < 4 := Nat.lt_of_lt_of_le hs w.1.2
  have hW := WF_k w h4
  have hR40 := Nat.le_trans (hW.2.1 s h5 s h5).1 (hW.1 s h5).1
  rw [m_mrg hN h w hs hk hf h2, if_pos (by omega)]
theorem m_merges_over {N : Nat} (hN : 300 < N) (h : Mo I J x) (w : WF x) (hs : s < zN x) (hk : k < zK x) (hf : fd x k = some i) (h2 : 2 ≤ ct (kS (zS x k) (4 + s)) 160) (hn : kR (zS x k) s s < 40) (ho : (aMg x s k i).2 = true) : ∃ I2, F_X12_merges N (B + 125) (nI s) (nI k) (HP B I J) = some (-5, HP B I2 J) ∧ Mo I2 J x ∧ frR I J I2 J := by
  refine ⟨w2 I 125 35 (b2 (aMg x s k i).2), ?_, Mo_fr h (fun z hz => w2_k _ _ (by omega)) (fun c h1 h2 z => w2_c _ _ (by omega)) (fun _ => rfl), frR_w (by decide)⟩
  rw [m_mrg hN h w hs hk hf h2, if_neg (by omega), if_pos ho]
/-! the merge itself -/
theorem oMg2_0 (y : eKS) (s : Nat) : kS (oMg2 y s) 0 = fun j => kS y 0 j || kS y (4 + s) j := by
  have e1 : kS (oMg2 y s) 0 = kS (oMg1 y s) 0 := oS_ne (by omega)
  have e2 : kS (oMg1 y s) 0 = kS (oMg0 y s) 0 := oS_ne (by omega)
  rw [e1, e2]; rfl
theorem oMg2_3 (y : eKS) (s : Nat) : kS (oMg2 y s) 3 = fun j => kS y 3 j || kS y (4 + s) j := by
  have e1 : kS (oMg2 y s) 3 = kS (oMg1 y s) 3 := oS_ne (by omega)
  rw [e1]; rfl
theorem oMg2_s (y : eKS) (s : Nat) : kS (oMg2 y s) (4 + s) = fun _ => false := if_pos rfl
theorem oMg2_o (y : eKS) (s : Nat) {f : Nat} (h1 : f ≠ 4 + s) (h2 : f ≠ 0) (h3 : f ≠ 3) : kS (oMg2 y s) f = kS y f := by
  have e1 : kS (oMg2 y s) f = kS (oMg1 y s) f := oS_ne h1
  have e2 : kS (oMg1 y s) f = kS (oMg0 y s) f := oS_ne h3
  have e3 : kS (oMg0 y s) f = kS y f := oS_ne h2
  rw [e1, e2, e3]
theorem plc_or2 (p q : Nat → Bool) {m : Nat} : plc (fun j => p j || q j) m = (plc p m || plc q m) := by
  unfold plc
  cases decide (m % 41 ≠ 0) <;> simp
theorem plc_false (m : Nat) : plc (fun _ => false) m = false := by unfold plc; simp
def msk3 (y : eKS) (k s : Nat) (I : Nat → Nat → Int32) (i : Nat) : Nat → Nat → Int32 := wO (wO (wO I 131 (164 * k) i (fun p => b2 (plc (kS (oMg2 y s) 0) p))) 134 (164 * k) i (fun p => b2 (plc (kS (oMg2 y s) 3) p))) 135 (164 * k) i (fun p => hb (fun u => plc (kS (oMg2 y s) (4 + u)) p) 4)
theorem msk3_o {d q : Nat} (h1 : d ≠ 131) (h2 : d ≠ 134) (h3 : d ≠ 135) : msk3 y k s I i d q = I d q := by
  unfold msk3
  rw [wO_c _ _ _ _ h3, wO_c _ _ _ _ h2, wO_c _ _ _ _ h1]
theorem msk3_0 : msk3 y k s I 0 = I := by unfold msk3; rw [wO_0, wO_0, wO_0]
theorem msk3_out {d : Nat} : msk3 y k s I i d (164 * k + i) = I d (164 * k + i) := by
  unfold msk3
  by_cases h3 : d = 135
  · subst h3
    rw [wO_out _ _ _ _ _ (Or.inr (Nat.le_refl _)), wO_c _ _ _ _ (by decide), wO_c _ _ _ _ (by decide)]
  · rw [wO_c _ _ _ _ h3]
    by_cases h2 : d = 134
    · subst h2
      rw [wO_out _ _ _ _ _ (Or.inr (Nat.le_refl _)), wO_c _ _ _ _ (by decide)]
    · rw [wO_c _ _ _ _ h2]
      by_cases h1 : d = 131
      · subst h1
        rw [wO_out _ _ _ _ _ (Or.inr (Nat.le_refl _))]
      · rw [wO_c _ _ _ _ h1]
theorem msk3_s : w2 (w2 (w2 (msk3 y k s I i) 131 (164 * k + i) (b2 (plc (kS (oMg2 y s) 0) i))) 134 (164 * k + i) (b2 (plc (kS (oMg2 y s) 3) i))) 135 (164 * k + i) (hb (fun u => plc (kS (oMg2 y s) (4 + u)) i) 4) = msk3 y k s I (i + 1) := by
  unfold msk3
  have a1 := wO_s I 131 (164 * k) i (fun p => b2 (plc (kS (oMg2 y s) 0) p))
  have a2 := fun X : Nat → Nat → Int32 => wO_s X 134 (164 * k) i (fun p => b2 (plc (kS (oMg2 y s) 3) p))
  have a3 := fun X : Nat → Nat → Int32 => wO_s X 135 (164 * k) i (fun p => hb (fun u => plc (kS (oMg2 y s) (4 + u)) p) 4)
  rw [wO_w2 (c := 135) (d := 131) (by decide), wO_w2 (c := 134) (d := 131) (by decide), a1, wO_w2 (c := 135) (d := 134) (by decide), a2, a3]
theorem y_mrg87 {N : Nat} {K : Nat → Int32 → Int32 → Int64 → Int32 → eH → Option (Int32 × eH)} (hk : k < 4) (hs : s < 4) (h : MoK k I J y) (hi : i < 164) : F_X12_merges_87b N K (B + 125) (nI s) (nI k) val (nI (164 * k + i)) (HP B (msk3 y k s I i) J) = K (B + 125) (nI s) (nI k) val (nI (164 * k + (i + 1))) (HP B (msk3 y k s I (i + 1)) J) := by
  have e1 : ∀ d, msk3 y k s I i d (164 * k + i) = I d (164 * k + i) := fun d => msk3_out
  have ms := msk3_s (y := y) (k := k) (s := s) (I := I) (i := i)
  have hb0 := Y_beside h hi
  have b1 : msk3 y k s I i 135 (164 * k + i) = hb (fun s => plc (kS y (4 + s)) i) 4 := (e1 135).trans hb0
  have c1 : ∀ v1, w2 (msk3 y k s I i) 131 (164 * k + i) v1 135 (164 * k + i) = hb (fun s => plc (kS y (4 + s)) i) 4 := fun v1 => (w2_c _ _ (by decide)).trans b1
  have c2 : ∀ v1 v2, w2 (w2 (msk3 y k s I i) 131 (164 * k + i) v1) 134 (164 * k + i) v2 135 (164 * k + i) = hb (fun s => plc (kS y (4 + s)) i) 4 := fun v1 v2 => (w2_c _ _ (by decide)).trans (c1 v1)
  unfold F_X12_merges_87b F_X12_merges_146
  simp only [n_164, n_p164, if_neg (k164_ge k hi hk), M_gr14, M_gr10, M_gr13, R_ai135 (show 164 * k + i < 656 by omega), b1, Option.bind_some, hb_has _ hs, e_bind_some, b2_0, nar_1, R_si131 (show 164 * k + i < 656 by omega), R_si134 (show 164 * k + i < 656 by omega), R_si135 (show 164 * k + i < 656 by omega), c2, hb_rem _ hs, nI_1]
  have k0 : plc (kS (oMg2 y s) 0) i = (plc (kS y 0) i || plc (kS y (4 + s)) i) := by rw [oMg2_0, plc_or2]
  have k3 : plc (kS (oMg2 y s) 3) i = (plc (kS y 3) i || plc (kS y (4 + s)) i) := by rw [oMg2_3, plc_or2]
  have ku : ∀ u, u < 4 → plc (kS (oMg2 y s) (4 + u)) i = (plc (kS y (4 + u)) i && !decide (u = s)) := by
    intro u hu
    by_cases q : u = s
    · rw [q, oMg2_s, plc_false]; simp
    · rw [oMg2_o y s (by omega) (by omega) (by omega), decide_eq_false q]; simp
  cases hp : plc (kS y (4 + s)) i
  · rw [if_pos rfl]
    have : msk3 y k s I (i + 1) = msk3 y k s I i := by
      rw [← ms, k0, k3, hp, Bool.or_false, Bool.or_false]
      rw [w2_id (c := 131) (show b2 (plc (kS y 0) i) = msk3 y k s I i 131 (164 * k + i) from ((e1 131).trans (Y_set h (f := 0) (by decide) hi)).symm), w2_id (c := 134) (show b2 (plc (kS y 3) i) = msk3 y k s I i 134 (164 * k + i) from ((e1 134).trans (Y_set h (f := 3) (by decide) hi)).symm)]
      refine w2_id ?_
      rw [b1]
      refine hb_cong (fun u hu => ?_)
      rw [ku u hu]
      by_cases q : u = s
      · rw [q, hp]; rfl
      · rw [decide_eq_false q]; simp
    rw [this]; rfl
  · rw [if_neg (by decide)]
    rw [k0, k3, hp, Bool.or_true, Bool.or_true] at ms
    rw [hb_cong ku] at ms
    rw [show (1 : Int32) = b2 true from rfl, ms]
    rfl
theorem MoK_cong {y2 : eKS} (h : MoK k I J y) (h1 : kM y2 = kM y) (h2 : kR y2 = kR y) (h3 : kF y2 = kF y) (h4 : ∀ f, f < 8 → ∀ j, j < 160 → kS y2 f j = kS y f j) (h5 : kSt y2 = kSt y) (h6 : kV y2 = kV y) (h7 : kTo y2 = kTo y) (h8 : kKn y2 = kKn y) : MoK k I J y2 := by
  obtain ⟨g1, g2, g3, g4, g5, g6⟩ := h
  refine ⟨by rw [h1]; exact g1, by rw [h2]; exact g2, by rw [h3]; exact g3, fun p hp => ?_, fun f hf p hp => ?_, by rw [h1, h5, h6, h7, h8]; exact g6⟩
  · rw [g4 p hp]
    exact hb_cong (fun u hu => (plc_cong (h4 (4 + u) (by omega)) hp).symm)
  · rw [g5 f hf p hp, plc_cong (h4 f (by omega)) hp]
theorem ct_none (n : Nat) : ct (fun _ => false) n = 0 := ct_0 (fun _ _ => rfl)
theorem ct_one {d : Nat} : ∀ n, d < n → ct (fun j => decide (j = d)) n = 1
  | 0, h => absurd h (Nat.not_lt_zero d)
  | n + 1, h => by
    show ct _ n + (if decide (n = d) = true then 1 else 0) = 1
    by_cases e : n = d
    · rw [decide_eq_true e, ct_0 (fun i hi => decide_eq_false (by omega))]; rfl
    · rw [decide_eq_false e, ct_one n (by omega)]; rfl
theorem kd_oS (x : eKS) (f : Nat) (p : Nat → Bool) : kkd (oS x f p) = kkd x := rfl
theorem kd_oW (x : eKS) (s n : Nat) (v : Int64) (st : Nat) (mt mk : Nat → Nat) : kkd (oW x s n v st mt mk) = kkd x := rfl
theorem kd_oRw (x : eKS) (s : Nat) (m : Nat → Nat) : kkd (oRw x s m) = kkd x := rfl
theorem kd_uF (x : eKS) (v : Int32) : kkd (uF x v) = kkd x := rfl
theorem kd_oT (y : eKS) (s : Nat) (v : Int64) (st : Nat) (mt mk : Nat → Nat) : kkd (oT y s v st mt mk) = kkd y := by
  unfold oT
  rw [kd_oS]
  unfold oT5
  rw [kd_oW]
  unfold oT4
  rw [kd_oRw]
  unfold oT3
  rw [kd_uF]
  unfold oT2
  rw [kd_oS]
  unfold oT1
  rw [kd_oS]
theorem kd_oMg (y : eKS) (s : Nat) (v : Int64) (st : Nat) : kkd (oMg y s v st) = kkd y := by
  unfold oMg
  rw [kd_oT]
  unfold oMg2
  rw [kd_oS]
  unfold oMg1
  rw [kd_oS]
  unfold oMg0
  rw [kd_oS]
theorem drn_0 (St : Nat → Nat) (s : Nat) (S : Nat → Nat → Bool) : drn St s S 0 = S := rfl
theorem uS_same (x : eKS) : uS x (kS x) = x := rfl
theorem oMg_d (y : eKS) (s : Nat) (v : Int64) (st : Nat) : oMg y s v st = oT (oMg2 y s) s v st (kR y s) (kR y s) := rfl
theorem m_merges_ok {N : Nat} (hN : 300 < N) (h : Mo I J x) (w : WF x) (hs : s < zN x) (hk : k < zK x) (hf : fd x k = some i) (h2 : 2 ≤ ct (kS (zS x k) (4 + s)) 160) (hn : kR (zS x k) s s < 40) (ho : (aMg x s k i).2 = false) : ∃ I2 J2, F_X12_merges N (B + 125) (nI s) (nI k) (HP B I J) = some (nI (kR (zS x k) s s + 1), HP B I2 J2) ∧ Mo I2 J2 (nMg x s k i) ∧ frR I J I2 J2 := by
  have h4 : k < 4 := Nat.lt_of_lt_of_le hk w.2.2.2.1
  have h5 : s < 4 := Nat.lt_of_lt_of_le hs w.1.2
  have hW := WF_k w h4
  have hT : zT x ≤ 1000 := w.2.2.2.2.1
  have hB := w.2.1
  have hM : kM (zS x k) s = kR (zS x k) s s := (hW.2.2.1 s hs).symm
  rw [m_mrg hN h w hs hk hf h2, if_neg (by omega), if_neg (by rw [ho]; decide)]
  obtain ⟨val, hval⟩ : ∃ val, val = (aMg x s k i).1 := ⟨_, rfl⟩
  obtain ⟨I1, hI1⟩ : ∃ I1, I1 = w2 I 125 35 (b2 (aMg x s k i).2) := ⟨_, rfl⟩
  have hMo1 : Mo I1 J x := by rw [hI1]; exact Mo_fr h (fun z hz => w2_k _ _ (by omega)) (fun c h1 h2 z => w2_c _ _ (by omega)) (fun _ => rfl)
  have fr1 : frR I J I1 J := by rw [hI1]; exact frR_w (by decide)
  rw [← hval, ← hI1]
  have hK := Mo_k hMo1 h4
  obtain ⟨y, hy⟩ : ∃ y, y = zS x k := ⟨_, rfl⟩
  rw [← hy] at hK hW hM hn ⊢
  -- the siblings go
  have hK2 : MoK k (msk3 y k s I1 164) J (oMg2 y s) := by
    obtain ⟨g1, g2, g3, g4, g5, g6⟩ := hK
    refine ⟨fun t ht => (msk3_o (by decide) (by decide) (by decide)).trans (g1 t ht), fun s hs t ht => (msk3_o (by decide) (by decide) (by decide)).trans (g2 s hs t ht), (msk3_o (by decide) (by decide) (by decide)).trans g3, fun p hp => wO_in _ _ _ _ _ hp, fun f hf p hp => ?_, fun j hj hc => ?_⟩
    · by_cases e0 : f = 0
      · subst e0
        unfold msk3
        rw [wO_c _ _ _ _ (by decide), wO_c _ _ _ _ (by decide)]
        exact wO_in _ _ _ _ _ hp
      · by_cases e3 : f = 3
        · subst e3
          unfold msk3
          rw [wO_c _ _ _ _ (by decide)]
          exact wO_in _ _ _ _ _ hp
        · rw [msk3_o (by omega) (by omega) (by omega), g5 f hf p hp, oMg2_o y s (by omega) e0 e3]
    · obtain ⟨q1, q2, q3⟩ := g6 j hj hc
      exact ⟨(msk3_o (by decide) (by decide) (by decide)).trans q1, q2, fun t ht => ⟨(msk3_o (by decide) (by decide) (by decide)).trans (q3 t ht).1, (msk3_o (by decide) (by decide) (by decide)).trans (q3 t ht).2⟩⟩
  have fr2 : frQ k I1 J (msk3 y k s I1 164) J := by
    intro d q hdq
    refine ⟨?_, rfl⟩
    by_cases e : d = 131 ∨ d = 134 ∨ d = 135
    · have hd : dvR d = 164 := by rcases e with e | e | e <;> subst e <;> rfl
      have hq : q < 164 * k ∨ 164 * k + 164 ≤ q := by
        have : ¬ q / 164 = k := fun r => hdq ⟨by omega, by omega, by rw [hd]; exact r⟩
        omega
      unfold msk3
      have z : ∀ (X : Nat → Nat → Int32) (c : Nat) (f : Nat → Int32), wO X c (164 * k) 164 f d q = X d q := by
        intro X c f
        by_cases r : d = c
        · rw [r]; exact wO_out _ _ _ _ _ hq
        · exact wO_c _ _ _ _ r
      rw [z, z, z]
    · exact msk3_o (fun r => e (Or.inl r)) (fun r => e (Or.inr (Or.inl r))) (fun r => e (Or.inr (Or.inr r)))
  have hdd : 40 * s + kR y s s < 160 := by omega
  have hp := plp_lt hdd
  have hcd : cov (kM y) (40 * s + kR y s s) = false := by rw [cov_ti _ hn, hM]; exact decide_eq_false (Nat.lt_irrefl _)
  obtain ⟨l1, l2⟩ := Y_lay (I := msk3 y k s I1 164) (J := J) h4 hK2 hdd hcd (fun t => nI (kR y s t)) (fun t => nI (kR y s t))
  obtain ⟨W, hWd⟩ : ∃ W, W = 164 * k + plp (40 * s + kR y s s) := ⟨_, rfl⟩
  have hW6 : W < 656 := by omega
  rw [← hWd] at l1 l2
  obtain ⟨I3, hI3⟩ : ∃ I3, I3 = wO (wO (msk3 y k s I1 164) 129 (4 * W) 4 (fun t => nI (kR y s t))) 130 (4 * W) 4 (fun t => nI (kR y s t)) := ⟨_, rfl⟩
  rw [← hI3] at l1 l2
  have hK4 : MoK k I3 J (oT3 (oMg2 y s) s (kR y s) (kR y s)) := by
    refine MoK_cong l1 rfl rfl ?_ (fun f hf j hj => ?_) rfl rfl rfl rfl
    · show kF y + nI (ct (fun j => kS (oT2 (oMg2 y s) s (kR y s)) (4 + s) j && cov (kR y s) j) 160) = kF y
      have e0 : ct (fun j => kS (oT2 (oMg2 y s) s (kR y s)) (4 + s) j && cov (kR y s) j) 160 = 0 := by
        refine ct_0 (fun j _ => ?_)
        rw [show kS (oT2 (oMg2 y s) s (kR y s)) (4 + s) = fun j => kS (oMg2 y s) (4 + s) j && !cov (kR y s) j from oT3_s (oMg2 y s) s (kR y s) (kR y s), oMg2_s]
        rfl
      rw [e0]
      exact Int32.add_zero _
    · by_cases e : f = 4 + s
      · subst e
        rw [oT3_s, oMg2_s]; rfl
      · by_cases e2 : f = 2
        · subst e2
          rw [oT3_2, oMg2_s]
          simp
        · rw [oT3_o _ s _ _ e e2]
  have hcv : ∀ f, f < 8 → ∀ j, j < 160 → kS y f j = true → cov (kM y) j = true := hW.2.2.2.1
  have fr3 : frQ k I1 J I3 J := frQ_t fr2 l2
  have g125 : ∀ q, I3 125 q = I1 125 q := fun q => (fr3 125 q (fun e => by have := e.1; omega)).1
  obtain ⟨I4, J4, t1, t2, t3⟩ := y_comes (B := B) (z := oT3 (oMg2 y s) s (kR y s) (kR y s)) (v := val) (mt := kR y s) (mk := kR y s) (T := zT x) (b := zB x) hN h4 h5 hK4 hM hn (fun t ht => (hW.1 t ht).1) (fun t ht => Nat.le_trans (hW.2.1 s h5 t ht).1 (hW.1 t ht).1) (fun t ht => Nat.le_trans (hW.2.1 s h5 t ht).1 (hW.1 t ht).1) (fun f hf j hj q => by
    have hz : kS (oMg2 y s) f j = true → cov (kM y) j = true := by
      intro q
      by_cases e : f = 4 + s
      · subst e
        rw [oMg2_s] at q; cases q
      · by_cases e0 : f = 0
        · subst e0
          rw [oMg2_0] at q
          simp only [Bool.or_eq_true] at q
          exact q.elim (hcv 0 (by decide) j hj) (hcv (4 + s) (by omega) j hj)
        · by_cases e3 : f = 3
          · subst e3
            rw [oMg2_3] at q
            simp only [Bool.or_eq_true] at q
            exact q.elim (hcv 3 (by decide) j hj) (hcv (4 + s) (by omega) j hj)
          · rw [oMg2_o y s e e0 e3] at q
            exact hcv f hf j hj q
    by_cases e : f = 4 + s
    · subst e
      rw [oT3_s, oMg2_s] at q
      cases q
    · by_cases e2 : f = 2
      · subst e2
        rw [oT3_2, oMg2_s] at q
        simp only [Bool.false_and, Bool.or_false] at q
        exact hz q
      · rw [oT3_o _ s _ _ e e2] at q
        exact hz q) (fun j hj q => by
    obtain ⟨a1, a2⟩ := hW.2.2.2.2.2.1 j hj q
    exact ⟨a1, Nat.lt_of_le_of_lt a2 (by omega)⟩) (fun t ht => by
    show I3 129 (4 * (164 * k + plp (40 * s + kR y s s)) + t) = nI (kR y s t) ∧ I3 130 (4 * (164 * k + plp (40 * s + kR y s s)) + t) = nI (kR y s t)
    rw [← hWd, hI3]
    exact ⟨(wO_c _ _ _ _ (by decide)).trans (wO_in _ _ _ _ _ ht), wO_in _ _ _ _ _ ht⟩) ((g125 5).trans hMo1.1.2.2.2.2) (by omega) ((g125 1).trans hMo1.1.2.1) (by omega)
  have e1 : ct (kS (oCm (oT3 (oMg2 y s) s (kR y s) (kR y s)) s val (zT x + 1) (kR y s) (kR y s)) (4 + s)) 160 = 1 := by
    rw [oCm_S, oT3_s, oMg2_s]
    simp only [if_true, Bool.false_and, Bool.false_or]
    exact ct_one 160 hdd
  rw [e1, show 1 - zB x = 0 by omega, drn_0, uS_same, oCm_T, ← oMg_d] at t2
  refine ⟨I4, J4, ?_, ?_, ?_⟩
  · have rows : L_X12_merges_174 N (B + 125) (nI s) (nI k) val (nI W) 0 (HP B (msk3 y k s I1 164) J) = some (nI (kR y s s + 1), HP B I4 J4) := by
      unfold L_X12_merges_174
      have e1 := e_loop_f (body := fun (k : Nat × Int32 × Int32 × Int64 × Int32 × Int32 × eH → Option (Int32 × eH)) s => F_X12_merges_174b N (fun l0 l1 l2 l4 l6 l7 h => k (l0, l1, l2, l4, l6, l7, h)) s.1 s.2.1 s.2.2.1 s.2.2.2.1 s.2.2.2.2.1 s.2.2.2.2.2.1 s.2.2.2.2.2.2) (fun i => (B + 125, nI s, nI k, val, nI W, nI i, HP B (wO (wO (msk3 y k s I1 164) 129 (4 * W) i (fun t => nI (kR y s t))) 130 (4 * W) i (fun t => nI (kR y s t))) J)) 4 (N := N) (fun i hi k0 => by
        show F_X12_merges_174b N _ (B + 125) (nI s) (nI k) (val) (nI W) (nI i) (HP B (wO (wO (msk3 y k s I1 164) 129 (4 * W) i (fun t => nI (kR y s t))) 130 (4 * W) i (fun t => nI (kR y s t))) J) = k0 _
        unfold F_X12_merges_174b
        have ws1 := wO_s (msk3 y k s I1 164) 129 (4 * W) i (fun t => nI (kR y s t))
        have ws2 := wO_s (wO (msk3 y k s I1 164) 129 (4 * W) (i + 1) (fun t => nI (kR y s t))) 130 (4 * W) i (fun t => nI (kR y s t))
        have gr : msk3 y k s I1 164 137 (16 * k + 4 * s + i) = nI (kR y s i) := hK2.2.1 s h5 i hi
        have g1 : wO (wO (msk3 y k s I1 164) 129 (4 * W) i (fun t => nI (kR y s t))) 130 (4 * W) i (fun t => nI (kR y s t)) 137 (16 * k + 4 * s + i) = nI (kR y s i) := (wO_c _ _ _ _ (by decide)).trans ((wO_c _ _ _ _ (by decide)).trans gr)
        have g2 : wO (wO (msk3 y k s I1 164) 129 (4 * W) (i + 1) (fun t => nI (kR y s t))) 130 (4 * W) i (fun t => nI (kR y s t)) 137 (16 * k + 4 * s + i) = nI (kR y s i) := (wO_c _ _ _ _ (by decide)).trans ((wO_c _ _ _ _ (by decide)).trans gr)
        have e3 : ∀ v1, w2 (wO (wO (msk3 y k s I1 164) 129 (4 * W) i (fun t => nI (kR y s t))) 130 (4 * W) i (fun t => nI (kR y s t))) 129 (4 * W + i) v1 = wO (w2 (wO (msk3 y k s I1 164) 129 (4 * W) i (fun t => nI (kR y s t))) 129 (4 * W + i) v1) 130 (4 * W) i (fun t => nI (kR y s t)) := fun v1 => wO_w2 (by decide)
        simp only [if_neg (k4_lt i hi), M_gr8, M_gr9, M_gr16, Option.bind_some, X_rowAt, e_bind_some, n_4, nI_add, R_ai137 (show 16 * k + 4 * s + i < 64 by omega), R_si129 (show 4 * W + i < 2624 by omega), R_si130 (show 4 * W + i < 2624 by omega), nI_1, e3, g1, ws1, g2, ws2]) (by omega)
      simp only [wO_0] at e1
      refine Eq.trans e1 ?_
      show F_X12_merges_174b N _ (B + 125) (nI s) (nI k) (val) (nI W) (nI 4) (HP B (wO (wO (msk3 y k s I1 164) 129 (4 * W) 4 (fun t => nI (kR y s t))) 130 (4 * W) 4 (fun t => nI (kR y s t))) J) = _
      unfold F_X12_merges_174b
      rw [if_pos k4_n, ← hI3]
      simp only [M_is, Option.bind_some, t1, e_bind_some]
      rfl
    unfold L_X12_merges_87
    have e1 := e_loop_f (body := fun (k : Nat × Int32 × Int32 × Int64 × Int32 × eH → Option (Int32 × eH)) s => F_X12_merges_87b N (fun l0 l1 l2 l4 l6 h => k (l0, l1, l2, l4, l6, h)) s.1 s.2.1 s.2.2.1 s.2.2.2.1 s.2.2.2.2.1 s.2.2.2.2.2) (fun i => (B + 125, nI s, nI k, val, nI (164 * k + i), HP B (msk3 y k s I1 i) J)) 164 (N := N) (fun i hi k0 => by
      show F_X12_merges_87b N _ (B + 125) (nI s) (nI k) (val) (nI (164 * k + i)) (HP B (msk3 y k s I1 i) J) = k0 _
      exact y_mrg87 h4 h5 hK hi) (by omega)
    simp only [msk3_0] at e1
    refine Eq.trans e1 ?_
    show F_X12_merges_87b N _ (B + 125) (nI s) (nI k) (val) (nI (164 * k + 164)) (HP B (msk3 y k s I1 164) J) = _
    unfold F_X12_merges_87b
    have g2 : msk3 y k s I1 164 136 (4 * k + s) = nI (kR y s s) := (hK2.1 s h5).trans (congrArg nI hM)
    rw [n_164, n_p164, if_pos (k164_n k h4)]
    simp only [M_gr15, n_4, nI_add, R_ai136 (show 4 * k + s < 16 by omega), g2, Option.bind_some, nI_1, at_ti k hn, e_bind_some, ← hWd]
    exact rows
  · have hMoT := Mo_T hMo1 (zT x + 1)
    have := Mo_K (y := oMg y s val (zT x + 1)) h4 hMoT (frQ_t (frQ_5 fr3) t3) ((kd_oMg y s val (zT x + 1)).trans (by rw [hy]; rfl)) t2
    unfold nMg
    rw [← hval, ← hy]
    exact this
  · exact frR_t fr1 (frR_t (frR_w (c := 125) (z := 5) (v := nI (zT x + 1)) (by decide)) (frQ_R (frQ_t (frQ_5 fr3) t3)))
end RMERGE
