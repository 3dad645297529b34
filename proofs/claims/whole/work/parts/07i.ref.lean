/-! REFERENCE: type, clear, count, row, blinds, context, rule, rules -/
section RCALL1
variable {B : Nat} {I : Nat → Nat → Int32} {J : Nat → Nat → Int64} {x : eST} {a b c k s t i j n m r : Nat} {v : Int32}
theorem nix_not (h : i < n) (hn : n < 2 ^ 31) : ¬ nix (nI i) n := fun q => q.elim (nI_pos (by omega)) (nI_ge h hn)
theorem l255 : (255 : Int64) = (nI 255).toInt64 := by decide +kernel
theorem l255' : (255 : Int64) = (nI 256 - 1).toInt64 := by decide +kernel
theorem m_type_no (hv : nix v 256) : F_X12_type (B + 125) v (HP B I J) = some (-1, HP B I J) := by
  unfold F_X12_type
  rw [X_in_no (m := 256) l255' hv (by decide), e_bind_some, if_pos rfl]
theorem m_type_full (h : Mo I J x) (w : WF x) (hj : j < 256) (hE : 100 ≤ zE x) : F_X12_type (B + 125) (nI j) (HP B I J) = some (-3, HP B I J) := by
  have hE2 : zE x = 100 := by have := w.2.2.2.2.2.1.1; omega
  unfold F_X12_type
  rw [X_in_ok l255 (show j ≤ 255 by omega) (by decide), e_bind_some, if_neg (by decide), M_gi24, Option.bind_some, h.2.1.1, hE2, if_pos (show nI 100 = 100 from rfl)]
theorem m_type_ok (h : Mo I J x) (w : WF x) (hj : j < 256) (hE : zE x < 100) : ∃ I2, F_X12_type (B + 125) (nI j) (HP B I J) = some (nI (zE x + 1), HP B I2 J) ∧ Mo I2 J (oTy x j) ∧ frR I J I2 J := by
  obtain ⟨ha, ⟨t1, t2⟩, hr, hc, hk, hK⟩ := h
  have g1 : w2 I 144 (zE x) (nI j) 125 24 = nI (zE x) := (w2_c _ _ (by decide)).trans t1
  refine ⟨w2 (w2 I 144 (zE x) (nI j)) 125 24 (nI (zE x + 1)), ?_, ⟨MoA_fr (x := oTy x j) ha (fun z hz => ?_), ⟨w2_s _ _ _ _, fun i hi => ?_⟩, MoR_fr (x := oTy x j) hr ?_ (fun c hc z => ?_), MoC_fr (x := oTy x j) hc (fun c h1 h2 z => ?_), fun k hk2 => ?_, fun k hk2 => MoK_id (hK k hk2) (fun c h1 h2 z => ?_) (fun _ => rfl)⟩, frR_t (frR_w (by decide)) (frR_w (by decide))⟩
  · unfold F_X12_type
    simp only [X_in_ok l255 (show j ≤ 255 by omega) (show 255 < 2 ^ 31 by decide), e_bind_some, if_neg (show ¬ (1 : Int32) = 0 by decide), M_gi24, Option.bind_some, t1, if_neg (show ¬ nI (zE x) = 100 from fun q => absurd ((nI_eq (show zE x < 2 ^ 31 by omega) (show 100 < 2 ^ 31 by decide)).mp q) (by omega)), M_gr25, R_si144 hE, g1, nI_1, M_p24, w2_s]
  · rw [w2_k _ _ (by omega), w2_c _ _ (by decide)]
  · rw [w2_c _ _ (by decide)]
    show w2 I 144 (zE x) (nI j) 144 i = nI (if i = zE x then j else zX x i)
    have hi2 : i < zE x + 1 := hi
    by_cases q : i = zE x
    · subst q; rw [w2_s, if_pos rfl]
    · rw [w2_k _ _ q, if_neg q]; exact t2 i (by omega)
  · rw [w2_k _ _ (by decide), w2_c _ _ (by decide)]
  · rw [w2_c _ _ (by omega), w2_c _ _ (by omega)]
  · rw [w2_c _ _ (by omega), w2_c _ _ (by omega)]
  · rw [w2_c _ _ (by decide), w2_c _ _ (by decide)]; exact hk k hk2
  · rw [w2_c _ _ (by omega), w2_c _ _ (by omega)]
theorem m_clear (h : Mo I J x) : ∃ I2, F_X12_clear (B + 125) (HP B I J) = some (nI (zE x), HP B I2 J) ∧ Mo I2 J (vE x 0) ∧ frR I J I2 J := by
  obtain ⟨ha, ⟨t1, t2⟩, hr, hc, hk, hK⟩ := h
  refine ⟨w2 I 125 24 0, ?_, ⟨MoA_fr (x := vE x 0) ha (fun z hz => w2_k _ _ (by omega)), ⟨w2_s _ _ _ _, fun i hi => absurd hi (Nat.not_lt_zero i)⟩, MoR_fr (x := vE x 0) hr (w2_k _ _ (by decide)) (fun c hc z => w2_c _ _ (by omega)), MoC_fr (x := vE x 0) hc (fun c h1 h2 z => w2_c _ _ (by omega)), fun k hk2 => (w2_c _ _ (by decide)).trans (hk k hk2), fun k hk2 => MoK_id (hK k hk2) (fun c h1 h2 z => w2_c _ _ (by omega)) (fun _ => rfl)⟩, frR_w (by decide)⟩
  unfold F_X12_clear
  simp only [M_gi24, t1, Option.bind_some, M_p24]
theorem m_count (h : Mo I J x) : F_X12_count (B + 125) v (HP B I J) = some (aCo x v, HP B I J) := by
  obtain ⟨⟨a1, a2, a3, a4, a5⟩, ⟨t1, t2⟩, _⟩ := h
  unfold F_X12_count aCo
  simp only [M_gi0, M_gi1, M_gi2, M_gi3, M_gi5, M_gi24, Option.bind_some, a1, a2, a3, a4, a5, t1]
  split
  · rfl
  · split
    · rfl
    · split
      · rfl
      · split
        · rfl
        · split
          · rfl
          · split <;> rfl
theorem Mo_k (h : Mo I J x) (hk : k < 4) : MoK k I J (zS x k) := h.2.2.2.2.2 k hk
theorem Y_row {y : eKS} (h : MoK k I J y) (hs : s < 4) (ht : t < 4) : I 137 (16 * k + 4 * s + t) = nI (kR y s t) := h.2.1 s hs t ht
theorem Y_made {y : eKS} (h : MoK k I J y) (ht : t < 4) : I 136 (4 * k + t) = nI (kM y t) := h.1 t ht
theorem m_row_ok (h : Mo I J x) (w : WF x) (hs : s < zN x) (hk : k < zK x) (ht : t < zN x) : F_X12_row (B + 125) (nI s) (nI k) (nI t) (HP B I J) = some (nI (kR (zS x k) s t), HP B I J) := by
  have h4 : k < 4 := Nat.lt_of_lt_of_le hk w.2.2.2.1
  have h5 : s < 4 := Nat.lt_of_lt_of_le hs w.1.2
  have h6 : t < 4 := Nat.lt_of_lt_of_le ht w.1.2
  unfold F_X12_row
  simp only [M_is, Option.bind_some, X_site_ok h w hs, X_site_ok h w ht, X_key_ok h w hk, e_bind_some, if_neg (show ¬ (1 : Int32) = 0 by decide), M_gr16, X_rowAt, nI_add, R_ai137 (show 16 * k + 4 * s + t < 64 by omega), Y_row (Mo_k h h4) h5 h6]
theorem m_row_no (h : Mo I J x) (w : WF x) {a b c : Int32} (hv : nix a (zN x) ∨ nix b (zK x) ∨ nix c (zN x)) : F_X12_row (B + 125) a b c (HP B I J) = some (-1, HP B I J) := by
  have h1 := w.1.2
  have h2 := w.2.2.2.1
  unfold F_X12_row
  rcases nix_c a (show zN x < 2 ^ 31 by omega) with e | ⟨s, hs, rfl⟩
  · simp only [M_is, Option.bind_some, X_site_no h w e, e_bind_some, if_true]
  · rcases nix_c b (show zK x < 2 ^ 31 by omega) with e | ⟨k, hk, rfl⟩
    · simp only [M_is, Option.bind_some, X_site_ok h w hs, X_key_no h w e, e_bind_some, if_true, if_neg (show ¬ (1 : Int32) = 0 by decide)]
    · have e : nix c (zN x) := by
        rcases hv with q | q | q
        · exact absurd q (nix_not hs (by omega))
        · exact absurd q (nix_not hk (by omega))
        · exact q
      simp only [M_is, Option.bind_some, X_site_ok h w hs, X_key_ok h w hk, X_site_no h w e, e_bind_some, if_true, if_neg (show ¬ (1 : Int32) = 0 by decide)]
theorem Y_ck (h : Mo I J x) (hc : c < 4) : I 139 c = (if zCK x c = 0 then -9 else nI (zCK x c - 1)) := (h.2.2.2.1 c hc).1
theorem m_blinds_no (hv : nix v 4) : F_X12_blinds (B + 125) v (HP B I J) = some (-1, HP B I J) := by
  unfold F_X12_blinds
  rw [X_cl_no hv, e_bind_some, if_pos rfl]
theorem Mo_C {I2 : Nat → Nat → Int32} {ck : Nat} {cn ctt : Nat → Nat} (h : Mo I J x) (hc : c < 4) (hI : ∀ d, d < 139 ∨ 141 < d → ∀ z, I2 d z = I d z) (h1 : ∀ d, d < 4 → d ≠ c → I2 139 d = I 139 d ∧ ∀ t, t < 4 → I2 140 (4 * d + t) = I 140 (4 * d + t) ∧ I2 141 (4 * d + t) = I 141 (4 * d + t)) (h2 : I2 139 c = if ck = 0 then -9 else nI (ck - 1)) (h3 : ck ≠ 0 → ∀ t, t < 4 → I2 140 (4 * c + t) = nI (cn t) ∧ I2 141 (4 * c + t) = nI (ctt t)) : Mo I2 J (oC x c ck cn ctt) := by
  obtain ⟨ha, ht, hr, hcx, hk, hK⟩ := h
  refine ⟨MoA_fr (x := oC x c ck cn ctt) ha (fun z hz => hI 125 (by decide) z), MoT_fr (x := oC x c ck cn ctt) ht (hI 125 (by decide) _) (hI 144 (by decide)), MoR_fr (x := oC x c ck cn ctt) hr (hI 125 (by decide) _) (fun c hc z => hI c (by omega) z), fun d hd => ?_, fun k hk2 => (hI 126 (by decide) k).trans (hk k hk2), fun k hk2 => MoK_id (hK k hk2) (fun c h1 h2 z => hI c (by omega) z) (fun _ => rfl)⟩
  show I2 139 d = (if (if d = c then ck else zCK x d) = 0 then -9 else nI ((if d = c then ck else zCK x d) - 1)) ∧ ((if d = c then ck else zCK x d) ≠ 0 → ∀ t, t < 4 → I2 140 (4 * d + t) = nI ((if d = c then cn else zCN x d) t) ∧ I2 141 (4 * d + t) = nI ((if d = c then ctt else zCT x d) t))
  by_cases q : d = c
  · subst q
    simp only [if_true]
    exact ⟨h2, h3⟩
  · simp only [if_neg q]
    obtain ⟨g1, g2⟩ := h1 d hd q
    exact ⟨g1.trans (hcx d hd).1, fun z t ht => ⟨((g2 t ht).1).trans ((hcx d hd).2 z t ht).1, ((g2 t ht).2).trans ((hcx d hd).2 z t ht).2⟩⟩
theorem m_blinds (h : Mo I J x) (w : WF x) (hc : c < 4) : ∃ I2, F_X12_blinds (B + 125) (nI c) (HP B I J) = some (if zCK x c = 0 then 0 else 1, HP B I2 J) ∧ Mo I2 J (oBl x c) ∧ frR I J I2 J := by
  refine ⟨w2 I 139 c (-9), ?_, Mo_C h hc (fun d hd z => w2_c _ _ (by omega)) (fun d hd hne => ⟨w2_k _ _ hne, fun t _ => ⟨w2_c _ _ (by decide), w2_c _ _ (by decide)⟩⟩) (w2_s _ _ _ _) (fun q => absurd rfl q), frR_w (by decide)⟩
  unfold F_X12_blinds F_X12_blinds_25
  simp only [X_cl_ok hc, e_bind_some, if_neg (show ¬ (1 : Int32) = 0 by decide), M_gr18, Option.bind_some, R_ai139 hc, R_si139 hc, Y_ck h hc]
  by_cases e : zCK x c = 0
  · simp only [if_pos e, if_true]
  · have h2 := (w.2.2.2.2.2.2.2.1 c hc).1
    have h3 := w.2.2.2.1
    simp only [if_neg e, if_neg (nI_m9 (show zCK x c - 1 < 2 ^ 31 by omega))]
theorem l7' : (7 : Int64) = (7 : Int32).toInt64 := by decide +kernel
theorem lm1' : (-1 : Int64) = (-1 : Int32).toInt64 := by decide +kernel
theorem m_context_no1 (hv : nix v 4) {u : Int32} : F_X12_context (B + 125) v u (HP B I J) = some (-1, HP B I J) := by
  unfold F_X12_context
  rw [X_cl_no hv, e_bind_some, if_pos rfl]
theorem m_context_no2 (hc : c < 4) (hv : ¬ (-1 : Int32) ≤ v) : F_X12_context (B + 125) (nI c) v (HP B I J) = some (-1, HP B I J) := by
  unfold F_X12_context
  rw [X_cl_ok hc, e_bind_some, if_neg (by decide), lm1', l7', in_w, decide_eq_true (Int32.not_le.mp hv)]
  rfl
theorem m_context_m1 (h : Mo I J x) (w : WF x) (hc : c < 4) : F_X12_context (B + 125) (nI c) (-1) (HP B I J) = some (if zCK x c = 0 then -9 else nI (zCK x c - 1), HP B I J) := by
  unfold F_X12_context
  rw [X_cl_ok hc, e_bind_some, if_neg (by decide), lm1', l7', in_w, decide_eq_false (by decide), decide_eq_false (by decide)]
  simp only [Bool.not_false, Bool.and_true, b2_t, e_bind_some, if_neg (show ¬ (1 : Int32) = 0 by decide), if_pos (show (-1 : Int32) < 0 by decide)]
  unfold F_X12_context_37 F_X12_context_52
  simp only [M_gr18, Option.bind_some, R_ai139 hc, Y_ck h hc, if_neg (show ¬ (0 : Int32) ≤ -1 by decide)]
  split
  · rfl
  · split <;> rfl
theorem s_mcx (h : Mo I J x) (w : WF x) (hc : c < 4) (ht : t < 4) (ask : Bool) : F_X12_context_37 (B + 125) (nI c) (nI (if ask = true then t + 4 else t)) (HP B I J) = some (aCx x c ask t, HP B I J) := by
  unfold F_X12_context_37 F_X12_context_52 aCx
  simp only [M_gr18, M_gr19, M_gr20, Option.bind_some, R_ai139 hc, Y_ck h hc]
  by_cases e : zCK x c = 0
  · simp only [if_pos e, if_true]
  · have h2 := (w.2.2.2.2.2.2.2.1 c hc).1
    have h3 := w.2.2.2.1
    have hx := (h.2.2.2.1 c hc).2 e t ht
    cases ask
    · simp only [if_neg e, if_neg (nI_m9 (show zCK x c - 1 < 2 ^ 31 by omega)), Bool.false_eq_true, if_false, if_pos (nI_pos' (show t < 2 ^ 31 by omega)), if_neg (show ¬ (4 : Int32) ≤ nI t from nI_ge ht (by decide)), n_4, nI_add, R_ai140 (show 4 * c + t < 16 by omega), Option.bind_some, hx.1]
    · have e2 : nI (4 * c + (t + 4)) - 4 = nI (4 * c + t) := pk_sub (a := 4 * c + (t + 4)) (b := 4) (by omega)
      simp only [if_neg e, if_neg (nI_m9 (show zCK x c - 1 < 2 ^ 31 by omega)), if_true, if_pos (nI_pos' (show t + 4 < 2 ^ 31 by omega)), if_pos (show (4 : Int32) ≤ nI (t + 4) from nI_le (a := 4) (b := t + 4) (by omega) (by omega)), n_4, nI_add, e2, R_ai141 (show 4 * c + t < 16 by omega), Option.bind_some, hx.2]
theorem m_context_lo (h : Mo I J x) (w : WF x) (hc : c < 4) (hj : j < 4) : F_X12_context (B + 125) (nI c) (nI j) (HP B I J) = some (if j < zN x then aCx x c false j else -1, HP B I J) := by
  unfold F_X12_context
  have e4 : nI j - nI j / 4 * 4 = nI (j % 4) := pk_rem (a := j) (d := 4) (by omega) (by decide) (by decide)
  have n1 : ¬ nI j < (-1 : Int32) := fun q => nI_pos (n := j) (by omega) (Int32.lt_trans q (by decide))
  have n2 : ¬ (7 : Int32) < nI j := nI_nlt (a := 7) (b := j) (by omega) (by decide)
  rw [X_cl_ok hc, e_bind_some, if_neg (by decide), lm1', l7', in_w, decide_eq_false n1, decide_eq_false n2]
  simp only [Bool.not_false, Bool.and_true, b2_t, e_bind_some, if_neg (show ¬ (1 : Int32) = 0 by decide), if_neg (nI_pos (show j < 2 ^ 31 by omega)), M_is, Option.bind_some, e4, show j % 4 = j by omega]
  by_cases e : j < zN x
  · simp only [X_site_ok h w e, e_bind_some, if_neg (show ¬ (1 : Int32) = 0 by decide), if_pos e]
    exact s_mcx h w hc hj false
  · simp only [X_site_no h w (Or.inr (nI_le (show zN x ≤ j by omega) (show j < 2 ^ 31 by omega))), e_bind_some, if_true, if_neg e]
theorem m_context_hi (h : Mo I J x) (w : WF x) (hc : c < 4) (hj : 4 ≤ j) (hj2 : j < 2 ^ 31) : F_X12_context (B + 125) (nI c) (nI j) (HP B I J) = some (if j - 4 < zN x then aCx x c true (j - 4) else -1, HP B I J) := by
  have hN := w.1.2
  unfold F_X12_context
  have n1 : ¬ nI j < (-1 : Int32) := fun q => nI_pos (n := j) (by omega) (Int32.lt_trans q (by decide))
  rcases Nat.lt_or_ge 7 j with h7 | h7
  · have n2 : (7 : Int32) < nI j := nI_lt (a := 7) h7 hj2
    rw [X_cl_ok hc, e_bind_some, if_neg (by decide), lm1', l7', in_w, decide_eq_false n1, decide_eq_true n2, if_neg (show ¬ j - 4 < zN x by omega)]
    rfl
  · have e4 : nI j - nI j / 4 * 4 = nI (j % 4) := pk_rem (a := j) (d := 4) (by omega) (by decide) (by decide)
    have n2 : ¬ (7 : Int32) < nI j := nI_nlt (a := 7) (b := j) h7 (by decide)
    rw [X_cl_ok hc, e_bind_some, if_neg (by decide), lm1', l7', in_w, decide_eq_false n1, decide_eq_false n2]
    simp only [Bool.not_false, Bool.and_true, b2_t, e_bind_some, if_neg (show ¬ (1 : Int32) = 0 by decide), if_neg (nI_pos hj2), M_is, Option.bind_some, e4, show j % 4 = j - 4 by omega]
    by_cases e : j - 4 < zN x
    · simp only [X_site_ok h w e, e_bind_some, if_neg (show ¬ (1 : Int32) = 0 by decide), if_pos e]
      have := s_mcx (B := B) h w hc (show j - 4 < 4 by omega) true
      simp only [if_true, show j - 4 + 4 = j by omega] at this
      exact this
    · simp only [X_site_no h w (Or.inr (nI_le (show zN x ≤ j - 4 by omega) (show j - 4 < 2 ^ 31 by omega))), e_bind_some, if_true, if_neg e]
theorem l1 : (1 : Int64) = (nI 1).toInt64 := by decide +kernel
theorem l1' : (1 : Int64) = (nI 2 - 1).toInt64 := by decide +kernel
theorem m_rule_no1 (hv : v < 0) {u : Int32} : F_X12_rule (B + 125) v u (HP B I J) = some (-1, HP B I J) := by
  unfold F_X12_rule
  rw [if_pos hv]
theorem m_rule_no2 (hv : ¬ v < 0) {u : Int32} (hu : nix u 2) : F_X12_rule (B + 125) v u (HP B I J) = some (-1, HP B I J) := by
  unfold F_X12_rule
  rw [if_neg hv, X_in_no (m := 2) l1' hu (by decide), e_bind_some, if_pos rfl]
theorem m_rule_ok (h : Mo I J x) (w : WF x) (hi : i < 2 ^ 31) (hj : j < 2) : F_X12_rule (B + 125) (nI i) (nI j) (HP B I J) = some (if i < zM x then (if j = 0 then nI (zRK x i) else nI (zRR x i)) else -9, HP B I J) := by
  have h2 := WF_2 w
  unfold F_X12_rule
  rw [if_neg (nI_pos hi), X_in_ok l1 (show j ≤ 1 by omega) (by decide), e_bind_some, if_neg (by decide), M_gi21, Option.bind_some, h.2.2.1.1]
  by_cases e : i < zM x
  · rw [if_pos (nI_lt e (by omega)), if_pos e]
    have hr := h.2.2.1.2 i e
    have hc : j = 0 ∨ j = 1 := by omega
    rcases hc with rfl | rfl
    · simp only [if_pos nI_0, M_gr22, Option.bind_some, R_ai142 (show i < 2 by omega), hr.1, if_true]
    · simp only [if_neg (show ¬ nI 1 = 0 by decide), M_gr23, Option.bind_some, R_ai143 (show i < 2 by omega), hr.2, if_neg (show ¬ (1 : Nat) = 0 by decide)]
  · rw [if_neg (nI_nlt (show zM x ≤ i by omega) hi), if_neg e]
theorem y_ruleOf {N : Nat} (hN : 200 < N) (h : Mo I J x) (w : WF x) (hk : k < 4) : F_X12_ruleOf N (B + 125) (nI k) (HP B I J) = some (aRo x k, HP B I J) := by
  have h2 := WF_2 w
  have e0 : F_X12_ruleOf N (B + 125) (nI k) (HP B I J) = ex (gRu x k) (fun i => some (nI (zRR x i), HP B I J)) (some (-9, HP B I J)) (zM x) 0 := by
    unfold F_X12_ruleOf L_X12_ruleOf_2
    have e1 := e_loop_e (body := fun (k : Nat × Int32 × Int32 × eH → Option (Int32 × eH)) s => F_X12_ruleOf_2b N (fun l0 l1 l2 h => k (l0, l1, l2, h)) s.1 s.2.1 s.2.2.1 s.2.2.2) (fun i => (B + 125, nI k, nI i, HP B I J)) (fun i => gRu x k i) (fun i => some (nI (zRR x i), HP B I J)) (some (-9, HP B I J)) (zM x) (N := N) (fun i hi k0 => by
      show F_X12_ruleOf_2b N _ (B + 125) (nI k) (nI i) (HP B I J) = if _ = true then k0 _ else _
      unfold F_X12_ruleOf_2b
      have hr := h.2.2.1.2 i hi
      have hr2 := (w.2.2.2.2.2.2.1.2 i hi).1
      simp only [M_gi21, h.2.2.1.1, Option.bind_some, if_neg (nI_ge hi (show zM x < 2 ^ 31 by omega)), M_gr22, M_gr23, R_ai142 (show i < 2 by omega), R_ai143 (show i < 2 by omega), hr.1, hr.2, nI_1]
      by_cases e : zRK x i = k
      · have hg : gRu x k i = false := by unfold gRu; rw [decide_eq_true e]; rfl
        rw [if_pos (by rw [e]), hg, if_neg (by decide)]
      · have hg : gRu x k i = true := by unfold gRu; rw [decide_eq_false e]; rfl
        rw [if_neg (fun q => e ((nI_eq (by omega) (by omega)).mp q)), hg, if_pos rfl]) (fun k0 => by
      show F_X12_ruleOf_2b N _ (B + 125) (nI k) (nI (zM x)) (HP B I J) = _
      unfold F_X12_ruleOf_2b
      simp only [M_gi21, h.2.2.1.1, Option.bind_some, if_pos (nI_le (Nat.le_refl (zM x)) (show zM x < 2 ^ 31 by omega))]) (by omega)
    exact e1
  rw [e0]
  have e2 : ∀ n i, ex (gRu x k) (fun i => some (nI (zRR x i), HP B I J)) (some (-9, HP B I J)) n i = some ((match ex (gRu x k) (fun i => some i) none n i with | none => -9 | some i => nI (zRR x i)), HP B I J) := fun n i => (ex_map (fun o => some ((match o with | none => (-9 : Int32) | some i => nI (zRR x i)), HP B I J)) (g := gRu x k) (r := fun i => some i) (e := none) n i).symm
  exact e2 _ _
/-- other rules -/
theorem Mo_R {I2 : Nat → Nat → Int32} {rk rr : Nat → Nat} (h : Mo I J x) (hI : ∀ d, d ≠ 125 → d ≠ 142 → d ≠ 143 → ∀ z, I2 d z = I d z) (h5 : ∀ z, z ≠ 21 → I2 125 z = I 125 z) (h0 : I2 125 21 = nI m) (h1 : ∀ i, i < m → I2 142 i = nI (rk i) ∧ I2 143 i = nI (rr i)) : Mo I2 J (oRu x m rk rr) := by
  obtain ⟨ha, ht, hr, hc, hk, hK⟩ := h
  exact ⟨MoA_fr (x := oRu x m rk rr) ha (fun z hz => h5 z (by omega)), MoT_fr (x := oRu x m rk rr) ht (h5 24 (by decide)) (hI 144 (by decide) (by decide) (by decide)), ⟨h0, h1⟩, MoC_fr (x := oRu x m rk rr) hc (fun c h1 h2 => hI c (by omega) (by omega) (by omega)), fun k hk2 => (hI 126 (by decide) (by decide) (by decide) k).trans (hk k hk2), fun k hk2 => MoK_id (hK k hk2) (fun c h1 h2 => hI c (by omega) (by omega) (by omega)) (fun _ => rfl)⟩
theorem l4 : (4 : Int64) = (nI 4).toInt64 := by decide +kernel
theorem l4' : (4 : Int64) = (nI 5 - 1).toInt64 := by decide +kernel
theorem m_rules_no1 {N : Nat} (h : Mo I J x) (w : WF x) (hv : nix v (zK x)) {u : Int32} : F_X12_rules N (B + 125) v u (HP B I J) = some (-1, HP B I J) := by
  unfold F_X12_rules
  simp only [M_is, Option.bind_some, X_key_no h w hv, e_bind_some, if_true]
theorem m_rules_no2 {N : Nat} (h : Mo I J x) (w : WF x) (hk : k < zK x) (hv : nix v 5) : F_X12_rules N (B + 125) (nI k) v (HP B I J) = some (-1, HP B I J) := by
  unfold F_X12_rules
  simp only [M_is, Option.bind_some, X_key_ok h w hk, e_bind_some, if_neg (show ¬ (1 : Int32) = 0 by decide), X_in_no (m := 5) l4' hv (by decide), if_true]
theorem R_ai1420 : h_ai (HP B I J) 0 (B + 142) 0 = some (I 142 0) := R_ai142 (i := 0) (by decide)
theorem R_ai1421 : h_ai (HP B I J) 0 (B + 142) 1 = some (I 142 1) := R_ai142 (i := 1) (by decide)
theorem R_ai1431 : h_ai (HP B I J) 0 (B + 143) 1 = some (I 143 1) := R_ai143 (i := 1) (by decide)
theorem R_si1420 : h_si (HP B I J) 0 (B + 142) 0 v = some (HP B (w2 I 142 0 v) J) := R_si142 (i := 0) (by decide)
theorem R_si1430 : h_si (HP B I J) 0 (B + 143) 0 v = some (HP B (w2 I 143 0 v) J) := R_si143 (i := 0) (by decide)
theorem s_rl105 {N : Nat} (hn : I 125 21 = nI n) (h2 : n < 2) (l4 : Int32) : F_X12_rules_105 N (B + 125) (nI k) (nI r) l4 (HP B I J) = some (l4, HP B (w2 (w2 (w2 I 142 n (nI k)) 143 n (nI r)) 125 21 (nI (n + 1))) J) := by
  have g1 : ∀ v, w2 I 142 n v 125 21 = nI n := fun v => (w2_c _ _ (by decide)).trans hn
  have g2 : ∀ v u, w2 (w2 I 142 n v) 143 n u 125 21 = nI n := fun v u => (w2_c _ _ (by decide)).trans (g1 v)
  unfold F_X12_rules_105
  simp only [M_gr22, M_gr23, M_gi21, Option.bind_some, hn, R_si142 h2, g1, R_si143 h2, g2, nI_1, M_p21]
/-- behind the search: a key without a rule -/
theorem s_rlnew {N : Nat} {K : Nat → Int32 → Int32 → Int32 → eH → Option (Int32 × eH)} (h : Mo I J x) (w : WF x) (hk : k < 4) (hf : fd x k = none) : ∃ I2, F_X12_rules_24b N K (B + 125) (nI k) (nI r) (nI (zM x)) (HP B I J) = some (aRu x k, HP B I2 J) ∧ Mo I2 J (nRu x k r) ∧ frR I J I2 J := by
  have h2 := WF_2 w
  have hM := h.2.2.1.1
  have hR := h.2.2.1.2
  by_cases q : zM x < 2
  · have hn : nRu x k r = oRu x (zM x + 1) (fun a => if a = zM x then k else zRK x a) (fun a => if a = zM x then r else zRR x a) := by unfold nRu; rw [hf]; exact if_pos q
    have ha : aRu x k = -9 := by unfold aRu; rw [hf]; exact if_pos q
    rw [hn, ha]
    refine ⟨w2 (w2 (w2 I 142 (zM x) (nI k)) 143 (zM x) (nI r)) 125 21 (nI (zM x + 1)), ?_, Mo_R h (fun d h1 h2 h3 z => ?_) (fun z hz => ?_) (w2_s _ _ _ _) (fun i hi => ?_), frR_t (frR_t (frR_w (by decide)) (frR_w (by decide))) (frR_w (by decide))⟩
    · unfold F_X12_rules_24b
      simp only [M_gi21, hM, Option.bind_some, if_pos (nI_le (Nat.le_refl (zM x)) (show zM x < 2 ^ 31 by omega)), if_neg (show ¬ nI (zM x) = 2 from fun e => absurd ((nI_eq (show zM x < 2 ^ 31 by omega) (show 2 < 2 ^ 31 by decide)).mp e) (by omega)), s_rl105 hM q]
    · rw [w2_c _ _ h1, w2_c _ _ h3, w2_c _ _ h2]
    · rw [w2_k _ _ hz, w2_c _ _ (by decide), w2_c _ _ (by decide)]
    · by_cases e : i = zM x
      · subst e
        refine ⟨?_, ?_⟩
        · rw [w2_c _ _ (by decide), w2_c _ _ (by decide), w2_s, if_pos rfl]
        · rw [w2_c _ _ (by decide), w2_s, if_pos rfl]
      · refine ⟨?_, ?_⟩
        · rw [w2_c _ _ (by decide), w2_c _ _ (by decide), w2_k _ _ e, if_neg e]; exact (hR i (by omega)).1
        · rw [w2_c _ _ (by decide), w2_k _ _ e, w2_c _ _ (by decide), if_neg e]; exact (hR i (by omega)).2
  · have h22 : zM x = 2 := by omega
    have hn : nRu x k r = oRu x 2 (fun a => if a = 0 then zRK x 1 else k) (fun a => if a = 0 then zRR x 1 else r) := by unfold nRu; rw [hf]; exact if_neg q
    have ha : aRu x k = nI (zRK x 0) := by unfold aRu; rw [hf]; exact if_neg q
    rw [hn, ha]
    have r0 := hR 0 (by omega)
    have r1 := hR 1 (by omega)
    have g1 : ∀ v, w2 I 142 0 v 143 1 = nI (zRR x 1) := fun v => (w2_c _ _ (by decide)).trans r1.2
    refine ⟨w2 (w2 (w2 (w2 (w2 (w2 I 142 0 (nI (zRK x 1))) 143 0 (nI (zRR x 1))) 125 21 1) 142 1 (nI k)) 143 1 (nI r)) 125 21 (nI 2), ?_, Mo_R h (fun d h1 h2 h3 z => ?_) (fun z hz => ?_) (w2_s _ _ _ _) (fun i hi => ?_), frR_t (frR_t (frR_t (frR_t (frR_t (frR_w (by decide)) (frR_w (by decide))) (frR_w (by decide))) (frR_w (by decide))) (frR_w (by decide))) (frR_w (by decide))⟩
    · unfold F_X12_rules_24b
      have e105 : ∀ l4, F_X12_rules_105 N (B + 125) (nI k) (nI r) l4 (HP B (w2 (w2 (w2 I 142 0 (nI (zRK x 1))) 143 0 (nI (zRR x 1))) 125 21 1) J) = _ := fun l4 => s_rl105 (n := 1) (w2_s _ _ _ _) (by decide) l4
      simp only [M_gi21, hM, Option.bind_some, if_pos (nI_le (Nat.le_refl (zM x)) (show zM x < 2 ^ 31 by omega)), if_pos (show nI (zM x) = 2 by rw [h22]; rfl), M_gr22, M_gr23, R_ai1420, R_ai1421, R_ai1431, R_si1420, R_si1430, r0.1, r1.1, g1, M_p21, e105]
      rfl
    · rw [w2_c _ _ h1, w2_c _ _ h3, w2_c _ _ h2, w2_c _ _ h1, w2_c _ _ h3, w2_c _ _ h2]
    · rw [w2_k _ _ hz, w2_c _ _ (by decide), w2_c _ _ (by decide), w2_k _ _ hz, w2_c _ _ (by decide), w2_c _ _ (by decide)]
    · have hc : i = 0 ∨ i = 1 := by omega
      rcases hc with rfl | rfl
      · refine ⟨?_, ?_⟩
        · rw [w2_c _ _ (by decide), w2_c _ _ (by decide), w2_k _ _ (by decide), w2_c _ _ (by decide), w2_c _ _ (by decide), w2_s, if_pos rfl]
        · rw [w2_c _ _ (by decide), w2_k _ _ (by decide), w2_c _ _ (by decide), w2_c _ _ (by decide), w2_s, if_pos rfl]
      · refine ⟨?_, ?_⟩
        · rw [w2_c _ _ (by decide), w2_c _ _ (by decide), w2_s, if_neg (by decide)]
        · rw [w2_c _ _ (by decide), w2_s, if_neg (by decide)]
theorem ex_none {g : Nat → Bool} : ∀ {n i : Nat}, ex g (fun i => some i) none n i = none → ∀ j, i ≤ j → j < i + n → g j = true
  | 0, _, _, j, h1, h2 => absurd h2 (by omega)
  | n + 1, i, h, j, h1, h2 => by
    unfold ex at h
    by_cases e : g i = true
    · rw [if_pos e] at h
      by_cases q : j = i
      · rw [q]; exact e
      · exact ex_none h j (by omega) (by omega)
    · rw [if_neg e] at h; cases h
theorem ex_first {g : Nat → Bool} : ∀ {n i j : Nat}, ex g (fun i => some i) none n i = some j → ∀ l, i ≤ l → l < j → g l = true
  | 0, _, _, h, _, _, _ => by cases h
  | n + 1, i, j, h, l, h1, h2 => by
    unfold ex at h
    by_cases e : g i = true
    · rw [if_pos e] at h
      by_cases q : l = i
      · rw [q]; exact e
      · exact ex_first h l (by omega) h2
    · rw [if_neg e] at h
      cases h
      omega
theorem m_rules_ok {N : Nat} (hN : 200 < N) (h : Mo I J x) (w : WF x) (hk : k < zK x) (hr : r < 5) : ∃ I2, F_X12_rules N (B + 125) (nI k) (nI r) (HP B I J) = some (aRu x k, HP B I2 J) ∧ Mo I2 J (nRu x k r) ∧ frR I J I2 J := by
  have h2 := WF_2 w
  have h4 : k < 4 := Nat.lt_of_lt_of_le hk w.2.2.2.1
  have hM := h.2.2.1.1
  have hR := h.2.2.1.2
  have step : ∀ i, i < zM x → gRu x k i = true → ∀ K : Nat × Int32 × Int32 × Int32 × eH → Option (Int32 × eH), F_X12_rules_24b N (fun l0 l1 l2 l3 h => K (l0, l1, l2, l3, h)) (B + 125) (nI k) (nI r) (nI i) (HP B I J) = K (B + 125, nI k, nI r, nI (i + 1), HP B I J) := by
    intro i hi hg K
    have hr2 := (w.2.2.2.2.2.2.1.2 i hi).1
    have e : ¬ zRK x i = k := by
      intro q
      unfold gRu at hg
      rw [decide_eq_true q] at hg
      cases hg
    unfold F_X12_rules_24b
    simp only [M_gi21, hM, Option.bind_some, if_neg (nI_ge hi (show zM x < 2 ^ 31 by omega)), M_gr22, R_ai142 (show i < 2 by omega), (hR i hi).1, if_neg (fun q => e ((nI_eq (show zRK x i < 2 ^ 31 by omega) (show k < 2 ^ 31 by omega)).mp q)), nI_1]
  have hu : F_X12_rules N (B + 125) (nI k) (nI r) (HP B I J) = L_X12_rules_24 N (B + 125) (nI k) (nI r) (nI 0) (HP B I J) := by
    unfold F_X12_rules
    simp only [M_is, Option.bind_some, X_key_ok h w hk, e_bind_some, if_neg (show ¬ (1 : Int32) = 0 by decide), X_in_ok l4 (show r ≤ 4 by omega) (show 4 < 2 ^ 31 by decide)]
    rfl
  rw [hu]
  unfold L_X12_rules_24
  cases e : fd x k with
  | none =>
    have hg := ex_none e
    have e1 := e_loop_f (body := fun (k : Nat × Int32 × Int32 × Int32 × eH → Option (Int32 × eH)) s => F_X12_rules_24b N (fun l0 l1 l2 l3 h => k (l0, l1, l2, l3, h)) s.1 s.2.1 s.2.2.1 s.2.2.2.1 s.2.2.2.2) (fun i => (B + 125, nI k, nI r, nI i, HP B I J)) (zM x) (N := N) (fun i hi K => step i hi (hg i (by omega) (by omega)) K) (by omega)
    obtain ⟨I2, q1, q2, q3⟩ := s_rlnew (B := B) (N := N) (r := r) (K := fun l0 l1 l2 l3 h => e_loop (fun (k : Nat × Int32 × Int32 × Int32 × eH → Option (Int32 × eH)) s => F_X12_rules_24b N (fun l0 l1 l2 l3 h => k (l0, l1, l2, l3, h)) s.1 s.2.1 s.2.2.1 s.2.2.2.1 s.2.2.2.2) (N - zM x - 1) (l0, l1, l2, l3, h)) h w h4 e
    exact ⟨I2, e1.trans q1, q2, q3⟩
  | some d =>
    obtain ⟨i1, i2⟩ := fd_in e
    have hn : nRu x k r = oRu x (zM x) (zRK x) (fun a => if a = d then r else zRR x a) := by unfold nRu; rw [e]
    have ha : aRu x k = -9 := by unfold aRu; rw [e]
    rw [hn, ha]
    have hg := ex_first e
    have e1 := e_loop_f (body := fun (k : Nat × Int32 × Int32 × Int32 × eH → Option (Int32 × eH)) s => F_X12_rules_24b N (fun l0 l1 l2 l3 h => k (l0, l1, l2, l3, h)) s.1 s.2.1 s.2.2.1 s.2.2.2.1 s.2.2.2.2) (fun i => (B + 125, nI k, nI r, nI i, HP B I J)) d (N := N) (fun i hi K => step i (by omega) (hg i (by omega) hi) K) (by omega)
    refine ⟨w2 I 143 d (nI r), e1.trans ?_, Mo_R h (fun c _ _ h3 z => w2_c _ _ h3) (fun z _ => w2_c _ _ (by decide)) ((w2_c _ _ (by decide)).trans hM) (fun j hj => ⟨(w2_c _ _ (by decide)).trans (hR j hj).1, ?_⟩), frR_w (by decide)⟩
    · show F_X12_rules_24b N _ (B + 125) (nI k) (nI r) (nI d) (HP B I J) = _
      unfold F_X12_rules_24b
      simp only [M_gi21, hM, Option.bind_some, if_neg (nI_ge i1 (show zM x < 2 ^ 31 by omega)), M_gr22, M_gr23, R_ai142 (show d < 2 by omega), (hR d i1).1, i2, if_true, R_si143 (show d < 2 by omega)]
    · by_cases q : j = d
      · subst q; rw [w2_s, if_pos rfl]
      · rw [w2_k _ _ q, if_neg q]; exact (hR j hj).2
end RCALL1
