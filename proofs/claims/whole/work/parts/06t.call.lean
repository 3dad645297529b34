/-! CALLS of the class: rules -/
theorem ex_some {g : Nat → Bool} : ∀ {n i j : Nat}, ex g (fun i => some i) none n i = some j → i ≤ j ∧ j < i + n ∧ g j = false
  | 0, _, _, h => by cases h
  | n + 1, i, j, h => by
    unfold ex at h
    by_cases e : g i = true
    · rw [if_pos e] at h
      obtain ⟨a, b, c⟩ := ex_some h
      exact ⟨by omega, by omega, c⟩
    · rw [if_neg e] at h
      cases h
      exact ⟨Nat.le_refl _, by omega, Bool.eq_false_iff.mpr e⟩
/-- the place of a key's rule -/
def fd (x : eST) (k : Nat) : Option Nat := ex (gRu x k) (fun i => some i) none (zM x) 0
theorem fd_in {x : eST} {k i : Nat} (h : fd x k = some i) : i < zM x ∧ zRK x i = k := by
  obtain ⟨_, b, c⟩ := ex_some h
  refine ⟨by omega, ?_⟩
  unfold gRu at c
  rw [Bool.not_eq_false', decide_eq_true_eq] at c
  exact c
def oRu (x : eST) (m : Nat) (rk rr : Nat → Nat) : eST := vM (vRK (vRR x rr) rk) m
theorem Cl_R {I I2 : Nat → Nat → Int32} {J : Nat → Nat → Int64} {x : eST} {m : Nat} {rk rr : Nat → Nat} (h : Cl I J x) (hI : ∀ d, d ≠ 7 → d ≠ 8 → d ≠ 9 → ∀ z, I2 d z = I d z) (h0 : I2 7 2 = nI m) (h1 : ∀ i, i < m → I2 8 i = nI (rk i) ∧ I2 9 i = nI (rr i)) : Cl I2 J (oRu x m rk rr) ∧ frC I J I2 J := by
  obtain ⟨⟨a1, a2, a3, a4, a5⟩, ⟨b1, b2⟩, ⟨c1, c2⟩, d, e⟩ := h
  have g : ∀ d, d < 7 ∨ 9 < d → ∀ z, I2 d z = I d z := fun d hd z => hI d (by omega) (by omega) (by omega) z
  refine ⟨Cl_mk (x := x) ⟨⟨a1, a2, a3, a4, a5⟩, ⟨b1, b2⟩, ⟨c1, c2⟩, d, e⟩ rfl (fun c h1 _ z => g c (by omega) z) (fun c _ h2 z => rfl) ⟨?_, ?_, ?_, ?_, ?_⟩ ⟨?_, fun i hi => ?_⟩ ⟨h0, h1⟩ (ClC_fr d (fun c hc z => g _ (by unfold cC; omega) z) rfl rfl rfl), fun d hd z => ⟨g d (by omega) z, rfl⟩⟩
  · rw [g 0 (by omega)]; exact a1
  · rw [g 0 (by omega)]; exact a2
  · rw [g 0 (by omega)]; exact a3
  · rw [g 0 (by omega)]; exact a4
  · rw [g 0 (by omega)]; exact a5
  · rw [g 1 (by omega)]; exact b1
  · rw [g 2 (by omega)]; exact b2 i hi
section CALL8
variable {B : Nat} {I : Nat → Nat → Int32} {J J2 : Nat → Nat → Int64} {a b c i j k r s f t n m : Nat} {x : eST} {y : eKS} {v w : Int32}
theorem t_placeOf {N : Nat} (hN : 200 < N) (h : Cl I J x) (w : WF x) (hk : k < 4) : F_X5_placeOf N (B + 7) (nI k) (HP B I J) = some (enc (fd x k), HP B I J) := by
  rw [s_placeOf hN h w hk]
  exact (ex_map (fun o => some (enc o, HP B I J)) (g := gRu x k) (r := fun i => some i) (e := none) (zM x) 0).symm
def aRo (x : eST) (k : Nat) : Int32 := match fd x k with | none => -9 | some i => nI (zRR x i)
theorem t_ruleOf {N : Nat} (hN : 200 < N) (h : Cl I J x) (w : WF x) (hk : k < 4) : F_X5_ruleOf N (B + 7) (nI k) (HP B I J) = some (aRo x k, HP B I J) := by
  unfold F_X5_ruleOf aRo
  simp only [Q_is, Option.bind_some, t_placeOf hN h w hk, e_bind_some]
  cases e : fd x k with
  | none =>
    have hv : nix (-1) (zM x) := Or.inl (by decide)
    simp only [enc, ruleAt_no h w hv, e_bind_some]
  | some i => simp only [enc, ruleAt_ok h w (fd_in e).1, e_bind_some]
theorem Q_ai80 : h_ai (HP B I J) 0 (B + 8) 0 = some (I 8 0) := Q_ai8 (i := 0) (by decide)
theorem Q_ai81 : h_ai (HP B I J) 0 (B + 8) 1 = some (I 8 1) := Q_ai8 (i := 1) (by decide)
theorem Q_ai91 : h_ai (HP B I J) 0 (B + 9) 1 = some (I 9 1) := Q_ai9 (i := 1) (by decide)
theorem Q_si80 : h_si (HP B I J) 0 (B + 8) 0 v = some (HP B (w2 I 8 0 v) J) := Q_si8 (i := 0) (by decide)
theorem Q_si90 : h_si (HP B I J) 0 (B + 9) 0 v = some (HP B (w2 I 9 0 v) J) := Q_si9 (i := 0) (by decide)
theorem s_give73 {N : Nat} (hn : I 7 2 = nI n) (h2 : n < 2) (l4 : Int32) : F_X5_give_73 N (B + 7) (nI k) (nI r) l4 (HP B I J) = some (l4, HP B (w2 (w2 (w2 I 8 n (nI k)) 9 n (nI r)) 7 2 (nI (n + 1))) J) := by
  have g1 : ∀ v, w2 I 8 n v 7 2 = nI n := fun v => (w2_c _ _ (by decide)).trans hn
  have g2 : ∀ v u, w2 (w2 I 8 n v) 9 n u 7 2 = nI n := fun v u => (w2_c _ _ (by decide)).trans (g1 v)
  unfold F_X5_give_73
  simp only [Q_gr0, Q_gr1, Q_gi2, Option.bind_some, hn, Q_si8 h2, g1, Q_si9 h2, g2, nI_1, Q_p2]
/-- the state after a rule is given, and the answer -/
def nRu (x : eST) (k r : Nat) : eST := match fd x k with
  | some i => oRu x (zM x) (zRK x) (fun a => if a = i then r else zRR x a)
  | none => if zM x < 2 then oRu x (zM x + 1) (fun a => if a = zM x then k else zRK x a) (fun a => if a = zM x then r else zRR x a)
    else oRu x 2 (fun a => if a = 0 then zRK x 1 else k) (fun a => if a = 0 then zRR x 1 else r)
def aRu (x : eST) (k : Nat) : Int32 := match fd x k with
  | some _ => -9
  | none => if zM x < 2 then -9 else nI (zRK x 0)
theorem t_give {N : Nat} (hN : 200 < N) (h : Cl I J x) (w : WF x) (hk : k < 4) : ∃ I2, F_X5_give N (B + 7) (nI k) (nI r) (HP B I J) = some (aRu x k, HP B I2 J) ∧ Cl I2 J (nRu x k r) ∧ frC I J I2 J := by
  have h2 := WF_2 w
  have hM := h.2.2.1.1
  have hR := h.2.2.1.2
  cases e : fd x k with
  | some i =>
    obtain ⟨i1, i2⟩ := fd_in e
    have hn : nRu x k r = oRu x (zM x) (zRK x) (fun a => if a = i then r else zRR x a) := by unfold nRu; rw [e]
    have ha : aRu x k = -9 := by unfold aRu; rw [e]
    rw [hn, ha]
    refine ⟨w2 I 9 i (nI r), ?_, Cl_R h (fun d _ _ h9 z => w2_c _ _ h9) ((w2_c _ _ (by decide)).trans hM) (fun j hj => ⟨(w2_c _ _ (by decide)).trans (hR j hj).1, ?_⟩)⟩
    · unfold F_X5_give
      simp only [Q_is, Option.bind_some, t_placeOf hN h w hk, e_bind_some, e, enc, if_neg (nI_pos (show i < 2 ^ 31 by omega)), Q_gr1, Q_si9 (show i < 2 by omega)]
    · by_cases q : j = i
      · rw [if_pos q, q]; exact w2_s _ _ _ _
      · rw [if_neg q]; exact (w2_k _ _ q).trans (hR j hj).2
  | none =>
    by_cases e2 : zM x < 2
    · have hn : nRu x k r = oRu x (zM x + 1) (fun a => if a = zM x then k else zRK x a) (fun a => if a = zM x then r else zRR x a) := by unfold nRu; rw [e]; exact if_pos e2
      have ha : aRu x k = -9 := by unfold aRu; rw [e]; exact if_pos e2
      rw [hn, ha]
      refine ⟨w2 (w2 (w2 I 8 (zM x) (nI k)) 9 (zM x) (nI r)) 7 2 (nI (zM x + 1)), ?_, Cl_R h (fun d h7 h8 h9 z => (w2_c _ _ h7).trans ((w2_c _ _ h9).trans (w2_c _ _ h8))) (w2_s _ _ _ _) (fun j hj => ⟨?_, ?_⟩)⟩
      · have hlt : nI (zM x) < (2 : Int32) := nI_lt e2 (by decide)
        unfold F_X5_give
        simp only [Q_is, Option.bind_some, t_placeOf hN h w hk, e_bind_some, e, enc, if_pos (show (-1 : Int32) < 0 by decide), Q_gi2, hM, Q_gr0, Q_len, if_pos hlt, s_give73 hM e2]
      · refine (w2_c _ _ (by decide)).trans ((w2_c _ _ (by decide)).trans ?_)
        by_cases q : j = zM x
        · rw [if_pos q, q]; exact w2_s _ _ _ _
        · rw [if_neg q]; exact (w2_k _ _ q).trans (hR j (by omega)).1
      · refine (w2_c _ _ (by decide)).trans ?_
        by_cases q : j = zM x
        · rw [if_pos q, q]; exact w2_s _ _ _ _
        · rw [if_neg q]; exact (w2_k _ _ q).trans ((w2_c _ _ (by decide)).trans (hR j (by omega)).2)
    · have hn : nRu x k r = oRu x 2 (fun a => if a = 0 then zRK x 1 else k) (fun a => if a = 0 then zRR x 1 else r) := by unfold nRu; rw [e]; exact if_neg e2
      have ha : aRu x k = nI (zRK x 0) := by unfold aRu; rw [e]; exact if_neg e2
      rw [hn, ha]
      let I1 := w2 (w2 (w2 I 8 0 (nI (zRK x 1))) 9 0 (nI (zRR x 1))) 7 2 1
      have o1 : I1 7 2 = nI 1 := w2_s _ _ _ _
      refine ⟨w2 (w2 (w2 I1 8 1 (nI k)) 9 1 (nI r)) 7 2 (nI 2), ?_, Cl_R h (fun d h7 h8 h9 z => (w2_c _ _ h7).trans ((w2_c _ _ h9).trans ((w2_c _ _ h8).trans ((w2_c _ _ h7).trans ((w2_c _ _ h9).trans (w2_c _ _ h8)))))) (w2_s _ _ _ _) (fun j hj => ⟨?_, ?_⟩)⟩
      · have hlt : ¬ nI (zM x) < (2 : Int32) := nI_nlt (b := 2) (by omega) (by omega)
        have r1 : w2 I 8 0 (nI (zRK x 1)) 9 1 = nI (zRR x 1) := (w2_c _ _ (by decide)).trans (hR 1 (by omega)).2
        unfold F_X5_give
        simp only [Q_is, Option.bind_some, t_placeOf hN h w hk, e_bind_some, e, enc, if_pos (show (-1 : Int32) < 0 by decide), Q_gi2, hM, Q_gr0, Q_len, if_neg hlt, Q_ai80, Q_ai81, (hR 0 (by omega)).1, (hR 1 (by omega)).1, Q_si80, Q_gr1, Q_ai91, r1, Q_si90, Q_p2]
        exact s_give73 (I := I1) o1 (by decide) _
      · have hc : j = 0 ∨ j = 1 := by omega
        rcases hc with rfl | rfl
        · exact (w2_c _ _ (by decide)).trans ((w2_c _ _ (by decide)).trans ((w2_k _ _ (by decide)).trans ((w2_c _ _ (by decide)).trans ((w2_c _ _ (by decide)).trans (w2_s _ _ _ _)))))
        · exact (w2_c _ _ (by decide)).trans ((w2_c _ _ (by decide)).trans (w2_s _ _ _ _))
      · have hc : j = 0 ∨ j = 1 := by omega
        rcases hc with rfl | rfl
        · exact (w2_c _ _ (by decide)).trans ((w2_k _ _ (by decide)).trans ((w2_c _ _ (by decide)).trans ((w2_c _ _ (by decide)).trans (w2_s _ _ _ _))))
        · exact (w2_c _ _ (by decide)).trans (w2_s _ _ _ _)
theorem c_rules_ok {N : Nat} (hN : 200 < N) (h : Cl I J x) (w : WF x) (hk : k < zK x) (hr : r < 5) : ∃ I2, F_X11_rules N B (nI k) (nI r) (HP B I J) = some (aRu x k, HP B I2 J) ∧ Cl I2 J (nRu x k r) ∧ frC I J I2 J := by
  have h4 : k < 4 := Nat.lt_of_lt_of_le hk w.2.2.2.1
  obtain ⟨I2, e1, e2, e3⟩ := t_give (B := B) (r := r) hN h w h4
  refine ⟨I2, ?_, e2, e3⟩
  unfold F_X11_rules
  simp only [V_is, Option.bind_some, keyAt_ok h w hk, e_bind_some, Option.elim_some, if_neg (nI_pos (show r < 2 ^ 31 by omega)), if_pos (show nI r ≤ 4 from nI_le (show r ≤ 4 by omega) (by decide)), V_gr4, Q_is, e1]
theorem c_rules_no1 {N : Nat} (h : Cl I J x) (w : WF x) {u : Int32} (hv : nix v (zK x)) : F_X11_rules N B v u (HP B I J) = some (-1, HP B I J) := by
  unfold F_X11_rules
  simp only [V_is, Option.bind_some, keyAt_no h w hv, e_bind_some, Option.elim_none]
theorem c_rules_no2 {N : Nat} (h : Cl I J x) (w : WF x) (hk : k < zK x) (hv : nix v 5) : F_X11_rules N B (nI k) v (HP B I J) = some (-1, HP B I J) := by
  unfold F_X11_rules
  simp only [V_is, Option.bind_some, keyAt_ok h w hk, e_bind_some, Option.elim_some]
  by_cases e : v < 0
  · rw [if_pos e]
  · rw [if_neg e, if_neg (nix_le hv (by decide) (by decide) e)]
end CALL8
