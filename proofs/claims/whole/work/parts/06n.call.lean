/-! CALLS of the class: tally, behind, alike, sends -/
section CALL2
variable {B : Nat} {I : Nat → Nat → Int32} {J J2 : Nat → Nat → Int64} {a b i j k s f t n : Nat} {x : eST} {v w : Int32}
theorem Cl_k (h : Cl I J x) (hk : k < 4) : ClK k I J (zS x k) := h.2.2.2.2 k hk
def aTa (y : eKS) : Nat → Int32
  | 0 => nI (kkd y)
  | 1 => nI (kM y 0 + kM y 1 + kM y 2 + kM y 3)
  | 2 => nI (ct (kS y 2) 160)
  | 3 => nI (ct (kS y 3) 160)
  | 4 => nI (ct (kS y 1) 160)
  | 5 => nI (ct (los y) 160)
  | _ => kF y
theorem t_sum {N : Nat} (hN : 200 < N) {y : Int32} {m : Nat → Nat} (hy : rwN y m) (h : eH) : F_X9_sum N y h = some (nI (m 0 + m 1 + m 2 + m 3), h) := by
  rw [s_sum (by omega), rsm_nI hy]
theorem c_tally_ok {N : Nat} (hN : 200 < N) (h : Cl I J x) (w : WF x) (hk : k < zK x) (hj : j < 7) : F_X11_tally N B (nI k) (nI j) (HP B I J) = some (aTa (zS x k) j, HP B I J) := by
  have h4 : k < 4 := Nat.lt_of_lt_of_le hk w.2.2.2.1
  have hK := Cl_k h h4
  have g8 : h_gi (HP B I J) 3 (B + cJ k) 8 = some (nI (kkd (zS x k))) := (m_gi (sh_J k h4) (by decide) (by decide)).trans (congrArg some hK.2.2.2.2.1)
  have g10 : h_gi (HP B I J) 3 (B + cJ k) 10 = some (kF (zS x k)) := (m_gi (sh_J k h4) (by decide) (by decide)).trans (congrArg some hK.2.2.2.1)
  have g9 : h_gi (HP B I J) 3 (B + cJ k) 9 = some (I (cJ k) 9) := m_gi (sh_J k h4) (by decide) (by decide)
  have gs : F_X9_sum N (I (cJ k) 9) (HP B I J) = _ := t_sum hN hK.2.2.1 _
  have gz : ∀ f, f < 8 → F_X1_size N (B + dF k f) (HP B I J) = some (nI (ct (kS (zS x k) f) 160), HP B I J) := fun f hf => t_size (by omega) (isD_F k h4 f hf) (ClK_d hK hf)
  unfold F_X11_tally
  simp only [V_is, Option.bind_some, keyAt_ok h w hk, e_bind_some, Option.elim_some, if_neg (nI_pos (show j < 2 ^ 31 by omega)), if_pos (show nI j ≤ 6 from nI_le (show j ≤ 6 by omega) (by decide)), K_gr0 h4, g8, g9, g10, gs, J_gr4 h4, J_gr5 h4, J_gr6 h4, J_gr7 h4, F_is h4 (show 1 < 8 by decide), F_is h4 (show 2 < 8 by decide), F_is h4 (show 3 < 8 by decide), gz 1 (by decide), gz 2 (by decide), gz 3 (by decide), K_is h4, t_lostTotal hN h4 hK]
  have hc : j = 0 ∨ j = 1 ∨ j = 2 ∨ j = 3 ∨ j = 4 ∨ j = 5 ∨ j = 6 := by omega
  rcases hc with rfl | rfl | rfl | rfl | rfl | rfl | rfl <;> rfl
theorem c_tally_no1 {N : Nat} (h : Cl I J x) (w : WF x) (hv : nix v (zK x)) {u : Int32} : F_X11_tally N B v u (HP B I J) = some (-1, HP B I J) := by
  unfold F_X11_tally
  simp only [V_is, Option.bind_some, keyAt_no h w hv, e_bind_some, Option.elim_none]
theorem c_tally_no2 {N : Nat} (h : Cl I J x) (w : WF x) (hk : k < zK x) (hv : nix v 7) : F_X11_tally N B (nI k) v (HP B I J) = some (-1, HP B I J) := by
  unfold F_X11_tally
  simp only [V_is, Option.bind_some, keyAt_ok h w hk, e_bind_some, Option.elim_some]
  by_cases e : v < 0
  · rw [if_pos e]
  · rw [if_neg e, if_neg]
    intro hc
    have h2 : (7 : Int32) ≤ v := hv.resolve_left e
    exact absurd (Int32.le_trans h2 hc) (by decide)
theorem c_behind_ok {N : Nat} (hN : 200 < N) (h : Cl I J x) (w : WF x) (hs : s < zN x) (hk : k < zK x) : F_X11_behind N B (nI s) (nI k) (HP B I J) = some (nI (gmx (kR (zS x k)) 4 0 + gmx (kR (zS x k)) 4 1 + gmx (kR (zS x k)) 4 2 + gmx (kR (zS x k)) 4 3) - nI (kR (zS x k) s 0 + kR (zS x k) s 1 + kR (zS x k) s 2 + kR (zS x k) s 3), HP B I J) := by
  have h4 : k < 4 := Nat.lt_of_lt_of_le hk w.2.2.2.1
  have h5 : s < 4 := Nat.lt_of_lt_of_le hs w.1.2
  have hK := Cl_k h h4
  obtain ⟨y, e1, e2⟩ := t_greatestRow (B := B) hN h4 hK
  unfold F_X11_behind
  simp only [V_is, Option.bind_some, keyAt_ok h w hk, e_bind_some, replicaAt_ok h w hs hk, Option.elim_some, K_is h4, e1, t_sum hN e2, R_gi3 h4 h5, t_sum hN (hK.2.1 s h5)]
theorem c_behind_no {N : Nat} (h : Cl I J x) (w : WF x) {u v : Int32} (hv : nix u (zN x) ∨ nix v (zK x)) : F_X11_behind N B u v (HP B I J) = some (-1, HP B I J) := by
  have h4 : zK x ≤ 4 := w.2.2.2.1
  unfold F_X11_behind
  rcases nix_c v (show zK x < 2 ^ 31 by omega) with e | ⟨k, hk, rfl⟩
  · simp only [V_is, Option.bind_some, keyAt_no h w e, e_bind_some, replicaAt_no h w hv, Option.elim_none]
  · simp only [V_is, Option.bind_some, keyAt_ok h w hk, e_bind_some, replicaAt_no h w hv, Option.elim_none, Option.elim_some]
def aAl (y : eKS) (a b : Nat) : Bool := al (fun t => decide (kR y a t = kR y b t)) 4 0 && al (fun j => decide (kS y (4 + a) j = kS y (4 + b) j)) 160 0
theorem c_alike_ok {N : Nat} (hN : 200 < N) (h : Cl I J x) (w : WF x) (ha : a < zN x) (hb : b < zN x) (hk : k < zK x) : F_X11_alike N B (nI a) (nI b) (nI k) (HP B I J) = some (b2 (aAl (zS x k) a b), HP B I J) := by
  have h4 : k < 4 := Nat.lt_of_lt_of_le hk w.2.2.2.1
  have h5 : a < 4 := Nat.lt_of_lt_of_le ha w.1.2
  have h6 : b < 4 := Nat.lt_of_lt_of_le hb w.1.2
  have hK := Cl_k h h4
  have r1 : I (cR k a) 3 = I (cR k b) 3 ↔ al (fun t => decide (kR (zS x k) a t = kR (zS x k) b t)) 4 0 = true := by
    rw [al_iff]
    constructor
    · intro e t _ ht
      have e1 := (hK.2.1 a h5 t (by omega)).1
      have e2 := (hK.2.1 b h6 t (by omega)).1
      have e3 := (hK.2.1 a h5 t (by omega)).2
      have e4 := (hK.2.1 b h6 t (by omega)).2
      rw [e, e2] at e1
      exact decide_eq_true ((nI_eq (by omega) (by omega)).mp e1.symm)
    · intro e
      apply rn_ext
      intro t ht
      rw [(hK.2.1 a h5 t ht).1, (hK.2.1 b h6 t ht).1, of_decide_eq_true (e t (Nat.zero_le _) (by omega))]
  have r2 : al (fun t => decide (J (dF k (4 + a) + 1) t = J (dF k (4 + b) + 1) t)) 4 0 = al (fun j => decide (kS (zS x k) (4 + a) j = kS (zS x k) (4 + b) j)) 160 0 := by
    have d1 := ClK_d hK (f := 4 + a) (by omega)
    have d2 := ClK_d hK (f := 4 + b) (by omega)
    rw [Bool.eq_iff_iff, al_iff, al_iff]
    constructor
    · intro e j _ hj
      have e1 := of_decide_eq_true (e (j / 40) (Nat.zero_le _) (by omega))
      rw [decide_eq_true_eq, ← pd_of d1 (by omega), ← pd_of d2 (by omega)]
      unfold pd
      rw [e1]
    · intro e t _ ht
      rw [decide_eq_true_eq]
      apply g_ext
      intro i hi
      rw [d1 t (by omega) i hi, d2 t (by omega) i hi]
      by_cases q : i < 40
      · rw [of_decide_eq_true (e (40 * t + i) (Nat.zero_le _) (by omega))]
      · simp [q]
  unfold F_X11_alike F_X11_alike_61 F_X11_alike_62
  simp only [V_is, Option.bind_some, e_bind_some, replicaAt_ok h w ha hk, replicaAt_ok h w hb hk, Option.elim_some, R_gi3 h4 h5, R_gi3 h4 h6, R_gr2 h4 h5, R_gr2 h4 h6, F_is h4 (show 4 + a < 8 by omega), s_isSame (show 5 < N by omega) (isD_F k h4 (4 + a) (by omega)) (isD_F k h4 (4 + b) (by omega)), r2]
  unfold aAl
  by_cases e : I (cR k a) 3 = I (cR k b) 3
  · rw [if_pos e, r1.mp e]
    cases al (fun j => decide (kS (zS x k) (4 + a) j = kS (zS x k) (4 + b) j)) 160 0 <;> rfl
  · rw [if_neg e, Bool.eq_false_iff.mpr (fun q => e (r1.mpr q))]
    rfl
theorem c_alike_no {N : Nat} (h : Cl I J x) (w : WF x) {u v z : Int32} (hv : nix u (zN x) ∨ nix v (zN x) ∨ nix z (zK x)) : F_X11_alike N B u v z (HP B I J) = some (-1, HP B I J) := by
  have h4 : zK x ≤ 4 := w.2.2.2.1
  have h5 : zN x ≤ 4 := w.1.2
  unfold F_X11_alike
  rcases nix_c z (show zK x < 2 ^ 31 by omega) with e | ⟨k, hk, rfl⟩
  · simp only [V_is, Option.bind_some, e_bind_some, replicaAt_no h w (Or.inr e), Option.elim_none]
  · rcases nix_c u (show zN x < 2 ^ 31 by omega) with e | ⟨a, ha, rfl⟩
    · rcases nix_c v (show zN x < 2 ^ 31 by omega) with e2 | ⟨b, hb, rfl⟩
      · simp only [V_is, Option.bind_some, e_bind_some, replicaAt_no h w (Or.inl e), replicaAt_no h w (Or.inl e2), Option.elim_none]
      · simp only [V_is, Option.bind_some, e_bind_some, replicaAt_no h w (Or.inl e), replicaAt_ok h w hb hk, Option.elim_none]
    · have e2 : nix v (zN x) := by
        rcases hv with q | q | q
        · exfalso
          rcases q with q | q
          · exact nI_pos (by omega) q
          · exact nI_ge ha (by omega) q
        · exact q
        · exfalso
          rcases q with q | q
          · exact nI_pos (by omega) q
          · exact nI_ge hk (by omega) q
      simp only [V_is, Option.bind_some, e_bind_some, replicaAt_ok h w ha hk, replicaAt_no h w (Or.inl e2), Option.elim_none, Option.elim_some]
/-- a key after it was sent from u to s -/
def oSe (y : eKS) (s u b : Nat) : eKS := uS (oRc y s u) (drn (kSt y) s (kS (oRc y s u)) (ct (kS (oRc y s u) (4 + s)) 160 - b))
theorem WF_k (w : WF x) (hk : k < 4) : WFK (zN x) (zT x) (zS x k) := w.2.2.2.2.2.2.2.2 k hk
theorem c_sends_ok {N : Nat} (hN : 200 < N) (h : Cl I J x) (w : WF x) (ha : a < zN x) (hb : b < zN x) (hab : a ≠ b) (hk : k < zK x) : ∃ I2 J2, F_X11_sends N B (nI a) (nI b) (nI k) (HP B I J) = some (nI (ct (kS (oSe (zS x k) b a (zB x)) (4 + b)) 160), HP B I2 J2) ∧ Cl I2 J2 (oK x k (oSe (zS x k) b a (zB x))) ∧ frC I J I2 J2 := by
  have h4 : k < 4 := Nat.lt_of_lt_of_le hk w.2.2.2.1
  have h5 : a < 4 := Nat.lt_of_lt_of_le ha w.1.2
  have h6 : b < 4 := Nat.lt_of_lt_of_le hb w.1.2
  have hK := Cl_k h h4
  have hW := WF_k w h4
  obtain ⟨I1, J1, e1, c1, f1⟩ := t_receive (B := B) hN h4 h6 h5 (Ne.symm hab) hK
  have hcov : ∀ j, j < 160 → kS (oRc (zS x k) b a) (4 + b) j = true → cov (kM (oRc (zS x k) b a)) j = true := by
    intro j hj q
    have q2 : (kS (zS x k) (4 + b) j && kS (zS x k) (4 + a) j || kS (zS x k) (4 + b) j && !cov (kR (zS x k) a) j || kS (zS x k) (4 + a) j && !cov (kR (zS x k) b) j) = true := by
      have : kS (oRc (zS x k) b a) (4 + b) = fun j => (kS (zS x k) (4 + b) j && kS (zS x k) (4 + a) j || kS (zS x k) (4 + b) j && !cov (kR (zS x k) a) j || kS (zS x k) (4 + a) j && !cov (kR (zS x k) b) j) := if_pos rfl
      rw [this] at q
      exact q
    have p1 := hW.2.2.2.1 (4 + b) (by omega) j hj
    have p2 := hW.2.2.2.1 (4 + a) (by omega) j hj
    show cov (kM (zS x k)) j = true
    cases z1 : kS (zS x k) (4 + b) j
    · cases z2 : kS (zS x k) (4 + a) j
      · rw [z1, z2] at q2; simp at q2
      · exact p2 z2
    · exact p1 z1
  obtain ⟨J2, c2, f2, e2⟩ := t_dropBeyond (B := B) hN h4 h6 c1 hcov (b := zB x) (by have := w.2.1.2; omega)
  have f2' : frK k I1 J1 I1 J2 := fun c hc z => ⟨rfl, f2 c (by have := dF_hi k h4 1 (by decide); omega) (by have := dF_hi k h4 (4 + b) (by omega); omega) z⟩
  have hf := frK_t f1 f2'
  refine ⟨I1, J2, ?_, Cl_K h4 h hf c2, frK_C h4 hf⟩
  have hne : ¬ nI a = nI b := fun q => hab ((nI_eq (by omega) (by omega)).mp q)
  have g8 : h_gi (HP B I1 J1) 10 B 8 = some (nI (zB x)) := (V_gi (by decide)).trans (congrArg some (((f1 0 (Or.inl (by omega)) 8).1).trans h.1.2.1))
  have gz : F_X1_size N (B + dF k (4 + b)) (HP B I1 J2) = _ := t_size (show 5 < N by omega) (isD_F k h4 (4 + b) (by omega)) (ClK_d c2 (f := 4 + b) (by omega))
  unfold F_X11_sends
  simp only [V_is, Option.bind_some, e_bind_some, replicaAt_ok h w ha hk, replicaAt_ok h w hb hk, Option.elim_some, if_neg hne, R_is h4 h6, e1, g8, e2, R_gr2 h4 h6, F_is h4 (show 4 + b < 8 by omega), gz]
  rfl
theorem c_sends_no {N : Nat} (h : Cl I J x) (w : WF x) {u v z : Int32} (hv : nix u (zN x) ∨ nix v (zN x) ∨ nix z (zK x)) : F_X11_sends N B u v z (HP B I J) = some (-1, HP B I J) := by
  have h4 : zK x ≤ 4 := w.2.2.2.1
  have h5 : zN x ≤ 4 := w.1.2
  unfold F_X11_sends
  rcases nix_c z (show zK x < 2 ^ 31 by omega) with e | ⟨k, hk, rfl⟩
  · simp only [V_is, Option.bind_some, e_bind_some, replicaAt_no h w (Or.inr e), Option.elim_none]
  · rcases nix_c u (show zN x < 2 ^ 31 by omega) with e | ⟨a, ha, rfl⟩
    · rcases nix_c v (show zN x < 2 ^ 31 by omega) with e2 | ⟨b, hb, rfl⟩
      · simp only [V_is, Option.bind_some, e_bind_some, replicaAt_no h w (Or.inl e), replicaAt_no h w (Or.inl e2), Option.elim_none]
      · simp only [V_is, Option.bind_some, e_bind_some, replicaAt_no h w (Or.inl e), replicaAt_ok h w hb hk, Option.elim_none]
    · have e2 : nix v (zN x) := by
        rcases hv with q | q | q
        · exfalso
          rcases q with q | q
          · exact nI_pos (by omega) q
          · exact nI_ge ha (by omega) q
        · exact q
        · exfalso
          rcases q with q | q
          · exact nI_pos (by omega) q
          · exact nI_ge hk (by omega) q
      simp only [V_is, Option.bind_some, e_bind_some, replicaAt_ok h w ha hk, replicaAt_no h w (Or.inl e2), Option.elim_none, Option.elim_some]
theorem c_sends_eq {N : Nat} (h : Cl I J x) (w : WF x) (ha : a < zN x) (hk : k < zK x) : F_X11_sends N B (nI a) (nI a) (nI k) (HP B I J) = some (-1, HP B I J) := by
  unfold F_X11_sends
  simp only [V_is, Option.bind_some, e_bind_some, replicaAt_ok h w ha hk, Option.elim_some, if_true]
end CALL2
