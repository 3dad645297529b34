/-! CALLS of the class: blinds, context, reads -/
/-- a client's context laid anew -/
def oC (x : eST) (c ck : Nat) (cn ct : Nat → Nat) : eST := vCK (vCN (vCT x (fun a => if a = c then ct else zCT x a)) (fun a => if a = c then cn else zCN x a)) (fun a => if a = c then ck else zCK x a)
theorem cC_ne {a c : Nat} (h : a ≠ c) : cC a ≠ cC c := by unfold cC; omega
theorem Cl_C {I I2 : Nat → Nat → Int32} {J : Nat → Nat → Int64} {x : eST} {c ck : Nat} {cn ct : Nat → Nat} (h : Cl I J x) (hc : c < 4) (hI : ∀ d, d ≠ cC c → ∀ z, I2 d z = I d z) (h0 : I2 (cC c) 0 = if ck = 0 then -1 else nI (ck - 1)) (h1 : ck ≠ 0 → rwN (I2 (cC c) 1) cn ∧ rwN (I2 (cC c) 2) ct) : Cl I2 J (oC x c ck cn ct) ∧ frC I J I2 J := by
  obtain ⟨⟨a1, a2, a3, a4, a5⟩, ⟨b1, b2⟩, ⟨c1, c2⟩, d, e⟩ := h
  have hcc : cC c = 121 + c := rfl
  refine ⟨Cl_mk (x := x) ⟨⟨a1, a2, a3, a4, a5⟩, ⟨b1, b2⟩, ⟨c1, c2⟩, d, e⟩ rfl (fun c _ h2 z => hI c (by omega) z) (fun c _ h2 z => rfl) ⟨?_, ?_, ?_, ?_, ?_⟩ ⟨?_, fun i hi => ?_⟩ ⟨?_, fun i hi => ?_⟩ (fun a ha => ?_), fun d hd z => ⟨hI d (by omega) z, rfl⟩⟩
  · rw [hI 0 (by omega)]; exact a1
  · rw [hI 0 (by omega)]; exact a2
  · rw [hI 0 (by omega)]; exact a3
  · rw [hI 0 (by omega)]; exact a4
  · rw [hI 0 (by omega)]; exact a5
  · rw [hI 1 (by omega)]; exact b1
  · rw [hI 2 (by omega)]; exact b2 i hi
  · rw [hI 7 (by omega)]; exact c1
  · rw [hI 8 (by omega), hI 9 (by omega)]; exact c2 i hi
  · show I2 (cC a) 0 = (if (if a = c then ck else zCK x a) = 0 then -1 else nI ((if a = c then ck else zCK x a) - 1)) ∧ ((if a = c then ck else zCK x a) ≠ 0 → rwN (I2 (cC a) 1) (if a = c then cn else zCN x a) ∧ rwN (I2 (cC a) 2) (if a = c then ct else zCT x a))
    by_cases q : a = c
    · subst q; simp only [if_true]; exact ⟨h0, h1⟩
    · simp only [if_neg q]
      rw [hI _ (cC_ne q), hI _ (cC_ne q), hI _ (cC_ne q)]
      exact d a ha
section CALL3
variable {B : Nat} {I : Nat → Nat → Int32} {J J2 : Nat → Nat → Int64} {a b c i j k s f t n : Nat} {x : eST} {v w : Int32}
theorem C_is (hc : c < 4) : h_is (HP B I J) 0 (B + cC c) = some () := m_is (sh_C c hc)
theorem C_gi (hc : c < 4) (hk : k < 3) : h_gi (HP B I J) 0 (B + cC c) k = some (I (cC c) k) := m_gi (sh_C c hc) hk ((by decide : ∀ k, k < 3 → m_fk 0 k = 0) k hk)
theorem C_p (hc : c < 4) (hk : k < 3) : h_p (HP B I J) 0 (B + cC c) k (.int v) = some (HP B (w2 I (cC c) k v) J) := m_pi (sh_C c hc) hk ((by decide : ∀ k, k < 3 → m_fk 0 k = 0) k hk)
theorem ck_m1 (w : WF x) (hc : c < 4) (h : zCK x c ≠ 0) : ¬ nI (zCK x c - 1) = -1 := by
  have h1 := (w.2.2.2.2.2.2.2.1 c hc).1
  have h2 := w.2.2.2.1
  intro q
  have := nI_pos (n := zCK x c - 1) (by omega)
  rw [q] at this
  exact this (by decide)
theorem s_isBlind (h : Cl I J x) (w : WF x) (hc : c < 4) : F_X0_isBlind (B + cC c) (HP B I J) = some (b2 (decide (zCK x c = 0)), HP B I J) := by
  unfold F_X0_isBlind
  simp only [C_gi hc (show 0 < 3 by decide), Option.bind_some, (h.2.2.2.1 c hc).1, h_z0, h_z1]
  by_cases e : zCK x c = 0
  · rw [if_pos e, if_pos rfl, decide_eq_true e]; rfl
  · rw [if_neg e, if_neg (ck_m1 w hc e), decide_eq_false e]; rfl
def oBl (x : eST) (c : Nat) : eST := oC x c 0 (fun _ => 0) (fun _ => 0)
theorem t_blind (h : Cl I J x) (hc : c < 4) : ∃ I2, F_X0_becomeBlind (B + cC c) (HP B I J) = some ((), HP B I2 J) ∧ Cl I2 J (oBl x c) ∧ frC I J I2 J := by
  refine ⟨w2 (w2 (w2 I (cC c) 0 (-1)) (cC c) 1 0) (cC c) 2 0, ?_, ?_⟩
  · unfold F_X0_becomeBlind
    simp only [C_p hc (show 0 < 3 by decide), C_p hc (show 1 < 3 by decide), C_p hc (show 2 < 3 by decide), Option.bind_some]
  · refine Cl_C h hc (fun d hd z => (w2_c _ _ hd).trans ((w2_c _ _ hd).trans (w2_c _ _ hd))) ?_ (fun q => absurd rfl q)
    rw [w2_k _ _ (by decide), w2_k _ _ (by decide), w2_s, if_pos rfl]
theorem c_blinds_no (hv : nix v 4) : F_X11_blinds B v (HP B I J) = some (-1, HP B I J) := by
  unfold F_X11_blinds
  simp only [V_is, Option.bind_some, clientAt_no hv, e_bind_some, Option.elim_none]
theorem c_blinds_0 (h : Cl I J x) (w : WF x) (hc : c < 4) (h0 : zCK x c = 0) : F_X11_blinds B (nI c) (HP B I J) = some (0, HP B I J) := by
  unfold F_X11_blinds
  simp only [V_is, Option.bind_some, clientAt_ok hc, e_bind_some, Option.elim_some, C_is hc, s_isBlind h w hc, decide_eq_true h0, b2, if_true, if_neg (show ¬ ((1 : Int32) = 0) by decide)]
theorem c_blinds_1 (h : Cl I J x) (w : WF x) (hc : c < 4) (h0 : zCK x c ≠ 0) : ∃ I2, F_X11_blinds B (nI c) (HP B I J) = some (1, HP B I2 J) ∧ Cl I2 J (oBl x c) ∧ frC I J I2 J := by
  obtain ⟨I2, e1, e2, e3⟩ := t_blind (B := B) h hc
  refine ⟨I2, ?_, e2, e3⟩
  unfold F_X11_blinds
  simp only [V_is, Option.bind_some, clientAt_ok hc, e_bind_some, Option.elim_some, C_is hc, s_isBlind h w hc, decide_eq_false h0, b2, if_true, Bool.false_eq_true, if_false, e1]
theorem c_reads_no {N : Nat} (h : Cl I J x) (w : WF x) {u v z : Int32} (hv : nix u 4 ∨ nix v (zN x) ∨ nix z (zK x)) : F_X11_reads N B u v z (HP B I J) = some (-1, HP B I J) := by
  have h4 : zK x ≤ 4 := w.2.2.2.1
  have h5 : zN x ≤ 4 := w.1.2
  unfold F_X11_reads
  rcases nix_c u (show 4 < 2 ^ 31 by decide) with e | ⟨c, hc, rfl⟩
  · rcases nix_c v (show zN x < 2 ^ 31 by omega) with e2 | ⟨b, hb, rfl⟩
    · simp only [V_is, Option.bind_some, e_bind_some, clientAt_no e, replicaAt_no h w (Or.inl e2), Option.elim_none]
    · rcases nix_c z (show zK x < 2 ^ 31 by omega) with e2 | ⟨k, hk, rfl⟩
      · simp only [V_is, Option.bind_some, e_bind_some, clientAt_no e, replicaAt_no h w (Or.inr e2), Option.elim_none]
      · simp only [V_is, Option.bind_some, e_bind_some, clientAt_no e, replicaAt_ok h w hb hk, Option.elim_none]
  · have hv2 : nix v (zN x) ∨ nix z (zK x) := by
      rcases hv with q | q
      · exfalso
        rcases q with q | q
        · exact nI_pos (by omega) q
        · exact nI_ge hc (by omega) q
      · exact q
    simp only [V_is, Option.bind_some, e_bind_some, clientAt_ok hc, replicaAt_no h w hv2, Option.elim_none, Option.elim_some]
/-- the pruned row -/
def aPr (x : eST) (k s : Nat) : Nat → Nat := prn (kR (zS x k) s) (kSt (zS x k)) (ct (fun t => decide (0 < kR (zS x k) s t)) 4 - zL x)
def oRd (x : eST) (c s k : Nat) : eST := oK (oC x c (k + 1) (kR (zS x k) s) (aPr x k s)) k (oS (zS x k) 0 (fun j => kS (zS x k) 0 j || kS (zS x k) (4 + s) j))
theorem c_reads_ok {N : Nat} (hN : 200 < N) (h : Cl I J x) (w : WF x) (hc : c < 4) (hs : s < zN x) (hk : k < zK x) : ∃ I2 J2, F_X11_reads N B (nI c) (nI s) (nI k) (HP B I J) = some (nI (ct (kS (zS x k) (4 + s)) 160), HP B I2 J2) ∧ Cl I2 J2 (oRd x c s k) ∧ frC I J I2 J2 := by
  have h4 : k < 4 := Nat.lt_of_lt_of_le hk w.2.2.2.1
  have h5 : s < 4 := Nat.lt_of_lt_of_le hs w.1.2
  have hK := Cl_k h h4
  have hW := WF_k w h4
  have nR : cR k s ≠ cC c := by unfold cR cC; omega
  have n0 : (0 : Nat) ≠ cC c := by unfold cC; omega
  have gR : ∀ z1 z2, w2 (w2 I (cC c) 0 z1) (cC c) 1 z2 (cR k s) 3 = I (cR k s) 3 := fun z1 z2 => (w2_c _ _ nR).trans (w2_c _ _ nR)
  have gR1 : ∀ z1, w2 I (cC c) 0 z1 (cR k s) 3 = I (cR k s) 3 := fun z1 => w2_c _ _ nR
  have hK2 : ClK k (w2 (w2 I (cC c) 0 (nI k)) (cC c) 1 (I (cR k s) 3)) J (zS x k) := ClK_fr h4 hK (fun d h1 h2 z => (w2_c _ _ (by unfold cC; omega)).trans (w2_c _ _ (by unfold cC; omega))) (fun d h1 h2 z => rfl)
  obtain ⟨z, e1, e2⟩ := t_pruned (B := B) hN h4 hK2 (hK.2.1 s h5) (fun t ht => (hW.2.1 s h5 t ht).1) (b := zL x) (by have := w.2.2.1.2; omega)
  have g9 : h_gi (HP B (w2 (w2 I (cC c) 0 (nI k)) (cC c) 1 (I (cR k s) 3)) J) 10 B 9 = some (nI (zL x)) := (V_gi (by decide)).trans (congrArg some (((w2_c _ _ n0).trans (w2_c _ _ n0)).trans h.1.2.2.1))
  obtain ⟨c1, f1⟩ := Cl_C (I2 := w2 (w2 (w2 I (cC c) 0 (nI k)) (cC c) 1 (I (cR k s) 3)) (cC c) 2 z) (ck := k + 1) (cn := kR (zS x k) s) (ct := aPr x k s) h hc (fun d hd z => (w2_c _ _ hd).trans ((w2_c _ _ hd).trans (w2_c _ _ hd))) (by rw [w2_k _ _ (by decide), w2_k _ _ (by decide), w2_s, if_neg (by omega)]; rfl) (fun _ => ⟨by rw [w2_k _ _ (by decide), w2_s]; exact hK.2.1 s h5, by rw [w2_s]; exact e2⟩)
  obtain ⟨I3, J3, e3, c3, f3⟩ := t_addAll (B := B) hN h4 (show 0 < 8 by decide) (show 4 + s < 8 by omega) (by omega) (Cl_k c1 h4)
  refine ⟨I3, J3, ?_, Cl_K h4 c1 f3 c3, frC_t f1 (frK_C h4 f3)⟩
  have gz : F_X1_size N (B + dF k (4 + s)) (HP B I3 J3) = some (nI (ct (kS (zS x k) (4 + s)) 160), HP B I3 J3) := by
    have := t_size (B := B) (I := I3) (show 5 < N by omega) (isD_F k h4 (4 + s) (by omega)) (ClK_d c3 (f := 4 + s) (by omega))
    rw [oS_ne (by omega)] at this
    exact this
  unfold F_X11_reads
  simp only [V_is, Option.bind_some, e_bind_some, clientAt_ok hc, replicaAt_ok h w hs hk, Option.elim_some, C_p hc (show 0 < 3 by decide), C_p hc (show 1 < 3 by decide), C_p hc (show 2 < 3 by decide), R_gi3 h4 h5, R_gr1 h4 h5, R_gr2 h4 h5, gR, gR1, J_is h4, g9, e1, J_gr4 h4, F_is h4 (show 0 < 8 by decide), F_is h4 (show 4 + s < 8 by omega), e3, gz]
end CALL3
