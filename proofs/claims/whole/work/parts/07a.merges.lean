/-! CALLS of the class: merges -/
section MERGES
variable {B : Nat} {I : Nat → Nat → Int32} {J J2 : Nat → Nat → Int64} {k r s kd : Nat} {x : eST} {v w : Int32}
theorem Cl_M {I2 : Nat → Nat → Int32} (h : Cl I J x) (hf : frM I J I2 J2) : Cl I2 J2 x := by
  obtain ⟨⟨a1, a2, a3, a4, a5⟩, ⟨b1, b2⟩, ⟨c1, c2⟩, d, e⟩ := h
  refine Cl_mk (x := x) ⟨⟨a1, a2, a3, a4, a5⟩, ⟨b1, b2⟩, ⟨c1, c2⟩, d, e⟩ rfl (fun c h1 _ z => (hf c (by omega) z).1) (fun c h1 _ z => (hf c (by omega) z).2) ⟨?_, ?_, ?_, ?_, ?_⟩ ⟨?_, fun i hi => ?_⟩ ⟨?_, fun i hi => ?_⟩ (ClC_fr d (fun c hc z => (hf _ (by unfold cC; omega) z).1) rfl rfl rfl)
  · rw [(hf 0 (by decide) _).1]; exact a1
  · rw [(hf 0 (by decide) _).1]; exact a2
  · rw [(hf 0 (by decide) _).1]; exact a3
  · rw [(hf 0 (by decide) _).1]; exact a4
  · rw [(hf 0 (by decide) _).1]; exact a5
  · rw [(hf 1 (by decide) _).1]; exact b1
  · rw [(hf 2 (by decide) _).1]; exact b2 i hi
  · rw [(hf 7 (by decide) _).1]; exact c1
  · rw [(hf 8 (by decide) _).1, (hf 9 (by decide) _).1]; exact c2 i hi
theorem frM_C {I2 : Nat → Nat → Int32} (hf : frM I J I2 J2) : frC I J I2 J2 := fun c hc z => hf c (by omega) z
theorem c_merges_no {N : Nat} (h : Cl I J x) (w : WF x) {u : Int32} (hv : nix u (zN x) ∨ nix v (zK x)) : F_X11_merges N B u v (HP B I J) = some (-1, HP B I J) := by
  unfold F_X11_merges
  simp only [V_is, Option.bind_some, replicaAt_no h w hv, e_bind_some, Option.elim_none]
theorem c_merges_rule {N : Nat} (hN : 1001 < N) (h : Cl I J x) (w : WF x) (hs : s < zN x) (hk : k < zK x) (hf : fd x k = none) : F_X11_merges N B (nI s) (nI k) (HP B I J) = some (-2, HP B I J) := by
  have h4 : k < 4 := Nat.lt_of_lt_of_le hk w.2.2.2.1
  have ha : aRo x k = -9 := by unfold aRo; rw [hf]
  unfold F_X11_merges
  simp only [V_is, Option.bind_some, replicaAt_ok h w hs hk, e_bind_some, Option.elim_some, V_gr4, Q_is, t_ruleOf (show 200 < N by omega) h w h4, ha, if_true]
theorem nI_m9 {n : Nat} (h : n < 2 ^ 31) : ¬ nI n = -9 := by
  intro q
  have := nI_pos (n := n) h
  rw [q] at this
  exact this (by decide)
theorem c_merges_few {N : Nat} (hN : 1001 < N) (h : Cl I J x) (w : WF x) (hs : s < zN x) (hk : k < zK x) {i : Nat} (hf : fd x k = some i) (h2 : ct (kS (zS x k) (4 + s)) 160 < 2) : F_X11_merges N B (nI s) (nI k) (HP B I J) = some (-2, HP B I J) := by
  have h4 : k < 4 := Nat.lt_of_lt_of_le hk w.2.2.2.1
  have h5 : s < 4 := Nat.lt_of_lt_of_le hs w.1.2
  have ha : aRo x k = nI (zRR x i) := by unfold aRo; rw [hf]
  have hr := (w.2.2.2.2.2.2.1.2 i (fd_in hf).1).2
  have gz : F_X1_size N (B + dF k (4 + s)) (HP B I J) = _ := t_size (show 5 < N by omega) (isD_F k h4 (4 + s) (by omega)) (ClK_d (Cl_k h h4) (f := 4 + s) (by omega))
  have hlt : ¬ (2 : Int32) ≤ nI (ct (kS (zS x k) (4 + s)) 160) := nI_ge h2 (by decide)
  unfold F_X11_merges
  simp only [V_is, Option.bind_some, replicaAt_ok h w hs hk, e_bind_some, Option.elim_some, V_gr4, Q_is, t_ruleOf (show 200 < N by omega) h w h4, ha, if_neg (nI_m9 (show zRR x i < 2 ^ 31 by omega)), R_gr2 h4 h5, F_is h4 (show 4 + s < 8 by omega), gz, if_neg hlt]
end MERGES
