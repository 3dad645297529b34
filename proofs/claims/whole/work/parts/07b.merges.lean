/-! CALLS of the class: merges that are made -/
section MERGES2
variable {B : Nat} {I : Nat → Nat → Int32} {J J2 : Nat → Nat → Int64} {i k r s kd : Nat} {x : eST} {v w : Int32}
/-- what the siblings come to under the rule at a place -/
def aMg (x : eST) (s k i : Nat) : Int64 × Bool := mEnd (kkd (zS x k)) (zRR x i) (bl (zS x k) s (kkd (zS x k)) (zRR x i) (ct (kS (zS x k) (4 + s)) 160)).2
theorem s_mrg {N : Nat} (hN : 1001 < N) (h : Cl I J x) (w : WF x) (hs : s < zN x) (hk : k < zK x) (hf : fd x k = some i) (h2 : 2 ≤ ct (kS (zS x k) (4 + s)) 160) : F_X11_merges N B (nI s) (nI k) (HP B I J) = if nI (kR (zS x k) s s + 1) ≤ 40 then (e_bind (F_X8_blend N (B + cR k s) (B + 10) (nI (zRR x i)) (HP B I J)) fun _ h14 => (h_gr h14 10 B 5).bind fun v15 => (h_gi h14 6 v15 3).bind fun v16 => if v16 = 0 then ((h_gi h14 10 B 11).bind fun v17 => (h_p h14 10 B 11 (.int (v17 + 1))).bind fun h18 => (h_gr h18 10 B 5).bind fun v19 => (h_gl h18 6 v19 2).bind fun v20 => (h_gi h18 10 B 11).bind fun v21 => (h_is h18 8 (B + cR k s)).bind fun _ => e_bind (F_X8_mergeInto N (B + cR k s) v20 v21 h18) fun _ h23 => some (nI (kR (zS x k) s s + 1), h23)) else some (-5, h14)) else some (-3, HP B I J) := by
  have h4 : k < 4 := Nat.lt_of_lt_of_le hk w.2.2.2.1
  have h5 : s < 4 := Nat.lt_of_lt_of_le hs w.1.2
  have ha : aRo x k = nI (zRR x i) := by unfold aRo; rw [hf]
  have hr := (w.2.2.2.2.2.2.1.2 i (fd_in hf).1).2
  have hle := ct_le (kS (zS x k) (4 + s)) 160
  have gz : F_X1_size N (B + dF k (4 + s)) (HP B I J) = _ := t_size (show 5 < N by omega) (isD_F k h4 (4 + s) (by omega)) (ClK_d (Cl_k h h4) (f := 4 + s) (by omega))
  have hlt : (2 : Int32) ≤ nI (ct (kS (zS x k) (4 + s)) 160) := nI_le h2 (by omega)
  unfold F_X11_merges
  simp only [V_is, Option.bind_some, replicaAt_ok h w hs hk, e_bind_some, Option.elim_some, V_gr4, V_gr5, Q_is, t_ruleOf (show 200 < N by omega) h w h4, ha, if_neg (nI_m9 (show zRR x i < 2 ^ 31 by omega)), R_gr2 h4 h5, F_is h4 (show 4 + s < 8 by omega), gz, if_pos hlt, R_is h4 h5, s_nextNumber h4 h5 (Cl_k h h4)]
theorem c_merges_full {N : Nat} (hN : 1001 < N) (h : Cl I J x) (w : WF x) (hs : s < zN x) (hk : k < zK x) (hf : fd x k = some i) (h2 : 2 ≤ ct (kS (zS x k) (4 + s)) 160) (hn : 40 ≤ kR (zS x k) s s) : F_X11_merges N B (nI s) (nI k) (HP B I J) = some (-3, HP B I J) := by
  have h4 : k < 4 := Nat.lt_of_lt_of_le hk w.2.2.2.1
  have h5 : s < 4 := Nat.lt_of_lt_of_le hs w.1.2
  have hR := ((Cl_k h h4).2.1 s h5 s h5).2
  rw [s_mrg hN h w hs hk hf h2, if_neg (show ¬ nI (kR (zS x k) s s + 1) ≤ (40 : Int32) from nI_ge (show 40 < kR (zS x k) s s + 1 by omega) (by omega))]
theorem c_merges_over {N : Nat} (hN : 1001 < N) (h : Cl I J x) (w : WF x) (hs : s < zN x) (hk : k < zK x) (hf : fd x k = some i) (h2 : 2 ≤ ct (kS (zS x k) (4 + s)) 160) (hn : kR (zS x k) s s < 40) (ho : (aMg x s k i).2 = true) : ∃ I2 J2, F_X11_merges N B (nI s) (nI k) (HP B I J) = some (-5, HP B I2 J2) ∧ Cl I2 J2 x ∧ frC I J I2 J2 := by
  have h4 : k < 4 := Nat.lt_of_lt_of_le hk w.2.2.2.1
  have h5 : s < 4 := Nat.lt_of_lt_of_le hs w.1.2
  have hW := WF_k w h4
  have hr := (w.2.2.2.2.2.2.1.2 i (fd_in hf).1).2
  obtain ⟨I2, J2, e1, m1, f1⟩ := t_blend (B := B) hN h4 h5 (Cl_k h h4) (fun j hj q => hW.2.2.2.1 (4 + s) (by omega) j hj q) (show kkd (zS x k) < 2 by have := hW.2.2.2.2.2.2.2.2; omega) (show zRR x i < 5 by omega)
  refine ⟨I2, J2, ?_, Cl_M h f1, frM_C f1⟩
  have m3 : I2 10 3 = b2 true := m1.2.2.2.trans (congrArg b2 ho)
  rw [s_mrg hN h w hs hk hf h2, if_pos (show nI (kR (zS x k) s s + 1) ≤ (40 : Int32) from nI_le (show kR (zS x k) s s + 1 ≤ 40 by omega) (by decide))]
  simp only [e1, e_bind_some, V_gr5, Option.bind_some, G_gi3, m3, if_neg (show ¬ b2 true = 0 by decide)]
/-- the state after a merge -/
def nMg (x : eST) (s k i : Nat) : eST := oK (vT x (zT x + 1)) k (oMg (zS x k) s (aMg x s k i).1 (zT x + 1))
theorem c_merges_ok {N : Nat} (hN : 1001 < N) (h : Cl I J x) (w : WF x) (hs : s < zN x) (hk : k < zK x) (hf : fd x k = some i) (h2 : 2 ≤ ct (kS (zS x k) (4 + s)) 160) (hn : kR (zS x k) s s < 40) (ho : (aMg x s k i).2 = false) : ∃ I2 J2, F_X11_merges N B (nI s) (nI k) (HP B I J) = some (nI (kR (zS x k) s s + 1), HP B I2 J2) ∧ Cl I2 J2 (nMg x s k i) ∧ frC I J I2 J2 := by
  have h4 : k < 4 := Nat.lt_of_lt_of_le hk w.2.2.2.1
  have h5 : s < 4 := Nat.lt_of_lt_of_le hs w.1.2
  have hW := WF_k w h4
  have hT : zT x ≤ 1000 := w.2.2.2.2.1
  have hr := (w.2.2.2.2.2.2.1.2 i (fd_in hf).1).2
  obtain ⟨I1, J1, e1, m1, f1⟩ := t_blend (B := B) hN h4 h5 (Cl_k h h4) (fun j hj q => hW.2.2.2.1 (4 + s) (by omega) j hj q) (show kkd (zS x k) < 2 by have := hW.2.2.2.2.2.2.2.2; omega) (show zRR x i < 5 by omega)
  have c1 := Cl_M h f1
  obtain ⟨I2, e2, c2, f2, g1, g2⟩ := t_setT (B := B) c1 (zT x + 1)
  have hM : kM (zS x k) s = kR (zS x k) s s := (hW.2.2.1 s hs).symm
  obtain ⟨I3, J3, e3, c3, f3⟩ := t_mergeInto (B := B) (show 200 < N by omega) h4 h5 (Cl_k c2 h4) hM hn (aMg x s k i).1 (st := zT x + 1) (by omega)
  refine ⟨I3, J3, ?_, Cl_K h4 c2 f3 c3, frC_t (frM_C f1) (frC_t f2 (frK_C h4 f3))⟩
  have m3 : I1 10 3 = b2 false := m1.2.2.2.trans (congrArg b2 ho)
  have m2 : J1 10 2 = (aMg x s k i).1 := m1.2.2.1
  have a3 : h_gi (HP B I1 J1) 10 B 11 = some (nI (zT x)) := (V_gi (by decide)).trans (congrArg some c1.1.2.2.2.2)
  have a4 : h_gi (HP B I2 J1) 10 B 11 = some (nI (zT x + 1)) := (V_gi (by decide)).trans (congrArg some g1)
  rw [s_mrg hN h w hs hk hf h2, if_pos (show nI (kR (zS x k) s s + 1) ≤ (40 : Int32) from nI_le (show kR (zS x k) s s + 1 ≤ 40 by omega) (by decide))]
  simp only [e1, e_bind_some, V_gr5, Option.bind_some, G_gi3, m3, if_pos (show b2 false = 0 from rfl), a3, nI_1, e2, G_gl2, m2, a4, R_is h4 h5, e3]
end MERGES2
