/-! CALLS of the class: rule, and the rule of a key -/
section CALL7
variable {B : Nat} {I : Nat → Nat → Int32} {J J2 : Nat → Nat → Int64} {a b c i j k s f t n m : Nat} {x : eST} {y : eKS} {v w : Int32}
theorem Q_is : h_is (HP B I J) 5 (B + 7) = some () := m_is (c := 7) (n := 3) (by decide)
theorem Q_gr0 : h_gr (HP B I J) 5 (B + 7) 0 = some (B + 8) := m_gr (c := 7) (n := 3) (by decide) (by decide) (by decide)
theorem Q_gr1 : h_gr (HP B I J) 5 (B + 7) 1 = some (B + 9) := m_gr (c := 7) (n := 3) (by decide) (by decide) (by decide)
theorem Q_gi2 : h_gi (HP B I J) 5 (B + 7) 2 = some (I 7 2) := m_gi (c := 7) (n := 3) (by decide) (by decide) (by decide)
theorem Q_p2 : h_p (HP B I J) 5 (B + 7) 2 (.int v) = some (HP B (w2 I 7 2 v) J) := m_pi (c := 7) (n := 3) (by decide) (by decide) (by decide)
theorem Q_len : h_len (HP B I J) (B + 8) = some 2 := m_len2 (c := 8) (t := 0) (by decide) (by decide)
theorem Q_ai8 (hi : i < 2) : h_ai (HP B I J) 0 (B + 8) (nI i) = some (I 8 i) := m_aiN (c := 8) (n := 2) (by decide) hi (by decide)
theorem Q_ai9 (hi : i < 2) : h_ai (HP B I J) 0 (B + 9) (nI i) = some (I 9 i) := m_aiN (c := 9) (n := 2) (by decide) hi (by decide)
theorem Q_si8 (hi : i < 2) : h_si (HP B I J) 0 (B + 8) (nI i) v = some (HP B (w2 I 8 i v) J) := m_siN (c := 8) (n := 2) (by decide) hi (by decide)
theorem Q_si9 (hi : i < 2) : h_si (HP B I J) 0 (B + 9) (nI i) v = some (HP B (w2 I 9 i v) J) := m_siN (c := 9) (n := 2) (by decide) hi (by decide)
theorem WF_2 (w : WF x) : zM x ≤ 2 := w.2.2.2.2.2.2.1.1
theorem isPlace_ok (h : Cl I J x) (w : WF x) (hi : i < zM x) : F_X5_isPlace (B + 7) (nI i) (HP B I J) = some (1, HP B I J) := by
  have h2 := WF_2 w
  unfold F_X5_isPlace
  simp only [if_neg (nI_pos (show i < 2 ^ 31 by omega)), Q_gi2, h.2.2.1.1, Option.bind_some, if_neg (nI_ge hi (by omega)), Q_gr0, Q_len, if_neg (show ¬ (2 : Int32) ≤ nI i from nI_ge (show i < 2 by omega) (by decide)), h_z1]
theorem isPlace_no (h : Cl I J x) (w : WF x) (hv : nix v (zM x)) : F_X5_isPlace (B + 7) v (HP B I J) = some (0, HP B I J) := by
  unfold F_X5_isPlace
  by_cases e : v < 0
  · rw [if_pos e]; rfl
  · rw [if_neg e]
    simp only [Q_gi2, h.2.2.1.1, Option.bind_some, if_pos (hv.resolve_left e), h_z0]
theorem ruleAt_ok (h : Cl I J x) (w : WF x) (hi : i < zM x) : F_X5_ruleAtPlace (B + 7) (nI i) (HP B I J) = some (nI (zRR x i), HP B I J) := by
  have h2 := WF_2 w
  unfold F_X5_ruleAtPlace
  simp only [Q_is, Option.bind_some, isPlace_ok h w hi, e_bind_some, if_neg (show ¬ ((1 : Int32) = 0) by decide), Q_gr1, Q_ai9 (show i < 2 by omega), (h.2.2.1.2 i hi).2]
theorem ruleAt_no (h : Cl I J x) (w : WF x) (hv : nix v (zM x)) : F_X5_ruleAtPlace (B + 7) v (HP B I J) = some (-9, HP B I J) := by
  unfold F_X5_ruleAtPlace
  simp only [Q_is, Option.bind_some, isPlace_no h w hv, e_bind_some, if_true]
theorem keyAtP_ok (h : Cl I J x) (w : WF x) (hi : i < zM x) : F_X5_keyAtPlace (B + 7) (nI i) (HP B I J) = some (nI (zRK x i), HP B I J) := by
  have h2 := WF_2 w
  unfold F_X5_keyAtPlace
  simp only [Q_is, Option.bind_some, isPlace_ok h w hi, e_bind_some, if_neg (show ¬ ((1 : Int32) = 0) by decide), Q_gr0, Q_ai8 (show i < 2 by omega), (h.2.2.1.2 i hi).1]
theorem keyAtP_no (h : Cl I J x) (w : WF x) (hv : nix v (zM x)) : F_X5_keyAtPlace (B + 7) v (HP B I J) = some (-9, HP B I J) := by
  unfold F_X5_keyAtPlace
  simp only [Q_is, Option.bind_some, isPlace_no h w hv, e_bind_some, if_true]
theorem c_rule_no1 (hv : v < 0) {u : Int32} : F_X11_rule B v u (HP B I J) = some (-1, HP B I J) := by
  unfold F_X11_rule
  rw [if_pos hv]
theorem c_rule_no2 (hv : ¬ v < 0) {u : Int32} (hu : nix u 2) : F_X11_rule B v u (HP B I J) = some (-1, HP B I J) := by
  unfold F_X11_rule
  rw [if_neg hv]
  by_cases e : u < 0
  · rw [if_pos e]
  · rw [if_neg e, if_neg (nix_le hu (by decide) (by decide) e)]
theorem c_rule_ok (h : Cl I J x) (w : WF x) (hi : i < 2 ^ 31) (hj : j < 2) : F_X11_rule B (nI i) (nI j) (HP B I J) = some (if i < zM x then (if j = 0 then nI (zRK x i) else nI (zRR x i)) else -9, HP B I J) := by
  have h2 := WF_2 w
  unfold F_X11_rule
  simp only [if_neg (nI_pos hi), if_neg (nI_pos (show j < 2 ^ 31 by omega)), if_pos (show nI j ≤ 1 from nI_le (show j ≤ 1 by omega) (by decide)), V_gr4, Q_is, Option.bind_some]
  by_cases e : i < zM x
  · rw [if_pos e, keyAtP_ok h w e, ruleAt_ok h w e, e_bind_some, e_bind_some]
    have hc : j = 0 ∨ j = 1 := by omega
    rcases hc with rfl | rfl
    · rw [if_pos nI_0, if_pos rfl]
    · rw [if_neg (show ¬ nI 1 = 0 by decide), if_neg (show ¬ (1 : Nat) = 0 by decide)]
  · have hv : nix (nI i) (zM x) := Or.inr (nI_le (by omega) hi)
    rw [if_neg e, keyAtP_no h w hv, ruleAt_no h w hv]
    simp only [e_bind_some]
    split <;> rfl
/-- where a key's rule stands -/
def gRu (x : eST) (k i : Nat) : Bool := !decide (zRK x i = k)
theorem s_placeOf {N : Nat} (hN : 200 < N) (h : Cl I J x) (w : WF x) (hk : k < 4) : F_X5_placeOf N (B + 7) (nI k) (HP B I J) = ex (gRu x k) (fun i => some (nI i, HP B I J)) (some (-1, HP B I J)) (zM x) 0 := by
  have h2 := WF_2 w
  unfold F_X5_placeOf L_X5_placeOf_2
  have e1 := e_loop_e (body := fun (k : Nat × Int32 × Int32 × eH → Option (Int32 × eH)) s => F_X5_placeOf_2b N (fun l0 l1 l2 h => k (l0, l1, l2, h)) s.1 s.2.1 s.2.2.1 s.2.2.2) (fun i => (B + 7, nI k, nI i, HP B I J)) (fun i => gRu x k i) (fun i => some (nI i, HP B I J)) (some (-1, HP B I J)) (zM x) (N := N) (fun i hi k0 => by
    show F_X5_placeOf_2b N _ (B + 7) (nI k) (nI i) (HP B I J) = if _ = true then k0 _ else _
    unfold F_X5_placeOf_2b
    have hr := (w.2.2.2.2.2.2.1.2 i hi).1
    simp only [Q_gi2, h.2.2.1.1, Option.bind_some, if_neg (nI_ge hi (show zM x < 2 ^ 31 by omega)), Q_gr0, Q_len, if_neg (show ¬ (2 : Int32) ≤ nI i from nI_ge (show i < 2 by omega) (by decide)), Q_ai8 (show i < 2 by omega), (h.2.2.1.2 i hi).1, nI_1]
    by_cases e : zRK x i = k
    · have hg : gRu x k i = false := by unfold gRu; rw [decide_eq_true e]; rfl
      rw [if_pos (by rw [e]), hg, if_neg (by decide)]
    · have hg : gRu x k i = true := by unfold gRu; rw [decide_eq_false e]; rfl
      rw [if_neg (fun q => e ((nI_eq (by omega) (by omega)).mp q)), hg, if_pos rfl]) (fun k0 => by
    show F_X5_placeOf_2b N _ (B + 7) (nI k) (nI (zM x)) (HP B I J) = _
    unfold F_X5_placeOf_2b
    simp only [Q_gi2, h.2.2.1.1, Option.bind_some, if_pos (nI_le (Nat.le_refl (zM x)) (show zM x < 2 ^ 31 by omega))]) (by omega)
  exact e1
end CALL7
