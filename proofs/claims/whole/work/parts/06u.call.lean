/-! CALLS of the class: sibling -/
/-- the member with this index -/
def fi (p : Nat → Bool) (i : Nat) : Option Nat := ex (fun j => !(p j && decide (ct p j = i))) (fun j => some j) none 160 0
theorem fi_in {p : Nat → Bool} {i j : Nat} (h : fi p i = some j) : j < 160 ∧ p j = true := by
  obtain ⟨_, b, c⟩ := ex_some h
  refine ⟨by omega, ?_⟩
  rw [Bool.not_eq_false', Bool.and_eq_true] at c
  exact c.1
section CALL9
variable {B : Nat} {I : Nat → Nat → Int32} {J J2 : Nat → Nat → Int64} {a b c i j k r s f t n m : Nat} {x : eST} {y : eKS} {v w : Int32}
theorem t_at {N : Nat} (hN : 200 < N) (hk : k < 4) (hf : f < 8) (h : ClK k I J y) (hi : i < 2 ^ 31) : F_X1_at N (B + dF k f) (nI i) (HP B I J) = some (enc (fi (kS y f) i), HP B I J) := by
  have hd := ClK_d h hf
  rw [s_at hN (isD_F k hk f hf)]
  have e1 : some (enc (fi (kS y f) i), HP B I J) = ex (fun j => !(kS y f j && decide (ct (kS y f) j = i))) (fun j => some (nI j, HP B I J)) (some (-1, HP B I J)) 160 0 := ex_map (fun o => some (enc o, HP B I J)) 160 0
  rw [e1]
  refine ex_cong (d := 0) (i := 0) (fun j _ hj => ⟨?_, rfl⟩)
  show (!(pd J (dF k f) j && decide (nI (ct (pd J (dF k f)) j) = nI i))) = !(kS y f j && decide (ct (kS y f) j = i))
  have hj2 : j < 160 := by omega
  have hc : ct (pd J (dF k f)) j = ct (kS y f) j := ct_cong (fun z hz => pd_of hd (by omega))
  have hle := ct_le (kS y f) j
  rw [pd_of hd hj2, hc]
  congr 2
  exact decide_eq_decide.mpr (nI_eq (by omega) hi)
def aSb (y : eKS) (j : Nat) : Nat → Int64
  | 0 => (nI (j / 40)).toInt64
  | 1 => (nI (j % 40 + 1)).toInt64
  | 2 => (nI (kSt y j)).toInt64
  | _ => kV y j
theorem c_sibling_ok {N : Nat} (hN : 200 < N) (h : Cl I J x) (w : WF x) (hs : s < zN x) (hk : k < zK x) (hi : i < 2 ^ 31) (hj : j < 4) : F_X11_sibling N B (nI s) (nI k) (nI i) (nI j) (HP B I J) = some (match fi (kS (zS x k) (4 + s)) i with | none => -9 | some d => aSb (zS x k) d j, HP B I J) := by
  have h4 : k < 4 := Nat.lt_of_lt_of_le hk w.2.2.2.1
  have h5 : s < 4 := Nat.lt_of_lt_of_le hs w.1.2
  have hK := Cl_k h h4
  have hW := WF_k w h4
  unfold F_X11_sibling
  simp only [V_is, Option.bind_some, replicaAt_ok h w hs hk, e_bind_some, Option.elim_some, if_neg (nI_pos hi), if_neg (nI_pos (show j < 2 ^ 31 by omega)), if_pos (show nI j ≤ 3 from nI_le (show j ≤ 3 by omega) (by decide)), R_gr2 h4 h5, F_is h4 (show 4 + s < 8 by omega), t_at hN h4 (show 4 + s < 8 by omega) hK hi]
  cases e : fi (kS (zS x k) (4 + s)) i with
  | none => simp only [enc, if_true]
  | some d =>
    obtain ⟨d1, d2⟩ := fi_in e
    have d3 := hW.2.2.2.1 (4 + s) (by omega) d d1 d2
    simp only [enc, if_neg (nI_m1 (show d < 2 ^ 31 by omega)), s_siteOfJ d1, s_numberOfJ d1, e_bind_some, R_gr1 h4 h5, J_is h4, Option.bind_some, t_stampOf h4 d1 hK d3, t_valueOf h4 d1 hK d3]
    have hc : j = 0 ∨ j = 1 ∨ j = 2 ∨ j = 3 := by omega
    rcases hc with rfl | rfl | rfl | rfl <;> rfl
theorem c_sibling_no1 {N : Nat} (h : Cl I J x) (w : WF x) {u z q : Int32} (hv : nix u (zN x) ∨ nix v (zK x)) : F_X11_sibling N B u v z q (HP B I J) = some (-1, HP B I J) := by
  unfold F_X11_sibling
  simp only [V_is, Option.bind_some, replicaAt_no h w hv, e_bind_some, Option.elim_none]
theorem c_sibling_no2 {N : Nat} (h : Cl I J x) (w : WF x) (hs : s < zN x) (hk : k < zK x) (hv : v < 0) {q : Int32} : F_X11_sibling N B (nI s) (nI k) v q (HP B I J) = some (-1, HP B I J) := by
  unfold F_X11_sibling
  simp only [V_is, Option.bind_some, replicaAt_ok h w hs hk, e_bind_some, Option.elim_some, if_pos hv]
theorem c_sibling_no3 {N : Nat} (h : Cl I J x) (w : WF x) (hs : s < zN x) (hk : k < zK x) {u : Int32} (hu : ¬ u < 0) (hv : nix v 4) : F_X11_sibling N B (nI s) (nI k) u v (HP B I J) = some (-1, HP B I J) := by
  unfold F_X11_sibling
  simp only [V_is, Option.bind_some, replicaAt_ok h w hs hk, e_bind_some, Option.elim_some, if_neg hu]
  by_cases e : v < 0
  · rw [if_pos e]
  · rw [if_neg e, if_neg (nix_le hv (by decide) (by decide) e)]
end CALL9
