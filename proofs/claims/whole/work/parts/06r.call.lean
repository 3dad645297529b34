/-! CALLS of the class: context -/
section CALL6
variable {B : Nat} {I : Nat → Nat → Int32} {J J2 : Nat → Nat → Int64} {a b c i j k s f t n m : Nat} {x : eST} {y : eKS} {v w : Int32}
theorem c_context_no1 (hv : nix v 4) {u : Int32} : F_X11_context B v u (HP B I J) = some (-1, HP B I J) := by
  unfold F_X11_context
  simp only [V_is, Option.bind_some, clientAt_no hv, e_bind_some, Option.elim_none]
theorem c_context_no2 (hc : c < 4) (hv : ¬ (-1 : Int32) ≤ v) : F_X11_context B (nI c) v (HP B I J) = some (-1, HP B I J) := by
  unfold F_X11_context
  simp only [V_is, Option.bind_some, clientAt_ok hc, e_bind_some, Option.elim_some, if_neg hv]
/-- what a context answers when the site may be asked: told or known -/
def aCx (x : eST) (c : Nat) (ask : Bool) (t : Nat) : Int32 := if zCK x c = 0 then -9 else nI ((if ask = true then zCT x c else zCN x c) t)
theorem s_cx59 (h : Cl I J x) (w : WF x) (hc : c < 4) (ht : t < 4) (ask : Bool) (hv : ¬ v = -1) : F_X11_context_59 v (B + cC c) (b2 ask) (nI t) (HP B I J) = some (aCx x c ask t, HP B I J) := by
  have hcl := h.2.2.2.1 c hc
  unfold F_X11_context_59 F_X11_context_95 aCx
  simp only [C_is hc, Option.bind_some, s_isBlind h w hc, e_bind_some, if_neg hv, C_gi hc (show 1 < 3 by decide), C_gi hc (show 2 < 3 by decide), s_number]
  by_cases e : zCK x c = 0
  · simp only [decide_eq_true e, b2, if_true, if_neg (show ¬ ((1 : Int32) = 0) by decide), if_pos e]
  · have h2 := hcl.2 e
    cases ask
    · simp only [decide_eq_false e, b2, Bool.false_eq_true, if_false, if_true, if_neg e, (h2.1 t ht).1]
    · simp only [decide_eq_false e, b2, Bool.false_eq_true, if_false, if_true, if_neg e, if_neg (show ¬ ((1 : Int32) = 0) by decide), (h2.2 t ht).1]
theorem s_cx59m (h : Cl I J x) (w : WF x) (hc : c < 4) (l4 l5 : Int32) : F_X11_context_59 (-1) (B + cC c) l4 l5 (HP B I J) = some (if zCK x c = 0 then -9 else nI (zCK x c - 1), HP B I J) := by
  have hcl := h.2.2.2.1 c hc
  unfold F_X11_context_59
  simp only [C_is hc, Option.bind_some, s_isBlind h w hc, e_bind_some, C_gi hc (show 0 < 3 by decide), if_true]
  by_cases e : zCK x c = 0
  · simp only [decide_eq_true e, b2, if_true, if_neg (show ¬ ((1 : Int32) = 0) by decide), if_pos e]
  · simp only [decide_eq_false e, b2, Bool.false_eq_true, if_false, if_true, if_neg e, hcl.1]
theorem c_context_m1 (h : Cl I J x) (w : WF x) (hc : c < 4) : F_X11_context B (nI c) (-1) (HP B I J) = some (if zCK x c = 0 then -9 else nI (zCK x c - 1), HP B I J) := by
  unfold F_X11_context F_X11_context_27 F_X11_context_41
  simp only [V_is, Option.bind_some, clientAt_ok hc, e_bind_some, Option.elim_some, s_cx59m h w hc, if_true]
  rfl
theorem s_cx41_ok (h : Cl I J x) (w : WF x) (hc : c < 4) (ask : Bool) (ht : t < zN x) (hv : ¬ v = -1) : F_X11_context_41 B v (B + cC c) (b2 ask) (nI t) (HP B I J) = some (aCx x c ask t, HP B I J) := by
  unfold F_X11_context_41
  rw [if_neg hv]
  simp only [V_is, Option.bind_some, isSite_ok h w ht, e_bind_some, if_neg (show ¬ ((1 : Int32) = 0) by decide), s_cx59 h w hc (Nat.lt_of_lt_of_le ht w.1.2) ask hv]
theorem s_cx41_no (h : Cl I J x) (w : WF x) (hc : c < 4) (l4 : Int32) {u : Int32} (hu : nix u (zN x)) (hv : ¬ v = -1) : F_X11_context_41 B v (B + cC c) l4 u (HP B I J) = some (-1, HP B I J) := by
  unfold F_X11_context_41
  rw [if_neg hv]
  simp only [V_is, Option.bind_some, isSite_no h w hu, e_bind_some, if_true]
theorem c_context_lo (h : Cl I J x) (w : WF x) (hc : c < 4) (hj : j < 4) : F_X11_context B (nI c) (nI j) (HP B I J) = some (if j < zN x then aCx x c false j else -1, HP B I J) := by
  have hm := nI_m1 (show j < 2 ^ 31 by omega)
  have h1 : (-1 : Int32) ≤ nI j := Int32.le_trans (by decide) (nI_pos' (show j < 2 ^ 31 by omega))
  have h2 : nI j < (4 : Int32) := nI_lt hj (by decide)
  unfold F_X11_context F_X11_context_27
  simp only [V_is, Option.bind_some, clientAt_ok hc, e_bind_some, Option.elim_some, if_pos h1, if_pos h2, if_true]
  by_cases e : j < zN x
  · rw [if_pos e]
    exact s_cx41_ok h w hc false e hm
  · rw [if_neg e]
    exact s_cx41_no h w hc 0 (Or.inr (nI_le (by omega) (by omega))) hm
theorem c_context_hi (h : Cl I J x) (w : WF x) (hc : c < 4) (hj : 4 ≤ j) (hj2 : j < 2 ^ 31) : F_X11_context B (nI c) (nI j) (HP B I J) = some (if j - 4 < zN x then aCx x c true (j - 4) else -1, HP B I J) := by
  have hm := nI_m1 hj2
  have hN := w.1.2
  have h1 : (-1 : Int32) ≤ nI j := Int32.le_trans (by decide) (nI_pos' hj2)
  have h2 : ¬ nI j < (4 : Int32) := nI_nlt (b := 4) hj hj2
  have h3 : nI j - 4 = nI (j - 4) := pk_sub hj
  unfold F_X11_context F_X11_context_27
  simp only [V_is, Option.bind_some, clientAt_ok hc, e_bind_some, Option.elim_some, if_pos h1, if_neg h2, if_neg (show ¬ ((1 : Int32) = 0) by decide), h3]
  by_cases e : j - 4 < zN x
  · rw [if_pos e]
    exact s_cx41_ok h w hc true e hm
  · rw [if_neg e]
    exact s_cx41_no h w hc 1 (Or.inr (nI_le (by omega) (by omega))) hm
end CALL6
