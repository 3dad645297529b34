/-! THE MERGER: add, begin, end -/
def mBeg (kd r : Nat) : Int64 := if r = 0 then -9223372036854775808 else if r = 1 then 9223372036854775807 else if r = 3 then (if kd = 1 then -1 else 0) else 0
def mEnd (kd r : Nat) (z : Int64 × Bool) : Int64 × Bool := if r = 3 then (if kd = 0 then (-z.1, decide (z.1 = -9223372036854775808)) else z) else z
section MERG3
variable {B : Nat} {I : Nat → Nat → Int32} {J J2 : Nat → Nat → Int64} {k r kd : Nat} {z : Int64 × Bool} {v : Int64} {w : Int32}
theorem nI_ne {a b : Nat} (ha : a < 2 ^ 31) (hb : b < 2 ^ 31) (h : a ≠ b) : ¬ nI a = nI b := fun q => h ((nI_eq ha hb).mp q)
theorem t_madd {N : Nat} (hN : 1001 < N) (hm : MG I J kd r z) (hkd : kd < 2) (hr : r < 5) : ∃ I2 J2, F_X6_add N (B + 10) v (HP B I J) = some ((), HP B I2 J2) ∧ MG I2 J2 kd r (mAdd kd r z v) ∧ frM I J I2 J2 := by
  obtain ⟨h0, h1, h2, h3⟩ := hm
  have hm : MG I J kd r z := ⟨h0, h1, h2, h3⟩
  have hc : r = 0 ∨ r = 1 ∨ r = 2 ∨ r = 3 ∨ r = 4 := by omega
  have n0 : ∀ a, a < 5 → a ≠ 0 → ¬ nI a = 0 := fun a h q => nI_ne (b := 0) (by omega) (by decide) q
  have n1 : ∀ a, a < 5 → a ≠ 1 → ¬ nI a = 1 := fun a h q => nI_ne (b := 1) (by omega) (by decide) q
  have n2 : ∀ a, a < 5 → a ≠ 2 → ¬ nI a = 2 := fun a h q => nI_ne (b := 2) (by omega) (by decide) q
  have n3 : ∀ a, a < 5 → a ≠ 3 → ¬ nI a = 3 := fun a h q => nI_ne (b := 3) (by omega) (by decide) q
  rcases hc with e | e | e | e | e
  · subst e
    refine ⟨I, _, ?_, ?_, frM_J (v := e_maxL z.1 v)⟩
    · unfold F_X6_add
      simp only [G_gi1, h1, Option.bind_some, if_pos nI_0, G_gl2, h2, G_p2]
    · exact MG_J hm
  · subst e
    refine ⟨I, _, ?_, ?_, frM_J (v := e_minL z.1 v)⟩
    · unfold F_X6_add
      simp only [G_gi1, h1, Option.bind_some, if_neg (n0 1 (by decide) (by decide)), if_pos (show nI 1 = 1 from rfl), G_gl2, h2, G_p2]
    · exact MG_J hm
  · subst e
    obtain ⟨I2, J2, e1, e2, e3⟩ := t_put (B := B) (v := v) hm hkd
    refine ⟨I2, J2, ?_, e2, e3⟩
    unfold F_X6_add
    simp only [G_gi1, h1, Option.bind_some, if_neg (n0 2 (by decide) (by decide)), if_neg (n1 2 (by decide) (by decide)), if_pos (show nI 2 = 2 from rfl), G_is, e1, e_bind_some]
  · subst e
    obtain ⟨I2, J2, e1, e2, e3⟩ := t_keep (B := B) (v := v) hN hm hkd
    refine ⟨I2, J2, ?_, e2, e3⟩
    unfold F_X6_add
    simp only [G_gi1, h1, Option.bind_some, if_neg (n0 3 (by decide) (by decide)), if_neg (n1 3 (by decide) (by decide)), if_neg (n2 3 (by decide) (by decide)), if_pos (show nI 3 = 3 from rfl), G_is, e1, e_bind_some]
  · subst e
    refine ⟨I, _, ?_, ?_, frM_J (v := v)⟩
    · unfold F_X6_add
      simp only [G_gi1, h1, Option.bind_some, if_neg (n0 4 (by decide) (by decide)), if_neg (n1 4 (by decide) (by decide)), if_neg (n2 4 (by decide) (by decide)), if_neg (n3 4 (by decide) (by decide)), G_p2]
    · exact MG_J hm
theorem t_mend (hm : MG I J kd r z) (hkd : kd < 2) (hr : r < 5) : ∃ I2 J2, F_X6_end (B + 10) (HP B I J) = some ((), HP B I2 J2) ∧ MG I2 J2 kd r (mEnd kd r z) ∧ frM I J I2 J2 := by
  obtain ⟨h0, h1, h2, h3⟩ := hm
  have hm : MG I J kd r z := ⟨h0, h1, h2, h3⟩
  have p0 : h_pz (HP B I J) 6 (B + 10) 3 0 = some (HP B (w2 I 10 3 0) J) := G_p3 (Or.inl rfl)
  have p1 : h_pz (HP B I J) 6 (B + 10) 3 1 = some (HP B (w2 I 10 3 1) J) := G_p3 (Or.inr rfl)
  unfold mEnd
  by_cases e : r = 3
  · rw [if_pos e]
    by_cases e2 : kd = 0
    · rw [if_pos e2]
      refine ⟨w2 I 10 3 (b2 (decide (z.1 = -9223372036854775808))), w2 J 10 2 (-z.1), ?_, MG_J (MG_I hm _), frM_t frM_I frM_J⟩
      unfold F_X6_end F_X6_end_32
      simp only [G_gi1, h1, e, e2, Option.bind_some, if_pos (show nI 3 = 3 from rfl), G_gi0, h0, if_pos nI_0, G_gl2, h2, lg_cmp0, p0, p1, G_p2]
      by_cases q : z.1 = -9223372036854775808
      · rw [if_pos q, decide_eq_true q]; rfl
      · rw [if_neg q, decide_eq_false q]; rfl
    · rw [if_neg e2]
      refine ⟨I, J, ?_, hm, fun _ _ _ => ⟨rfl, rfl⟩⟩
      unfold F_X6_end
      simp only [G_gi1, h1, e, Option.bind_some, if_pos (show nI 3 = 3 from rfl), G_gi0, h0, if_neg (show ¬ nI kd = 0 from nI_ne (b := 0) (by omega) (by decide) e2)]
  · rw [if_neg e]
    refine ⟨I, J, ?_, hm, fun _ _ _ => ⟨rfl, rfl⟩⟩
    unfold F_X6_end
    simp only [G_gi1, h1, Option.bind_some, if_neg (show ¬ nI r = 3 from nI_ne (b := 3) (by omega) (by decide) e)]
end MERG3
