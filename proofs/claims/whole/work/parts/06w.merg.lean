/-! THE MERGER: begin, add, end -/
def mAdd (kd r : Nat) (z : Int64 × Bool) (v : Int64) : Int64 × Bool :=
  if r = 0 then (e_maxL z.1 v, z.2) else if r = 1 then (e_minL z.1 v, z.2)
  else if r = 2 then (if kd = 1 then (z.1 ||| v, z.2) else (z.1 + v, z.2 || !decide ((0 : Int32) ≤ lg_cmp ((z.1 ^^^ (z.1 + v)) &&& (v ^^^ (z.1 + v))) 0)))
  else if r = 3 then (if kd = 1 then (z.1 &&& v, z.2) else (gcdL z.1 (if lg_cmp v 0 ≤ 0 then v else -v), z.2))
  else (v, z.2)
def MG (I : Nat → Nat → Int32) (J : Nat → Nat → Int64) (kd r : Nat) (z : Int64 × Bool) : Prop := I 10 0 = nI kd ∧ I 10 1 = nI r ∧ J 10 2 = z.1 ∧ I 10 3 = b2 z.2
/-- the merger's cell alone changes -/
def frM (I : Nat → Nat → Int32) (J : Nat → Nat → Int64) (I2 : Nat → Nat → Int32) (J2 : Nat → Nat → Int64) : Prop := ∀ c, c ≠ 10 → ∀ z, I2 c z = I c z ∧ J2 c z = J c z
section MERG
variable {B : Nat} {I : Nat → Nat → Int32} {J J2 : Nat → Nat → Int64} {k r kd : Nat} {z : Int64 × Bool} {v : Int64} {w : Int32}
theorem G_is : h_is (HP B I J) 6 (B + 10) = some () := m_is (c := 10) (n := 4) (by decide)
theorem G_gi0 : h_gi (HP B I J) 6 (B + 10) 0 = some (I 10 0) := m_gi (c := 10) (n := 4) (by decide) (by decide) (by decide)
theorem G_gi1 : h_gi (HP B I J) 6 (B + 10) 1 = some (I 10 1) := m_gi (c := 10) (n := 4) (by decide) (by decide) (by decide)
theorem G_gi3 : h_gi (HP B I J) 6 (B + 10) 3 = some (I 10 3) := m_gi (c := 10) (n := 4) (by decide) (by decide) (by decide)
theorem G_gl2 : h_gl (HP B I J) 6 (B + 10) 2 = some (J 10 2) := m_gl (c := 10) (n := 4) (by decide) (by decide) (by decide)
theorem G_p2 : h_p (HP B I J) 6 (B + 10) 2 (.long v) = some (HP B I (w2 J 10 2 v)) := m_pl (c := 10) (n := 4) (by decide) (by decide) (by decide)
theorem G_p0 : h_p (HP B I J) 6 (B + 10) 0 (.int w) = some (HP B (w2 I 10 0 w) J) := m_pi (c := 10) (n := 4) (by decide) (by decide) (by decide)
theorem G_p1 : h_p (HP B I J) 6 (B + 10) 1 (.int w) = some (HP B (w2 I 10 1 w) J) := m_pi (c := 10) (n := 4) (by decide) (by decide) (by decide)
theorem G_p3 (hw : w = 0 ∨ w = 1) : h_pz (HP B I J) 6 (B + 10) 3 w = some (HP B (w2 I 10 3 w) J) := m_pz (c := 10) (n := 4) (by decide) (by decide) (by decide) hw
theorem MG_J (h : MG I J kd r z) : MG I (w2 J 10 2 v) kd r (v, z.2) := ⟨h.1, h.2.1, w2_s _ _ _ _, h.2.2.2⟩
theorem MG_I (h : MG I J kd r z) (b : Bool) : MG (w2 I 10 3 (b2 b)) J kd r (z.1, b) := ⟨(w2_k _ _ (by decide)).trans h.1, (w2_k _ _ (by decide)).trans h.2.1, h.2.2.1, w2_s _ _ _ _⟩
theorem frM_J : frM I J I (w2 J 10 2 v) := fun _ hc _ => ⟨rfl, w2_c _ _ hc⟩
theorem frM_I : frM I J (w2 I 10 k w) J := fun _ hc _ => ⟨w2_c _ _ hc, rfl⟩
theorem frM_t {I2 I3 : Nat → Nat → Int32} {J3 : Nat → Nat → Int64} (h : frM I J I2 J2) (h2 : frM I2 J2 I3 J3) : frM I J I3 J3 := fun c hc z => ⟨((h2 c hc z).1).trans (h c hc z).1, ((h2 c hc z).2).trans (h c hc z).2⟩
theorem t_put (hm : MG I J kd r z) (hkd : kd < 2) : ∃ I2 J2, F_X6_putTogether (B + 10) v (HP B I J) = some ((), HP B I2 J2) ∧ MG I2 J2 kd r (if kd = 1 then (z.1 ||| v, z.2) else (z.1 + v, z.2 || !decide ((0 : Int32) ≤ lg_cmp ((z.1 ^^^ (z.1 + v)) &&& (v ^^^ (z.1 + v))) 0))) ∧ frM I J I2 J2 := by
  obtain ⟨h0, h1, h2, h3⟩ := hm
  have hm : MG I J kd r z := ⟨h0, h1, h2, h3⟩
  by_cases e : kd = 1
  · refine ⟨I, _, ?_, ?_, frM_J (v := z.1 ||| v)⟩
    · unfold F_X6_putTogether
      simp only [G_gi0, h0, e, Option.bind_some, if_pos (show nI 1 = 1 from rfl), G_gl2, h2, G_p2]
    · rw [if_pos e]; exact MG_J hm
  · have hk : ¬ nI kd = 1 := fun q => e ((nI_eq (show kd < 2 ^ 31 by omega) (show 1 < 2 ^ 31 by decide)).mp q)
    obtain ⟨bb, hbb⟩ : ∃ bb, bb = (z.2 || !decide ((0 : Int32) ≤ lg_cmp ((z.1 ^^^ (z.1 + v)) &&& (v ^^^ (z.1 + v))) 0)) := ⟨_, rfl⟩
    refine ⟨w2 I 10 3 (b2 bb), w2 J 10 2 (z.1 + v), ?_, ?_, frM_t (frM_I) (frM_J)⟩
    · have p0 : h_pz (HP B I J) 6 (B + 10) 3 0 = some (HP B (w2 I 10 3 0) J) := G_p3 (Or.inl rfl)
      have p1 : h_pz (HP B I J) 6 (B + 10) 3 1 = some (HP B (w2 I 10 3 1) J) := G_p3 (Or.inr rfl)
      unfold F_X6_putTogether F_X6_putTogether_49 F_X6_putTogether_54
      simp only [G_gi0, h0, Option.bind_some, if_neg hk, G_gl2, h2, e_let, G_gi3, h3, p0, p1, G_p2]
      rw [hbb]
      cases z.2
      · rw [if_pos (show b2 false = 0 from rfl)]
        by_cases q : (0 : Int32) ≤ lg_cmp ((z.1 ^^^ (z.1 + v)) &&& (v ^^^ (z.1 + v))) 0
        · rw [if_pos q, decide_eq_true q]; rfl
        · rw [if_neg q, decide_eq_false q]; rfl
      · rw [if_neg (show ¬ b2 true = 0 by decide)]; rfl
    · rw [if_neg e, ← hbb]
      exact MG_J (MG_I hm bb)
theorem t_keep {N : Nat} (hN : 1001 < N) (hm : MG I J kd r z) (hkd : kd < 2) : ∃ I2 J2, F_X6_keepCommon N (B + 10) v (HP B I J) = some ((), HP B I2 J2) ∧ MG I2 J2 kd r (if kd = 1 then (z.1 &&& v, z.2) else (gcdL z.1 (if lg_cmp v 0 ≤ 0 then v else -v), z.2)) ∧ frM I J I2 J2 := by
  obtain ⟨h0, h1, h2, h3⟩ := hm
  have hm : MG I J kd r z := ⟨h0, h1, h2, h3⟩
  by_cases e : kd = 1
  · refine ⟨I, _, ?_, ?_, frM_J (v := z.1 &&& v)⟩
    · unfold F_X6_keepCommon
      simp only [G_gi0, h0, e, Option.bind_some, if_pos (show nI 1 = 1 from rfl), G_gl2, h2, G_p2]
    · rw [if_pos e]; exact MG_J hm
  · have hk : ¬ nI kd = 1 := fun q => e ((nI_eq (show kd < 2 ^ 31 by omega) (show 1 < 2 ^ 31 by decide)).mp q)
    refine ⟨I, _, ?_, ?_, frM_J (v := gcdL z.1 (if lg_cmp v 0 ≤ 0 then v else -v))⟩
    · unfold F_X6_keepCommon F_X6_keepCommon_36
      simp only [G_gi0, h0, Option.bind_some, if_neg hk, G_gl2, h2, s_divisorOf hN, e_bind_some, G_p2]
      by_cases q : lg_cmp v 0 ≤ 0
      · rw [if_pos q, if_pos q]
      · rw [if_neg q, if_neg q]
    · rw [if_neg e]; exact MG_J hm
end MERG
