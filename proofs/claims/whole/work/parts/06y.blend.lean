/-! THE MERGER: begin; blend -/
theorem w2_w2 {α : Type} (I : Nat → Nat → α) (c k : Nat) (u v : α) : w2 (w2 I c k u) c k v = w2 I c k v := by
  funext a b
  unfold w2
  split <;> rfl
section BLEND
variable {B : Nat} {I : Nat → Nat → Int32} {J J2 : Nat → Nat → Int64} {k r s kd : Nat} {z : Int64 × Bool} {v : Int64} {w : Int32} {x : eKS}
theorem t_mbeg (hkd : kd < 2) (hr : r < 5) : ∃ I2 J2, F_X6_begin (B + 10) (nI kd) (nI r) (HP B I J) = some ((), HP B I2 J2) ∧ MG I2 J2 kd r (mBeg kd r, false) ∧ frM I J I2 J2 := by
  let I1 := w2 (w2 (w2 I 10 0 (nI kd)) 10 1 (nI r)) 10 3 0
  have hm : MG I1 (w2 J 10 2 0) kd r (0, false) := ⟨(w2_k _ _ (by decide)).trans ((w2_k _ _ (by decide)).trans (w2_s _ _ _ _)), (w2_k _ _ (by decide)).trans (w2_s _ _ _ _), w2_s _ _ _ _, w2_s _ _ _ _⟩
  have hf : frM I J I1 (w2 J 10 2 0) := frM_t (frM_I) (frM_t (frM_I) (frM_t (frM_I) frM_J))
  have p0 : ∀ (I : Nat → Nat → Int32) J, h_pz (HP B I J) 6 (B + 10) 3 0 = some (HP B (w2 I 10 3 0) J) := fun I J => G_p3 (Or.inl rfl)
  have m1 : I1 10 1 = nI r := hm.2.1
  have m0 : I1 10 0 = nI kd := hm.1
  have hst : F_X6_begin (B + 10) (nI kd) (nI r) (HP B I J) = some ((), HP B I1 (w2 (w2 J 10 2 0) 10 2 (mBeg kd r))) := by
    unfold F_X6_begin mBeg
    simp only [G_p0, G_p1, p0, G_p2, Option.bind_some, G_gi1, G_gi0]
    show (if I1 10 1 = 0 then _ else if I1 10 1 = 1 then _ else if I1 10 1 = 3 then (if I1 10 0 = 1 then _ else _) else _) = _
    rw [m1, m0]
    have hw : w2 (w2 J 10 2 0) 10 2 0 = w2 J 10 2 0 := w2_w2 _ _ _ _ _
    by_cases e0 : r = 0
    · rw [if_pos (by rw [e0]; rfl), if_pos e0]
    · rw [if_neg (show ¬ nI r = 0 from nI_ne (b := 0) (by omega) (by decide) e0), if_neg e0]
      by_cases e1 : r = 1
      · rw [if_pos (by rw [e1]; rfl), if_pos e1]
      · rw [if_neg (show ¬ nI r = 1 from nI_ne (b := 1) (by omega) (by decide) e1), if_neg e1]
        by_cases e3 : r = 3
        · rw [if_pos (by rw [e3]; rfl), if_pos e3]
          by_cases e4 : kd = 1
          · rw [if_pos (by rw [e4]; rfl), if_pos e4]
          · rw [if_neg (show ¬ nI kd = 1 from nI_ne (b := 1) (by omega) (by decide) e4), if_neg e4, hw]
        · rw [if_neg (show ¬ nI r = 3 from nI_ne (b := 3) (by omega) (by decide) e3), if_neg e3, hw]
  exact ⟨_, _, hst, MG_J hm, frM_t hf frM_J⟩
end BLEND
