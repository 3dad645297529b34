/-! what is left: over functions alone -/
theorem law_true (G : eG) (hG : ∀ i j, i < 5 → j < 5 → G.2.2.1 i = G.2.2.1 j → i = j) (n0 L : Nat) (hL : L ≤ 3584) (xs : Nat → Int32) : ∃ h' : eH, F_L_law 100000 G n0 L xs (fun _ => none) = some (1, h') := by
  sorry
