/-! THE LAW'S LOOP, over functions alone -/
theorem law_step {G : eG} (hG : xinj G) {n0 L i : Nat} {xs : Nat → Int32} {I : Nat → Nat → Int32} {J : Nat → Nat → Int64} {x : eST} (hL : L ≤ 3584) (hi : 7 * i + 7 ≤ L) (h : rLB I J x) (hT : zT x < 1000) : ∃ I3 J3 x2, rLB I3 J3 x2 ∧ zT x2 ≤ zT x + 1 ∧ ∀ k : Nat → Nat → Nat → Nat → Int32 → eH → Option (Int32 × eH), F_L_law_18b 100000 G n0 L xs k 151 144358 n0 (n0 + 125) (nI (7 * i)) (HP n0 I J) = k 151 144358 n0 (n0 + 125) (nI (7 * (i + 1))) (HP n0 I3 J3) := by
  have hlt : ¬ (Int32.ofNat L - 7 < nI (7 * i)) := by
    show ¬ (nI L - nI 7 < nI (7 * i))
    rw [pk_sub (show 7 ≤ L by omega)]
    exact nI_nlt (show 7 * i ≤ L - 7 by omega) (by omega)
  have hb : (151 : Nat) ≤ 600000 ∧ (144358 : Nat) ≤ 7302250 := by decide
  have c0 : s_cell L xs (nI (7 * i)) = some (xs (7 * i)) := s_cellN (by omega) hL
  have cj : ∀ (j : Nat) (w : Int32), w = nI j → j < 7 → s_cell L xs (nI (7 * i) + w) = some (xs (7 * i + j)) := fun j w hw hj => by
    rw [hw, nI_add]; exact s_cellN (by omega) hL
  have c1 := cj 1 1 rfl (by decide)
  have c2 := cj 2 2 rfl (by decide)
  have c3 := cj 3 3 rfl (by decide)
  have c4 := cj 4 4 rfl (by decide)
  have c5 := cj 5 5 rfl (by decide)
  have c6 := cj 6 6 rfl (by decide)
  have cn : nI (7 * i) + 7 = nI (7 * (i + 1)) := nI_add (7 * i) 7
  have hl : ∀ a : Int64, lg_cmp a a = 0 := fun a => (lg_cmp0 a a).mpr rfl
  by_cases d0 : xs (7 * i) &&& 31 = 0
  · obtain ⟨r, I2, J2, I3, J3, x2, e1, e2, e3, e4⟩ := B_type (B := n0) (v := xs (7 * i + 1))  h
    refine ⟨I3, J3, x2, e3, e4, fun k => ?_⟩
    unfold F_L_law_18b
    rw [if_pos hb, if_neg hlt, c0, Option.bind_some, if_pos d0]
    simp only [c1, c2, c3, c4, c5, c6, V_is, M_is, Option.bind_some, e1, e_bind_some, e2, if_true, hl, F_L_law_904, if_pos hb, cn]
  by_cases d1 : xs (7 * i) &&& 31 = 1
  · obtain ⟨r, I2, J2, I3, J3, x2, e1, e2, e3, e4⟩ := B_clear (B := n0)   h
    refine ⟨I3, J3, x2, e3, e4, fun k => ?_⟩
    unfold F_L_law_18b
    rw [if_pos hb, if_neg hlt, c0, Option.bind_some, if_neg d0, if_pos d1]
    simp only [c1, c2, c3, c4, c5, c6, V_is, M_is, Option.bind_some, e1, e_bind_some, e2, if_true, hl, F_L_law_904, if_pos hb, cn]
  by_cases d2 : xs (7 * i) &&& 31 = 2
  · obtain ⟨r, I2, J2, I3, J3, x2, e1, e2, e3, e4⟩ := B_tells (B := n0) (N := 100000)  (by decide) hG h
    refine ⟨I3, J3, x2, e3, e4, fun k => ?_⟩
    unfold F_L_law_18b
    rw [if_pos hb, if_neg hlt, c0, Option.bind_some, if_neg d0, if_neg d1, if_pos d2]
    simp only [c1, c2, c3, c4, c5, c6, V_is, M_is, Option.bind_some, e1, e_bind_some, e2, if_true, hl, F_L_law_904, if_pos hb, cn]
  by_cases d3 : xs (7 * i) &&& 31 = 3
  · obtain ⟨r, I2, J2, I3, J3, x2, e1, e2, e3, e4⟩ := B_reads (B := n0) (N := 100000) (u := xs (7 * i + 1)) (v := xs (7 * i + 2)) (z := xs (7 * i + 3)) (by decide) h
    refine ⟨I3, J3, x2, e3, e4, fun k => ?_⟩
    unfold F_L_law_18b
    rw [if_pos hb, if_neg hlt, c0, Option.bind_some, if_neg d0, if_neg d1, if_neg d2, if_pos d3]
    simp only [c1, c2, c3, c4, c5, c6, V_is, M_is, Option.bind_some, e1, e_bind_some, e2, if_true, hl, F_L_law_904, if_pos hb, cn]
  by_cases d4 : xs (7 * i) &&& 31 = 4
  · obtain ⟨r, I2, J2, I3, J3, x2, e1, e2, e3, e4⟩ := B_writes (B := n0) (N := 100000) (u := xs (7 * i + 1)) (v := xs (7 * i + 2)) (z := xs (7 * i + 3)) (q := xs (7 * i + 4)) (val := ((xs (7 * i + 5)).toInt64 <<< ((32 : Int32).toInt64 &&& 63)) ||| ((xs (7 * i + 6)).toInt64 &&& 4294967295)) (by decide) h hT
    refine ⟨I3, J3, x2, e3, e4, fun k => ?_⟩
    unfold F_L_law_18b
    rw [if_pos hb, if_neg hlt, c0, Option.bind_some, if_neg d0, if_neg d1, if_neg d2, if_neg d3, if_pos d4]
    simp only [c1, c2, c3, c4, c5, c6, V_is, M_is, Option.bind_some, e1, e_bind_some, e2, if_true, hl, F_L_law_904, if_pos hb, cn]
  by_cases d5 : xs (7 * i) &&& 31 = 5
  · obtain ⟨r, I2, J2, I3, J3, x2, e1, e2, e3, e4⟩ := B_blinds (B := n0) (v := xs (7 * i + 1))  h
    refine ⟨I3, J3, x2, e3, e4, fun k => ?_⟩
    unfold F_L_law_18b
    rw [if_pos hb, if_neg hlt, c0, Option.bind_some, if_neg d0, if_neg d1, if_neg d2, if_neg d3, if_neg d4, if_pos d5]
    simp only [c1, c2, c3, c4, c5, c6, V_is, M_is, Option.bind_some, e1, e_bind_some, e2, if_true, hl, F_L_law_904, if_pos hb, cn]
  by_cases d6 : xs (7 * i) &&& 31 = 6
  · obtain ⟨r, I2, J2, I3, J3, x2, e1, e2, e3, e4⟩ := B_sends (B := n0) (N := 100000) (u := xs (7 * i + 1)) (v := xs (7 * i + 2)) (z := xs (7 * i + 3)) (by decide) h
    refine ⟨I3, J3, x2, e3, e4, fun k => ?_⟩
    unfold F_L_law_18b
    rw [if_pos hb, if_neg hlt, c0, Option.bind_some, if_neg d0, if_neg d1, if_neg d2, if_neg d3, if_neg d4, if_neg d5, if_pos d6]
    simp only [c1, c2, c3, c4, c5, c6, V_is, M_is, Option.bind_some, e1, e_bind_some, e2, if_true, hl, F_L_law_904, if_pos hb, cn]
  by_cases d7 : xs (7 * i) &&& 31 = 7
  · obtain ⟨r, I2, J2, I3, J3, x2, e1, e2, e3, e4⟩ := B_merges (B := n0) (N := 100000) (u := xs (7 * i + 1)) (v := xs (7 * i + 2)) (by decide) h hT
    refine ⟨I3, J3, x2, e3, e4, fun k => ?_⟩
    unfold F_L_law_18b
    rw [if_pos hb, if_neg hlt, c0, Option.bind_some, if_neg d0, if_neg d1, if_neg d2, if_neg d3, if_neg d4, if_neg d5, if_neg d6, if_pos d7]
    simp only [c1, c2, c3, c4, c5, c6, V_is, M_is, Option.bind_some, e1, e_bind_some, e2, if_true, hl, F_L_law_904, if_pos hb, cn]
  by_cases d8 : xs (7 * i) &&& 31 = 8
  · obtain ⟨r, I2, J2, I3, J3, x2, e1, e2, e3, e4⟩ := B_rules (B := n0) (N := 100000) (u := xs (7 * i + 1)) (v := xs (7 * i + 2)) (by decide) h
    refine ⟨I3, J3, x2, e3, e4, fun k => ?_⟩
    unfold F_L_law_18b
    rw [if_pos hb, if_neg hlt, c0, Option.bind_some, if_neg d0, if_neg d1, if_neg d2, if_neg d3, if_neg d4, if_neg d5, if_neg d6, if_neg d7, if_pos d8]
    simp only [c1, c2, c3, c4, c5, c6, V_is, M_is, Option.bind_some, e1, e_bind_some, e2, if_true, hl, F_L_law_904, if_pos hb, cn]
  by_cases d9 : xs (7 * i) &&& 31 = 9
  · obtain ⟨r, I2, J2, I3, J3, x2, e1, e2, e3, e4⟩ := B_row (B := n0) (u := xs (7 * i + 1)) (v := xs (7 * i + 2)) (z := xs (7 * i + 3))  h
    refine ⟨I3, J3, x2, e3, e4, fun k => ?_⟩
    unfold F_L_law_18b
    rw [if_pos hb, if_neg hlt, c0, Option.bind_some, if_neg d0, if_neg d1, if_neg d2, if_neg d3, if_neg d4, if_neg d5, if_neg d6, if_neg d7, if_neg d8, if_pos d9]
    simp only [c1, c2, c3, c4, c5, c6, V_is, M_is, Option.bind_some, e1, e_bind_some, e2, if_true, hl, F_L_law_904, if_pos hb, cn]
  by_cases d10 : xs (7 * i) &&& 31 = 10
  · obtain ⟨r, I2, J2, I3, J3, x2, e1, e2, e3, e4⟩ := B_sibling (B := n0) (N := 100000) (u := xs (7 * i + 1)) (v := xs (7 * i + 2)) (z := xs (7 * i + 3)) (q := xs (7 * i + 4)) (by decide) h
    refine ⟨I3, J3, x2, e3, e4, fun k => ?_⟩
    unfold F_L_law_18b
    rw [if_pos hb, if_neg hlt, c0, Option.bind_some, if_neg d0, if_neg d1, if_neg d2, if_neg d3, if_neg d4, if_neg d5, if_neg d6, if_neg d7, if_neg d8, if_neg d9, if_pos d10]
    simp only [c1, c2, c3, c4, c5, c6, V_is, M_is, Option.bind_some, e1, e_bind_some, e2, if_true, hl, F_L_law_904, if_pos hb, cn]
  by_cases d11 : xs (7 * i) &&& 31 = 11
  · obtain ⟨r, I2, J2, I3, J3, x2, e1, e2, e3, e4⟩ := B_context (B := n0) (u := xs (7 * i + 1)) (v := xs (7 * i + 2))  h
    refine ⟨I3, J3, x2, e3, e4, fun k => ?_⟩
    unfold F_L_law_18b
    rw [if_pos hb, if_neg hlt, c0, Option.bind_some, if_neg d0, if_neg d1, if_neg d2, if_neg d3, if_neg d4, if_neg d5, if_neg d6, if_neg d7, if_neg d8, if_neg d9, if_neg d10, if_pos d11]
    simp only [c1, c2, c3, c4, c5, c6, V_is, M_is, Option.bind_some, e1, e_bind_some, e2, if_true, hl, F_L_law_904, if_pos hb, cn]
  by_cases d12 : xs (7 * i) &&& 31 = 12
  · obtain ⟨r, I2, J2, I3, J3, x2, e1, e2, e3, e4⟩ := B_write (B := n0) (N := 100000) (u := xs (7 * i + 1)) (v := xs (7 * i + 2)) (z := xs (7 * i + 3)) (q := xs (7 * i + 4)) (by decide) h
    refine ⟨I3, J3, x2, e3, e4, fun k => ?_⟩
    unfold F_L_law_18b
    rw [if_pos hb, if_neg hlt, c0, Option.bind_some, if_neg d0, if_neg d1, if_neg d2, if_neg d3, if_neg d4, if_neg d5, if_neg d6, if_neg d7, if_neg d8, if_neg d9, if_neg d10, if_neg d11, if_pos d12]
    simp only [c1, c2, c3, c4, c5, c6, V_is, M_is, Option.bind_some, e1, e_bind_some, e2, if_true, hl, F_L_law_904, if_pos hb, cn]
  by_cases d13 : xs (7 * i) &&& 31 = 13
  · obtain ⟨r, I2, J2, I3, J3, x2, e1, e2, e3, e4⟩ := B_ahead (B := n0) (u := xs (7 * i + 1)) (v := xs (7 * i + 2)) (z := xs (7 * i + 3)) (p := xs (7 * i + 4)) (q := xs (7 * i + 5)) (way := xs (7 * i + 6))  h
    refine ⟨I3, J3, x2, e3, e4, fun k => ?_⟩
    unfold F_L_law_18b
    rw [if_pos hb, if_neg hlt, c0, Option.bind_some, if_neg d0, if_neg d1, if_neg d2, if_neg d3, if_neg d4, if_neg d5, if_neg d6, if_neg d7, if_neg d8, if_neg d9, if_neg d10, if_neg d11, if_neg d12, if_pos d13]
    simp only [c1, c2, c3, c4, c5, c6, V_is, M_is, Option.bind_some, e1, e_bind_some, e2, if_true, hl, F_L_law_904, if_pos hb, cn]
  by_cases d14 : xs (7 * i) &&& 31 = 14
  · obtain ⟨r, I2, J2, I3, J3, x2, e1, e2, e3, e4⟩ := B_alike (B := n0) (N := 100000) (u := xs (7 * i + 1)) (v := xs (7 * i + 2)) (z := xs (7 * i + 3)) (by decide) h
    refine ⟨I3, J3, x2, e3, e4, fun k => ?_⟩
    unfold F_L_law_18b
    rw [if_pos hb, if_neg hlt, c0, Option.bind_some, if_neg d0, if_neg d1, if_neg d2, if_neg d3, if_neg d4, if_neg d5, if_neg d6, if_neg d7, if_neg d8, if_neg d9, if_neg d10, if_neg d11, if_neg d12, if_neg d13, if_pos d14]
    simp only [c1, c2, c3, c4, c5, c6, V_is, M_is, Option.bind_some, e1, e_bind_some, e2, if_true, hl, F_L_law_904, if_pos hb, cn]
  by_cases d15 : xs (7 * i) &&& 31 = 15
  · obtain ⟨r, I2, J2, I3, J3, x2, e1, e2, e3, e4⟩ := B_behind (B := n0) (N := 100000) (u := xs (7 * i + 1)) (v := xs (7 * i + 2)) (by decide) h
    refine ⟨I3, J3, x2, e3, e4, fun k => ?_⟩
    unfold F_L_law_18b
    rw [if_pos hb, if_neg hlt, c0, Option.bind_some, if_neg d0, if_neg d1, if_neg d2, if_neg d3, if_neg d4, if_neg d5, if_neg d6, if_neg d7, if_neg d8, if_neg d9, if_neg d10, if_neg d11, if_neg d12, if_neg d13, if_neg d14, if_pos d15]
    simp only [c1, c2, c3, c4, c5, c6, V_is, M_is, Option.bind_some, e1, e_bind_some, e2, if_true, hl, F_L_law_904, if_pos hb, cn]
  by_cases d16 : xs (7 * i) &&& 31 = 16
  · obtain ⟨r, I2, J2, I3, J3, x2, e1, e2, e3, e4⟩ := B_spread (B := n0) (N := 100000) (u := xs (7 * i + 1)) (v := xs (7 * i + 2)) (by decide) h
    refine ⟨I3, J3, x2, e3, e4, fun k => ?_⟩
    unfold F_L_law_18b
    rw [if_pos hb, if_neg hlt, c0, Option.bind_some, if_neg d0, if_neg d1, if_neg d2, if_neg d3, if_neg d4, if_neg d5, if_neg d6, if_neg d7, if_neg d8, if_neg d9, if_neg d10, if_neg d11, if_neg d12, if_neg d13, if_neg d14, if_neg d15, if_pos d16]
    simp only [c1, c2, c3, c4, c5, c6, V_is, M_is, Option.bind_some, e1, e_bind_some, e2, if_true, hl, F_L_law_904, if_pos hb, cn]
  by_cases d17 : xs (7 * i) &&& 31 = 17
  · obtain ⟨r, I2, J2, I3, J3, x2, e1, e2, e3, e4⟩ := B_rule (B := n0) (u := xs (7 * i + 1)) (v := xs (7 * i + 2))  h
    refine ⟨I3, J3, x2, e3, e4, fun k => ?_⟩
    unfold F_L_law_18b
    rw [if_pos hb, if_neg hlt, c0, Option.bind_some, if_neg d0, if_neg d1, if_neg d2, if_neg d3, if_neg d4, if_neg d5, if_neg d6, if_neg d7, if_neg d8, if_neg d9, if_neg d10, if_neg d11, if_neg d12, if_neg d13, if_neg d14, if_neg d15, if_neg d16, if_pos d17]
    simp only [c1, c2, c3, c4, c5, c6, V_is, M_is, Option.bind_some, e1, e_bind_some, e2, if_true, hl, F_L_law_904, if_pos hb, cn]
  by_cases d18 : xs (7 * i) &&& 31 = 18
  · obtain ⟨r, I2, J2, I3, J3, x2, e1, e2, e3, e4⟩ := B_tally (B := n0) (N := 100000) (u := xs (7 * i + 1)) (v := xs (7 * i + 2)) (by decide) h
    refine ⟨I3, J3, x2, e3, e4, fun k => ?_⟩
    unfold F_L_law_18b
    rw [if_pos hb, if_neg hlt, c0, Option.bind_some, if_neg d0, if_neg d1, if_neg d2, if_neg d3, if_neg d4, if_neg d5, if_neg d6, if_neg d7, if_neg d8, if_neg d9, if_neg d10, if_neg d11, if_neg d12, if_neg d13, if_neg d14, if_neg d15, if_neg d16, if_neg d17, if_pos d18]
    simp only [c1, c2, c3, c4, c5, c6, V_is, M_is, Option.bind_some, e1, e_bind_some, e2, if_true, hl, F_L_law_904, if_pos hb, cn]
  by_cases d19 : xs (7 * i) &&& 31 = 19
  · obtain ⟨r, I2, J2, I3, J3, x2, e1, e2, e3, e4⟩ := B_count (B := n0) (v := xs (7 * i + 1))  h
    refine ⟨I3, J3, x2, e3, e4, fun k => ?_⟩
    unfold F_L_law_18b
    rw [if_pos hb, if_neg hlt, c0, Option.bind_some, if_neg d0, if_neg d1, if_neg d2, if_neg d3, if_neg d4, if_neg d5, if_neg d6, if_neg d7, if_neg d8, if_neg d9, if_neg d10, if_neg d11, if_neg d12, if_neg d13, if_neg d14, if_neg d15, if_neg d16, if_neg d17, if_neg d18, if_pos d19]
    simp only [c1, c2, c3, c4, c5, c6, V_is, M_is, Option.bind_some, e1, e_bind_some, e2, if_true, hl, F_L_law_904, if_pos hb, cn]
  refine ⟨I, J, x, h, by omega, fun k => ?_⟩
  unfold F_L_law_18b
  rw [if_pos hb, if_neg hlt, c0, Option.bind_some, if_neg d0, if_neg d1, if_neg d2, if_neg d3, if_neg d4, if_neg d5, if_neg d6, if_neg d7, if_neg d8, if_neg d9, if_neg d10, if_neg d11, if_neg d12, if_neg d13, if_neg d14, if_neg d15, if_neg d16, if_neg d17, if_neg d18, if_neg d19]
  simp only [F_L_law_904, if_pos hb, cn]
theorem law_true (G : eG) (hG : ∀ i j, i < 5 → j < 5 → G.2.2.1 i = G.2.2.1 j → i = j) (n0 L : Nat) (hL : L ≤ 3584) (xs : Nat → Int32) : ∃ h' : eH, F_L_law 100000 G n0 L xs (fun _ => none) = some (1, h') := by
  obtain ⟨I, b1, b2'⟩ := first_both (B := n0) (N := 100000) (by decide)
  have hstart : F_L_law 100000 G n0 L xs (fun _ => none) = L_L_law_18 100000 G n0 L xs 151 144358 n0 (n0 + 125) 0 (HP n0 I (fun _ _ => 0)) := by
    unfold F_L_law
    rw [hT_0 n0]
    simp only [e_let, Nat.add_zero, o0, cX11 (N := 100000) (by decide), e_bind_some, o288, cX12, hT_fin, M_is, Option.bind_some, b1]
  rw [hstart]
  unfold L_L_law_18
  refine e_loop_x (body := fun (k : Nat × Nat × Nat × Nat × Int32 × eH → Option (Int32 × eH)) s => F_L_law_18b 100000 G n0 L xs (fun c s l1 l2 l3 h => k (c, s, l1, l2, l3, h)) s.1 s.2.1 s.2.2.1 s.2.2.2.1 s.2.2.2.2.1 s.2.2.2.2.2) (fun i st => ∃ I J x, st = (151, 144358, n0, n0 + 125, nI (7 * i), HP n0 I J) ∧ rLB I J x ∧ zT x ≤ i) (fun r => ∃ h', r = some (1, h')) (L / 7) (fun i st hi hst => ?_) (fun st hst K => ?_) (L / 7) 100000 (151, 144358, n0, n0 + 125, 0, HP n0 I (fun _ _ => 0)) (Nat.le_refl _) ⟨I, _, ex0, by rw [Nat.sub_self]; rfl, b2', Nat.zero_le _⟩ (by omega)
  · obtain ⟨I1, J1, x, rfl, a1, a2⟩ := hst
    obtain ⟨I3, J3, x2, c1, c2, c3⟩ := law_step (G := G) (n0 := n0) (xs := xs) hG hL (show 7 * i + 7 ≤ L by omega) a1 (by omega)
    exact Or.inl ⟨_, ⟨I3, J3, x2, rfl, c1, by omega⟩, fun k => c3 (fun c s l1 l2 l3 h => k (c, s, l1, l2, l3, h))⟩
  · obtain ⟨I1, J1, x, rfl, a1, a2⟩ := hst
    refine ⟨HP n0 I1 J1, ?_⟩
    show F_L_law_18b 100000 G n0 L xs _ 151 144358 n0 (n0 + 125) (nI (7 * (L / 7))) (HP n0 I1 J1) = _
    unfold F_L_law_18b
    rw [if_pos (by decide), if_pos]
    rw [Int32.lt_iff_toInt_lt]
    show (nI L - nI 7).toInt < _
    rw [pk_sub_toInt (by omega) (by decide)]
    have : (nI (7 * (L / 7))).toInt = ((7 * (L / 7) : Nat) : Int) := by
      have := pk_sub_toInt (a := 7 * (L / 7)) (b := 0) (by omega) (by decide)
      rw [pk_sub (Nat.zero_le _), Nat.sub_zero] at this
      omega
    rw [this]
    omega
