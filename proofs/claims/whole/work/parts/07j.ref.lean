/-! REFERENCE: write, ahead, sibling, alike, behind, tally -/
section RCALL2
variable {B : Nat} {I : Nat → Nat → Int32} {J : Nat → Nat → Int64} {x : eST} {y : eKS} {a b c k l s t i j n m r : Nat} {u v z : Int32}
theorem plp_ti {t i : Nat} (hi : i < 40) : plp (40 * t + i) = 41 * t + (i + 1) := by unfold plp; omega
theorem at_ti (k : Nat) {t i : Nat} (hi : i < 40) (h : eH) : F_X12_at (nI k) (nI t) (nI (i + 1)) h = some (nI (164 * k + plp (40 * t + i)), h) := by
  rw [X_at, plp_ti hi, Nat.add_assoc]
theorem at_tn (k : Nat) {t n : Nat} (h1 : 1 ≤ n) (hn : n ≤ 40) (h : eH) : F_X12_at (nI k) (nI t) (nI n) h = some (nI (164 * k + plp (40 * t + (n - 1))), h) := by
  rw [X_at, plp_ti (show n - 1 < 40 by omega), Nat.add_assoc, show n - 1 + 1 = n by omega]
theorem X_wr_ok (h : Mo I J x) (w : WF x) (hk : k < zK x) (ht : t < zN x) (h1 : 1 ≤ n) (hn : n ≤ kM (zS x k) t) : F_X12_isWrite (B + 125) (nI k) (nI t) (nI n) (HP B I J) = some (1, HP B I J) := by
  have h4 : k < 4 := Nat.lt_of_lt_of_le hk w.2.2.2.1
  have h5 : t < 4 := Nat.lt_of_lt_of_le ht w.1.2
  have hM := WF_M w h4 h5
  unfold F_X12_isWrite
  simp only [M_is, Option.bind_some, X_site_ok h w ht, X_key_ok h w hk, e_bind_some, if_neg (show ¬ (1 : Int32) = 0 by decide), M_gr15, n_4, nI_add, R_ai136 (show 4 * k + t < 16 by omega), Y_made (Mo_k h h4) h5, in_ok (v := nI n) (m := 1) (n := kM (zS x k) t) rfl l1 rfl _ rfl h1 hn (show kM (zS x k) t < 2 ^ 31 by omega), h_z1]
theorem X_wr_no1 (h : Mo I J x) (w : WF x) (hv : nix u (zK x) ∨ nix v (zN x)) : F_X12_isWrite (B + 125) u v z (HP B I J) = some (0, HP B I J) := by
  have h1 := w.1.2
  have h2 := w.2.2.2.1
  unfold F_X12_isWrite
  rcases nix_c u (show zK x < 2 ^ 31 by omega) with e | ⟨k, hk, rfl⟩
  · simp only [M_is, Option.bind_some, X_key_no h w e, e_bind_some, if_true, h_z0]
  · have e : nix v (zN x) := hv.resolve_left (nix_not hk (by omega))
    simp only [M_is, Option.bind_some, X_key_ok h w hk, X_site_no h w e, e_bind_some, if_true, h_z0, if_neg (show ¬ (1 : Int32) = 0 by decide)]
theorem X_wr_no2 (h : Mo I J x) (w : WF x) (hk : k < zK x) (ht : t < zN x) (hv : z < 1 ∨ nI (kM (zS x k) t) < z) : F_X12_isWrite (B + 125) (nI k) (nI t) z (HP B I J) = some (0, HP B I J) := by
  have h4 : k < 4 := Nat.lt_of_lt_of_le hk w.2.2.2.1
  have h5 : t < 4 := Nat.lt_of_lt_of_le ht w.1.2
  have hM := WF_M w h4 h5
  have l1i : (1 : Int64) = (1 : Int32).toInt64 := by decide +kernel
  have e : (!decide (z < 1) && !decide (nI (kM (zS x k) t) < z)) = false := by
    rcases hv with q | q
    · rw [decide_eq_true q]; rfl
    · rw [decide_eq_true q]; cases decide (z < 1) <;> rfl
  unfold F_X12_isWrite
  simp only [M_is, Option.bind_some, X_site_ok h w ht, X_key_ok h w hk, e_bind_some, if_neg (show ¬ (1 : Int32) = 0 by decide), M_gr15, n_4, nI_add, R_ai136 (show 4 * k + t < 16 by omega), Y_made (Mo_k h h4) h5, l1i, in_w, e, b2_f, if_true, h_z0]
theorem l7 : (7 : Int64) = (nI 7).toInt64 := by decide +kernel
theorem l7'' : (7 : Int64) = (nI 8 - 1).toInt64 := by decide +kernel
theorem X_bit (b : Bool) (h : eH) : F_X12_bit (b2 b) h = some (b2 b, h) := by cases b <;> rfl
theorem Y_besideJ (h : MoK k I J y) (hj : j < 160) : I 135 (164 * k + plp j) = hb (fun s => kS y (4 + s) j) 4 := by
  rw [Y_beside h (plp_lt hj)]
  exact hb_cong (fun s _ => plc_p _ _)
theorem Y_setJ (h : MoK k I J y) {f : Nat} (hf : f < 4) (hj : j < 160) : I (131 + f) (164 * k + plp j) = b2 (kS y f j) := by
  rw [Y_set h hf (plp_lt hj), plc_p]
theorem Y_set0 (h : MoK k I J y) (hj : j < 160) : I 131 (164 * k + plp j) = b2 (kS y 0 j) := Y_setJ h (f := 0) (by decide) hj
theorem Y_set1 (h : MoK k I J y) (hj : j < 160) : I 132 (164 * k + plp j) = b2 (kS y 1 j) := Y_setJ h (f := 1) (by decide) hj
theorem Y_set2 (h : MoK k I J y) (hj : j < 160) : I 133 (164 * k + plp j) = b2 (kS y 2 j) := Y_setJ h (f := 2) (by decide) hj
theorem Y_set3 (h : MoK k I J y) (hj : j < 160) : I 134 (164 * k + plp j) = b2 (kS y 3 j) := Y_setJ h (f := 3) (by decide) hj
theorem y_isLost (hk : k < 4) (h : MoK k I J y) (hj : j < 160) (hc : cov (kM y) j = true) : F_X12_isLost (B + 125) (nI (164 * k + plp j)) (HP B I J) = some (b2 (los y j), HP B I J) := by
  have hp := plp_lt hj
  unfold F_X12_isLost los
  simp only [M_gr14, M_gr10, Option.bind_some, R_ai135 (show 164 * k + plp j < 656 by omega), R_ai131 (show 164 * k + plp j < 656 by omega), Y_besideJ h hj, Y_set0 h hj, b2_0, h_z0, h_z1, hc]
  by_cases e : hb (fun s => kS y (4 + s) j) 4 = 0
  · rw [if_pos e, decide_eq_true e]
    cases kS y 0 j <;> rfl
  · rw [if_neg e, decide_eq_false e]
    cases kS y 0 j <;> rfl
theorem m_write_no {u v z q : Int32} (e : F_X12_isWrite (B + 125) u v z (HP B I J) = some (0, HP B I J)) : F_X12_write (B + 125) u v z q (HP B I J) = some (-1, HP B I J) := by
  unfold F_X12_write
  simp only [M_is, Option.bind_some, e, e_bind_some, if_true]
theorem m_write_no3 (h : Mo I J x) (w : WF x) (hk : k < zK x) (ht : t < zN x) (h1 : 1 ≤ n) (hn : n ≤ kM (zS x k) t) (hv : nix v 8) : F_X12_write (B + 125) (nI k) (nI t) (nI n) v (HP B I J) = some (-1, HP B I J) := by
  unfold F_X12_write
  simp only [M_is, Option.bind_some, X_wr_ok h w hk ht h1 hn, e_bind_some, if_neg (show ¬ (1 : Int32) = 0 by decide), X_in_no (m := 8) l7'' hv (by decide), if_true]
theorem m_write_ok (h : Mo I J x) (w : WF x) (hk : k < zK x) (ht : t < zN x) (h1 : 1 ≤ n) (hn : n ≤ kM (zS x k) t) (hj : j < 8) : F_X12_write (B + 125) (nI k) (nI t) (nI n) (nI j) (HP B I J) = some (aWr (zS x k) (40 * t + (n - 1)) j, HP B I J) := by
  have h4 : k < 4 := Nat.lt_of_lt_of_le hk w.2.2.2.1
  have h5 : t < 4 := Nat.lt_of_lt_of_le ht w.1.2
  have hM := WF_M w h4 h5
  have hK := Mo_k h h4
  obtain ⟨d1, d2⟩ := dot_in w h4 h5 h1 hn
  have hp := plp_lt d1
  have hp2 : 164 * k + plp (40 * t + (n - 1)) < 656 := by omega
  obtain ⟨g1, g2, g3⟩ := hK.2.2.2.2.2 _ d1 d2
  unfold F_X12_write
  simp only [M_is, Option.bind_some, X_wr_ok h w hk ht h1 hn, e_bind_some, if_neg (show ¬ (1 : Int32) = 0 by decide), X_in_ok l7 (show j ≤ 7 by omega) (show 7 < 2 ^ 31 by decide), at_tn k h1 (show n ≤ 40 by omega), M_gr6, M_gr7, M_gr10, M_gr11, M_gr12, M_gr13, M_gr14, R_al127 hp2, R_ai128 hp2, R_ai131 hp2, R_ai132 hp2, R_ai133 hp2, R_ai134 hp2, R_ai135 hp2, g1, g2, Y_besideJ hK d1, Y_set0 hK d1, Y_set1 hK d1, Y_set2 hK d1, Y_set3 hK d1, X_bit, y_isLost h4 hK d1 d2]
  have hc : j = 0 ∨ j = 1 ∨ j = 2 ∨ j = 3 ∨ j = 4 ∨ j = 5 ∨ j = 6 ∨ j = 7 := by omega
  rcases hc with rfl | rfl | rfl | rfl | rfl | rfl | rfl | rfl <;> rfl
theorem m_ahead_no1 {p q : Int32} (e : F_X12_isWrite (B + 125) u v z (HP B I J) = some (0, HP B I J)) {r : Int32} : F_X12_ahead (B + 125) u v z p q r (HP B I J) = some (-1, HP B I J) := by
  unfold F_X12_ahead
  simp only [M_is, Option.bind_some, e, e_bind_some, if_true]
theorem m_ahead_no2 {p q : Int32} (e0 : F_X12_isWrite (B + 125) u v z (HP B I J) = some (1, HP B I J)) (e : F_X12_isWrite (B + 125) u p q (HP B I J) = some (0, HP B I J)) {r : Int32} : F_X12_ahead (B + 125) u v z p q r (HP B I J) = some (-1, HP B I J) := by
  unfold F_X12_ahead
  simp only [M_is, Option.bind_some, e0, e, e_bind_some, if_true, if_neg (show ¬ (1 : Int32) = 0 by decide)]
theorem m_ahead_no3 {p q : Int32} (e0 : F_X12_isWrite (B + 125) u v z (HP B I J) = some (1, HP B I J)) (e : F_X12_isWrite (B + 125) u p q (HP B I J) = some (1, HP B I J)) {r : Int32} (hv : nix r 2) : F_X12_ahead (B + 125) u v z p q r (HP B I J) = some (-1, HP B I J) := by
  unfold F_X12_ahead
  simp only [M_is, Option.bind_some, e0, e, e_bind_some, if_true, if_neg (show ¬ (1 : Int32) = 0 by decide), X_in_no (m := 2) l1' hv (by decide)]
theorem s_ma71 {p q : Nat} (hp : p < 2 ^ 31) (hq : q < 2 ^ 31) (h : eH) : F_X12_ahead_71 (nI p) (nI q) h = some (b2 (decide (p ≤ q)), h) := by
  unfold F_X12_ahead_71 F_X12_ahead_80
  by_cases e : q < p
  · rw [if_pos (nI_lt e hp), decide_eq_false (by omega)]; rfl
  · rw [if_neg (nI_nlt (by omega) hq), decide_eq_true (by omega)]; rfl
theorem m_ahead_ok (h : Mo I J x) (w : WF x) (hk : k < zK x) (ha : a < zN x) (hb : b < zN x) (hm1 : 1 ≤ m) (hm : m ≤ kM (zS x k) a) (h1 : 1 ≤ n) (hn : n ≤ kM (zS x k) b) (hj : j < 2) : F_X12_ahead (B + 125) (nI k) (nI a) (nI m) (nI b) (nI n) (nI j) (HP B I J) = some (b2 (decide (m ≤ (if j = 0 then kTo (zS x k) (40 * b + (n - 1)) a else kKn (zS x k) (40 * b + (n - 1)) a))), HP B I J) := by
  have h4 : k < 4 := Nat.lt_of_lt_of_le hk w.2.2.2.1
  have h5 : a < 4 := Nat.lt_of_lt_of_le ha w.1.2
  have h6 : b < 4 := Nat.lt_of_lt_of_le hb w.1.2
  have hM := WF_M w h4 h5
  have hMb := WF_M w h4 h6
  have hK := Mo_k h h4
  obtain ⟨d1, d2⟩ := dot_in w h4 h6 h1 hn
  have hp := plp_lt d1
  have hp2 : 4 * (164 * k + plp (40 * b + (n - 1))) + a < 2624 := by omega
  obtain ⟨g1, g2, g3⟩ := hK.2.2.2.2.2 _ d1 d2
  obtain ⟨q1, q2⟩ := g3 a h5
  obtain ⟨r1, r2⟩ := (WF_k w h4).2.2.2.2.2.2.2.1 _ d1 d2 a h5
  unfold F_X12_ahead
  simp only [M_is, Option.bind_some, X_wr_ok h w hk ha hm1 hm, X_wr_ok h w hk hb h1 hn, e_bind_some, if_neg (show ¬ (1 : Int32) = 0 by decide), X_in_ok l1 (show j ≤ 1 by omega) (show 1 < 2 ^ 31 by decide), at_tn k h1 (show n ≤ 40 by omega), e_let, n_4, nI_add, M_gr8, M_gr9, R_ai129 hp2, R_ai130 hp2, q1, q2, s_ma71 (show m < 2 ^ 31 by omega) (show kTo (zS x k) (40 * b + (n - 1)) a < 2 ^ 31 by omega), s_ma71 (show m < 2 ^ 31 by omega) (show kKn (zS x k) (40 * b + (n - 1)) a < 2 ^ 31 by omega)]
  have hc : j = 0 ∨ j = 1 := by omega
  rcases hc with rfl | rfl <;> rfl
theorem l3 : (3 : Int64) = (nI 3).toInt64 := by decide +kernel
theorem l3' : (3 : Int64) = (nI 4 - 1).toInt64 := by decide +kernel
theorem m_sibling_no1 (h : Mo I J x) (w : WF x) {N : Nat} {p q : Int32} (hv : nix u (zN x) ∨ nix v (zK x)) : F_X12_sibling N (B + 125) u v p q (HP B I J) = some (-1, HP B I J) := by
  have h1 := w.1.2
  have h2 := w.2.2.2.1
  unfold F_X12_sibling
  rcases nix_c u (show zN x < 2 ^ 31 by omega) with e | ⟨s, hs, rfl⟩
  · simp only [M_is, Option.bind_some, X_site_no h w e, e_bind_some, if_true]
  · have e : nix v (zK x) := hv.resolve_left (nix_not hs (by omega))
    simp only [M_is, Option.bind_some, X_site_ok h w hs, X_key_no h w e, e_bind_some, if_true, if_neg (show ¬ (1 : Int32) = 0 by decide)]
theorem m_sibling_no2 (h : Mo I J x) (w : WF x) {N : Nat} (hs : s < zN x) (hk : k < zK x) (hv : v < 0) {q : Int32} : F_X12_sibling N (B + 125) (nI s) (nI k) v q (HP B I J) = some (-1, HP B I J) := by
  unfold F_X12_sibling
  simp only [M_is, Option.bind_some, X_site_ok h w hs, X_key_ok h w hk, e_bind_some, if_pos hv, if_neg (show ¬ (1 : Int32) = 0 by decide)]
theorem m_sibling_no3 (h : Mo I J x) (w : WF x) {N : Nat} (hs : s < zN x) (hk : k < zK x) (hu : ¬ u < 0) (hv : nix v 4) : F_X12_sibling N (B + 125) (nI s) (nI k) u v (HP B I J) = some (-1, HP B I J) := by
  unfold F_X12_sibling
  simp only [M_is, Option.bind_some, X_site_ok h w hs, X_key_ok h w hk, e_bind_some, if_neg hu, if_neg (show ¬ (1 : Int32) = 0 by decide), X_in_no (m := 4) l3' hv (by decide), if_true]
theorem WF_mst (w : WF x) (hk : k < 4) (hs : s < 4) : mst (zS x k) s := by
  have hW := WF_k w hk
  have hT : zT x ≤ 1000 := w.2.2.2.2.1
  refine ⟨fun j hj q => hW.2.2.2.1 (4 + s) (by omega) j hj q, fun j hj q => ?_⟩
  obtain ⟨a1, a2⟩ := hW.2.2.2.2.2.1 j hj q
  exact ⟨a1, by omega⟩
theorem m_sibling_ok {N : Nat} (hN : 200 < N) (h : Mo I J x) (w : WF x) (hs : s < zN x) (hk : k < zK x) (hl : l < 2 ^ 31) (hj : j < 4) : F_X12_sibling N (B + 125) (nI s) (nI k) (nI l) (nI j) (HP B I J) = some (match fi (kS (zS x k) (4 + s)) l with | none => -9 | some d => aSb (zS x k) d j, HP B I J) := by
  have h4 : k < 4 := Nat.lt_of_lt_of_le hk w.2.2.2.1
  have h5 : s < 4 := Nat.lt_of_lt_of_le hs w.1.2
  have hK := Mo_k h h4
  have hm := WF_mst w h4 h5
  have hu : F_X12_sibling N (B + 125) (nI s) (nI k) (nI l) (nI j) (HP B I J) = L_X12_sibling_43 N (B + 125) (nI s) (nI k) (nI l) (nI j) 0 0 (HP B I J) := by
    unfold F_X12_sibling
    simp only [M_is, Option.bind_some, X_site_ok h w hs, X_key_ok h w hk, e_bind_some, if_neg (nI_pos hl), if_neg (show ¬ (1 : Int32) = 0 by decide), X_in_ok l3 (show j ≤ 3 by omega) (show 3 < 2 ^ 31 by decide)]
  have e0 : L_X12_sibling_43 N (B + 125) (nI s) (nI k) (nI l) (nI j) 0 0 (HP B I J) = ex (fun m => !(plc (kS (zS x k) (4 + s)) m && decide (ct (plc (kS (zS x k) (4 + s))) m = l))) (fun m => some (aSb (zS x k) (plj m) j, HP B I J)) (some (-9, HP B I J)) 164 0 := by
    unfold L_X12_sibling_43
    have e1 := e_loop_e (body := fun (k : Nat × Int32 × Int32 × Int32 × Int32 × Int32 × Int32 × eH → Option (Int64 × eH)) s => F_X12_sibling_43b N (fun l0 l1 l2 l3 l4 l5 l6 h => k (l0, l1, l2, l3, l4, l5, l6, h)) s.1 s.2.1 s.2.2.1 s.2.2.2.1 s.2.2.2.2.1 s.2.2.2.2.2.1 s.2.2.2.2.2.2.1 s.2.2.2.2.2.2.2) (fun i => (B + 125, nI s, nI k, nI l, nI j, nI (ct (plc (kS (zS x k) (4 + s))) i), nI i, HP B I J)) (fun i => !(plc (kS (zS x k) (4 + s)) i && decide (ct (plc (kS (zS x k) (4 + s))) i = l))) (fun i => some (aSb (zS x k) (plj i) j, HP B I J)) (some (-9, HP B I J)) (164) (N := N) (fun i hi k0 => by
      show F_X12_sibling_43b N _ (B + 125) (nI s) (nI k) (nI l) (nI j) (nI (ct (plc (kS (zS x k) (4 + s))) i)) (nI i) (HP B I J) = if _ = true then k0 _ else _
      unfold F_X12_sibling_43b
      simp only [if_neg (show ¬ (164 : Int32) ≤ nI i from nI_ge hi (by decide)), n_164, nI_add, e_let, M_gr14, R_ai135 (show 164 * k + i < 656 by omega), Y_beside hK hi, Option.bind_some, hb_has _ h5, e_bind_some, b2_0, F_X12_sibling_138, nI_1]
      have hle := ct_le (plc (kS (zS x k) (4 + s))) i
      cases hp : plc (kS (zS x k) (4 + s)) i
      · rw [if_pos rfl, show ct (plc (kS (zS x k) (4 + s))) (i + 1) = ct (plc (kS (zS x k) (4 + s))) i by simp [ct, hp]]; rfl
      · rw [if_neg (by decide), Bool.true_and]
        by_cases h2 : ct (plc (kS (zS x k) (4 + s))) i = l
        · rw [if_pos (by rw [h2]), decide_eq_true h2]
          show _ = some (aSb (zS x k) (plj i) j, HP B I J)
          have h0 : i % 41 ≠ 0 := fun q => by rw [plc_0 _ q] at hp; cases hp
          obtain ⟨a1, a2, a3⟩ := Y_stampP hK hm hi hp
          have hpl := plp_j h0
          have hlj := plj_lt hi
          have hcv : cov (kM (zS x k)) (plj i) = true := hm.1 _ hlj (by rw [plc_1 _ h0] at hp; exact hp)
          have a4 : J 127 (164 * k + i) = kV (zS x k) (plj i) := by have := (hK.2.2.2.2.2 _ hlj hcv).2.1; rw [hpl] at this; exact this
          have e1 : nI i / 41 = nI (plj i / 40) := (pk_div (a := i) (d := 41) (by omega) (by decide) (by decide)).trans (congrArg nI (by unfold plj; omega))
          have e2 : nI i - nI i / 41 * 41 = nI (plj i % 40 + 1) := (pk_rem (a := i) (d := 41) (by omega) (by decide) (by decide)).trans (congrArg nI (by unfold plj; omega))
          have e3 : nI i - nI (plj i / 40) * 41 = nI (plj i % 40 + 1) := by rw [← e1]; exact e2
          simp only [M_gr7, M_gr6, R_ai128 (show 164 * k + i < 656 by omega), R_al127 (show 164 * k + i < 656 by omega), Option.bind_some, a1, a4, e1, e3]
          have hc : j = 0 ∨ j = 1 ∨ j = 2 ∨ j = 3 := by omega
          rcases hc with rfl | rfl | rfl | rfl <;> rfl
        · rw [if_neg (fun q => h2 ((nI_eq (show ct (plc (kS (zS x k) (4 + s))) i < 2 ^ 31 by omega) hl).mp q)), decide_eq_false h2]
          show k0 _ = k0 _
          rw [show ct (plc (kS (zS x k) (4 + s))) (i + 1) = ct (plc (kS (zS x k) (4 + s))) i + 1 by simp [ct, hp]]) (fun k0 => by
      show F_X12_sibling_43b N _ (B + 125) (nI s) (nI k) (nI l) (nI j) (nI (ct (plc (kS (zS x k) (4 + s))) 164)) (nI 164) (HP B I J) = _
      unfold F_X12_sibling_43b
      rfl) (by omega)
    exact e1
  rw [hu, e0, ex_pl (g := fun d => !(kS (zS x k) (4 + s) d && decide (ct (kS (zS x k) (4 + s)) d = l))) (r := fun d => some (aSb (zS x k) d j, HP B I J)) (fun m hm2 h0 => by simp only [plc_0 _ h0]; rfl) (fun m hm2 h0 => ⟨by simp only [plc_1 _ h0, ct_pl], rfl⟩) 164 0 rfl]
  have e2 : ∀ n q, ex (fun d => !(kS (zS x k) (4 + s) d && decide (ct (kS (zS x k) (4 + s)) d = l))) (fun d => some (aSb (zS x k) d j, HP B I J)) (some (-9, HP B I J)) n q = some ((match ex (fun d => !(kS (zS x k) (4 + s) d && decide (ct (kS (zS x k) (4 + s)) d = l))) (fun d => some d) none n q with | none => (-9 : Int64) | some d => aSb (zS x k) d j), HP B I J) := fun n q => (ex_map (fun o => some ((match o with | none => (-9 : Int64) | some d => aSb (zS x k) d j), HP B I J)) (g := fun d => !(kS (zS x k) (4 + s) d && decide (ct (kS (zS x k) (4 + s)) d = l))) (r := fun d => some d) (e := none) n q).symm
  exact e2 _ _
/-- all of the first n -/
def an (g : Nat → Bool) : Nat → Bool
  | 0 => true
  | i + 1 => an g i && g i
theorem an_0 (g : Nat → Bool) : an g 0 = true := rfl
theorem an_iff {g : Nat → Bool} : ∀ {n : Nat}, an g n = true ↔ ∀ j, j < n → g j = true
  | 0 => ⟨fun _ j h => absurd h (Nat.not_lt_zero j), fun _ => rfl⟩
  | n + 1 => by
    unfold an
    rw [Bool.and_eq_true, an_iff]
    constructor
    · intro h j hj
      rcases Nat.lt_or_ge j n with q | q
      · exact h.1 j q
      · rw [show j = n by omega]; exact h.2
    · exact fun h => ⟨fun j hj => h j (by omega), h n (by omega)⟩
theorem an_add {g : Nat → Bool} {f : Nat → Bool} (m : Nat) : ∀ n, (an g m && an f n) = an (fun j => if j < m then g j else f (j - m)) (m + n)
  | 0 => by
    rw [show an f 0 = true from rfl, Bool.and_true]
    apply Bool.eq_iff_iff.mpr
    rw [an_iff, an_iff]
    exact ⟨fun h j hj => by simp only [Nat.add_zero] at hj; rw [if_pos hj]; exact h j hj, fun h j hj => by have := h j (by omega); rwa [if_pos hj] at this⟩
  | n + 1 => by
    show (an g m && (an f n && f n)) = (an _ (m + n) && (if m + n < m then g (m + n) else f (m + n - m)))
    rw [if_neg (by omega), Nat.add_sub_cancel_left, ← an_add m n, Bool.and_assoc]
theorem m_alike_no (h : Mo I J x) (w : WF x) {N : Nat} (hv : nix u (zN x) ∨ nix v (zN x) ∨ nix z (zK x)) : F_X12_alike N (B + 125) u v z (HP B I J) = some (-1, HP B I J) := by
  have h1 := w.1.2
  have h2 := w.2.2.2.1
  unfold F_X12_alike
  rcases nix_c u (show zN x < 2 ^ 31 by omega) with e | ⟨s, hs, rfl⟩
  · simp only [M_is, Option.bind_some, X_site_no h w e, e_bind_some, if_true]
  · rcases nix_c v (show zN x < 2 ^ 31 by omega) with e | ⟨t, ht, rfl⟩
    · simp only [M_is, Option.bind_some, X_site_ok h w hs, X_site_no h w e, e_bind_some, if_true, if_neg (show ¬ (1 : Int32) = 0 by decide)]
    · have e : nix z (zK x) := (hv.resolve_left (nix_not hs (by omega))).resolve_left (nix_not ht (by omega))
      simp only [M_is, Option.bind_some, X_site_ok h w hs, X_site_ok h w ht, X_key_no h w e, e_bind_some, if_true, if_neg (show ¬ (1 : Int32) = 0 by decide)]
theorem y_alike {N : Nat} (hN : 200 < N) (hk : k < 4) (ha : a < 4) (hb : b < 4) (h : MoK k I J y) (hR : ∀ s, s < 4 → ∀ t, t < 4 → kR y s t ≤ 40) (h0 : I 125 0 = nI n) (hn : n ≤ 4) : F_X12_areAlike N (B + 125) (nI a) (nI b) (nI k) (HP B I J) = some (b2 (an (fun t => decide (kR y a t = kR y b t)) n && an (fun p => decide (plc (kS y (4 + a)) p = plc (kS y (4 + b)) p)) 164), HP B I J) := by
  have inner : ∀ acc : Bool, L_X12_areAlike_69 N (B + 125) (nI a) (nI b) (nI k) (b2 acc) (nI (164 * k)) (HP B I J) = some (b2 (acc && an (fun p => decide (plc (kS y (4 + a)) p = plc (kS y (4 + b)) p)) 164), HP B I J) := by
    intro acc
    unfold L_X12_areAlike_69
    have e1 := e_loop_f (body := fun (k : Nat × Int32 × Int32 × Int32 × Int32 × Int32 × eH → Option (Int32 × eH)) s => F_X12_areAlike_69b N (fun l0 l1 l2 l3 l4 l5 h => k (l0, l1, l2, l3, l4, l5, h)) s.1 s.2.1 s.2.2.1 s.2.2.2.1 s.2.2.2.2.1 s.2.2.2.2.2.1 s.2.2.2.2.2.2) (fun i => (B + 125, nI a, nI b, nI k, b2 (acc && an (fun p => decide (plc (kS y (4 + a)) p = plc (kS y (4 + b)) p)) i), nI (164 * k + i), HP B I J)) 164 (N := N) (fun i hi k0 => by
      show F_X12_areAlike_69b N _ (B + 125) (nI a) (nI b) (nI k) (b2 (acc && an (fun p => decide (plc (kS y (4 + a)) p = plc (kS y (4 + b)) p)) i)) (nI (164 * k + i)) (HP B I J) = k0 _
      unfold F_X12_areAlike_69b
      simp only [n_164, n_p164, if_neg (k164_ge k hi hk), b2_0, F_X12_areAlike_117, F_X12_areAlike_118, M_gr14, R_ai135 (show 164 * k + i < 656 by omega), Y_beside h hi, Option.bind_some, hb_has _ ha, hb_has _ hb, e_bind_some, nI_1, b2_inj]
      cases hq : (acc && an (fun p => decide (plc (kS y (4 + a)) p = plc (kS y (4 + b)) p)) i)
      · rw [if_pos rfl]
        show k0 _ = k0 (B + 125, nI a, nI b, nI k, b2 (acc && (an (fun p => decide (plc (kS y (4 + a)) p = plc (kS y (4 + b)) p)) i && _)), nI (164 * k + (i + 1)), HP B I J)
        rw [← Bool.and_assoc, hq]; rfl
      · rw [if_neg (by decide)]
        show _ = k0 (B + 125, nI a, nI b, nI k, b2 (acc && (an (fun p => decide (plc (kS y (4 + a)) p = plc (kS y (4 + b)) p)) i && decide (plc (kS y (4 + a)) i = plc (kS y (4 + b)) i))), nI (164 * k + (i + 1)), HP B I J)
        rw [← Bool.and_assoc, hq]
        by_cases q : plc (kS y (4 + a)) i = plc (kS y (4 + b)) i
        · rw [if_pos q, decide_eq_true q]; rfl
        · rw [if_neg q, decide_eq_false q]; rfl) (by omega)
    simp only [an_0, Bool.and_true] at e1
    refine Eq.trans e1 ?_
    show F_X12_areAlike_69b N _ (B + 125) (nI a) (nI b) (nI k) (b2 (acc && an (fun p => decide (plc (kS y (4 + a)) p = plc (kS y (4 + b)) p)) 164)) (nI (164 * k + 164)) (HP B I J) = _
    unfold F_X12_areAlike_69b
    rw [n_164, n_p164, if_pos (k164_n k hk), hz_b]
    rfl
  unfold F_X12_areAlike L_X12_areAlike_6
  have e1 := e_loop_f (body := fun (k : Nat × Int32 × Int32 × Int32 × Int32 × Int32 × eH → Option (Int32 × eH)) s => F_X12_areAlike_6b N (fun l0 l1 l2 l3 l4 l5 h => k (l0, l1, l2, l3, l4, l5, h)) s.1 s.2.1 s.2.2.1 s.2.2.2.1 s.2.2.2.2.1 s.2.2.2.2.2.1 s.2.2.2.2.2.2) (fun i => (B + 125, nI a, nI b, nI k, b2 (an (fun t => decide (kR y a t = kR y b t)) i), nI i, HP B I J)) (n) (N := N) (fun i hi k0 => by
    show F_X12_areAlike_6b N _ (B + 125) (nI a) (nI b) (nI k) (b2 (an (fun t => decide (kR y a t = kR y b t)) i)) (nI i) (HP B I J) = k0 _
    unfold F_X12_areAlike_6b
    simp only [M_gi0, h0, Option.bind_some, if_neg (nI_ge hi (show n < 2 ^ 31 by omega)), b2_0, F_X12_areAlike_53, F_X12_areAlike_54, M_gr16, X_rowAt, e_bind_some, nI_add, R_ai137 (show 16 * k + 4 * a + i < 64 by omega), R_ai137 (show 16 * k + 4 * b + i < 64 by omega), Y_row h ha (show i < 4 by omega), Y_row h hb (show i < 4 by omega), nI_1]
    have ra := hR a ha i (by omega)
    have rb := hR b hb i (by omega)
    cases hq : an (fun t => decide (kR y a t = kR y b t)) i
    · rw [if_pos rfl]
      show k0 _ = k0 (B + 125, nI a, nI b, nI k, b2 (an (fun t => decide (kR y a t = kR y b t)) i && _), nI (i + 1), HP B I J)
      rw [hq]; rfl
    · rw [if_neg (by decide)]
      show _ = k0 (B + 125, nI a, nI b, nI k, b2 (an (fun t => decide (kR y a t = kR y b t)) i && decide (kR y a i = kR y b i)), nI (i + 1), HP B I J)
      rw [hq]
      by_cases q : kR y a i = kR y b i
      · rw [if_pos (by rw [q]), decide_eq_true q]; rfl
      · rw [if_neg (fun e => q ((nI_eq (by omega) (by omega)).mp e)), decide_eq_false q]; rfl) (by omega)
  refine Eq.trans e1 ?_
  show F_X12_areAlike_6b N _ (B + 125) (nI a) (nI b) (nI k) (b2 (an (fun t => decide (kR y a t = kR y b t)) n)) (nI n) (HP B I J) = _
  unfold F_X12_areAlike_6b
  simp only [M_gi0, h0, Option.bind_some, if_pos (nI_le (Nat.le_refl n) (show n < 2 ^ 31 by omega)), e_let, n_164]
  exact inner _

theorem m_alike_ok {N : Nat} (hN : 200 < N) (h : Mo I J x) (w : WF x) (ha : a < zN x) (hb : b < zN x) (hk : k < zK x) : F_X12_alike N (B + 125) (nI a) (nI b) (nI k) (HP B I J) = some (b2 (aAl (zS x k) a b), HP B I J) := by
  have h4 : k < 4 := Nat.lt_of_lt_of_le hk w.2.2.2.1
  have h5 : a < 4 := Nat.lt_of_lt_of_le ha w.1.2
  have h6 : b < 4 := Nat.lt_of_lt_of_le hb w.1.2
  have hW := WF_k w h4
  have hR : ∀ s, s < 4 → ∀ t, t < 4 → kR (zS x k) s t ≤ 40 := fun s hs t ht => Nat.le_trans (hW.2.1 s hs t ht).1 (hW.1 t ht).1
  have e : (an (fun t => decide (kR (zS x k) a t = kR (zS x k) b t)) (zN x) && an (fun p => decide (plc (kS (zS x k) (4 + a)) p = plc (kS (zS x k) (4 + b)) p)) 164) = aAl (zS x k) a b := by
    unfold aAl
    have q1 : an (fun t => decide (kR (zS x k) a t = kR (zS x k) b t)) (zN x) = al (fun t => decide (kR (zS x k) a t = kR (zS x k) b t)) 4 0 := by
      apply Bool.eq_iff_iff.mpr
      rw [an_iff, al_iff]
      constructor
      · intro q t _ ht
        rcases Nat.lt_or_ge t (zN x) with g | g
        · exact q t g
        · have := (hW.1 t (by omega)).2 g
          have r1 := (hW.2.1 a h5 t (by omega)).1
          have r2 := (hW.2.1 b h6 t (by omega)).1
          exact decide_eq_true (by omega)
      · exact fun q t ht => q t (Nat.zero_le _) (by have := w.1.2; omega)
    have q2 : an (fun p => decide (plc (kS (zS x k) (4 + a)) p = plc (kS (zS x k) (4 + b)) p)) 164 = al (fun j => decide (kS (zS x k) (4 + a) j = kS (zS x k) (4 + b) j)) 160 0 := by
      apply Bool.eq_iff_iff.mpr
      rw [an_iff, al_iff]
      constructor
      · intro q j _ hj
        have := q (plp j) (plp_lt (by omega))
        rwa [plc_p, plc_p] at this
      · intro q p hp
        by_cases h0 : p % 41 = 0
        · rw [plc_0 _ h0, plc_0 _ h0]; rfl
        · rw [plc_1 _ h0, plc_1 _ h0]
          exact q _ (Nat.zero_le _) (by have := plj_lt hp; omega)
    rw [q1, q2]
  unfold F_X12_alike
  simp only [M_is, Option.bind_some, X_site_ok h w ha, X_site_ok h w hb, X_key_ok h w hk, e_bind_some, if_neg (show ¬ (1 : Int32) = 0 by decide), y_alike hN h4 h5 h6 (Mo_k h h4) hR h.1.1 w.1.2, X_bit, e]
end RCALL2
