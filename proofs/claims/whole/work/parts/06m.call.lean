/-! CALLS of the class, the plain ones -/
theorem Cl_mk {I I2 : Nat → Nat → Int32} {J J2 : Nat → Nat → Int64} {x x2 : eST} (h : Cl I J x) (hS : zS x2 = zS x) (hI : ∀ c, 13 ≤ c → c < 121 → ∀ z, I2 c z = I c z) (hJ : ∀ c, 13 ≤ c → c < 121 → ∀ z, J2 c z = J c z) (a : ClA I2 x2) (b : ClT I2 x2) (c : ClR I2 x2) (d : ClC I2 x2) : Cl I2 J2 x2 := by
  refine ⟨a, b, c, d, fun k hk => ?_⟩
  rw [hS]
  exact ClK_fr hk (h.2.2.2.2 k hk) (fun c h1 h2 z => hI c (by omega) (by omega) z) (fun c h1 h2 z => hJ c (by omega) (by omega) z)
theorem ClC_fr {I I2 : Nat → Nat → Int32} {x x2 : eST} (h : ClC I x) (hI : ∀ c, c < 4 → ∀ z, I2 (cC c) z = I (cC c) z) (h1 : zCK x2 = zCK x) (h2 : zCN x2 = zCN x) (h3 : zCT x2 = zCT x) : ClC I2 x2 := by
  intro c hc
  rw [hI c hc, hI c hc, hI c hc, h1, h2, h3]
  exact h c hc
theorem Cl_fr {I I2 : Nat → Nat → Int32} {J J2 : Nat → Nat → Int64} {x : eST} (h : Cl I J x) (hI : ∀ c, c < 125 → ∀ z, I2 c z = I c z) (hJ : ∀ c, c < 125 → ∀ z, J2 c z = J c z) : Cl I2 J2 x := by
  obtain ⟨⟨a1, a2, a3, a4, a5⟩, ⟨b1, b2⟩, ⟨c1, c2⟩, d, e⟩ := h
  refine Cl_mk ⟨⟨a1, a2, a3, a4, a5⟩, ⟨b1, b2⟩, ⟨c1, c2⟩, d, e⟩ rfl (fun c _ h2 z => hI c (by omega) z) (fun c _ h2 z => hJ c (by omega) z) ⟨?_, ?_, ?_, ?_, ?_⟩ ⟨?_, fun i hi => ?_⟩ ⟨?_, fun i hi => ?_⟩ (ClC_fr d (fun c hc z => hI _ (by unfold cC; omega) z) rfl rfl rfl)
  · rw [hI 0 (by decide)]; exact a1
  · rw [hI 0 (by decide)]; exact a2
  · rw [hI 0 (by decide)]; exact a3
  · rw [hI 0 (by decide)]; exact a4
  · rw [hI 0 (by decide)]; exact a5
  · rw [hI 1 (by decide)]; exact b1
  · rw [hI 2 (by decide)]; exact b2 i hi
  · rw [hI 7 (by decide)]; exact c1
  · rw [hI 8 (by decide), hI 9 (by decide)]; exact c2 i hi
section CALL1
variable {B : Nat} {I : Nat → Nat → Int32} {J J2 : Nat → Nat → Int64} {i j k s f t n : Nat} {x : eST} {v w : Int32}
theorem T_is : h_is (HP B I J) 9 (B + 1) = some () := m_is (c := 1) (n := 5) (by decide)
theorem T_gi (hk : 1 ≤ k ∧ k < 5) : h_gi (HP B I J) 9 (B + 1) k = some (I 1 k) := m_gi (c := 1) (n := 5) (by decide) hk.2 ((by decide : ∀ k, k < 5 → 1 ≤ k → m_fk 9 k = 0) k hk.2 hk.1)
theorem T_gr : h_gr (HP B I J) 9 (B + 1) 0 = some (B + 2) := m_gr (c := 1) (n := 5) (by decide) (by decide) (by decide)
theorem T_len : h_len (HP B I J) (B + 2) = some 100 := m_len2 (c := 2) (t := 0) (by decide) (by decide)
theorem T_p (hk : 1 ≤ k ∧ k < 5) : h_p (HP B I J) 9 (B + 1) k (.int v) = some (HP B (w2 I 1 k v) J) := m_pi (c := 1) (n := 5) (by decide) hk.2 ((by decide : ∀ k, k < 5 → 1 ≤ k → m_fk 9 k = 0) k hk.2 hk.1)
theorem T_si (hi : i < 100) : h_si (HP B I J) 0 (B + 2) (nI i) v = some (HP B (w2 I 2 i v) J) := m_siN (c := 2) (n := 100) (by decide) hi (by decide)
theorem T_ai (hi : i < 100) : h_ai (HP B I J) 0 (B + 2) (nI i) = some (I 2 i) := m_aiN (c := 2) (n := 100) (by decide) hi (by decide)
theorem c_type_no (hv : nix v 256) : F_X11_type B v (HP B I J) = some (-1, HP B I J) := by
  unfold F_X11_type
  by_cases e : v < 0
  · rw [if_pos e]
  · rw [if_neg e, if_neg]
    intro hc
    have h2 : (256 : Int32) ≤ v := hv.resolve_left e
    exact absurd (Int32.le_trans h2 hc) (by decide)
theorem s_isFull (h : Cl I J x) (w : WF x) : F_X10_isFull (B + 1) (HP B I J) = some (b2 (decide (100 ≤ zE x)), HP B I J) := by
  have hE := w.2.2.2.2.2.1.1
  unfold F_X10_isFull
  simp only [T_gi (show 1 ≤ 1 ∧ 1 < 5 by decide), T_gr, T_len, h.2.1.1, Option.bind_some, h_z0, h_z1]
  have hh : (nI (zE x) < (100 : Int32)) ↔ zE x < 100 := nI_ltI (show zE x < 2 ^ 31 by omega) (show 100 < 2 ^ 31 by decide)
  by_cases e : 100 ≤ zE x
  · rw [if_neg (fun hc => absurd (hh.mp hc) (by omega)), decide_eq_true e]; rfl
  · rw [if_pos (hh.mpr (by omega)), decide_eq_false e]; rfl
theorem nI_255 (hj : j < 256) : nI j ≤ 255 := nI_le (show j ≤ 255 by omega) (by decide)
theorem c_type_full (h : Cl I J x) (w : WF x) (hj : j < 256) (hE : 100 ≤ zE x) : F_X11_type B (nI j) (HP B I J) = some (-3, HP B I J) := by
  unfold F_X11_type
  simp only [if_neg (nI_pos (show j < 2 ^ 31 by omega)), if_pos (nI_255 hj), V_gr0, T_is, Option.bind_some, s_isFull h w, e_bind_some, decide_eq_true hE, b2, if_true, if_neg (show ¬ ((1 : Int32) = 0) by decide)]
def oTy (x : eST) (j : Nat) : eST := vX (vE x (zE x + 1)) (fun i => if i = zE x then j else zX x i)
theorem c_type_ok (h : Cl I J x) (w : WF x) (hj : j < 256) (hE : zE x < 100) : ∃ I2, F_X11_type B (nI j) (HP B I J) = some (nI (zE x + 1), HP B I2 J) ∧ Cl I2 J (oTy x j) ∧ frC I J I2 J := by
  have e0 := h.2.1.1
  refine ⟨w2 (w2 I 2 (zE x) (nI j)) 1 1 (nI (zE x + 1)), ?_, ?_, fun c hc z => ⟨(w2_c _ _ (by omega)).trans (w2_c _ _ (by omega)), rfl⟩⟩
  · unfold F_X11_type F_X10_append
    have g1 : ∀ (I : Nat → Nat → Int32) J, h_gi (HP B I J) 9 (B + 1) 1 = some (I 1 1) := fun I J => T_gi (by decide)
    have hl : ¬ (100 : Int32) ≤ nI (zE x) := nI_ge (show zE x < 100 from hE) (by decide)
    have gp : ∀ (I : Nat → Nat → Int32) J q, h_p (HP B I J) 9 (B + 1) 1 (.int q) = some (HP B (w2 I 1 1 q) J) := fun I J q => T_p (by decide)
    have g2 : w2 I 2 (zE x) (nI j) 1 1 = nI (zE x) := (w2_c _ _ (by decide)).trans e0
    have g3 : w2 (w2 I 2 (zE x) (nI j)) 1 1 (nI (zE x + 1)) 1 1 = nI (zE x + 1) := w2_s _ _ _ _
    simp only [if_neg (nI_pos (show j < 2 ^ 31 by omega)), if_pos (nI_255 hj), V_gr0, T_is, Option.bind_some, s_isFull h w, e_bind_some, decide_eq_false (show ¬ 100 ≤ zE x by omega), b2, if_true, g1, T_gr, T_len, e0, if_neg hl, T_si hE, g2, nI_1, gp, g3, Bool.false_eq_true, if_false]
  · obtain ⟨⟨a1, a2, a3, a4, a5⟩, ⟨b1, b2⟩, ⟨c1, c2⟩, d, e⟩ := h
    have fo : ∀ c, c ≠ 1 → c ≠ 2 → ∀ z, w2 (w2 I 2 (zE x) (nI j)) 1 1 (nI (zE x + 1)) c z = I c z := fun c h1 h2 z => (w2_c _ _ h1).trans (w2_c _ _ h2)
    refine Cl_mk ⟨⟨a1, a2, a3, a4, a5⟩, ⟨b1, b2⟩, ⟨c1, c2⟩, d, e⟩ rfl (fun c _ _ z => fo c (by omega) (by omega) z) (fun c _ _ z => rfl) ⟨?_, ?_, ?_, ?_, ?_⟩ ⟨?_, fun i hi => ?_⟩ ⟨?_, fun i hi => ?_⟩ (ClC_fr d (fun c hc z => fo _ (by unfold cC; omega) (by unfold cC; omega) z) rfl rfl rfl)
    · rw [fo 0 (by decide) (by decide)]; exact a1
    · rw [fo 0 (by decide) (by decide)]; exact a2
    · rw [fo 0 (by decide) (by decide)]; exact a3
    · rw [fo 0 (by decide) (by decide)]; exact a4
    · rw [fo 0 (by decide) (by decide)]; exact a5
    · exact w2_s _ _ _ _
    · refine (w2_c _ _ (by decide)).trans ?_
      show w2 I 2 (zE x) (nI j) 2 i = nI (if i = zE x then j else zX x i)
      by_cases q : i = zE x
      · rw [if_pos q, q]; exact w2_s _ _ _ _
      · rw [if_neg q]
        have hi' : i < zE x + 1 := hi
        exact (w2_k _ _ q).trans (b2 i (by omega))
    · rw [fo 7 (by decide) (by decide)]; exact c1
    · rw [fo 8 (by decide) (by decide), fo 9 (by decide) (by decide)]; exact c2 i hi
theorem c_clear (h : Cl I J x) : ∃ I2, F_X11_clear B (HP B I J) = some (nI (zE x), HP B I2 J) ∧ Cl I2 J (vE x 0) ∧ frC I J I2 J := by
  have e0 := h.2.1.1
  refine ⟨w2 I 1 1 0, ?_, ?_, fun c hc z => ⟨w2_c _ _ (by omega), rfl⟩⟩
  · unfold F_X11_clear F_X10_empty
    simp only [V_gr0, T_is, Option.bind_some, T_gi (show 1 ≤ 1 ∧ 1 < 5 by decide), T_p (show 1 ≤ 1 ∧ 1 < 5 by decide), e_bind_some, e0]
  · obtain ⟨⟨a1, a2, a3, a4, a5⟩, ⟨b1, b2⟩, ⟨c1, c2⟩, d, e⟩ := h
    have fo : ∀ c, c ≠ 1 → ∀ z, w2 I 1 1 0 c z = I c z := fun c h1 z => w2_c _ _ h1
    refine Cl_mk ⟨⟨a1, a2, a3, a4, a5⟩, ⟨b1, b2⟩, ⟨c1, c2⟩, d, e⟩ rfl (fun c _ _ z => fo c (by omega) z) (fun c _ _ z => rfl) ⟨?_, ?_, ?_, ?_, ?_⟩ ⟨w2_s _ _ _ _, fun i hi => absurd hi (Nat.not_lt_zero i)⟩ ⟨?_, fun i hi => ?_⟩ (ClC_fr d (fun c hc z => fo _ (by unfold cC; omega) z) rfl rfl rfl)
    · rw [fo 0 (by decide)]; exact a1
    · rw [fo 0 (by decide)]; exact a2
    · rw [fo 0 (by decide)]; exact a3
    · rw [fo 0 (by decide)]; exact a4
    · rw [fo 0 (by decide)]; exact a5
    · rw [fo 7 (by decide)]; exact c1
    · rw [fo 8 (by decide), fo 9 (by decide)]; exact c2 i hi
def aCo (x : eST) (v : Int32) : Int32 := if v = 0 then nI (zN x) else if v = 1 then nI (zK x) else if v = 2 then nI (zB x) else if v = 3 then nI (zL x) else if v = 4 then nI (zT x) else if v = 5 then nI (zE x) else -1
theorem c_count (h : Cl I J x) : F_X11_count B v (HP B I J) = some (aCo x v, HP B I J) := by
  obtain ⟨⟨a1, a2, a3, a4, a5⟩, ⟨b1, b2⟩, _⟩ := h
  unfold F_X11_count aCo
  simp only [V_gi (show 7 ≤ 7 ∧ 7 < 12 by decide), V_gi (show 7 ≤ 8 ∧ 8 < 12 by decide), V_gi (show 7 ≤ 9 ∧ 9 < 12 by decide), V_gi (show 7 ≤ 10 ∧ 10 < 12 by decide), V_gi (show 7 ≤ 11 ∧ 11 < 12 by decide), V_gr0, T_gi (show 1 ≤ 1 ∧ 1 < 5 by decide), Option.bind_some, a1, a2, a3, a4, a5, b1]
  by_cases e0 : v = 0
  · simp only [if_pos e0]
  · simp only [if_neg e0]
    by_cases e1 : v = 1
    · simp only [if_pos e1]
    · simp only [if_neg e1]
      by_cases e2 : v = 2
      · simp only [if_pos e2]
      · simp only [if_neg e2]
        by_cases e3 : v = 3
        · simp only [if_pos e3]
        · simp only [if_neg e3]
          by_cases e4 : v = 4
          · simp only [if_pos e4]
          · simp only [if_neg e4]
            by_cases e5 : v = 5
            · simp only [if_pos e5]
            · simp only [if_neg e5]
theorem t_row (h : Cl I J x) (hk : k < 4) (hs : s < 4) (ht : t < 4) : rn (I (cR k s) 3) t = nI (kR (zS x k) s t) := ((h.2.2.2.2 k hk).2.1 s hs t ht).1
theorem c_row_ok (h : Cl I J x) (w : WF x) (hs : s < zN x) (hk : k < zK x) (ht : t < zN x) : F_X11_row B (nI s) (nI k) (nI t) (HP B I J) = some (nI (kR (zS x k) s t), HP B I J) := by
  have h4 : zK x ≤ 4 := w.2.2.2.1
  have h5 : zN x ≤ 4 := w.1.2
  unfold F_X11_row
  simp only [V_is, Option.bind_some, replicaAt_ok h w hs hk, e_bind_some, Option.elim_some, isSite_ok h w ht, if_neg (show ¬ ((1 : Int32) = 0) by decide), R_gi3 (show k < 4 by omega) (show s < 4 by omega), s_number, t_row h (show k < 4 by omega) (show s < 4 by omega) (show t < 4 by omega)]
theorem c_row_no1 (h : Cl I J x) (w : WF x) {a b c : Int32} (hv : nix a (zN x) ∨ nix b (zK x)) : F_X11_row B a b c (HP B I J) = some (-1, HP B I J) := by
  unfold F_X11_row
  simp only [V_is, Option.bind_some, replicaAt_no h w hv, e_bind_some, Option.elim_none]
theorem c_row_no2 (h : Cl I J x) (w : WF x) (hs : s < zN x) (hk : k < zK x) {c : Int32} (hv : nix c (zN x)) : F_X11_row B (nI s) (nI k) c (HP B I J) = some (-1, HP B I J) := by
  unfold F_X11_row
  simp only [V_is, Option.bind_some, replicaAt_ok h w hs hk, e_bind_some, Option.elim_some, isSite_no h w hv, if_true]
end CALL1
