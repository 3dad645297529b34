/-! REPLICAS: one step of a key after another, each from what it holds to what it holds -/
def frK (k : Nat) (I : Nat → Nat → Int32) (J : Nat → Nat → Int64) (I2 : Nat → Nat → Int32) (J2 : Nat → Nat → Int64) : Prop := ∀ c, c < 13 + 27 * k ∨ 40 + 27 * k ≤ c → ∀ z, I2 c z = I c z ∧ J2 c z = J c z
theorem frK_r {k : Nat} {I : Nat → Nat → Int32} {J : Nat → Nat → Int64} : frK k I J I J := fun _ _ _ => ⟨rfl, rfl⟩
theorem frK_t {k : Nat} {I I2 I3 : Nat → Nat → Int32} {J J2 J3 : Nat → Nat → Int64} (h : frK k I J I2 J2) (h2 : frK k I2 J2 I3 J3) : frK k I J I3 J3 := fun c hc z => ⟨((h2 c hc z).1).trans (h c hc z).1, ((h2 c hc z).2).trans (h c hc z).2⟩
def KP (B k : Nat) (I : Nat → Nat → Int32) (J : Nat → Nat → Int64) (x : eKS) (o : Option (Unit × eH)) : Prop := ∃ I2 J2, o = some ((), HP B I2 J2) ∧ ClK k I2 J2 x ∧ frK k I J I2 J2
/-- a set of a key laid anew -/
def oS (x : eKS) (f : Nat) (p : Nat → Bool) : eKS := uS x (fun a => if a = f then p else kS x a)
theorem frK_wJ {k : Nat} {I : Nat → Nat → Int32} {J J2 : Nat → Nat → Int64} {d : Nat} (hk : 13 + 27 * k ≤ d) (hk2 : d < 40 + 27 * k) (h : ∀ c, c ≠ d → ∀ z, J2 c z = J c z) : frK k I J I J2 := fun c hc z => ⟨rfl, h c (by omega) z⟩
section REPS
variable {B : Nat} {I : Nat → Nat → Int32} {J J2 : Nat → Nat → Int64} {d e t n i j k s f g u : Nat} {x : eKS} {m : Nat → Nat} {p : Nat → Bool}
theorem ClK_oS (hk : k < 4) (hf : f < 8) (h : ClK k I J x) (hd : dSet J2 (dF k f) p) (hJ : ∀ c, c ≠ dF k f + 1 → ∀ z, J2 c z = J c z) : ClK k I J2 (oS x f p) ∧ frK k I J I J2 := by
  constructor
  · refine ClK_S hk h (fun z => hJ _ (dF_V k hk f hf k hk) z) (fun a ha => ?_)
    by_cases e : a = f
    · subst e; simp only [if_true]; exact hd
    · simp only [if_neg e]
      exact dSet_fr (h.2.2.2.2.2.1 a ha) (fun t => hJ _ (dF_ne hk ha hf e) t)
  · have := dF_hi k hk f hf
    exact frK_wJ this.1 this.2 hJ
theorem ClK_d (h : ClK k I J x) (hf : f < 8) : dSet J (dF k f) (kS x f) := h.2.2.2.2.2.1 f hf
theorem wN_o {α : Type} (J : Nat → Nat → α) (d i : Nat) (F : Nat → α) : ∀ c, c ≠ d → ∀ z, wN J d i F c z = J c z := fun _ h z => wN_c J i F z h
theorem w2_o {α : Type} (J : Nat → Nat → α) (d i : Nat) (v : α) : ∀ c, c ≠ d → ∀ z, w2 J d i v c z = J c z := fun _ h _ => w2_c J v h
theorem t_empty {N : Nat} (hN : 200 < N) (hk : k < 4) (hf : f < 8) (h : ClK k I J x) : KP B k I J (oS x f (fun _ => false)) (F_X1_empty N (B + dF k f) (HP B I J)) :=
  ⟨I, _, s_empty (by omega) (isD_F k hk f hf), ClK_oS hk hf h dSet_empty (wN_o _ _ _ _)⟩
theorem t_addAll {N : Nat} (hN : 200 < N) (hk : k < 4) (hf : f < 8) (hg : g < 8) (hfg : f ≠ g) (h : ClK k I J x) : KP B k I J (oS x f (fun j => kS x f j || kS x g j)) (F_X1_addAll N (B + dF k f) (B + dF k g) (HP B I J)) :=
  ⟨I, _, s_addAll (by omega) (isD_F k hk f hf) (isD_F k hk g hg) (dF_ne hk hg hf (Ne.symm hfg)), ClK_oS hk hf h (dSet_addAll (ClK_d h hf) (ClK_d h hg)) (wN_o _ _ _ _)⟩
theorem t_addCovered {N : Nat} (hN : 200 < N) (hk : k < 4) (hf : f < 8) (hg : g < 8) (hfg : f ≠ g) (h : ClK k I J x) {y : Int32} (hy : rwN y m) : KP B k I J (oS x f (fun j => kS x f j || (kS x g j && cov m j))) (F_X1_addCovered N (B + dF k f) (B + dF k g) y (HP B I J)) :=
  ⟨I, _, s_addCovered (by omega) (isD_F k hk f hf) (isD_F k hk g hg) (dF_ne hk hg hf (Ne.symm hfg)) (fun t ht => (hy t ht).1), ClK_oS hk hf h (dSet_addCovered (ClK_d h hf) (ClK_d h hg) (fun t ht => (hy t ht).2)) (wN_o _ _ _ _)⟩
theorem t_removeCovered {N : Nat} (hN : 200 < N) (hk : k < 4) (hf : f < 8) (h : ClK k I J x) {y : Int32} (hy : rwN y m) : KP B k I J (oS x f (fun j => kS x f j && !cov m j)) (F_X1_removeCovered N (B + dF k f) y (HP B I J)) :=
  ⟨I, _, s_removeCovered (by omega) (isD_F k hk f hf) (fun t ht => (hy t ht).1), ClK_oS hk hf h (dSet_removeCovered (ClK_d h hf) (fun t ht => (hy t ht).2)) (wN_o _ _ _ _)⟩
theorem t_join {N : Nat} (hN : 200 < N) (hk : k < 4) (hf : f < 8) (hg : g < 8) (hfg : f ≠ g) (h : ClK k I J x) {y y2 : Int32} {m2 : Nat → Nat} (hy : rwN y m) (hy2 : rwN y2 m2) : KP B k I J (oS x f (fun j => kS x f j && kS x g j || kS x f j && !cov m2 j || kS x g j && !cov m j)) (F_X1_join N (B + dF k f) y (B + dF k g) y2 (HP B I J)) :=
  ⟨I, _, s_join (by omega) (isD_F k hk f hf) (isD_F k hk g hg) (dF_ne hk hg hf (Ne.symm hfg)) (fun t ht => (hy t ht).1) (fun t ht => (hy2 t ht).1), ClK_oS hk hf h (dSet_join (ClK_d h hf) (ClK_d h hg) (fun t ht => (hy t ht).2) (fun t ht => (hy2 t ht).2)) (wN_o _ _ _ _)⟩
theorem t_add (hk : k < 4) (hf : f < 8) (h : ClK k I J x) (hj : j < 160) : KP B k I J (oS x f (fun y => kS x f y || decide (y = j))) (F_X1_add (B + dF k f) (nI j) (HP B I J)) :=
  ⟨I, _, s_addJ (isD_F k hk f hf) hj, ClK_oS hk hf h (dSet_add (ClK_d h hf) hj) (w2_o _ _ _ _)⟩
theorem cR_hi (k : Nat) {s : Nat} (hs : s < 4) : 13 + 27 * k ≤ cR k s ∧ cR k s < 40 + 27 * k := by unfold cR; omega
theorem cJ_hi (k : Nat) {s : Nat} (hs : s < 5) : 13 + 27 * k ≤ cJ k + s ∧ cJ k + s < 40 + 27 * k := by unfold cJ; omega
theorem cRJ (k : Nat) {s u : Nat} (hu : u < 5) : cR k s ≠ cJ k + u := by unfold cR cJ; omega
theorem cRJ0 (k : Nat) {s : Nat} : cR k s ≠ cJ k := by unfold cR cJ; omega
theorem cRR (k : Nat) {s u : Nat} (h : s ≠ u) : cR k s ≠ cR k u := by unfold cR; omega
theorem t_setF (hk : k < 4) (h : ClK k I J x) (v : Int32) : ∃ I2, h_p (HP B I J) 3 (B + cJ k) 10 (.int v) = some (HP B I2 J) ∧ ClK k I2 J (uF x v) ∧ frK k I J I2 J := by
  obtain ⟨h1, h2, h3, h4, h5, h6, h7⟩ := h
  refine ⟨_, m_pi (sh_J k hk) (by decide) (by decide), ⟨fun s hs => ?_, fun s hs => ?_, ?_, ?_, ?_, h6, fun j hj hc => ?_⟩, fun c hc z => ⟨w2_c _ _ ?_, rfl⟩⟩
  · rw [w2_c _ _ (cRJ0 k)]; exact h1 s hs
  · rw [w2_c _ _ (cRJ0 k)]; exact h2 s hs
  · rw [w2_k _ _ (by decide)]; exact h3
  · rw [w2_s]; rfl
  · rw [w2_k _ _ (by decide)]; exact h5
  · rw [w2_c _ _ (by omega), w2_c _ _ (by omega), w2_c _ _ (by omega)]; exact h7 j hj hc
  · have := cJ_hi k (s := 0) (by decide); omega
theorem t_setR (hk : k < 4) (hs : s < 4) (h : ClK k I J x) {y : Int32} (hy : rwN y m) : ∃ I2, h_p (HP B I J) 8 (B + cR k s) 3 (.int y) = some (HP B I2 J) ∧ ClK k I2 J (uR x (fun a => if a = s then m else kR x a)) ∧ frK k I J I2 J := by
  obtain ⟨h1, h2, h3, h4, h5, h6, h7⟩ := h
  have n0 := (cRJ0 k (s := s)).symm
  refine ⟨_, m_pi (sh_R k hk s hs) (by decide) (by decide), ⟨fun a ha => ?_, fun a ha => ?_, ?_, ?_, ?_, h6, fun j hj hc => ?_⟩, fun c hc z => ⟨w2_c _ _ ?_, rfl⟩⟩
  · rw [w2_k _ _ (by decide)]; exact h1 a ha
  · show rwN _ (if a = s then m else kR x a)
    by_cases e : a = s
    · subst e; rw [w2_s, if_pos rfl]; exact hy
    · rw [w2_c _ _ (cRR k e), if_neg e]; exact h2 a ha
  · rw [w2_c _ _ n0]; exact h3
  · rw [w2_c _ _ n0]; exact h4
  · rw [w2_c _ _ n0]; exact h5
  · rw [w2_c _ _ (cRJ k (u := 2) (by decide)).symm, w2_c _ _ (cRJ k (u := 3) (by decide)).symm, w2_c _ _ (cRJ k (u := 4) (by decide)).symm]; exact h7 j hj hc
  · have := cR_hi k hs; omega
/-- a new write laid down -/
def oW (x : eKS) (s n : Nat) (v : Int64) (st : Nat) (mt mk : Nat → Nat) : eKS :=
  uM (uSt (uV (uTo (uKn x (fun j => if j = 40 * s + (n - 1) then mk else kKn x j)) (fun j => if j = 40 * s + (n - 1) then mt else kTo x j)) (fun j => if j = 40 * s + (n - 1) then v else kV x j)) (fun j => if j = 40 * s + (n - 1) then st else kSt x j)) (fun t => if t = s then n else kM x t)
theorem t_note (hk : k < 4) (hs : s < 4) (h : ClK k I J x) (hn : kM x s + 1 = n) (hn2 : n ≤ 40) (v : Int64) {st : Nat} (hst : st < 2 ^ 31) {y z : Int32} {mt mk : Nat → Nat} (hy : rwN y mt) (hz : rwN z mk) : KP B k I J (oW x s n v st mt mk) (F_X3_note (B + cJ k) (dt s n) v (nI st) y z (HP B I J)) := by
  obtain ⟨h1, h2, h3, h4, h5, h6, h7⟩ := h
  have hn1 : 1 ≤ n := by omega
  have hj := dt_lt hs (show n < 41 by omega) hn1
  have hJ := sh_J1 k hk
  have hr := rf_J k hk
  have a0 : ∀ h, F_X1_isDot (dt s n) h = _ := s_isDot hs (show n < 41 by omega) hn1
  have a1 : ∀ h, F_X1_siteOf (dt s n) h = _ := s_siteOf hs (show n < 41 by omega) hn1
  have a2 : ∀ h, F_X1_numberOf (dt s n) h = _ := s_numberOf hs (show n < 41 by omega) hn1
  have g0 : ∀ I J, h_gr (HP B I J) 3 (B + cJ k) 0 = some (B + (cJ k + 1)) := fun I J => by rw [m_gr (sh_J k hk) (by decide) (by decide), hr.1]
  have g1 : ∀ I J, h_gr (HP B I J) 3 (B + cJ k) 1 = some (B + (cJ k + 2)) := fun I J => by rw [m_gr (sh_J k hk) (by decide) (by decide), hr.2.1]
  have g2 : ∀ I J, h_gr (HP B I J) 3 (B + cJ k) 2 = some (B + (cJ k + 3)) := fun I J => by rw [m_gr (sh_J k hk) (by decide) (by decide), hr.2.2.1]
  have g3 : ∀ I J, h_gr (HP B I J) 3 (B + cJ k) 3 = some (B + (cJ k + 4)) := fun I J => by rw [m_gr (sh_J k hk) (by decide) (by decide), hr.2.2.2.1]
  have w0 : ∀ I J, h_sl (HP B I J) (B + (cJ k + 1)) (dt s n) v = _ := fun I J => m_slN hJ.1 hj (by decide)
  have w1 : ∀ I J, h_si (HP B I J) 0 (B + (cJ k + 2)) (dt s n) (nI st) = _ := fun I J => m_siN hJ.2.1 hj (by decide)
  have w2' : ∀ I J, h_si (HP B I J) 0 (B + (cJ k + 3)) (dt s n) y = _ := fun I J => m_siN hJ.2.2.1 hj (by decide)
  have w3 : ∀ I J, h_si (HP B I J) 0 (B + (cJ k + 4)) (dt s n) z = _ := fun I J => m_siN hJ.2.2.2 hj (by decide)
  let I1 := w2 (w2 (w2 I (cJ k + 2) (40 * s + (n - 1)) (nI st)) (cJ k + 3) (40 * s + (n - 1)) y) (cJ k + 4) (40 * s + (n - 1)) z
  have e9 : ∀ q, I1 (cJ k) q = I (cJ k) q := fun q => (w2_c _ _ (by omega)).trans ((w2_c _ _ (by omega)).trans (w2_c _ _ (by omega)))
  have eR : ∀ a q, I1 (cR k a) q = I (cR k a) q := fun a q => (w2_c _ _ (cRJ k (by decide))).trans ((w2_c _ _ (cRJ k (by decide))).trans (w2_c _ _ (cRJ k (by decide))))
  have hs2 : ∀ I J, h_gi (HP B I J) 3 (B + cJ k) 9 = some (I (cJ k) 9) := fun I J => m_gi (sh_J k hk) (by decide) (by decide)
  have hp : ∀ I J q, h_p (HP B I J) 3 (B + cJ k) 9 (.int q) = _ := fun I J q => m_pi (sh_J k hk) (by decide) (by decide)
  refine ⟨w2 I1 (cJ k) 9 (rw_ (I (cJ k) 9) s (nI n)), w2 J (cJ k + 1) (40 * s + (n - 1)) v, ?_, ⟨fun a ha => ?_, fun a ha => ?_, ?_, ?_, ?_, fun f hf => ?_, fun j hj2 hc => ?_⟩, fun c hc q => ⟨?_, w2_c _ _ ?_⟩⟩
  · unfold F_X3_note
    simp only [a0, a1, a2, e_bind_some, if_neg (show ¬ ((1 : Int32) = 0) by decide), g0, g1, g2, g3, w0, w1, w2', w3, Option.bind_some, hs2, s_with, hp]
    rw [← e9 9]
  · rw [w2_c _ _ (cRJ0 k), eR]; exact h1 a ha
  · rw [w2_c _ _ (cRJ0 k), eR]; exact h2 a ha
  · rw [w2_s]; exact rwN_w h3 hs hn2
  · rw [w2_k _ _ (by decide), e9]; exact h4
  · rw [w2_k _ _ (by decide), e9]; exact h5
  · exact dSet_fr (h6 f hf) (fun t => w2_c _ _ (dF_V k hk f hf k hk).symm)
  · have c0 : ∀ q, q ≠ 0 → w2 I1 (cJ k) 9 (rw_ (I (cJ k) 9) s (nI n)) (cJ k + q) j = I1 (cJ k + q) j := fun q hq => w2_c _ _ (by omega)
    rw [c0 2 (by decide), c0 3 (by decide), c0 4 (by decide)]
    have d2 : I1 (cJ k + 2) j = w2 I (cJ k + 2) (40 * s + (n - 1)) (nI st) (cJ k + 2) j := (w2_c _ _ (by omega)).trans (w2_c _ _ (by omega))
    have d3 : I1 (cJ k + 3) j = w2 I (cJ k + 3) (40 * s + (n - 1)) y (cJ k + 3) j := (w2_c _ _ (by omega)).trans (by unfold w2; by_cases q : j = 40 * s + (n - 1) <;> simp [q])
    have d4 : I1 (cJ k + 4) j = w2 I (cJ k + 4) (40 * s + (n - 1)) z (cJ k + 4) j := by show w2 _ _ _ _ _ _ = _; unfold w2; by_cases q : j = 40 * s + (n - 1) <;> simp [q]
    rw [d2, d3, d4]
    show _ = nI (if j = 40 * s + (n - 1) then st else kSt x j) ∧ (if j = 40 * s + (n - 1) then st else kSt x j) < 2 ^ 31 ∧ _ = (if j = 40 * s + (n - 1) then v else kV x j) ∧ rwN _ (if j = 40 * s + (n - 1) then mt else kTo x j) ∧ rwN _ (if j = 40 * s + (n - 1) then mk else kKn x j)
    by_cases e : j = 40 * s + (n - 1)
    · subst e
      simp only [if_true, w2_s]
      exact ⟨trivial, hst, trivial, hy, hz⟩
    · simp only [if_neg e, w2_k _ _ e]
      have hc' : cov (kM x) j = true := by
        have hc2 : decide (j % 40 < (if j / 40 = s then n else kM x (j / 40))) = true := hc
        unfold cov
        rw [decide_eq_true_eq] at hc2 ⊢
        by_cases q : j / 40 = s
        · rw [if_pos q] at hc2
          rw [q]
          omega
        · rw [if_neg q] at hc2; exact hc2
      exact h7 j hj2 hc'
  · have b0 := cJ_hi k (s := 0) (by decide)
    have b2 := cJ_hi k (s := 2) (by decide)
    have b3 := cJ_hi k (s := 3) (by decide)
    have b4 := cJ_hi k (s := 4) (by decide)
    exact (w2_c _ _ (by omega)).trans ((w2_c _ _ (by omega)).trans ((w2_c _ _ (by omega)).trans (w2_c _ _ (by omega))))
  · have b1 := cJ_hi k (s := 1) (by decide)
    omega
end REPS
