/-! BOTH, call by call -/
def rLB (I : Nat → Nat → Int32) (J : Nat → Nat → Int64) (x : eST) : Prop := Cl I J x ∧ Mo I J x ∧ WF x
def Both {α : Type} (B : Nat) (f g : eH → Option (α × eH)) (I : Nat → Nat → Int32) (J : Nat → Nat → Int64) (x : eST) : Prop := ∃ r I2 J2 I3 J3 x2, f (HP B I J) = some (r, HP B I2 J2) ∧ g (HP B I2 J2) = some (r, HP B I3 J3) ∧ rLB I3 J3 x2 ∧ zT x2 ≤ zT x + 1
section BOTH
variable {B N : Nat} {I I2 : Nat → Nat → Int32} {J J2 : Nat → Nat → Int64} {x x2 : eST} {a b c k s t i j n m : Nat} {u v z q p : Int32} {val : Int64}
theorem Mo_frC (h : Mo I J x) (hf : frC I J I2 J2) : Mo I2 J2 x := Mo_fr h (fun z _ => (hf 125 (by decide) z).1) (fun c h1 _ z => (hf c (by omega) z).1) (fun z => (hf 127 (by decide) z).2)
theorem Cl_frR (h : Cl I J x) (hf : frR I J I2 J2) : Cl I2 J2 x := Cl_fr h (fun c hc z => (hf c hc z).1) (fun c hc z => (hf c hc z).2)
theorem both_p {α : Type} {f g : eH → Option (α × eH)} {r : α} (h : rLB I J x) (hf : f (HP B I J) = some (r, HP B I J)) (hg : g (HP B I J) = some (r, HP B I J)) : Both B f g I J x := ⟨r, I, J, I, J, x, hf, hg, h, by omega⟩
theorem both_u {α : Type} {f g : eH → Option (α × eH)} {r : α} (h : rLB I J x) (hf : ∃ I2 J2, f (HP B I J) = some (r, HP B I2 J2) ∧ Cl I2 J2 x2 ∧ frC I J I2 J2) (hg : ∀ I J, Mo I J x → ∃ I2 J2, g (HP B I J) = some (r, HP B I2 J2) ∧ Mo I2 J2 x2 ∧ frR I J I2 J2) (hw : WF x2) (hT : zT x2 ≤ zT x + 1) : Both B f g I J x := by
  obtain ⟨I2, J2, f1, f2, f3⟩ := hf
  obtain ⟨I3, J3, g1, g2, g3⟩ := hg I2 J2 (Mo_frC h.2.1 f3)
  exact ⟨r, I2, J2, I3, J3, x2, f1, g1, ⟨Cl_frR f2 g3, g2, hw⟩, hT⟩
theorem B_type (h : rLB I J x) : Both B (F_X11_type B v) (F_X12_type (B + 125) v) I J x := by
  obtain ⟨h1, h2, w⟩ := h
  rcases nix_c v (show 256 < 2 ^ 31 by decide) with e | ⟨j, hj, rfl⟩
  · exact both_p ⟨h1, h2, w⟩ (c_type_no e) (m_type_no e)
  · by_cases hE : 100 ≤ zE x
    · exact both_p ⟨h1, h2, w⟩ (c_type_full h1 w hj hE) (m_type_full h2 w hj hE)
    · refine both_u (x2 := oTy x j) (r := nI (zE x + 1)) ⟨h1, h2, w⟩ ?_ (fun I J h2 => ?_) (WF_oTy w hj (by omega)) (by show zT x ≤ _; omega)
      · obtain ⟨I2, e⟩ := c_type_ok (B := B) h1 w hj (show zE x < 100 by omega)
        exact ⟨I2, J, e⟩
      · obtain ⟨I2, e⟩ := m_type_ok (B := B) h2 w hj (show zE x < 100 by omega)
        exact ⟨I2, J, e⟩
theorem B_clear (h : rLB I J x) : Both B (F_X11_clear B) (F_X12_clear (B + 125)) I J x := by
  obtain ⟨h1, h2, w⟩ := h
  refine both_u (x2 := vE x 0) (r := nI (zE x)) ⟨h1, h2, w⟩ ?_ (fun I J h2 => ?_) (WF_vE0 w) (by show zT x ≤ _; omega)
  · obtain ⟨I2, e⟩ := c_clear (B := B) h1
    exact ⟨I2, J, e⟩
  · obtain ⟨I2, e⟩ := m_clear (B := B) h2
    exact ⟨I2, J, e⟩
theorem B_count (h : rLB I J x) : Both B (F_X11_count B v) (F_X12_count (B + 125) v) I J x := both_p h (c_count h.1) (m_count h.2.1)
theorem B_reads (hN : 2000 < N) (h : rLB I J x) : Both B (F_X11_reads N B u v z) (F_X12_reads N (B + 125) u v z) I J x := by
  obtain ⟨h1, h2, w⟩ := h
  have w1 := w.1.2
  have w2 := w.2.2.2.1
  by_cases hv : nix u 4 ∨ nix v (zN x) ∨ nix z (zK x)
  · exact both_p ⟨h1, h2, w⟩ (c_reads_no h1 w hv) (m_reads_no h2 w hv)
  · have hu := (nix_c u (show 4 < 2 ^ 31 by decide)).resolve_left (fun e => hv (Or.inl e))
    have hv2 := (nix_c v (show zN x < 2 ^ 31 by omega)).resolve_left (fun e => hv (Or.inr (Or.inl e)))
    have hz := (nix_c z (show zK x < 2 ^ 31 by omega)).resolve_left (fun e => hv (Or.inr (Or.inr e)))
    obtain ⟨c, hc, rfl⟩ := hu
    obtain ⟨s, hs, rfl⟩ := hv2
    obtain ⟨k, hk, rfl⟩ := hz
    refine both_u (x2 := oRd x c s k) ⟨h1, h2, w⟩ (c_reads_ok (by omega) h1 w hc hs hk) (fun I J h2 => ?_) (WF_oRd w hs hk) (by show zT x ≤ _; omega)
    obtain ⟨I2, e⟩ := m_reads_ok (B := B) (N := N) (by omega) h2 w hc hs hk
    exact ⟨I2, J, e⟩
theorem c_writes_no (h : Cl I J x) (w : WF x) (hv : nix u 4 ∨ nix v (zN x) ∨ nix z (zK x)) : F_X11_writes N B u v z q val (HP B I J) = some (-1, HP B I J) := by
  have h1 := w.1.2
  have h2 := w.2.2.2.1
  unfold F_X11_writes
  rcases nix_c u (show 4 < 2 ^ 31 by decide) with e | ⟨c, hc, rfl⟩
  · by_cases e2 : nix v (zN x) ∨ nix z (zK x)
    · simp only [V_is, Option.bind_some, clientAt_no e, e_bind_some, replicaAt_no h w e2, Option.elim_none]
    · obtain ⟨s, hs, rfl⟩ := (nix_c v (show zN x < 2 ^ 31 by omega)).resolve_left (fun e => e2 (Or.inl e))
      obtain ⟨k, hk, rfl⟩ := (nix_c z (show zK x < 2 ^ 31 by omega)).resolve_left (fun e => e2 (Or.inr e))
      simp only [V_is, Option.bind_some, clientAt_no e, e_bind_some, replicaAt_ok h w hs hk, Option.elim_none]
  · have e2 := hv.resolve_left (nix_not hc (by decide))
    simp only [V_is, Option.bind_some, clientAt_ok hc, e_bind_some, replicaAt_no h w e2, Option.elim_none, Option.elim_some]
theorem B_writes (hN : 2000 < N) (h : rLB I J x) (hT : zT x < 1000) : Both B (F_X11_writes N B u v z q val) (F_X12_writes N (B + 125) u v z q val) I J x := by
  obtain ⟨h1, h2, w⟩ := h
  have w1 := w.1.2
  have w2 := w.2.2.2.1
  by_cases hv : nix u 4 ∨ nix v (zN x) ∨ nix z (zK x)
  · exact both_p ⟨h1, h2, w⟩ (c_writes_no h1 w hv) (m_writes_no h2 w hv)
  · obtain ⟨c, hc, rfl⟩ := (nix_c u (show 4 < 2 ^ 31 by decide)).resolve_left (fun e => hv (Or.inl e))
    obtain ⟨s, hs, rfl⟩ := (nix_c v (show zN x < 2 ^ 31 by omega)).resolve_left (fun e => hv (Or.inr (Or.inl e)))
    obtain ⟨k, hk, rfl⟩ := (nix_c z (show zK x < 2 ^ 31 by omega)).resolve_left (fun e => hv (Or.inr (Or.inr e)))
    rcases nix_c q (show 2 < 2 ^ 31 by decide) with e | ⟨j, hj, rfl⟩
    · exact both_p ⟨h1, h2, w⟩ (c_writes_kd h1 w hc hs hk e) (m_writes_kd h2 w hc hs hk e)
    · by_cases hneg : j = 1 → (0 : Int32) ≤ lg_cmp val 0
      · have h4 : k < 4 := Nat.lt_of_lt_of_le hk w2
        by_cases hn : 40 ≤ kR (zS x k) s s
        · exact both_p ⟨h1, h2, w⟩ ((c_writes_in h1 w hc hs hk hj hneg).trans (c_writes_full h1 w hs hk hn)) ((m_writes_in h2 w hc hs hk hj hneg).trans (m_writes_full h2 w hs hk hn))
        · by_cases hkd : j = kkd (zS x k)
          · subst hkd
            refine both_u (x2 := nWr x c s k val) (r := nI (kR (zS x k) s s + 1)) ⟨h1, h2, w⟩ ?_ (fun I J h2 => ?_) (WF_nWr w hT hc hs hk (by omega)) ?_
            · obtain ⟨I2, J2, e1, e2, e3⟩ := c_writes_53 (B := B) (N := N) (by omega) h1 w hc hs hk (by omega) val
              exact ⟨I2, J2, (c_writes_in h1 w hc hs hk hj hneg).trans e1, e2, e3⟩
            · obtain ⟨I2, J2, e1, e2, e3⟩ := m_writes_49 (B := B) (N := N) (by omega) h2 w hc hs hk (by omega) val
              exact ⟨I2, J2, (m_writes_in h2 w hc hs hk hj hneg).trans e1, e2, e3⟩
            · unfold nWr
              by_cases e : zCK x c = k + 1
              · rw [if_pos e]; exact Nat.le_refl _
              · rw [if_neg e]; exact Nat.le_refl _
          · exact both_p ⟨h1, h2, w⟩ ((c_writes_in h1 w hc hs hk hj hneg).trans (c_writes_unlike h1 w hs hk (by omega) hj hkd)) ((m_writes_in h2 w hc hs hk hj hneg).trans (m_writes_unlike h2 w hs hk (by omega) hj hkd))
      · have hj1 : j = 1 := by
          by_cases e : j = 1
          · exact e
          · exact absurd (fun q => absurd q e) hneg
        subst hj1
        have hn : ¬ (0 : Int32) ≤ lg_cmp val 0 := fun q => hneg (fun _ => q)
        exact both_p ⟨h1, h2, w⟩ (c_writes_neg h1 w hc hs hk hn) (m_writes_neg h2 w hc hs hk hn)
theorem B_blinds (h : rLB I J x) : Both B (F_X11_blinds B v) (F_X12_blinds (B + 125) v) I J x := by
  obtain ⟨h1, h2, w⟩ := h
  rcases nix_c v (show 4 < 2 ^ 31 by decide) with e | ⟨c, hc, rfl⟩
  · exact both_p ⟨h1, h2, w⟩ (c_blinds_no e) (m_blinds_no e)
  · by_cases e : zCK x c = 0
    · obtain ⟨I2, e1, e2, e3⟩ := m_blinds (B := B) h2 w hc
      rw [if_pos e] at e1
      refine ⟨0, I, J, I2, J, oBl x c, c_blinds_0 h1 w hc e, e1, ⟨?_, e2, WF_oBl w⟩, by show zT x ≤ _; omega⟩
      have hcl := Cl_frR h1 e3
      obtain ⟨a1, a2, a3, a4, a5⟩ := hcl
      refine ⟨a1, a2, a3, fun d hd => ?_, a5⟩
      show I2 (cC d) 0 = (if (if d = c then 0 else zCK x d) = 0 then -1 else nI ((if d = c then 0 else zCK x d) - 1)) ∧ ((if d = c then 0 else zCK x d) ≠ 0 → rwN (I2 (cC d) 1) (if d = c then (fun _ => 0) else zCN x d) ∧ rwN (I2 (cC d) 2) (if d = c then (fun _ => 0) else zCT x d))
      by_cases g : d = c
      · subst g
        simp only [if_true]
        refine ⟨?_, fun r => absurd rfl r⟩
        rw [(a4 d hd).1, if_pos e]
      · simp only [if_neg g]
        exact a4 d hd
    · refine both_u (x2 := oBl x c) (r := 1) ⟨h1, h2, w⟩ ?_ (fun I J h2 => ?_) (WF_oBl w) (by show zT x ≤ _; omega)
      · obtain ⟨I2, e1⟩ := c_blinds_1 (B := B) h1 w hc e
        exact ⟨I2, J, e1⟩
      · obtain ⟨I2, e1, e2⟩ := m_blinds (B := B) h2 w hc
        rw [if_neg e] at e1
        exact ⟨I2, J, e1, e2⟩
theorem B_sends (hN : 2000 < N) (h : rLB I J x) : Both B (F_X11_sends N B u v z) (F_X12_sends N (B + 125) u v z) I J x := by
  obtain ⟨h1, h2, w⟩ := h
  have w1 := w.1.2
  have w2 := w.2.2.2.1
  by_cases hv : nix u (zN x) ∨ nix v (zN x) ∨ nix z (zK x)
  · exact both_p ⟨h1, h2, w⟩ (c_sends_no h1 w hv) (m_sends_no h2 w hv)
  · obtain ⟨a, ha, rfl⟩ := (nix_c u (show zN x < 2 ^ 31 by omega)).resolve_left (fun e => hv (Or.inl e))
    obtain ⟨b, hb1, rfl⟩ := (nix_c v (show zN x < 2 ^ 31 by omega)).resolve_left (fun e => hv (Or.inr (Or.inl e)))
    obtain ⟨k, hk, rfl⟩ := (nix_c z (show zK x < 2 ^ 31 by omega)).resolve_left (fun e => hv (Or.inr (Or.inr e)))
    by_cases hab : a = b
    · subst hab
      exact both_p ⟨h1, h2, w⟩ (c_sends_eq h1 w ha hk) (m_sends_eq h2 w ha)
    · refine both_u (x2 := oK x k (oSe (zS x k) b a (zB x))) ⟨h1, h2, w⟩ (c_sends_ok (by omega) h1 w ha hb1 hab hk) (fun I J h2 => ?_) (WF_oSe w ha hb1 hk) (by show zT x ≤ _; omega)
      obtain ⟨I2, e⟩ := m_sends_ok (B := B) (N := N) (by omega) h2 w ha hb1 hab hk
      exact ⟨I2, J, e⟩
theorem B_merges (hN : 2000 < N) (h : rLB I J x) (hT : zT x < 1000) : Both B (F_X11_merges N B u v) (F_X12_merges N (B + 125) u v) I J x := by
  obtain ⟨h1, h2, w⟩ := h
  have w1 := w.1.2
  have w2 := w.2.2.2.1
  by_cases hv : nix u (zN x) ∨ nix v (zK x)
  · exact both_p ⟨h1, h2, w⟩ (c_merges_no h1 w hv) (m_merges_no h2 w hv)
  · obtain ⟨s, hs, rfl⟩ := (nix_c u (show zN x < 2 ^ 31 by omega)).resolve_left (fun e => hv (Or.inl e))
    obtain ⟨k, hk, rfl⟩ := (nix_c v (show zK x < 2 ^ 31 by omega)).resolve_left (fun e => hv (Or.inr e))
    cases hf : fd x k with
    | none => exact both_p ⟨h1, h2, w⟩ (c_merges_rule (by omega) h1 w hs hk hf) (m_merges_rule (by omega) h2 w hs hk hf)
    | some i =>
      by_cases h2c : ct (kS (zS x k) (4 + s)) 160 < 2
      · exact both_p ⟨h1, h2, w⟩ (c_merges_few (by omega) h1 w hs hk hf h2c) (m_merges_few (by omega) h2 w hs hk hf h2c)
      · by_cases hn : 40 ≤ kR (zS x k) s s
        · exact both_p ⟨h1, h2, w⟩ (c_merges_full (by omega) h1 w hs hk hf (by omega) hn) (m_merges_full (by omega) h2 w hs hk hf (by omega) hn)
        · cases ho : (aMg x s k i).2
          · exact both_u (x2 := nMg x s k i) ⟨h1, h2, w⟩ (c_merges_ok (by omega) h1 w hs hk hf (by omega) (by omega) ho) (fun I J h2 => m_merges_ok (by omega) h2 w hs hk hf (by omega) (by omega) ho) (WF_nMg w hT hs hk (by omega)) (Nat.le_refl _)
          · refine both_u (x2 := x) ⟨h1, h2, w⟩ (c_merges_over (by omega) h1 w hs hk hf (by omega) (by omega) ho) (fun I J h2 => ?_) w (by omega)
            obtain ⟨I2, e⟩ := m_merges_over (B := B) (N := N) (by omega) h2 w hs hk hf (by omega) (by omega) ho
            exact ⟨I2, J, e⟩
theorem B_rules (hN : 2000 < N) (h : rLB I J x) : Both B (F_X11_rules N B u v) (F_X12_rules N (B + 125) u v) I J x := by
  obtain ⟨h1, h2, w⟩ := h
  have w2 := w.2.2.2.1
  rcases nix_c u (show zK x < 2 ^ 31 by omega) with e | ⟨k, hk, rfl⟩
  · exact both_p ⟨h1, h2, w⟩ (c_rules_no1 h1 w e) (m_rules_no1 h2 w e)
  · rcases nix_c v (show 5 < 2 ^ 31 by decide) with e | ⟨r, hr, rfl⟩
    · exact both_p ⟨h1, h2, w⟩ (c_rules_no2 h1 w hk e) (m_rules_no2 h2 w hk e)
    · refine both_u (x2 := nRu x k r) (r := aRu x k) ⟨h1, h2, w⟩ ?_ (fun I J h2 => ?_) (WF_nRu w (by omega) hr) ?_
      · obtain ⟨I2, e⟩ := c_rules_ok (B := B) (N := N) (by omega) h1 w hk hr
        exact ⟨I2, J, e⟩
      · obtain ⟨I2, e⟩ := m_rules_ok (B := B) (N := N) (by omega) h2 w hk hr
        exact ⟨I2, J, e⟩
      · unfold nRu
        cases fd x k with
        | some i => show zT x ≤ _; omega
        | none =>
          by_cases q : zM x < 2
          · simp only [if_pos q]; show zT x ≤ _; omega
          · simp only [if_neg q]; show zT x ≤ _; omega
theorem B_row (h : rLB I J x) : Both B (F_X11_row B u v z) (F_X12_row (B + 125) u v z) I J x := by
  obtain ⟨h1, h2, w⟩ := h
  have w1 := w.1.2
  have w2 := w.2.2.2.1
  by_cases hv : nix u (zN x) ∨ nix v (zK x)
  · exact both_p ⟨h1, h2, w⟩ (c_row_no1 h1 w hv) (m_row_no h2 w (hv.imp id Or.inl))
  · obtain ⟨s, hs, rfl⟩ := (nix_c u (show zN x < 2 ^ 31 by omega)).resolve_left (fun e => hv (Or.inl e))
    obtain ⟨k, hk, rfl⟩ := (nix_c v (show zK x < 2 ^ 31 by omega)).resolve_left (fun e => hv (Or.inr e))
    rcases nix_c z (show zN x < 2 ^ 31 by omega) with e | ⟨t, ht, rfl⟩
    · exact both_p ⟨h1, h2, w⟩ (c_row_no2 h1 w hs hk e) (m_row_no h2 w (Or.inr (Or.inr e)))
    · exact both_p ⟨h1, h2, w⟩ (c_row_ok h1 w hs hk ht) (m_row_ok h2 w hs hk ht)
theorem B_sibling (hN : 2000 < N) (h : rLB I J x) : Both B (F_X11_sibling N B u v z q) (F_X12_sibling N (B + 125) u v z q) I J x := by
  obtain ⟨h1, h2, w⟩ := h
  have w1 := w.1.2
  have w2 := w.2.2.2.1
  by_cases hv : nix u (zN x) ∨ nix v (zK x)
  · exact both_p ⟨h1, h2, w⟩ (c_sibling_no1 h1 w hv) (m_sibling_no1 h2 w hv)
  · obtain ⟨s, hs, rfl⟩ := (nix_c u (show zN x < 2 ^ 31 by omega)).resolve_left (fun e => hv (Or.inl e))
    obtain ⟨k, hk, rfl⟩ := (nix_c v (show zK x < 2 ^ 31 by omega)).resolve_left (fun e => hv (Or.inr e))
    by_cases hz : z < 0
    · exact both_p ⟨h1, h2, w⟩ (c_sibling_no2 h1 w hs hk hz) (m_sibling_no2 h2 w hs hk hz)
    · rcases nix_c q (show 4 < 2 ^ 31 by decide) with e | ⟨j, hj, rfl⟩
      · exact both_p ⟨h1, h2, w⟩ (c_sibling_no3 h1 w hs hk hz e) (m_sibling_no3 h2 w hs hk hz e)
      · obtain ⟨i, hi, rfl⟩ := nI_of hz
        exact both_p ⟨h1, h2, w⟩ (c_sibling_ok (by omega) h1 w hs hk hi hj) (m_sibling_ok (by omega) h2 w hs hk hi hj)
theorem eq_m1 (h1 : (-1 : Int32) ≤ v) (h2 : v < 0) : v = -1 := by
  have a := Int32.le_iff_toInt_le.mp h1
  have b := Int32.lt_iff_toInt_lt.mp h2
  refine Int32.toInt_inj.mp ?_
  rw [show (-1 : Int32).toInt = -1 by decide] at a ⊢
  rw [show (0 : Int32).toInt = 0 by decide] at b
  omega
theorem B_context (h : rLB I J x) : Both B (F_X11_context B u v) (F_X12_context (B + 125) u v) I J x := by
  obtain ⟨h1, h2, w⟩ := h
  rcases nix_c u (show 4 < 2 ^ 31 by decide) with e | ⟨c, hc, rfl⟩
  · exact both_p ⟨h1, h2, w⟩ (c_context_no1 e) (m_context_no1 e)
  · by_cases hv : (-1 : Int32) ≤ v
    · by_cases h0 : v < 0
      · rw [eq_m1 hv h0]
        exact both_p ⟨h1, h2, w⟩ (c_context_m1 h1 w hc) (m_context_m1 h2 w hc)
      · obtain ⟨j, hj, rfl⟩ := nI_of h0
        rcases Nat.lt_or_ge j 4 with e | e
        · exact both_p ⟨h1, h2, w⟩ (c_context_lo h1 w hc e) (m_context_lo h2 w hc e)
        · exact both_p ⟨h1, h2, w⟩ (c_context_hi h1 w hc e hj) (m_context_hi h2 w hc e hj)
    · exact both_p ⟨h1, h2, w⟩ (c_context_no2 hc hv) (m_context_no2 hc hv)
theorem z_c (z : Int32) {M : Nat} (hM : M < 2 ^ 31) : (z < 1 ∨ nI M < z) ∨ ∃ n, 1 ≤ n ∧ n ≤ M ∧ z = nI n := by
  by_cases h1 : z < 1
  · exact Or.inl (Or.inl h1)
  · by_cases h2 : nI M < z
    · exact Or.inl (Or.inr h2)
    · have h0 : ¬ z < 0 := fun q => h1 (Int32.lt_trans q (by decide))
      obtain ⟨n, hn, rfl⟩ := nI_of h0
      refine Or.inr ⟨n, ?_, ?_, rfl⟩
      · rcases Nat.lt_or_ge n 1 with q | q
        · exact absurd (nI_lt (b := 1) q (by decide)) h1
        · exact q
      · rcases Nat.lt_or_ge M n with q | q
        · exact absurd (nI_lt q hn) h2
        · exact q
theorem B_write (hN : 2000 < N) (h : rLB I J x) : Both B (F_X11_write N B u v z q) (F_X12_write (B + 125) u v z q) I J x := by
  obtain ⟨h1, h2, w⟩ := h
  have w1 := w.1.2
  have w2 := w.2.2.2.1
  by_cases hv : nix u (zK x) ∨ nix v (zN x)
  · exact both_p ⟨h1, h2, w⟩ (c_write_no1 h1 w hv) (m_write_no (X_wr_no1 h2 w hv))
  · obtain ⟨k, hk, rfl⟩ := (nix_c u (show zK x < 2 ^ 31 by omega)).resolve_left (fun e => hv (Or.inl e))
    obtain ⟨t, ht, rfl⟩ := (nix_c v (show zN x < 2 ^ 31 by omega)).resolve_left (fun e => hv (Or.inr e))
    have hM := WF_M w (show k < 4 by omega) (show t < 4 by omega)
    rcases z_c z (show kM (zS x k) t < 2 ^ 31 by omega) with e | ⟨n, n1, n2, rfl⟩
    · exact both_p ⟨h1, h2, w⟩ (c_write_no2 h1 w hk ht e) (m_write_no (X_wr_no2 h2 w hk ht e))
    · rcases nix_c q (show 8 < 2 ^ 31 by decide) with e | ⟨j, hj, rfl⟩
      · exact both_p ⟨h1, h2, w⟩ (c_write_no3 h1 w hk ht n1 n2 e) (m_write_no3 h2 w hk ht n1 n2 e)
      · exact both_p ⟨h1, h2, w⟩ (c_write_ok (by omega) h1 w hk ht n1 n2 hj) (m_write_ok h2 w hk ht n1 n2 hj)
theorem c_ahead_key (h : Cl I J x) (w : WF x) (hv : nix u (zK x)) {v2 z2 way : Int32} : F_X11_ahead B u v z v2 z2 way (HP B I J) = some (-1, HP B I J) := by
  unfold F_X11_ahead
  simp only [V_is, Option.bind_some, keyAt_no h w hv, e_bind_some, dotAt_no1 h w (Or.inl hv), Option.elim_none]
theorem c_ahead_d1 (h : Cl I J x) (w : WF x) (hk : k < zK x) {v2 z2 way d2 : Int32} (e1 : F_X11_dotAt B (nI k) v z (HP B I J) = some (-1, HP B I J)) (e2 : F_X11_dotAt B (nI k) v2 z2 (HP B I J) = some (d2, HP B I J)) : F_X11_ahead B (nI k) v z v2 z2 way (HP B I J) = some (-1, HP B I J) := by
  unfold F_X11_ahead
  simp only [V_is, Option.bind_some, keyAt_ok h w hk, e_bind_some, e1, e2, Option.elim_some, if_true]
theorem c_ahead_d2 (h : Cl I J x) (w : WF x) (hk : k < zK x) {v2 z2 way d1 : Int32} (e1 : F_X11_dotAt B (nI k) v z (HP B I J) = some (d1, HP B I J)) (e2 : F_X11_dotAt B (nI k) v2 z2 (HP B I J) = some (-1, HP B I J)) : F_X11_ahead B (nI k) v z v2 z2 way (HP B I J) = some (-1, HP B I J) := by
  unfold F_X11_ahead
  simp only [V_is, Option.bind_some, keyAt_ok h w hk, e_bind_some, e1, e2, Option.elim_some, if_true]
  split <;> rfl
/-- a dot: there, or not, for both -/
theorem dot_c (h1 : Cl I J x) (h2 : Mo I J x) (w : WF x) (hk : k < zK x) (v z : Int32) : (F_X11_dotAt B (nI k) v z (HP B I J) = some (-1, HP B I J) ∧ F_X12_isWrite (B + 125) (nI k) v z (HP B I J) = some (0, HP B I J)) ∨ ∃ t n, t < zN x ∧ 1 ≤ n ∧ n ≤ kM (zS x k) t ∧ v = nI t ∧ z = nI n := by
  have w1 := w.1.2
  have w2 := w.2.2.2.1
  rcases nix_c v (show zN x < 2 ^ 31 by omega) with e | ⟨t, ht, rfl⟩
  · exact Or.inl ⟨dotAt_no1 h1 w (Or.inr e), X_wr_no1 h2 w (Or.inr e)⟩
  · have hM := WF_M w (show k < 4 by omega) (show t < 4 by omega)
    rcases z_c z (show kM (zS x k) t < 2 ^ 31 by omega) with e | ⟨n, n1, n2, rfl⟩
    · exact Or.inl ⟨dotAt_no2 h1 w hk ht e, X_wr_no2 h2 w hk ht e⟩
    · exact Or.inr ⟨t, n, ht, n1, n2, rfl, rfl⟩
theorem B_ahead (h : rLB I J x) {way : Int32} : Both B (F_X11_ahead B u v z p q way) (F_X12_ahead (B + 125) u v z p q way) I J x := by
  obtain ⟨h1, h2, w⟩ := h
  have w1 := w.1.2
  have w2 := w.2.2.2.1
  rcases nix_c u (show zK x < 2 ^ 31 by omega) with e | ⟨k, hk, rfl⟩
  · exact both_p ⟨h1, h2, w⟩ (c_ahead_key h1 w e) (m_ahead_no1 (X_wr_no1 h2 w (Or.inl e)))
  · have h4 : k < 4 := by omega
    rcases dot_c (B := B) h1 h2 w hk v z with ⟨e1, e2⟩ | ⟨a, m, ha, m1, m2, rfl, rfl⟩
    · rcases dot_c (B := B) h1 h2 w hk p q with ⟨e3, e4⟩ | ⟨b, n, hb1, n1, n2, rfl, rfl⟩
      · exact both_p ⟨h1, h2, w⟩ (c_ahead_d1 h1 w hk e1 e3) (m_ahead_no1 e2)
      · exact both_p ⟨h1, h2, w⟩ (c_ahead_d1 h1 w hk e1 (dotAt_ok h1 w hk hb1 n1 n2)) (m_ahead_no1 e2)
    · rcases dot_c (B := B) h1 h2 w hk p q with ⟨e3, e4⟩ | ⟨b, n, hb1, n1, n2, rfl, rfl⟩
      · exact both_p ⟨h1, h2, w⟩ (c_ahead_d2 h1 w hk (dotAt_ok h1 w hk ha m1 m2) e3) (m_ahead_no2 (X_wr_ok h2 w hk ha m1 m2) e4)
      · rcases nix_c way (show 2 < 2 ^ 31 by decide) with e | ⟨j, hj, rfl⟩
        · obtain ⟨d3, _⟩ := dot_in w h4 (show a < 4 by omega) m1 m2
          obtain ⟨d1, _⟩ := dot_in w h4 (show b < 4 by omega) n1 n2
          refine both_p ⟨h1, h2, w⟩ ?_ (m_ahead_no3 (X_wr_ok h2 w hk ha m1 m2) (X_wr_ok h2 w hk hb1 n1 n2) e)
          rw [s_ahead V_is (keyAt_ok h1 w hk) (dotAt_ok h1 w hk ha m1 m2) (dotAt_ok h1 w hk hb1 n1 n2) (nI_m1 (Nat.lt_trans d3 (by decide))) (nI_m1 (Nat.lt_trans d1 (by decide)))]
          by_cases g : way < 0
          · rw [if_pos g]
          · rw [if_neg g, if_neg (nix_le e (by decide) (by decide) g)]
        · exact both_p ⟨h1, h2, w⟩ (c_ahead_ok h1 w hk ha hb1 m1 m2 n1 n2 hj) (m_ahead_ok h2 w hk ha hb1 m1 m2 n1 n2 hj)
theorem B_alike (hN : 2000 < N) (h : rLB I J x) : Both B (F_X11_alike N B u v z) (F_X12_alike N (B + 125) u v z) I J x := by
  obtain ⟨h1, h2, w⟩ := h
  have w1 := w.1.2
  have w2 := w.2.2.2.1
  by_cases hv : nix u (zN x) ∨ nix v (zN x) ∨ nix z (zK x)
  · exact both_p ⟨h1, h2, w⟩ (c_alike_no h1 w hv) (m_alike_no h2 w hv)
  · obtain ⟨a, ha, rfl⟩ := (nix_c u (show zN x < 2 ^ 31 by omega)).resolve_left (fun e => hv (Or.inl e))
    obtain ⟨b, hb1, rfl⟩ := (nix_c v (show zN x < 2 ^ 31 by omega)).resolve_left (fun e => hv (Or.inr (Or.inl e)))
    obtain ⟨k, hk, rfl⟩ := (nix_c z (show zK x < 2 ^ 31 by omega)).resolve_left (fun e => hv (Or.inr (Or.inr e)))
    exact both_p ⟨h1, h2, w⟩ (c_alike_ok (by omega) h1 w ha hb1 hk) (m_alike_ok (by omega) h2 w ha hb1 hk)
theorem B_behind (hN : 2000 < N) (h : rLB I J x) : Both B (F_X11_behind N B u v) (F_X12_behind N (B + 125) u v) I J x := by
  obtain ⟨h1, h2, w⟩ := h
  have w1 := w.1.2
  have w2 := w.2.2.2.1
  by_cases hv : nix u (zN x) ∨ nix v (zK x)
  · exact both_p ⟨h1, h2, w⟩ (c_behind_no h1 w hv) (m_behind_no h2 w hv)
  · obtain ⟨s, hs, rfl⟩ := (nix_c u (show zN x < 2 ^ 31 by omega)).resolve_left (fun e => hv (Or.inl e))
    obtain ⟨k, hk, rfl⟩ := (nix_c v (show zK x < 2 ^ 31 by omega)).resolve_left (fun e => hv (Or.inr e))
    exact both_p ⟨h1, h2, w⟩ (c_behind_ok (by omega) h1 w hs hk) (m_behind_ok (by omega) h2 w hs hk)
theorem B_rule (h : rLB I J x) : Both B (F_X11_rule B u v) (F_X12_rule (B + 125) u v) I J x := by
  obtain ⟨h1, h2, w⟩ := h
  by_cases hu : u < 0
  · exact both_p ⟨h1, h2, w⟩ (c_rule_no1 hu) (m_rule_no1 hu)
  · rcases nix_c v (show 2 < 2 ^ 31 by decide) with e | ⟨j, hj, rfl⟩
    · exact both_p ⟨h1, h2, w⟩ (c_rule_no2 hu e) (m_rule_no2 hu e)
    · obtain ⟨i, hi, rfl⟩ := nI_of hu
      exact both_p ⟨h1, h2, w⟩ (c_rule_ok h1 w hi hj) (m_rule_ok h2 w hi hj)
theorem B_tally (hN : 2000 < N) (h : rLB I J x) : Both B (F_X11_tally N B u v) (F_X12_tally N (B + 125) u v) I J x := by
  obtain ⟨h1, h2, w⟩ := h
  have w2 := w.2.2.2.1
  rcases nix_c u (show zK x < 2 ^ 31 by omega) with e | ⟨k, hk, rfl⟩
  · exact both_p ⟨h1, h2, w⟩ (c_tally_no1 h1 w e) (m_tally_no1 h2 w e)
  · rcases nix_c v (show 7 < 2 ^ 31 by decide) with e | ⟨j, hj, rfl⟩
    · exact both_p ⟨h1, h2, w⟩ (c_tally_no2 h1 w hk e) (m_tally_no2 h2 w hk e)
    · exact both_p ⟨h1, h2, w⟩ (c_tally_ok (by omega) h1 w hk hj) (m_tally_ok (by omega) h2 w hk hj)
end BOTH
