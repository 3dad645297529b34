/-! TELLS: the items; the class's plan -/
def gS : Type := Nat × Nat × Nat × Nat × (Nat → Nat)
def gN (g : gS) : Nat := g.1
def gB (g : gS) : Nat := g.2.1
def gL (g : gS) : Nat := g.2.2.1
def gK (g : gS) : Nat := g.2.2.2.1
def gD (g : gS) : Nat → Nat := g.2.2.2.2
def gN' (g : gS) (v : Nat) : gS := (v, gB g, gL g, gK g, gD g)
def gB' (g : gS) (v : Nat) : gS := (gN g, v, gL g, gK g, gD g)
def gL' (g : gS) (v : Nat) : gS := (gN g, gB g, v, gK g, gD g)
def gK' (g : gS) (v : Nat) : gS := (gN g, gB g, gL g, gK g + 1, fun i => if i = gK g then v else gD g i)
def g1 (v : Nat) : Nat := if v = 0 then 0 else 1
def gC (g : gS) : Nat := g1 (gN g) + g1 (gB g) + g1 (gL g) + gK g
def gOK (g : gS) : Prop := (gN g ≤ 4 ∧ (gN g ≠ 0 → 2 ≤ gN g)) ∧ gB g ≤ 6 ∧ gL g ≤ 4 ∧ gK g ≤ 4 ∧ ∀ i, i < gK g → gD g i ≤ 1
def g0 : gS := (0, 0, 0, 0, fun _ => 0)
theorem g1_le (v : Nat) : g1 v ≤ 1 := by unfold g1; split <;> omega
theorem gC_le {g : gS} (h : gOK g) : gC g ≤ 7 := by
  have h1 := g1_le (gN g)
  have h2 := g1_le (gB g)
  have h3 := g1_le (gL g)
  have h4 := h.2.2.2.1
  unfold gC
  omega
def xtk (X : Nat → Nat) (E lo hi s : Nat) : Nat := if xso X E s = 2 ∧ xnd X E s = s + 1 ∧ lo + 48 ≤ X s ∧ X s ≤ hi + 48 then X s - 48 else 0
def itK (X : Nat → Nat) (E : Nat) (g : gS) (s kd : Nat) : Bool × gS × Nat := if gK g < 4 then (decide (xso X E (xsk X E (xnd X E s)) = 3), gK' g kd, xsk X E (xnd X E s)) else (false, g, s)
def itN (X : Nat → Nat) (E lo hi : Nat) (g : gS) (set : Nat → gS) (s : Nat) : Bool × gS × Nat := if xtk X E lo hi (xsk X E (xnd X E s)) = 0 then (false, g, xsk X E (xnd X E s)) else (decide (xso X E (xsk X E (xnd X E (xsk X E (xnd X E s)))) = 3), set (xtk X E lo hi (xsk X E (xnd X E s))), xsk X E (xnd X E (xsk X E (xnd X E s))))
def itm (X : Nat → Nat) (E : Nat) (g : gS) (s : Nat) : Bool × gS × Nat :=
  if xW X E s 0 = true then itK X E g s 0 else if xW X E s 1 = true then itK X E g s 1
  else if xW X E s 2 = true ∧ gN g = 0 then itN X E 2 4 g (gN' g) s
  else if xW X E s 3 = true ∧ gB g = 0 then itN X E 1 6 g (gB' g) s
  else if xW X E s 4 = true ∧ gL g = 0 then itN X E 1 4 g (gL' g) s
  else (false, g, s)
def wtK (g : gS) (s kd : Nat) : Bool × gS × Nat := if gK g < 4 then (true, gK' g kd, s) else (false, g, s)
def wtN (X : Nat → Nat) (E lo hi : Nat) (g : gS) (set : Nat → gS) (s : Nat) : Bool × gS × Nat := if xtk X E lo hi (xsk X E (xnd X E s)) = 0 then (false, g, xsk X E (xnd X E s)) else (true, set (xtk X E lo hi (xsk X E (xnd X E s))), xsk X E (xnd X E s))
/-- the words of an item, its ; left -/
def wtm (X : Nat → Nat) (E : Nat) (g : gS) (s : Nat) : Bool × gS × Nat :=
  if xW X E s 0 = true then wtK g s 0 else if xW X E s 1 = true then wtK g s 1
  else if xW X E s 2 = true ∧ gN g = 0 then wtN X E 2 4 g (gN' g) s
  else if xW X E s 3 = true ∧ gB g = 0 then wtN X E 1 6 g (gB' g) s
  else if xW X E s 4 = true ∧ gL g = 0 then wtN X E 1 4 g (gL' g) s
  else (false, g, s)
def wts (X : Nat → Nat) (E : Nat) (r : Bool × gS × Nat) : Bool × gS × Nat := if r.1 = true then (decide (xso X E (xsk X E (xnd X E r.2.2)) = 3), r.2.1, xsk X E (xnd X E r.2.2)) else r
theorem wts_K {X : Nat → Nat} {E s kd : Nat} {g : gS} : itK X E g s kd = wts X E (wtK g s kd) := by
  unfold itK wtK
  by_cases q : gK g < 4
  · rw [if_pos q, if_pos q]; rfl
  · rw [if_neg q, if_neg q]; rfl
theorem wts_N {X : Nat → Nat} {E lo hi s : Nat} {g : gS} {set : Nat → gS} : itN X E lo hi g set s = wts X E (wtN X E lo hi g set s) := by
  unfold itN wtN
  by_cases q : xtk X E lo hi (xsk X E (xnd X E s)) = 0
  · rw [if_pos q, if_pos q]; rfl
  · rw [if_neg q, if_neg q]; rfl
theorem itm_w {X : Nat → Nat} {E s : Nat} {g : gS} : itm X E g s = wts X E (wtm X E g s) := by
  unfold itm wtm
  by_cases q0 : xW X E s 0 = true
  · rw [if_pos q0, if_pos q0]; exact wts_K
  · rw [if_neg q0, if_neg q0]
    by_cases q1 : xW X E s 1 = true
    · rw [if_pos q1, if_pos q1]; exact wts_K
    · rw [if_neg q1, if_neg q1]
      by_cases q2 : xW X E s 2 = true ∧ gN g = 0
      · rw [if_pos q2, if_pos q2]; exact wts_N
      · rw [if_neg q2, if_neg q2]
        by_cases q3 : xW X E s 3 = true ∧ gB g = 0
        · rw [if_pos q3, if_pos q3]; exact wts_N
        · rw [if_neg q3, if_neg q3]
          by_cases q4 : xW X E s 4 = true ∧ gL g = 0
          · rw [if_pos q4, if_pos q4]; exact wts_N
          · rw [if_neg q4, if_neg q4]; rfl
def xPL (I : Nat → Nat → Int32) (g : gS) : Prop := I 3 1 = nI (gN g) ∧ I 3 2 = nI (gB g) ∧ I 3 3 = nI (gL g) ∧ I 3 4 = nI (gK g) ∧ ∀ i, i < gK g → I 4 i = nI (gD g i)
def frP (I I2 : Nat → Nat → Int32) : Prop := ∀ c z, ¬ (c = 1 ∧ 2 ≤ z ∧ z ≤ 4) → ¬ (c = 3 ∧ z ≤ 4) → c ≠ 4 → I2 c z = I c z
theorem frP_r {I : Nat → Nat → Int32} : frP I I := fun _ _ _ _ _ => rfl
theorem frP_t {I I2 I3 : Nat → Nat → Int32} (h : frP I I2) (h2 : frP I2 I3) : frP I I3 := fun c z a b d => (h2 c z a b d).trans (h c z a b d)
theorem frP_S {I I2 : Nat → Nat → Int32} (h : frS I I2) : frP I I2 := fun c z a _ _ => h c z a
theorem frP_w {I : Nat → Nat → Int32} {z : Nat} {v : Int32} (h : z ≤ 4) : frP I (w2 I 3 z v) := fun c z2 _ q _ => by
  unfold w2
  rw [if_neg]
  rintro ⟨rfl, rfl⟩
  exact q ⟨rfl, h⟩
theorem frP_4 {I : Nat → Nat → Int32} {z : Nat} {v : Int32} : frP I (w2 I 4 z v) := fun c z2 _ _ q => w2_c _ _ q
theorem xTX_P {I I2 : Nat → Nat → Int32} {X : Nat → Nat} {E : Nat} (h : xTX I X E) (hf : frP I I2) : xTX I2 X E := ⟨(hf 1 1 (by omega) (by omega) (by omega)).trans h.1, fun i hi => (hf 2 i (by omega) (by omega) (by omega)).trans (h.2.1 i hi), h.2.2⟩
theorem xPL_S {I I2 : Nat → Nat → Int32} {g : gS} (h : xPL I g) (hf : frS I I2) : xPL I2 g := ⟨(hf 3 1 (by omega)).trans h.1, (hf 3 2 (by omega)).trans h.2.1, (hf 3 3 (by omega)).trans h.2.2.1, (hf 3 4 (by omega)).trans h.2.2.2.1, fun i hi => (hf 4 i (by omega)).trans (h.2.2.2.2 i hi)⟩
section TL2
variable {B N : Nat} {I I2 : Nat → Nat → Int32} {J : Nat → Nat → Int64} {X : Nat → Nat} {E p s q i j n lo hi : Nat} {g : gS} {v : Int32}
theorem P_gi1 : h_gi (HP B I J) 7 (B + 3) 1 = some (I 3 1) := m_gi (c := 3) (n := 6) (by decide) (by decide) (by decide)
theorem P_p1 : h_p (HP B I J) 7 (B + 3) 1 (.int v) = some (HP B (w2 I 3 1 v) J) := m_pi (c := 3) (n := 6) (by decide) (by decide) (by decide)
theorem P_gi2 : h_gi (HP B I J) 7 (B + 3) 2 = some (I 3 2) := m_gi (c := 3) (n := 6) (by decide) (by decide) (by decide)
theorem P_p2 : h_p (HP B I J) 7 (B + 3) 2 (.int v) = some (HP B (w2 I 3 2 v) J) := m_pi (c := 3) (n := 6) (by decide) (by decide) (by decide)
theorem P_gi3 : h_gi (HP B I J) 7 (B + 3) 3 = some (I 3 3) := m_gi (c := 3) (n := 6) (by decide) (by decide) (by decide)
theorem P_p3 : h_p (HP B I J) 7 (B + 3) 3 (.int v) = some (HP B (w2 I 3 3 v) J) := m_pi (c := 3) (n := 6) (by decide) (by decide) (by decide)
theorem P_gi4 : h_gi (HP B I J) 7 (B + 3) 4 = some (I 3 4) := m_gi (c := 3) (n := 6) (by decide) (by decide) (by decide)
theorem P_p4 : h_p (HP B I J) 7 (B + 3) 4 (.int v) = some (HP B (w2 I 3 4 v) J) := m_pi (c := 3) (n := 6) (by decide) (by decide) (by decide)
theorem P_gi5 : h_gi (HP B I J) 7 (B + 3) 5 = some (I 3 5) := m_gi (c := 3) (n := 6) (by decide) (by decide) (by decide)
theorem P_p5 : h_p (HP B I J) 7 (B + 3) 5 (.int v) = some (HP B (w2 I 3 5 v) J) := m_pi (c := 3) (n := 6) (by decide) (by decide) (by decide)
theorem P_is : h_is (HP B I J) 7 (B + 3) = some () := m_is (c := 3) (n := 6) (by decide)
theorem P_gr0 : h_gr (HP B I J) 7 (B + 3) 0 = some (B + 4) := m_gr (c := 3) (n := 6) (by decide) (by decide) (by decide)
theorem P_len : h_len (HP B I J) (B + 4) = some 4 := m_len2 (c := 4) (t := 0) (by decide) (by decide)
theorem P_si (hi : i < 4) : h_si (HP B I J) 0 (B + 4) (nI i) v = some (HP B (w2 I 4 i v) J) := m_siN (c := 4) (n := 4) (by decide) hi (by decide)
theorem P_ai (hi : i < 4) : h_ai (HP B I J) 0 (B + 4) (nI i) = some (I 4 i) := m_aiN (c := 4) (n := 4) (by decide) hi (by decide)
theorem xt_semi {l0 : Nat} (hN : 200 < N) (h : xTX I X E) (hp : p ≤ E) (h3 : I 1 3 = nI p) : ∃ I2, F_X7_takesSemicolon N l0 (B + 1) (HP B I J) = some (b2 (decide (xso X E (xsk X E p) = 3)), HP B I2 J) ∧ xAT I2 X E (xsk X E p) ∧ frS I I2 := by
  obtain ⟨I2, a1, a2, a3⟩ := xt_step (B := B) (J := J) hN h hp h3
  refine ⟨I2, ?_, a2, a3⟩
  unfold F_X7_takesSemicolon
  simp only [T_is, Option.bind_some, a1, e_bind_some, T_gi4, a2.2.2, h_z0, h_z1]
  have e : (nI (xso X E (xsk X E p)) = 3) ↔ xso X E (xsk X E p) = 3 := nI_eq (show xso X E (xsk X E p) < 2 ^ 31 by have := xso_le (X := X) (E := E) (p := xsk X E p); omega) (show 3 < 2 ^ 31 by decide)
  by_cases r : xso X E (xsk X E p) = 3
  · rw [if_pos (e.mpr r), decide_eq_true r]; rfl
  · rw [if_neg (fun w => r (e.mp w)), decide_eq_false r]; rfl
theorem xso_2 (h : xso X E s = 2) : 48 ≤ X s ∧ X s ≤ 57 ∧ s < E := by
  have hE := xso_lt (X := X) (E := E) (p := s) (by omega)
  unfold xso at h
  rw [if_pos hE] at h
  unfold xko at h
  split at h
  · omega
  · split at h
    · omega
    · split at h
      · omega
      · split at h <;> omega
theorem xt_digit (h : xTX I X E) (hs : s ≤ E) (ha : xAT I X E s) : F_X10_digit (B + 1) (HP B I J) = some (if xso X E s = 2 ∧ xnd X E s = s + 1 then nI (X s - 48) else -1, HP B I J) := by
  have hE := h.2.2.1
  have hle := xso_le (X := X) (E := E) (p := s)
  have hnd := xnd_le (X := X) hs
  obtain ⟨a2, a3, a4⟩ := ha
  unfold F_X10_digit
  simp only [T_gi4, T_gi3, T_gi2, T_is, Option.bind_some, a2, a3, a4]
  have e1 : (nI (xso X E s) = 2) ↔ xso X E s = 2 := nI_eq (show xso X E s < 2 ^ 31 by omega) (show 2 < 2 ^ 31 by decide)
  by_cases q1 : xso X E s = 2
  · rw [if_pos (e1.mpr q1)]
    have hsn : s ≤ xnd X E s := by
      obtain ⟨i, b1, _⟩ := xnd_e hs (Or.inr q1)
      omega
    rw [pk_sub hsn]
    have e2 : (nI (xnd X E s - s) = 1) ↔ xnd X E s - s = 1 := nI_eq (show xnd X E s - s < 2 ^ 31 by omega) (show 1 < 2 ^ 31 by decide)
    by_cases q2 : xnd X E s = s + 1
    · obtain ⟨b1, b2', b3⟩ := xso_2 q1
      rw [if_pos (e2.mpr (by omega)), xt_byteAt h (show s < 2 ^ 31 by omega), e_bind_some, if_pos b3, if_pos ⟨q1, q2⟩, show (48 : Int32) = nI 48 from rfl, pk_sub b1]
    · rw [if_neg (fun r => q2 (by have := e2.mp r; omega)), if_neg (fun r => q2 r.2)]
  · rw [if_neg (fun r => q1 (e1.mp r)), if_neg (fun r => q1 r.1)]
theorem xt_num {l0 : Nat} {lo' hi' : Int32} (hN : 200 < N) (h : xTX I X E) (hp : p ≤ E) (h3 : I 1 3 = nI p) (hlo : lo' = nI lo) (hhi : hi' = nI hi) (hm : (-1 : Int32) < nI lo) (h1 : hi ≤ 9) (h2 : lo ≤ 9) : ∃ I2, F_X7_takenNumber N l0 (B + 1) lo' hi' (HP B I J) = some (nI (xtk X E lo hi (xsk X E p)), HP B I2 J) ∧ xAT I2 X E (xsk X E p) ∧ frS I I2 := by
  obtain ⟨I2, a1, a2, a3⟩ := xt_step (B := B) (J := J) hN h hp h3
  refine ⟨I2, ?_, a2, a3⟩
  have hs := xsk_le (X := X) hp
  unfold F_X7_takenNumber
  simp only [T_is, Option.bind_some, a1, e_bind_some, xt_digit (B := B) (J := J) (xTX_fr h a3) hs a2, hlo, hhi]
  generalize xsk X E p = s at *
  unfold xtk
  by_cases q : xso X E s = 2 ∧ xnd X E s = s + 1
  · obtain ⟨b1, b2', b3⟩ := xso_2 q.1
    rw [if_pos q]
    have e1 := nI_ltI (show X s - 48 < 2 ^ 31 by omega) (show lo < 2 ^ 31 by omega)
    have e2 := nI_ltI (show hi < 2 ^ 31 by omega) (show X s - 48 < 2 ^ 31 by omega)
    by_cases r1 : X s - 48 < lo
    · rw [if_pos (e1.mpr r1), if_neg (fun w => by omega)]; rfl
    · rw [if_neg (fun w => r1 (e1.mp w))]
      by_cases r2 : hi < X s - 48
      · rw [if_pos (e2.mpr r2), if_neg (fun w => by omega)]; rfl
      · rw [if_neg (fun w => r2 (e2.mp w)), if_pos ⟨q.1, q.2, by omega, by omega⟩]
  · rw [if_neg q, if_pos hm, if_neg (fun w => q ⟨w.1, w.2.1⟩)]; rfl
def xRit (B : Nat) (I : Nat → Nat → Int32) (J : Nat → Nat → Int64) (X : Nat → Nat) (E : Nat) (r : Bool × gS × Nat) (o : Option (Int32 × eH)) : Prop := ∃ I2, o = some (b2 r.1, HP B I2 J) ∧ xPL I2 r.2.1 ∧ xAT I2 X E r.2.2 ∧ frP I I2
theorem xt_key {kd : Nat} {kd' : Int32} (ha : xAT I X E s) (hg : xPL I g) (hk : gK g ≤ 4) (hkd : kd' = nI kd) : xRit B I J X E (wtK g s kd) (F_X7_takesKey (B + 3) kd' (HP B I J)) := by
  unfold F_X7_takesKey wtK
  have e : (nI (gK g) < 4) ↔ gK g < 4 := nI_ltI (show gK g < 2 ^ 31 by omega) (show 4 < 2 ^ 31 by decide)
  simp only [P_gi4, P_gr0, P_len, Option.bind_some, hg.2.2.2.1]
  by_cases q : gK g < 4
  · rw [if_pos (e.mpr q), if_pos q]
    obtain ⟨I1, hI1⟩ : ∃ I1, I1 = w2 (w2 I 4 (gK g) kd') 3 4 (nI (gK g + 1)) := ⟨_, rfl⟩
    have f1 : frP I I1 := by rw [hI1]; exact frP_t frP_4 (frP_w (by decide))
    have l1 : xPL I1 (gK' g kd) := by
      rw [hI1]
      refine ⟨?_, ?_, ?_, w2_s _ _ _ _, fun i hi => ?_⟩
      · rw [w2_k _ _ (by decide), w2_c _ _ (by decide)]; exact hg.1
      · rw [w2_k _ _ (by decide), w2_c _ _ (by decide)]; exact hg.2.1
      · rw [w2_k _ _ (by decide), w2_c _ _ (by decide)]; exact hg.2.2.1
      · rw [w2_c _ _ (by decide)]
        show w2 I 4 (gK g) kd' 4 i = nI (if i = gK g then kd else gD g i)
        have hi2 : i < gK g + 1 := hi
        by_cases r : i = gK g
        · rw [r, w2_s, if_pos rfl, hkd]
        · rw [w2_k _ _ r, if_neg r]; exact hg.2.2.2.2 i (by omega)
    have t1 : ∀ z, I1 1 z = I 1 z := fun z => by rw [hI1, w2_c _ _ (by decide), w2_c _ _ (by decide)]
    refine ⟨I1, ?_, l1, ⟨(t1 _).trans ha.1, (t1 _).trans ha.2.1, (t1 _).trans ha.2.2⟩, f1⟩
    have e4 : w2 I 4 (gK g) kd' 3 4 = nI (gK g) := (w2_c _ _ (by decide)).trans hg.2.2.2.1
    simp only [P_si q, P_gi4, P_p4, Option.bind_some, e4, nI_1, ← hI1, h_z1]
    rfl
  · rw [if_neg (fun w => q (e.mp w)), if_neg q]
    exact ⟨I, rfl, hg, ha, frP_r⟩
theorem xt_itN (hN : 200 < N) (h : xTX I X E) (hs : s ≤ E) (ha : xAT I X E s) (hg : xPL I g) (h0 : gN g = 0) : xRit B I J X E (wtN X E 2 4 g (gN' g) s) (e_bind (F_X7_takenNumber N (B + 3) (B + 1) 2 4 (HP B I J)) fun v4 h5 => (h_p h5 7 (B + 3) 1 (.int v4)).bind fun h6 => (h_gi h6 7 (B + 3) 1).bind fun v7 => if v7 = 0 then ((h_z 0).bind fun z => some (z, h6)) else ((h_z 1).bind fun z => some (z, h6))) := by
  have hE := h.2.2.1
  have hnd := xnd_le (X := X) hs
  have hs1 := xsk_le (X := X) hnd
  obtain ⟨I1, a1, a2, a3⟩ := xt_num (B := B) (J := J) (l0 := B + 3) (lo := 2) (hi := 4) hN h hnd ha.2.1 rfl rfl (by decide) (by decide) (by decide)
  have l1 := xPL_S hg a3
  rw [show (2 : Int32) = nI 2 from rfl, show (4 : Int32) = nI 4 from rfl] at *
  simp only [a1, e_bind_some, P_p1, P_gi1, P_is, Option.bind_some, w2_s]
  obtain ⟨tk, htk⟩ : ∃ tk, tk = xtk X E 2 4 (xsk X E (xnd X E s)) := ⟨_, rfl⟩
  have htk2 : tk ≤ 255 := by
    rw [htk]; unfold xtk
    split
    · rename_i w
      have := xso_2 w.1
      omega
    · omega
  obtain ⟨I2, hI2⟩ : ∃ I2, I2 = w2 I1 3 1 (nI tk) := ⟨_, rfl⟩
  have f2 : frP I1 I2 := by rw [hI2]; exact frP_w (by decide)
  have t2 : ∀ z, I2 1 z = I1 1 z := fun z => by rw [hI2, w2_c _ _ (by decide)]
  have l5 : I2 3 4 = nI (gK g) ∧ ∀ i, i < gK g → I2 4 i = nI (gD g i) := ⟨by rw [hI2, w2_k _ _ (by decide)]; exact l1.2.2.2.1, fun i hi => by rw [hI2, w2_c _ _ (by decide)]; exact l1.2.2.2.2 i hi⟩
  have at2 : xAT I2 X E (xsk X E (xnd X E s)) := ⟨(t2 _).trans a2.1, (t2 _).trans a2.2.1, (t2 _).trans a2.2.2⟩
  unfold wtN
  rw [← htk, ← hI2]
  by_cases hz0 : tk = 0
  · rw [if_pos (show nI tk = 0 by rw [hz0]; rfl), if_pos hz0]
    exact ⟨I2, rfl, ⟨by rw [hI2, w2_s, hz0, h0], by rw [hI2, w2_k _ _ (by decide)]; exact l1.2.1, by rw [hI2, w2_k _ _ (by decide)]; exact l1.2.2.1, l5⟩, at2, frP_t (frP_S a3) f2⟩
  · rw [if_neg (nI_ne0 (by omega) (by omega)), if_neg hz0]
    exact ⟨I2, rfl, ⟨by rw [hI2, w2_s]; rfl, by rw [hI2, w2_k _ _ (by decide)]; exact l1.2.1, by rw [hI2, w2_k _ _ (by decide)]; exact l1.2.2.1, l5⟩, at2, frP_t (frP_S a3) f2⟩
theorem xt_itB (hN : 200 < N) (h : xTX I X E) (hs : s ≤ E) (ha : xAT I X E s) (hg : xPL I g) (h0 : gB g = 0) : xRit B I J X E (wtN X E 1 6 g (gB' g) s) (e_bind (F_X7_takenNumber N (B + 3) (B + 1) 1 6 (HP B I J)) fun v4 h5 => (h_p h5 7 (B + 3) 2 (.int v4)).bind fun h6 => (h_gi h6 7 (B + 3) 2).bind fun v7 => if v7 = 0 then ((h_z 0).bind fun z => some (z, h6)) else ((h_z 1).bind fun z => some (z, h6))) := by
  have hE := h.2.2.1
  have hnd := xnd_le (X := X) hs
  have hs1 := xsk_le (X := X) hnd
  obtain ⟨I1, a1, a2, a3⟩ := xt_num (B := B) (J := J) (l0 := B + 3) (lo := 1) (hi := 6) hN h hnd ha.2.1 rfl rfl (by decide) (by decide) (by decide)
  have l1 := xPL_S hg a3
  rw [show (1 : Int32) = nI 1 from rfl, show (6 : Int32) = nI 6 from rfl] at *
  simp only [a1, e_bind_some, P_p2, P_gi2, P_is, Option.bind_some, w2_s]
  obtain ⟨tk, htk⟩ : ∃ tk, tk = xtk X E 1 6 (xsk X E (xnd X E s)) := ⟨_, rfl⟩
  have htk2 : tk ≤ 255 := by
    rw [htk]; unfold xtk
    split
    · rename_i w
      have := xso_2 w.1
      omega
    · omega
  obtain ⟨I2, hI2⟩ : ∃ I2, I2 = w2 I1 3 2 (nI tk) := ⟨_, rfl⟩
  have f2 : frP I1 I2 := by rw [hI2]; exact frP_w (by decide)
  have t2 : ∀ z, I2 1 z = I1 1 z := fun z => by rw [hI2, w2_c _ _ (by decide)]
  have l5 : I2 3 4 = nI (gK g) ∧ ∀ i, i < gK g → I2 4 i = nI (gD g i) := ⟨by rw [hI2, w2_k _ _ (by decide)]; exact l1.2.2.2.1, fun i hi => by rw [hI2, w2_c _ _ (by decide)]; exact l1.2.2.2.2 i hi⟩
  have at2 : xAT I2 X E (xsk X E (xnd X E s)) := ⟨(t2 _).trans a2.1, (t2 _).trans a2.2.1, (t2 _).trans a2.2.2⟩
  unfold wtN
  rw [← htk, ← hI2]
  by_cases hz0 : tk = 0
  · rw [if_pos (show nI tk = 0 by rw [hz0]; rfl), if_pos hz0]
    exact ⟨I2, rfl, ⟨by rw [hI2, w2_k _ _ (by decide)]; exact l1.1, by rw [hI2, w2_s, hz0, h0], by rw [hI2, w2_k _ _ (by decide)]; exact l1.2.2.1, l5⟩, at2, frP_t (frP_S a3) f2⟩
  · rw [if_neg (nI_ne0 (by omega) (by omega)), if_neg hz0]
    exact ⟨I2, rfl, ⟨by rw [hI2, w2_k _ _ (by decide)]; exact l1.1, by rw [hI2, w2_s]; rfl, by rw [hI2, w2_k _ _ (by decide)]; exact l1.2.2.1, l5⟩, at2, frP_t (frP_S a3) f2⟩
theorem xt_itL (hN : 200 < N) (h : xTX I X E) (hs : s ≤ E) (ha : xAT I X E s) (hg : xPL I g) (h0 : gL g = 0) : xRit B I J X E (wtN X E 1 4 g (gL' g) s) (e_bind (F_X7_takenNumber N (B + 3) (B + 1) 1 4 (HP B I J)) fun v4 h5 => (h_p h5 7 (B + 3) 3 (.int v4)).bind fun h6 => (h_gi h6 7 (B + 3) 3).bind fun v7 => if v7 = 0 then ((h_z 0).bind fun z => some (z, h6)) else ((h_z 1).bind fun z => some (z, h6))) := by
  have hE := h.2.2.1
  have hnd := xnd_le (X := X) hs
  have hs1 := xsk_le (X := X) hnd
  obtain ⟨I1, a1, a2, a3⟩ := xt_num (B := B) (J := J) (l0 := B + 3) (lo := 1) (hi := 4) hN h hnd ha.2.1 rfl rfl (by decide) (by decide) (by decide)
  have l1 := xPL_S hg a3
  rw [show (1 : Int32) = nI 1 from rfl, show (4 : Int32) = nI 4 from rfl] at *
  simp only [a1, e_bind_some, P_p3, P_gi3, P_is, Option.bind_some, w2_s]
  obtain ⟨tk, htk⟩ : ∃ tk, tk = xtk X E 1 4 (xsk X E (xnd X E s)) := ⟨_, rfl⟩
  have htk2 : tk ≤ 255 := by
    rw [htk]; unfold xtk
    split
    · rename_i w
      have := xso_2 w.1
      omega
    · omega
  obtain ⟨I2, hI2⟩ : ∃ I2, I2 = w2 I1 3 3 (nI tk) := ⟨_, rfl⟩
  have f2 : frP I1 I2 := by rw [hI2]; exact frP_w (by decide)
  have t2 : ∀ z, I2 1 z = I1 1 z := fun z => by rw [hI2, w2_c _ _ (by decide)]
  have l5 : I2 3 4 = nI (gK g) ∧ ∀ i, i < gK g → I2 4 i = nI (gD g i) := ⟨by rw [hI2, w2_k _ _ (by decide)]; exact l1.2.2.2.1, fun i hi => by rw [hI2, w2_c _ _ (by decide)]; exact l1.2.2.2.2 i hi⟩
  have at2 : xAT I2 X E (xsk X E (xnd X E s)) := ⟨(t2 _).trans a2.1, (t2 _).trans a2.2.1, (t2 _).trans a2.2.2⟩
  unfold wtN
  rw [← htk, ← hI2]
  by_cases hz0 : tk = 0
  · rw [if_pos (show nI tk = 0 by rw [hz0]; rfl), if_pos hz0]
    exact ⟨I2, rfl, ⟨by rw [hI2, w2_k _ _ (by decide)]; exact l1.1, by rw [hI2, w2_k _ _ (by decide)]; exact l1.2.1, by rw [hI2, w2_s, hz0, h0], l5⟩, at2, frP_t (frP_S a3) f2⟩
  · rw [if_neg (nI_ne0 (by omega) (by omega)), if_neg hz0]
    exact ⟨I2, rfl, ⟨by rw [hI2, w2_k _ _ (by decide)]; exact l1.1, by rw [hI2, w2_k _ _ (by decide)]; exact l1.2.1, by rw [hI2, w2_s]; rfl, l5⟩, at2, frP_t (frP_S a3) f2⟩
theorem xt_words {G : eG} (hN : 200 < N) (hG : xinj G) (h : xTX I X E) (hs : s ≤ E) (ha : xAT I X E s) (hg : xPL I g) (hk : gOK g) : xRit B I J X E (wtm X E g s) (F_X7_takesWords N G (B + 3) (B + 1) (HP B I J)) := by
  unfold F_X7_takesWords wtm
  simp only [T_is, Option.bind_some, xt_isWord hN hG (show 0 < 5 by decide) h hs ha, xt_isWord hN hG (show 1 < 5 by decide) h hs ha, xt_isWord hN hG (show 2 < 5 by decide) h hs ha, e_bind_some, b2_0, P_is, P_gi1, hg.1]
  have n1 : (nI (gN g) = 0) ↔ gN g = 0 := nI_eq (show gN g < 2 ^ 31 by have := hk.1.1; omega) (show 0 < 2 ^ 31 by decide)
  have n2 : (nI (gB g) = 0) ↔ gB g = 0 := nI_eq (show gB g < 2 ^ 31 by have := hk.2.1; omega) (show 0 < 2 ^ 31 by decide)
  have n3 : (nI (gL g) = 0) ↔ gL g = 0 := nI_eq (show gL g < 2 ^ 31 by have := hk.2.2.1; omega) (show 0 < 2 ^ 31 by decide)
  have zb : ∀ {r : Bool × gS × Nat} {o : Option (Int32 × eH)}, xRit B I J X E r o → xRit B I J X E r (e_bind o fun v h => (h_z v).bind fun z => some (z, h)) := fun {r o} hh => by
    obtain ⟨I2, c1, c2⟩ := hh
    refine ⟨I2, ?_, c2⟩
    rw [c1, e_bind_some]
    rcases b2_01 r.1 with w | w <;> rw [w] <;> rfl
  have hno : xRit B I J X E (false, g, s) (some (0, HP B I J)) := ⟨I, rfl, hg, ha, frP_r⟩
  have h129 : xRit B I J X E (if xW X E s 4 = true ∧ gL g = 0 then wtN X E 1 4 g (gL' g) s else (false, g, s)) (F_X7_takesWords_111 N G (B + 3) (B + 1) (HP B I J)) := by
    unfold F_X7_takesWords_111
    simp only [T_is, Option.bind_some, xt_isWord hN hG (show 4 < 5 by decide) h hs ha, e_bind_some, b2_0, P_is, P_gi3, hg.2.2.1]
    cases e : xW X E s 4
    · rw [if_pos rfl, if_neg (by simp)]; exact hno
    · rw [if_neg (show ¬ ((true : Bool) = false) by decide)]
      by_cases e2 : gL g = 0
      · rw [if_pos (n3.mpr e2), if_pos (show (true : Bool) = true ∧ gL g = 0 from ⟨rfl, e2⟩)]
        exact xt_itL hN h hs ha hg e2
      · rw [if_neg (show ¬ nI (gL g) = 0 from fun w => e2 (n3.mp w)), if_neg (show ¬ ((true : Bool) = true ∧ gL g = 0) from fun w => e2 w.2)]; exact hno
  have h80 : xRit B I J X E (if xW X E s 3 = true ∧ gB g = 0 then wtN X E 1 6 g (gB' g) s else if xW X E s 4 = true ∧ gL g = 0 then wtN X E 1 4 g (gL' g) s else (false, g, s)) (F_X7_takesWords_70 N G (B + 3) (B + 1) (HP B I J)) := by
    unfold F_X7_takesWords_70
    simp only [T_is, Option.bind_some, xt_isWord hN hG (show 3 < 5 by decide) h hs ha, e_bind_some, b2_0, P_is, P_gi2, hg.2.1]
    cases e : xW X E s 3
    · rw [if_pos rfl, if_neg (by simp)]; exact h129
    · rw [if_neg (show ¬ ((true : Bool) = false) by decide)]
      by_cases e2 : gB g = 0
      · rw [if_pos (n2.mpr e2), if_pos (show (true : Bool) = true ∧ gB g = 0 from ⟨rfl, e2⟩)]
        exact xt_itB hN h hs ha hg e2
      · rw [if_neg (show ¬ nI (gB g) = 0 from fun w => e2 (n2.mp w)), if_neg (show ¬ ((true : Bool) = true ∧ gB g = 0) from fun w => e2 w.2)]; exact h129
  cases e0 : xW X E s 0
  · rw [if_pos (show (false : Bool) = false from rfl), if_neg (show ¬ ((false : Bool) = true) by decide)]
    cases e1 : xW X E s 1
    · rw [if_pos (show (false : Bool) = false from rfl), if_neg (show ¬ ((false : Bool) = true) by decide)]
      cases e2 : xW X E s 2
      · rw [if_pos rfl, if_neg (by simp)]; exact h80
      · rw [if_neg (show ¬ ((true : Bool) = false) by decide)]
        by_cases e3 : gN g = 0
        · rw [if_pos (n1.mpr e3), if_pos (show (true : Bool) = true ∧ gN g = 0 from ⟨rfl, e3⟩)]
          exact xt_itN hN h hs ha hg e3
        · rw [if_neg (show ¬ nI (gN g) = 0 from fun w => e3 (n1.mp w)), if_neg (show ¬ ((true : Bool) = true ∧ gN g = 0) from fun w => e3 w.2)]; exact h80
    · rw [if_neg (show ¬ ((true : Bool) = false) by decide), if_pos (show (true : Bool) = true from rfl)]
      exact zb (xt_key ha hg hk.2.2.2.1 rfl)
  · rw [if_neg (show ¬ ((true : Bool) = false) by decide), if_pos (show (true : Bool) = true from rfl)]
    exact zb (xt_key ha hg hk.2.2.2.1 rfl)
/-- the plan stays in its bounds, and a good item counts -/
theorem xtk_b (X : Nat → Nat) (E lo hi s : Nat) : xtk X E lo hi s = 0 ∨ (lo ≤ xtk X E lo hi s ∧ xtk X E lo hi s ≤ hi) := by
  unfold xtk
  split
  · right; omega
  · left; rfl
theorem itm_ok (hk : gOK g) : gOK (itm X E g s).2.1 ∧ ((itm X E g s).1 = true → gC (itm X E g s).2.1 = gC g + 1) := by
  obtain ⟨⟨k1, k1'⟩, k2, k3, k4, k5⟩ := hk
  have hno : gOK ((false, g, s) : Bool × gS × Nat).2.1 ∧ (((false, g, s) : Bool × gS × Nat).1 = true → gC ((false, g, s) : Bool × gS × Nat).2.1 = gC g + 1) := ⟨⟨⟨k1, k1'⟩, k2, k3, k4, k5⟩, fun q => by cases q⟩
  have hkey : ∀ kd, kd ≤ 1 → gOK (itK X E g s kd).2.1 ∧ ((itK X E g s kd).1 = true → gC (itK X E g s kd).2.1 = gC g + 1) := fun kd hkd => by
    unfold itK
    by_cases q : gK g < 4
    · rw [if_pos q]
      refine ⟨⟨⟨k1, k1'⟩, k2, k3, ?_, fun i hi => ?_⟩, fun _ => ?_⟩
      · show gK g + 1 ≤ 4; omega
      · show (if i = gK g then kd else gD g i) ≤ 1
        have hi2 : i < gK g + 1 := hi
        split
        · exact hkd
        · exact k5 i (by omega)
      · show g1 (gN g) + g1 (gB g) + g1 (gL g) + (gK g + 1) = g1 (gN g) + g1 (gB g) + g1 (gL g) + gK g + 1
        omega
    · rw [if_neg q]; exact hno
  have g10 : g1 0 = 0 := rfl
  have g1n : ∀ v, v ≠ 0 → g1 v = 1 := fun v hv => if_neg hv
  unfold itm
  split
  · exact hkey 0 (by decide)
  · split
    · exact hkey 1 (by decide)
    · split
      · rename_i w
        unfold itN
        split
        · exact hno
        · rename_i z
          have hb := (xtk_b X E 2 4 (xsk X E (xnd X E s))).resolve_left z
          refine ⟨⟨⟨hb.2, fun _ => hb.1⟩, k2, k3, k4, k5⟩, fun _ => ?_⟩
          show g1 (xtk X E 2 4 (xsk X E (xnd X E s))) + g1 (gB g) + g1 (gL g) + gK g = g1 (gN g) + g1 (gB g) + g1 (gL g) + gK g + 1
          rw [w.2, g10, g1n _ z]; omega
      · split
        · rename_i w
          unfold itN
          split
          · exact hno
          · rename_i z
            have hb := (xtk_b X E 1 6 (xsk X E (xnd X E s))).resolve_left z
            refine ⟨⟨⟨k1, k1'⟩, hb.2, k3, k4, k5⟩, fun _ => ?_⟩
            show g1 (gN g) + g1 (xtk X E 1 6 (xsk X E (xnd X E s))) + g1 (gL g) + gK g = g1 (gN g) + g1 (gB g) + g1 (gL g) + gK g + 1
            rw [w.2, g10, g1n _ z]; omega
        · split
          · rename_i w
            unfold itN
            split
            · exact hno
            · rename_i z
              have hb := (xtk_b X E 1 4 (xsk X E (xnd X E s))).resolve_left z
              refine ⟨⟨⟨k1, k1'⟩, k2, hb.2, k4, k5⟩, fun _ => ?_⟩
              show g1 (gN g) + g1 (gB g) + g1 (xtk X E 1 4 (xsk X E (xnd X E s))) + gK g = g1 (gN g) + g1 (gB g) + g1 (gL g) + gK g + 1
              rw [w.2, g10, g1n _ z]; omega
          · exact hno
theorem itm_le (hs : s ≤ E) : (itm X E g s).2.2 ≤ E := by
  have a := xsk_le (X := X) (xnd_le (X := X) hs)
  have b := xsk_le (X := X) (xnd_le (X := X) a)
  have hkey : ∀ kd, (itK X E g s kd).2.2 ≤ E := fun kd => by
    unfold itK
    split
    · exact a
    · exact hs
  have hnum : ∀ lo hi set, (itN X E lo hi g set s).2.2 ≤ E := fun lo hi set => by
    unfold itN
    split
    · exact a
    · exact b
  unfold itm
  repeat' split
  · exact hkey 0
  · exact hkey 1
  · exact hnum _ _ _
  · exact hnum _ _ _
  · exact hnum _ _ _
  · exact hs
theorem wtm_le (hs : s ≤ E) : (wtm X E g s).2.2 ≤ E := by
  have a := xsk_le (X := X) (xnd_le (X := X) hs)
  have hkey : ∀ kd, (wtK g s kd).2.2 ≤ E := fun kd => by
    unfold wtK
    split <;> exact hs
  have hnum : ∀ lo hi set, (wtN X E lo hi g set s).2.2 ≤ E := fun lo hi set => by
    unfold wtN
    split <;> exact a
  unfold wtm
  repeat' split
  · exact hkey 0
  · exact hkey 1
  · exact hnum _ _ _
  · exact hnum _ _ _
  · exact hnum _ _ _
  · exact hs
end TL2
