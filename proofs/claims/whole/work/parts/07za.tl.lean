/-! TELLS of the reference, and of both -/
theorem w2_idd {α : Type} (I : Nat → Nat → α) {c k : Nat} {v : α} (h : I c k = v) : w2 I c k v = I := by
  funext c2 k2
  unfold w2
  split
  · rename_i q; rw [q.1, q.2, h]
  · rfl
theorem w2_ww {α : Type} (I : Nat → Nat → α) {c k : Nat} {v u : α} : w2 (w2 I c k v) c k u = w2 I c k u := by
  funext c2 k2
  unfold w2
  split <;> rfl
def xFg (I : Nat → Nat → Int32) : Prop := (∀ c, 131 ≤ c → c ≤ 135 → ∀ z, z < 656 → I c z = 0) ∧ (∀ z, z < 64 → I 137 z = 0) ∧ (∀ z, z < 16 → I 136 z = 0) ∧ (∀ z, z < 4 → I 138 z = 0 ∧ I 139 z = -9) ∧ I 125 5 = 0 ∧ I 125 21 = 0
section TL6
variable {B N : Nat} {I I2 : Nat → Nat → Int32} {J J2 : Nat → Nat → Int64} {X : Nat → Nat} {E p s q i j k n lo hi : Nat} {g : gS} {v : Int32} {x : eST}
theorem m_forgets (hN : 2000 < N) : ∃ I2, F_X12_forgets N (B + 125) (HP B I J) = some ((), HP B I2 J) ∧ xFg I2 ∧ ∀ c z, ¬ (131 ≤ c ∧ c ≤ 139) → ¬ (c = 125 ∧ (z = 5 ∨ z = 21)) → I2 c z = I c z := by
  unfold F_X12_forgets
  simp only [M_p5, M_p21, Option.bind_some]
  obtain ⟨I0, hI0⟩ : ∃ I0, I0 = w2 (w2 I 125 5 0) 125 21 0 := ⟨_, rfl⟩
  have z5 : I0 125 5 = 0 := by rw [hI0, w2_k _ _ (by decide), w2_s]
  have z21 : I0 125 21 = 0 := by rw [hI0, w2_s]
  have f0 : ∀ c z, ¬ (c = 125 ∧ (z = 5 ∨ z = 21)) → I0 c z = I c z := fun c z q => by
    rw [hI0]; unfold w2
    rw [if_neg (fun r => q ⟨r.1, Or.inr r.2⟩), if_neg (fun r => q ⟨r.1, Or.inl r.2⟩)]
  rw [← hI0]
  unfold L_X12_forgets_12
  obtain ⟨s1, ⟨I1, rfl, a1, a2⟩, e1⟩ := e_loop_0 (body := fun (k : Nat × Int32 × eH → Option (Unit × eH)) s => F_X12_forgets_12b N (fun l0 l1 h => k (l0, l1, h)) s.1 s.2.1 s.2.2) (fun i st => ∃ I', st = (B + 125, nI i, HP B I' J) ∧ (∀ c, 131 ≤ c → c ≤ 135 → ∀ z, z < i → I' c z = 0) ∧ ∀ c z, ¬ (131 ≤ c ∧ c ≤ 135) → I' c z = I0 c z) 656 (s := (B + 125, 0, HP B I0 J)) (N := N) ⟨I0, rfl, fun c _ _ z hz => absurd hz (Nat.not_lt_zero z), fun _ _ _ => rfl⟩ (fun i st hi hst => by
    obtain ⟨I', rfl, a1, a2⟩ := hst
    refine ⟨(B + 125, nI (i + 1), HP B (w2 (w2 (w2 (w2 (w2 I' 131 i 0) 132 i 0) 133 i 0) 134 i 0) 135 i 0) J), ⟨_, rfl, fun c h1 h2 z hz => ?_, fun c z hc => ?_⟩, fun K => ?_⟩
    · have hh : ∀ d : Nat, d ≠ c ∨ z ≠ i → ∀ I : Nat → Nat → Int32, w2 I d i 0 c z = I c z := fun d hd I => by
        unfold w2; rw [if_neg (fun r => hd.elim (fun q => q r.1.symm) (fun q => q r.2))]
      by_cases hz2 : z = i
      · subst hz2
        have : c = 131 ∨ c = 132 ∨ c = 133 ∨ c = 134 ∨ c = 135 := by omega
        rcases this with rfl | rfl | rfl | rfl | rfl
        · rw [w2_c _ _ (by decide), w2_c _ _ (by decide), w2_c _ _ (by decide), w2_c _ _ (by decide), w2_s]
        · rw [w2_c _ _ (by decide), w2_c _ _ (by decide), w2_c _ _ (by decide), w2_s]
        · rw [w2_c _ _ (by decide), w2_c _ _ (by decide), w2_s]
        · rw [w2_c _ _ (by decide), w2_s]
        · rw [w2_s]
      · rw [hh _ (Or.inr hz2), hh _ (Or.inr hz2), hh _ (Or.inr hz2), hh _ (Or.inr hz2), hh _ (Or.inr hz2)]
        exact a1 c h1 h2 z (by omega)
    · rw [w2_c _ _ (by omega), w2_c _ _ (by omega), w2_c _ _ (by omega), w2_c _ _ (by omega), w2_c _ _ (by omega)]
      exact a2 c z hc
    · show F_X12_forgets_12b N (fun l0 l1 h => K (l0, l1, h)) (B + 125) (nI i) (HP B I' J) = _
      unfold F_X12_forgets_12b
      simp only [if_neg (show ¬ (656 : Int32) ≤ nI i from nI_ge hi (by decide)), nar_0, M_gr10, M_gr11, M_gr12, M_gr13, M_gr14, Option.bind_some, R_si131 hi, R_si132 hi, R_si133 hi, R_si134 hi, R_si135 hi, nI_1]) (by omega)
  obtain ⟨s2, ⟨I2, rfl, b1, b2'⟩, e2⟩ := e_loop_0 (body := fun (k : Nat × Int32 × eH → Option (Unit × eH)) s => F_X12_forgets_62b N (fun l0 l1 h => k (l0, l1, h)) s.1 s.2.1 s.2.2) (fun i st => ∃ I', st = (B + 125, nI i, HP B I' J) ∧ (∀ z, z < i → I' 137 z = 0) ∧ ∀ c z, c ≠ 137 → I' c z = I1 c z) 64 (s := (B + 125, 0, HP B I1 J)) (N := N) ⟨I1, rfl, fun z hz => absurd hz (Nat.not_lt_zero z), fun _ _ _ => rfl⟩ (fun i st hi hst => by
    obtain ⟨I', rfl, a1, a2⟩ := hst
    refine ⟨(B + 125, nI (i + 1), HP B (w2 I' 137 i 0) J), ⟨_, rfl, fun z hz => ?_, fun c z hc => ?_⟩, fun K => ?_⟩
    · by_cases hz2 : z = i
      · subst hz2; rw [w2_s]
      · rw [w2_k _ _ hz2]; exact a1 z (by omega)
    · rw [w2_c _ _ hc]; exact a2 c z hc
    · show F_X12_forgets_62b N (fun l0 l1 h => K (l0, l1, h)) (B + 125) (nI i) (HP B I' J) = _
      unfold F_X12_forgets_62b
      simp only [if_neg (show ¬ (64 : Int32) ≤ nI i from nI_ge hi (by decide)), M_gr16, Option.bind_some, R_si137 hi, nI_1]) (by omega)
  obtain ⟨s3, ⟨I3, rfl, c1, c2⟩, e3⟩ := e_loop_0 (body := fun (k : Nat × Int32 × eH → Option (Unit × eH)) s => F_X12_forgets_83b N (fun l0 l1 h => k (l0, l1, h)) s.1 s.2.1 s.2.2) (fun i st => ∃ I', st = (B + 125, nI i, HP B I' J) ∧ (∀ z, z < i → I' 136 z = 0) ∧ ∀ c z, c ≠ 136 → I' c z = I2 c z) 16 (s := (B + 125, 0, HP B I2 J)) (N := N) ⟨I2, rfl, fun z hz => absurd hz (Nat.not_lt_zero z), fun _ _ _ => rfl⟩ (fun i st hi hst => by
    obtain ⟨I', rfl, a1, a2⟩ := hst
    refine ⟨(B + 125, nI (i + 1), HP B (w2 I' 136 i 0) J), ⟨_, rfl, fun z hz => ?_, fun c z hc => ?_⟩, fun K => ?_⟩
    · by_cases hz2 : z = i
      · subst hz2; rw [w2_s]
      · rw [w2_k _ _ hz2]; exact a1 z (by omega)
    · rw [w2_c _ _ hc]; exact a2 c z hc
    · show F_X12_forgets_83b N (fun l0 l1 h => K (l0, l1, h)) (B + 125) (nI i) (HP B I' J) = _
      unfold F_X12_forgets_83b
      simp only [if_neg (show ¬ (16 : Int32) ≤ nI i from nI_ge hi (by decide)), M_gr15, Option.bind_some, R_si136 hi, nI_1]) (by omega)
  obtain ⟨s4, ⟨I4, rfl, d1, d2⟩, e4⟩ := e_loop_0 (body := fun (k : Nat × Int32 × eH → Option (Unit × eH)) s => F_X12_forgets_104b N (fun l0 l1 h => k (l0, l1, h)) s.1 s.2.1 s.2.2) (fun i st => ∃ I', st = (B + 125, nI i, HP B I' J) ∧ (∀ z, z < i → I' 138 z = 0 ∧ I' 139 z = -9) ∧ ∀ c z, c ≠ 138 → c ≠ 139 → I' c z = I3 c z) 4 (s := (B + 125, 0, HP B I3 J)) (N := N) ⟨I3, rfl, fun z hz => absurd hz (Nat.not_lt_zero z), fun _ _ _ _ => rfl⟩ (fun i st hi hst => by
    obtain ⟨I', rfl, a1, a2⟩ := hst
    refine ⟨(B + 125, nI (i + 1), HP B (w2 (w2 I' 138 i 0) 139 i (-9)) J), ⟨_, rfl, fun z hz => ?_, fun c z hc hc2 => ?_⟩, fun K => ?_⟩
    · by_cases hz2 : z = i
      · subst hz2; exact ⟨by rw [w2_c _ _ (by decide), w2_s], by rw [w2_s]⟩
      · exact ⟨by rw [w2_c _ _ (by decide), w2_k _ _ hz2]; exact (a1 z (by omega)).1, by rw [w2_k _ _ hz2, w2_c _ _ (by decide)]; exact (a1 z (by omega)).2⟩
    · rw [w2_c _ _ hc2, w2_c _ _ hc]; exact a2 c z hc hc2
    · show F_X12_forgets_104b N (fun l0 l1 h => K (l0, l1, h)) (B + 125) (nI i) (HP B I' J) = _
      unfold F_X12_forgets_104b
      simp only [if_neg (show ¬ (4 : Int32) ≤ nI i from nI_ge hi (by decide)), M_gr17, M_gr18, Option.bind_some, R_si138 hi, R_si139 hi, nI_1]) (by omega)
  refine ⟨I4, ?_, ⟨fun c h1 h2 z hz => ?_, fun z hz => ?_, fun z hz => ?_, d1, ?_, ?_⟩, fun c z h1 h2 => ?_⟩
  · refine Eq.trans e1 ?_
    show F_X12_forgets_12b N _ (B + 125) (nI 656) (HP B I1 J) = _
    unfold F_X12_forgets_12b L_X12_forgets_62
    rw [if_pos (show (656 : Int32) ≤ nI 656 from Int32.le_refl _)]
    refine Eq.trans e2 ?_
    show F_X12_forgets_62b N _ (B + 125) (nI 64) (HP B I2 J) = _
    unfold F_X12_forgets_62b L_X12_forgets_83
    rw [if_pos (show (64 : Int32) ≤ nI 64 from Int32.le_refl _)]
    refine Eq.trans e3 ?_
    show F_X12_forgets_83b N _ (B + 125) (nI 16) (HP B I3 J) = _
    unfold F_X12_forgets_83b L_X12_forgets_104
    rw [if_pos (show (16 : Int32) ≤ nI 16 from Int32.le_refl _)]
    refine Eq.trans e4 ?_
    show F_X12_forgets_104b N _ (B + 125) (nI 4) (HP B I4 J) = _
    unfold F_X12_forgets_104b
    rw [if_pos (show (4 : Int32) ≤ nI 4 from Int32.le_refl _)]
  · rw [d2 _ _ (by omega) (by omega), c2 _ _ (by omega), b2' _ _ (by omega)]; exact a1 c h1 h2 z hz
  · rw [d2 _ _ (by decide) (by decide), c2 _ _ (by decide)]; exact b1 z hz
  · rw [d2 _ _ (by decide) (by decide)]; exact c1 z hz
  · rw [d2 _ _ (by decide) (by decide), c2 _ _ (by decide), b2' _ _ (by decide), a2 _ _ (by decide)]; exact z5
  · rw [d2 _ _ (by decide) (by decide), c2 _ _ (by decide), b2' _ _ (by decide), a2 _ _ (by decide)]; exact z21
  · rw [d2 _ _ (by omega) (by omega), c2 _ _ (by omega), b2' _ _ (by omega), a2 _ _ (by omega)]; exact f0 c z h2
theorem xm_s80 (k51 : Nat → Int32 → eH → Option (Int32 × eH)) (hN : 200 < N) (h : rTX I X E) (hp : p ≤ E) (h26 : I 125 26 = nI p) : L_X12_tells_80 N k51 (B + 125) v (HP B I J) = k51 (B + 125) v (HP B (w2 I 125 26 (nI (xsk X E p))) J) := by
  have hE := h.2.2.1
  obtain ⟨m, m1, m2, m3, m4⟩ := xsk_e (X := X) hp
  have hx : ∀ u : Int32, rTX (w2 I 125 26 u) X E := fun u => rTX_N (J := J) (J2 := J) h (frN_w (by decide) (by decide))
  unfold L_X12_tells_80
  have e1 := e_loop_f (body := fun (k : Nat × Int32 × eH → Option (Int32 × eH)) s => F_X12_tells_80b N k51 (fun l0 l1 h => k (l0, l1, h)) s.1 s.2.1 s.2.2) (fun i => (B + 125, v, HP B (w2 I 125 26 (nI (p + i))) J)) m (N := N) (fun i hi k0 => by
    show F_X12_tells_80b N k51 _ (B + 125) v (HP B (w2 I 125 26 (nI (p + i))) J) = _
    unfold F_X12_tells_80b
    simp only [M_is, Option.bind_some, xm_b4 (hx (nI (p + i))) (show p + i < 2 ^ 31 by omega) (w2_s _ _ _ _), e_bind_some, b2_0, decide_eq_true (m3 i hi), Bool.true_eq_false, if_false, M_gi26, w2_s, M_p26, w2_ww, nI_1]
    rfl) (by omega)
  rw [show p + 0 = p from rfl, w2_idd I h26] at e1
  refine Eq.trans e1 ?_
  show F_X12_tells_80b N k51 _ (B + 125) v (HP B (w2 I 125 26 (nI (p + m))) J) = _
  unfold F_X12_tells_80b
  simp only [M_is, Option.bind_some, xm_b4 (hx (nI (p + m))) (show p + m < 2 ^ 31 by omega) (w2_s _ _ _ _), e_bind_some, b2_0, decide_eq_false m4, if_true, m1]
theorem xm_s27 (hN : 200 < N) (h : rTX I X E) (hp : p ≤ E) (h26 : I 125 26 = nI p) : L_X12_tells_27 N (B + 125) v (HP B I J) = L_X12_tells_51 N (B + 125) v (HP B (w2 I 125 26 (nI (xsk X E p))) J) := by
  have hE := h.2.2.1
  obtain ⟨m, m1, m2, m3, m4⟩ := xsk_e (X := X) hp
  have hx : ∀ u : Int32, rTX (w2 I 125 26 u) X E := fun u => rTX_N (J := J) (J2 := J) h (frN_w (by decide) (by decide))
  unfold L_X12_tells_27
  have e1 := e_loop_f (body := fun (k : Nat × Int32 × eH → Option (Int32 × eH)) s => F_X12_tells_27b N (fun l0 l1 h => k (l0, l1, h)) s.1 s.2.1 s.2.2) (fun i => (B + 125, v, HP B (w2 I 125 26 (nI (p + i))) J)) m (N := N) (fun i hi k0 => by
    show F_X12_tells_27b N _ (B + 125) v (HP B (w2 I 125 26 (nI (p + i))) J) = _
    unfold F_X12_tells_27b
    simp only [M_is, Option.bind_some, xm_b4 (hx (nI (p + i))) (show p + i < 2 ^ 31 by omega) (w2_s _ _ _ _), e_bind_some, b2_0, decide_eq_true (m3 i hi), Bool.true_eq_false, if_false, M_gi26, w2_s, M_p26, w2_ww, nI_1]
    rfl) (by omega)
  rw [show p + 0 = p from rfl, w2_idd I h26] at e1
  refine Eq.trans e1 ?_
  show F_X12_tells_27b N _ (B + 125) v (HP B (w2 I 125 26 (nI (p + m))) J) = _
  unfold F_X12_tells_27b
  simp only [M_is, Option.bind_some, xm_b4 (hx (nI (p + m))) (show p + m < 2 ^ 31 by omega) (w2_s _ _ _ _), e_bind_some, b2_0, decide_eq_false m4, if_true, m1]
def xTend (I : Nat → Nat → Int32) (g : gS) : Prop := I 125 0 = nI (xus 3 (gN g)) ∧ I 125 1 = nI (xus 4 (gB g)) ∧ I 125 2 = nI (xus 4 (gL g)) ∧ I 125 3 = nI (gK g) ∧ I 125 24 = 0 ∧ xFg I ∧ ∀ i, i < gK g → I 126 i = nI (gD g i)
theorem xFg_fr (h : xFg I) (hf : ∀ c z, ¬ (c = 126) → ¬ (c = 125 ∧ z ≤ 3) → I2 c z = I c z) : xFg I2 := by
  obtain ⟨a, b, c, d, e, f⟩ := h
  exact ⟨fun c h1 h2 z hz => (hf c z (by omega) (by omega)).trans (a c h1 h2 z hz), fun z hz => (hf _ _ (by omega) (by omega)).trans (b z hz), fun z hz => (hf _ _ (by omega) (by omega)).trans (c z hz), fun z hz => ⟨(hf _ _ (by omega) (by omega)).trans (d z hz).1, (hf _ _ (by omega) (by omega)).trans (d z hz).2⟩, (hf _ _ (by omega) (by omega)).trans e, (hf _ _ (by omega) (by omega)).trans f⟩
/-- a good text's end -/
theorem m_tend (hN : 2000 < N) (hg : rPL I g) (hk : gOK g) (h24 : I 125 24 = 0) (hF : xFg I) : ∃ I2, (if I 125 30 = 0 then (F_X12_tells_129 N (B + 125) v (B + 125) 3 (HP B I J)) else F_X12_tells_129 N (B + 125) v (B + 125) (I 125 30) (HP B I J)) = some (v, HP B I2 J) ∧ xTend I2 g ∧ frR I J I2 J := by
  have n1 : (nI (gN g) = 0) ↔ gN g = 0 := nI_eq (show gN g < 2 ^ 31 by have := hk.1.1; omega) (show 0 < 2 ^ 31 by decide)
  have n2 : (nI (gB g) = 0) ↔ gB g = 0 := nI_eq (show gB g < 2 ^ 31 by have := hk.2.1; omega) (show 0 < 2 ^ 31 by decide)
  have n3 : (nI (gL g) = 0) ↔ gL g = 0 := nI_eq (show gL g < 2 ^ 31 by have := hk.2.2.1; omega) (show 0 < 2 ^ 31 by decide)
  obtain ⟨I1, hI1⟩ : ∃ I1, I1 = w2 (w2 (w2 (w2 I 125 0 (nI (xus 3 (gN g)))) 125 1 (nI (xus 4 (gB g)))) 125 2 (nI (xus 4 (gL g)))) 125 3 (nI (gK g)) := ⟨_, rfl⟩
  have f1 : ∀ c z, ¬ (c = 125 ∧ z ≤ 3) → I1 c z = I c z := fun c z q => by
    rw [hI1]; unfold w2
    rw [if_neg (fun r => q ⟨r.1, by omega⟩), if_neg (fun r => q ⟨r.1, by omega⟩), if_neg (fun r => q ⟨r.1, by omega⟩), if_neg (fun r => q ⟨r.1, by omega⟩)]
  have c167 : ∀ (I : Nat → Nat → Int32) (u : Int32), I 125 33 = nI (gK g) → F_X12_tells_167 N (B + 125) v (B + 125) u (HP B I J) = L_X12_tells_180 N (B + 125) v 0 (HP B (w2 (w2 I 125 2 u) 125 3 (nI (gK g))) J) := fun I u hI => by
    unfold F_X12_tells_167
    simp only [M_p2, M_gi33, M_p3, Option.bind_some, w2_k _ _ (show (33 : Nat) ≠ 2 by decide), hI]
  have c148 : ∀ (I : Nat → Nat → Int32) (u : Int32), I 125 33 = nI (gK g) → I 125 32 = nI (gL g) → F_X12_tells_148 N (B + 125) v (B + 125) u (HP B I J) = L_X12_tells_180 N (B + 125) v 0 (HP B (w2 (w2 (w2 I 125 1 u) 125 2 (nI (xus 4 (gL g)))) 125 3 (nI (gK g))) J) := fun I u hI hI2 => by
    unfold F_X12_tells_148
    simp only [M_p1, M_gi32, Option.bind_some, w2_k _ _ (show (32 : Nat) ≠ 1 by decide), hI2]
    have hI' : w2 I 125 1 u 125 33 = nI (gK g) := (w2_k _ _ (by decide)).trans hI
    by_cases q : gL g = 0
    · rw [if_pos (n3.mpr q), show xus 4 (gL g) = 4 from if_pos q]; exact c167 _ _ hI'
    · rw [if_neg (fun w => q (n3.mp w)), show xus 4 (gL g) = gL g from if_neg q]; exact c167 _ _ hI'
  have c129 : ∀ (I : Nat → Nat → Int32) (u : Int32), I 125 33 = nI (gK g) → I 125 32 = nI (gL g) → I 125 31 = nI (gB g) → F_X12_tells_129 N (B + 125) v (B + 125) u (HP B I J) = L_X12_tells_180 N (B + 125) v 0 (HP B (w2 (w2 (w2 (w2 I 125 0 u) 125 1 (nI (xus 4 (gB g)))) 125 2 (nI (xus 4 (gL g)))) 125 3 (nI (gK g))) J) := fun I u hI hI2 hI3 => by
    unfold F_X12_tells_129
    simp only [M_p0, M_gi31, Option.bind_some, w2_k _ _ (show (31 : Nat) ≠ 0 by decide), hI3]
    have hI' : w2 I 125 0 u 125 33 = nI (gK g) := (w2_k _ _ (by decide)).trans hI
    have hI2' : w2 I 125 0 u 125 32 = nI (gL g) := (w2_k _ _ (by decide)).trans hI2
    by_cases q : gB g = 0
    · rw [if_pos (n2.mpr q), show xus 4 (gB g) = 4 from if_pos q]; exact c148 _ _ hI' hI2'
    · rw [if_neg (fun w => q (n2.mp w)), show xus 4 (gB g) = gB g from if_neg q]; exact c148 _ _ hI' hI2'
  have hmid : (if I 125 30 = 0 then (F_X12_tells_129 N (B + 125) v (B + 125) 3 (HP B I J)) else F_X12_tells_129 N (B + 125) v (B + 125) (I 125 30) (HP B I J)) = L_X12_tells_180 N (B + 125) v 0 (HP B I1 J) := by
    rw [hg.1, hI1]
    by_cases q : gN g = 0
    · rw [if_pos (n1.mpr q), show xus 3 (gN g) = 3 from if_pos q]; exact c129 _ _ hg.2.2.2.1 hg.2.2.1 hg.2.1
    · rw [if_neg (fun w => q (n1.mp w)), show xus 3 (gN g) = gN g from if_neg q]; exact c129 _ _ hg.2.2.2.1 hg.2.2.1 hg.2.1
  rw [hmid]
  have h4 := hk.2.2.2.1
  have g3 : I1 125 3 = nI (gK g) := by rw [hI1, w2_s]
  unfold L_X12_tells_180
  obtain ⟨s2, ⟨I2, rfl, b1, b2'⟩, e2⟩ := e_loop_0 (body := fun (k : Nat × Int32 × Int32 × eH → Option (Int32 × eH)) s => F_X12_tells_180b N (fun l0 l1 l2 h => k (l0, l1, l2, h)) s.1 s.2.1 s.2.2.1 s.2.2.2) (fun i st => ∃ I', st = (B + 125, v, nI i, HP B I' J) ∧ (∀ z, z < i → I' 126 z = nI (gD g z)) ∧ ∀ c z, c ≠ 126 → I' c z = I1 c z) (gK g) (s := (B + 125, v, 0, HP B I1 J)) (N := N) ⟨I1, rfl, fun z hz => absurd hz (Nat.not_lt_zero z), fun _ _ _ => rfl⟩ (fun i st hi hst => by
    obtain ⟨I', rfl, a1, a2⟩ := hst
    refine ⟨(B + 125, v, nI (i + 1), HP B (w2 I' 126 i (nI (gD g i))) J), ⟨_, rfl, fun z hz => ?_, fun c z hc => ?_⟩, fun K => ?_⟩
    · by_cases hz2 : z = i
      · subst hz2; rw [w2_s]
      · rw [w2_k _ _ hz2]; exact a1 z (by omega)
    · rw [w2_c _ _ hc]; exact a2 c z hc
    · have g145 : I' 145 i = nI (gD g i) := (a2 145 i (by decide)).trans ((f1 145 i (by omega)).trans (hg.2.2.2.2 i hi))
      show F_X12_tells_180b N (fun l0 l1 l2 h => K (l0, l1, l2, h)) (B + 125) v (nI i) (HP B I' J) = _
      unfold F_X12_tells_180b
      simp only [M_gi3, Option.bind_some, (a2 125 3 (by decide)).trans g3, if_neg (nI_ge hi (show gK g < 2 ^ 31 by omega)), M_gr4, M_gr34, R_ai145 (show i < 4 by omega), g145, R_si126 (show i < 4 by omega), nI_1]) (by omega)
  have f2 : ∀ c z, c ≠ 126 → ¬ (c = 125 ∧ z ≤ 3) → I2 c z = I c z := fun c z h1 h2 => (b2' c z h1).trans (f1 c z h2)
  refine ⟨I2, ?_, ⟨?_, ?_, ?_, ?_, ?_, xFg_fr hF f2, b1⟩, fun c hc z => ⟨f2 c z (by omega) (by omega), rfl⟩⟩
  · refine Eq.trans e2 ?_
    show F_X12_tells_180b N _ (B + 125) v (nI (gK g)) (HP B I2 J) = _
    unfold F_X12_tells_180b
    simp only [M_gi3, Option.bind_some, (b2' 125 3 (by decide)).trans g3, if_pos (Int32.le_refl (nI (gK g)))]
  · rw [b2' 125 0 (by decide), hI1, w2_k _ _ (by decide), w2_k _ _ (by decide), w2_k _ _ (by decide), w2_s]
  · rw [b2' 125 1 (by decide), hI1, w2_k _ _ (by decide), w2_k _ _ (by decide), w2_s]
  · rw [b2' 125 2 (by decide), hI1, w2_k _ _ (by decide), w2_s]
  · rw [b2' 125 3 (by decide), hI1, w2_s]
  · rw [b2' 125 24 (by decide), f1 125 24 (by decide)]; exact h24
def xRt (B : Nat) (I : Nat → Nat → Int32) (J : Nat → Nat → Int64) (r : Option Nat × gS) (o : Option (Int32 × eH)) : Prop := ∃ I2 J2, o = some (aTl r, HP B I2 J2) ∧ frR I J I2 J2 ∧ (r.1 = none → xTend I2 r.2) ∧ ∀ f, r.1 = some f → frV I J I2 J2
theorem frV_R (h : frV I J I2 J2) : frR I J I2 J2 := fun c hc z => ⟨h.1 c z (by omega) (by omega), h.2 c z (by omega)⟩
theorem m_t51 (hN : 2000 < N) : ∀ n M I J g p, gC g + n = 8 → n < M → rTX I X E → rPL I g → gOK g → p ≤ E → I 125 26 = nI (xsk X E p) → xRt B I J (prs X E n g p) (e_loop (fun (k : Nat × Int32 × eH → Option (Int32 × eH)) s => F_X12_tells_51b N (fun l0 l1 h => k (l0, l1, h)) s.1 s.2.1 s.2.2) M (B + 125, nI (gC g), HP B I J))
  | 0, M, I, J, g, p, hc, hM, h, hg, hk, hp, h3 => by have := gC_le hk; omega
  | n + 1, M, I, J, g, p, hc, hM, h, hg, hk, hp, h3 => by
    have hE := h.2.2.1
    have hs := xsk_le (X := X) hp
    have h4 := xsk_4 (X := X) hp
    rw [e_loop_S (by omega)]
    show xRt B I J (prs X E (n + 1) g p) (F_X12_tells_51b N _ (B + 125) (nI (gC g)) (HP B I J))
    unfold F_X12_tells_51b prs
    rw [M_gi26, Option.bind_some, M_gi24, Option.bind_some, h3, h.1]
    have hss := xsk_i (X := X) h4 hs
    generalize xsk X E p = s at *
    by_cases q : xso X E s = 0
    · have hsE : s = E := by
        rcases Nat.lt_or_ge s E with w | w
        · exact absurd q (xso_n0 w)
        · omega
      rw [if_pos q, if_pos (nI_le (show E ≤ s by omega) (by omega))]
      simp only [M_p24, M_is, Option.bind_some]
      obtain ⟨I1, a1, a2, a3⟩ := m_forgets (B := B) (I := w2 I 125 24 0) (J := J) hN
      have f1 : ∀ c z, ¬ (131 ≤ c ∧ c ≤ 139) → ¬ (c = 125 ∧ (z = 5 ∨ z = 21 ∨ z = 24)) → I1 c z = I c z := fun c z r1 r2 => by
        rw [a3 c z r1 (by omega)]
        unfold w2
        rw [if_neg (by omega)]
      have hg1 : rPL I1 g := ⟨(f1 125 30 (by decide) (by decide)).trans hg.1, (f1 125 31 (by decide) (by decide)).trans hg.2.1, (f1 125 32 (by decide) (by decide)).trans hg.2.2.1, (f1 125 33 (by decide) (by decide)).trans hg.2.2.2.1, fun i hi => (f1 145 i (by decide) (by omega)).trans (hg.2.2.2.2 i hi)⟩
      obtain ⟨I2, c1, c2, c3⟩ := m_tend (B := B) (J := J) (v := nI (gC g)) hN hg1 hk (by rw [a3 125 24 (by decide) (by decide), w2_s]) a2
      simp only [a1, e_bind_some, M_gi30, Option.bind_some]
      exact ⟨I2, J, c1, frR_t (fun c hc z => ⟨f1 c z (by omega) (by omega), rfl⟩) c3, fun _ => c2, fun f hf => (by cases hf)⟩
    · have hsE := xso_lt q
      rw [if_neg q, if_neg (nI_ge hsE (by omega))]
      obtain ⟨I2, J2, c1, c2, c3, c4⟩ := xm_item (B := B) (J := J) (N := N) (by omega) h hs h3 hg hk
      rw [hss] at c1 c2 c3
      have ok := itm_ok (X := X) (E := E) (g := g) (s := s) hk
      have hle := itm_le (X := X) (g := g) hs
      simp only [M_is, Option.bind_some, c1, e_bind_some, b2_0]
      generalize itm X E g s = r at *
      obtain ⟨r1, r2, r3⟩ := r
      have hle : r3 ≤ E := hle
      have c3 : rAT I2 J2 X E r3 := c3
      have c2 : rPL I2 r2 := c2
      cases r1
      · simp only [if_true, Bool.false_eq_true, if_false, M_gi27, Option.bind_some, c3.1]
        exact ⟨I2, J2, rfl, frV_R c4, fun w => (by cases w), fun f hf => c4⟩
      · have hC : gC r2 = gC g + 1 := ok.2 rfl
        have x2 := rTX_M h c4
        simp only [if_true, Bool.true_eq_false, if_false, nI_1]
        rw [xm_s80 (X := X) (E := E) _ (by omega) x2 (xnd_le hle) c3.2.1, ← hC]
        obtain ⟨I3, hI3⟩ : ∃ I3, I3 = w2 I2 125 26 (nI (xsk X E (xnd X E r3))) := ⟨_, rfl⟩
        have f3 : frN I2 J2 I3 J2 := by rw [hI3]; exact frN_w (by decide) (by decide)
        rw [← hI3]
        obtain ⟨I4, J4, d1, d2, d3, d4⟩ := m_t51 hN n (M - 1) I3 J2 r2 (xnd X E r3) (by omega) (by omega) (rTX_N x2 f3) (rPL_N c2 f3) ok.1 (xnd_le hle) (by rw [hI3, w2_s])
        have fa := frV_t c4 (frV_N f3)
        exact ⟨I4, J4, d1, frR_t (frV_R fa) d2, d3, fun f hf => frV_t fa (d4 f hf)⟩
theorem m_tells (hN : 2000 < N) (h : Mo I J x) (w : WF x) : ∃ I2 J2, F_X12_tells N (B + 125) (HP B I J) = some (aTl (prs (zX x) (zE x) 8 g0 0), HP B I2 J2) ∧ Mo I2 J2 (nTs x (prs (zX x) (zE x) 8 g0 0)) ∧ frR I J I2 J2 := by
  have hx : rTX I (zX x) (zE x) := ⟨h.2.1.1, h.2.1.2, w.2.2.2.2.2.1.1, w.2.2.2.2.2.1.2⟩
  have ok := prs_ok (X := zX x) (E := zE x) 8 g0 0 ⟨⟨by decide, fun q => absurd rfl q⟩, by decide, by decide, by decide, fun i hi => absurd hi (Nat.not_lt_zero i)⟩
  unfold F_X12_tells
  simp only [M_p26, M_p30, M_p31, M_p32, M_p33, Option.bind_some]
  obtain ⟨I1, hI1⟩ : ∃ I1, I1 = w2 (w2 (w2 (w2 (w2 I 125 26 0) 125 30 0) 125 31 0) 125 32 0) 125 33 0 := ⟨_, rfl⟩
  have f1 : frV I J I1 J := by rw [hI1]; exact frV_t (frV_w (by decide)) (frV_t (frV_w (by decide)) (frV_t (frV_w (by decide)) (frV_t (frV_w (by decide)) (frV_w (by decide)))))
  rw [← hI1, xm_s27 (X := zX x) (E := zE x) (p := 0) (by omega) (rTX_M hx f1) (Nat.zero_le _) (by rw [hI1, w2_k _ _ (by decide), w2_k _ _ (by decide), w2_k _ _ (by decide), w2_k _ _ (by decide), w2_s]; rfl)]
  obtain ⟨I2, hI2⟩ : ∃ I2, I2 = w2 I1 125 26 (nI (xsk (zX x) (zE x) 0)) := ⟨_, rfl⟩
  have f2 : frV I1 J I2 J := by rw [hI2]; exact frV_w (by decide)
  rw [← hI2]
  have z : ∀ k, 30 ≤ k → k ≤ 33 → I2 125 k = 0 := fun k h1 h2 => by
    rw [hI2, w2_k _ _ (by omega), hI1]
    have : k = 30 ∨ k = 31 ∨ k = 32 ∨ k = 33 := by omega
    rcases this with rfl | rfl | rfl | rfl
    · rw [w2_k _ _ (by decide), w2_k _ _ (by decide), w2_k _ _ (by decide), w2_s]
    · rw [w2_k _ _ (by decide), w2_k _ _ (by decide), w2_s]
    · rw [w2_k _ _ (by decide), w2_s]
    · rw [w2_s]
  unfold L_X12_tells_51
  obtain ⟨I4, J4, d1, d2, d3, d4⟩ := m_t51 (X := zX x) (E := zE x) (B := B) (N := N) hN 8 N I2 J g0 0 rfl (by omega) (rTX_M hx (frV_t f1 f2)) ⟨z 30 (by decide) (by decide), z 31 (by decide) (by decide), z 32 (by decide) (by decide), z 33 (by decide) (by decide), fun i hi => absurd hi (Nat.not_lt_zero i)⟩ ⟨⟨by decide, fun q => absurd rfl q⟩, by decide, by decide, by decide, fun i hi => absurd hi (Nat.not_lt_zero i)⟩ (Nat.zero_le _) (by rw [hI2, w2_s])
  have fR := frR_t (frV_R (frV_t f1 f2)) d2
  refine ⟨I4, J4, d1, ?_, fR⟩
  generalize prs (zX x) (zE x) 8 g0 0 = r at *
  obtain ⟨r1, r2⟩ := r
  cases r1 with
  | some f =>
    have fv := frV_t (frV_t f1 f2) (d4 f rfl)
    exact Mo_fr h (fun z hz => fv.1 125 z (by omega) (by omega)) (fun c h1 h2 z => fv.1 c z (by omega) (by omega)) (fun z => fv.2 127 z (by omega))
  | none =>
    obtain ⟨t0, t1, t2, t3, t4, ⟨u1, u2, u3, u4, u5, u6⟩, t6⟩ := d3 rfl
    refine ⟨⟨t0, t1, t2, t3, u5⟩, ⟨t4, fun i hi => absurd hi (Nat.not_lt_zero i)⟩, ⟨u6, fun i hi => absurd hi (Nat.not_lt_zero i)⟩, fun c hc => ⟨(u4 c hc).2, fun q => absurd rfl q⟩, fun k hk => ?_, fun k hk => ?_⟩
    · have hk2 : k < gK r2 := hk
      rw [t6 k hk2]
      show nI (gD r2 k) = nI (kkd (oKb (zS x k) (kdg r2 k) 4))
      rw [(zk_kb _ _).2.2.2.2]
      unfold kdg
      rw [if_pos hk2]
    · have hz := zk_kb (zS x k) (kdg r2 k)
      show MoK k I4 J4 (oKb (zS x k) (kdg r2 k) 4)
      generalize oKb (zS x k) (kdg r2 k) 4 = y at hz
      refine ⟨fun t ht => ?_, fun s hs t ht => ?_, ?_, fun p hp => ?_, fun f hf p hp => ?_, fun j hj hc => ?_⟩
      · rw [u3 _ (by omega), hz.1 t ht]; rfl
      · rw [u2 _ (by omega), hz.2.1 s hs t ht]; rfl
      · rw [(u4 k hk).1, hz.2.2.2.1]
      · rw [u1 135 (by decide) (by decide) _ (by omega), hb_cong (q := fun _ => false) (fun s hs => ?_), hb_none]
        unfold plc
        rw [hz.2.2.1 (4 + s) (by omega), Bool.and_false]
      · rw [u1 (131 + f) (by omega) (by omega) _ (by omega)]
        unfold plc
        rw [hz.2.2.1 f (by omega), Bool.and_false]; rfl
      · rw [zk_cov hz hj] at hc; cases hc
theorem WF_nTl (hk : gOK g) : WF (nTl x g) := by
  obtain ⟨⟨k1, k1'⟩, k2, k3, k4, k5⟩ := hk
  have b1 : 2 ≤ xus 3 (gN g) ∧ xus 3 (gN g) ≤ 4 := by
    unfold xus
    split
    · omega
    · rename_i q; exact ⟨k1' q, k1⟩
  have b2' : 1 ≤ xus 4 (gB g) ∧ xus 4 (gB g) ≤ 6 := by
    unfold xus
    split <;> omega
  have b3 : 1 ≤ xus 4 (gL g) ∧ xus 4 (gL g) ≤ 4 := by
    unfold xus
    split <;> omega
  exact ⟨b1, b2', b3, k4, Nat.zero_le _, ⟨Nat.zero_le _, fun i hi => absurd hi (Nat.not_lt_zero i)⟩, ⟨Nat.zero_le _, fun i hi => absurd hi (Nat.not_lt_zero i)⟩, fun c hc => ⟨Nat.zero_le _, fun q => absurd rfl q⟩, fun k hk => WFK_z b1.2 (zk_kb _ _) (kdg_le ⟨⟨k1, k1'⟩, k2, k3, k4, k5⟩)⟩
theorem B_tells {G : eG} (hN : 2000 < N) (hG : xinj G) (h : rLB I J x) : Both B (F_X11_tells N G B) (F_X12_tells N (B + 125)) I J x := by
  obtain ⟨h1, h2, w⟩ := h
  have ok := prs_ok (X := zX x) (E := zE x) 8 g0 0 ⟨⟨by decide, fun q => absurd rfl q⟩, by decide, by decide, by decide, fun i hi => absurd hi (Nat.not_lt_zero i)⟩
  refine both_u (x2 := nTs x (prs (zX x) (zE x) 8 g0 0)) ⟨h1, h2, w⟩ (c_tells (by omega) hG h1 w) (fun I J h2 => m_tells hN h2 w) ?_ ?_
  · generalize prs (zX x) (zE x) 8 g0 0 = r at *
    obtain ⟨r1, r2⟩ := r
    cases r1 with
    | some f => exact w
    | none => exact WF_nTl ok
  · generalize prs (zX x) (zE x) 8 g0 0 = r at *
    obtain ⟨r1, r2⟩ := r
    cases r1 with
    | some f => exact Nat.le_succ _
    | none => exact Nat.zero_le _
end TL6
