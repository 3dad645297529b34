/-! TELLS of the class -/
def prs (X : Nat → Nat) (E : Nat) : Nat → gS → Nat → Option Nat × gS
  | 0, g, _ => (none, g)
  | n + 1, g, p => if xso X E (xsk X E p) = 0 then (none, g) else if (itm X E g (xsk X E p)).1 = true then prs X E n (itm X E g (xsk X E p)).2.1 (xnd X E (itm X E g (xsk X E p)).2.2) else (some (itm X E g (xsk X E p)).2.2, (itm X E g (xsk X E p)).2.1)
def xus (d v : Nat) : Nat := if v = 0 then d else v
def xPu (I : Nat → Nat → Int32) (g : gS) : Prop := I 3 1 = nI (xus 3 (gN g)) ∧ I 3 2 = nI (xus 4 (gB g)) ∧ I 3 3 = nI (xus 4 (gL g)) ∧ I 3 4 = nI (gK g) ∧ (∀ i, i < gK g → I 4 i = nI (gD g i)) ∧ I 3 5 = nI (gC g)
def frQ5 (I I2 : Nat → Nat → Int32) : Prop := ∀ c z, ¬ (c = 1 ∧ 2 ≤ z ∧ z ≤ 4) → c ≠ 3 → c ≠ 4 → I2 c z = I c z
theorem frQ5_r {I : Nat → Nat → Int32} : frQ5 I I := fun _ _ _ _ _ => rfl
theorem frQ5_t {I I2 I3 : Nat → Nat → Int32} (h : frQ5 I I2) (h2 : frQ5 I2 I3) : frQ5 I I3 := fun c z a b d => (h2 c z a b d).trans (h c z a b d)
theorem frQ5_P {I I2 : Nat → Nat → Int32} (h : frP I I2) : frQ5 I I2 := fun c z a b d => h c z a (fun q => b q.1) d
theorem frQ5_w {I : Nat → Nat → Int32} {z : Nat} {v : Int32} : frQ5 I (w2 I 3 z v) := fun c z2 _ q _ => w2_c _ _ q
theorem xTX_5 {I I2 : Nat → Nat → Int32} {X : Nat → Nat} {E : Nat} (h : xTX I X E) (hf : frQ5 I I2) : xTX I2 X E := ⟨(hf 1 1 (by omega) (by omega) (by omega)).trans h.1, fun i hi => (hf 2 i (by omega) (by omega) (by omega)).trans (h.2.1 i hi), h.2.2⟩
theorem prs_ok {X : Nat → Nat} {E : Nat} : ∀ n g p, gOK g → gOK (prs X E n g p).2
  | 0, g, p, h => h
  | n + 1, g, p, h => by
    unfold prs
    split
    · exact h
    · split
      · exact prs_ok n _ _ (itm_ok h).1
      · exact (itm_ok h).1
section TL5
variable {B N : Nat} {I I2 : Nat → Nat → Int32} {J J2 : Nat → Nat → Int64} {X : Nat → Nat} {E p s q i j k n lo hi : Nat} {g : gS} {v : Int32} {x : eST}
theorem t_putU (hg : xPL I g) (hk : gOK g) (h5 : I 3 5 = nI (gC g)) : ∃ I2, F_X7_putUsual (B + 3) (HP B I J) = some ((), HP B I2 J) ∧ xPu I2 g ∧ frQ5 I I2 := by
  have n1 : (nI (gN g) = 0) ↔ gN g = 0 := nI_eq (show gN g < 2 ^ 31 by have := hk.1.1; omega) (show 0 < 2 ^ 31 by decide)
  have n2 : (nI (gB g) = 0) ↔ gB g = 0 := nI_eq (show gB g < 2 ^ 31 by have := hk.2.1; omega) (show 0 < 2 ^ 31 by decide)
  have n3 : (nI (gL g) = 0) ↔ gL g = 0 := nI_eq (show gL g < 2 ^ 31 by have := hk.2.2.1; omega) (show 0 < 2 ^ 31 by decide)
  refine ⟨w2 (w2 (w2 I 3 1 (nI (xus 3 (gN g)))) 3 2 (nI (xus 4 (gB g)))) 3 3 (nI (xus 4 (gL g))), ?_, ⟨?_, ?_, w2_s _ _ _ _, ?_, fun i hi => ?_, ?_⟩, frQ5_t frQ5_w (frQ5_t frQ5_w frQ5_w)⟩
  · have c54 : ∀ (I : Nat → Nat → Int32) (v : Int32), F_X7_putUsual_54 (B + 3) v (HP B I J) = some ((), HP B (w2 I 3 3 v) J) := fun I v => by
      unfold F_X7_putUsual_54
      rw [P_p3, Option.bind_some]
    have c35 : ∀ (I : Nat → Nat → Int32) (v : Int32), I 3 3 = nI (gL g) → F_X7_putUsual_35 (B + 3) (B + 3) v (HP B I J) = some ((), HP B (w2 (w2 I 3 2 v) 3 3 (nI (xus 4 (gL g)))) J) := fun I v hI => by
      unfold F_X7_putUsual_35
      simp only [P_p2, P_gi3, Option.bind_some, w2_k _ _ (show (3 : Nat) ≠ 2 by decide), hI, c54]
      unfold xus
      by_cases q : gL g = 0
      · rw [if_pos (n3.mpr q), if_pos q]; rfl
      · rw [if_neg (fun w => q (n3.mp w)), if_neg q]
    have c16 : ∀ (I : Nat → Nat → Int32) (v : Int32), I 3 3 = nI (gL g) → I 3 2 = nI (gB g) → F_X7_putUsual_16 (B + 3) (B + 3) v (HP B I J) = some ((), HP B (w2 (w2 (w2 I 3 1 v) 3 2 (nI (xus 4 (gB g)))) 3 3 (nI (xus 4 (gL g)))) J) := fun I v hI hI2 => by
      unfold F_X7_putUsual_16
      simp only [P_p1, P_gi2, Option.bind_some, w2_k _ _ (show (2 : Nat) ≠ 1 by decide), hI2]
      have hI' : w2 I 3 1 v 3 3 = nI (gL g) := (w2_k _ _ (by decide)).trans hI
      unfold xus
      by_cases q : gB g = 0
      · rw [if_pos (n2.mpr q), if_pos q]; exact c35 _ _ hI'
      · rw [if_neg (fun w => q (n2.mp w)), if_neg q]; exact c35 _ _ hI'
    unfold F_X7_putUsual
    simp only [P_gi1, Option.bind_some, hg.1]
    by_cases q : gN g = 0
    · rw [if_pos (n1.mpr q), show xus 3 (gN g) = 3 from if_pos q]; exact c16 _ _ hg.2.2.1 hg.2.1
    · rw [if_neg (fun w => q (n1.mp w)), show xus 3 (gN g) = gN g from if_neg q]; exact c16 _ _ hg.2.2.1 hg.2.1
  · rw [w2_k _ _ (by decide), w2_k _ _ (by decide), w2_s]
  · rw [w2_k _ _ (by decide), w2_s]
  · rw [w2_k _ _ (by decide), w2_k _ _ (by decide), w2_k _ _ (by decide)]; exact hg.2.2.2.1
  · rw [w2_c _ _ (by decide), w2_c _ _ (by decide), w2_c _ _ (by decide)]; exact hg.2.2.2.2 i hi
  · rw [w2_k _ _ (by decide), w2_k _ _ (by decide), w2_k _ _ (by decide)]; exact h5
def xRf (B : Nat) (I : Nat → Nat → Int32) (J : Nat → Nat → Int64) (E : Nat) (r : Option Nat × gS) (o : Option (Int32 × eH)) : Prop := ∃ v I2, o = some (v, HP B I2 J) ∧ frQ5 I I2 ∧ (r.1 = none → v = -1 ∧ xPu I2 r.2) ∧ ∀ f, r.1 = some f → v = nI f ∧ f ≤ E
theorem t_fill10 {G : eG} (hN : 200 < N) (hG : xinj G) : ∀ n M I g p, gC g + n = 8 → n < M → xTX I X E → xPL I g → gOK g → I 3 5 = nI (gC g) → p ≤ E → I 1 3 = nI p → xRf B I J E (prs X E n g p) (e_loop (fun (k : Nat × Nat × Int32 × eH → Option (Int32 × eH)) s => F_X7_fill_10b N G (fun l0 l1 l2 h => k (l0, l1, l2, h)) s.1 s.2.1 s.2.2.1 s.2.2.2) M (B + 3, B + 1, nI (gC g), HP B I J))
  | 0, M, I, g, p, hc, hM, h, hg, hk, h5, hp, h3 => by have := gC_le hk; omega
  | n + 1, M, I, g, p, hc, hM, h, hg, hk, h5, hp, h3 => by
    have hE := h.2.2.1
    obtain ⟨I1, a1, a2, a3⟩ := xt_step (B := B) (J := J) hN h hp h3
    have hs := xsk_le (X := X) hp
    have h1 := xTX_fr h a3
    have l1 := xPL_S hg a3
    have g5 : I1 3 5 = nI (gC g) := (a3 3 5 (by omega)).trans h5
    rw [e_loop_S (by omega)]
    show xRf B I J E (prs X E (n + 1) g p) (F_X7_fill_10b N G _ (B + 3) (B + 1) (nI (gC g)) (HP B I J))
    unfold F_X7_fill_10b prs
    simp only [if_neg (show ¬ (7 : Int32) < nI (gC g) from nI_nlt (show gC g ≤ 7 by omega) (by decide)), T_is, Option.bind_some, a1, e_bind_some, T_gi4, a2.2.2]
    generalize xsk X E p = s at *
    have e : (nI (xso X E s) = 0) ↔ xso X E s = 0 := nI_eq (show xso X E s < 2 ^ 31 by have := xso_le (X := X) (E := E) (p := s); omega) (show 0 < 2 ^ 31 by decide)
    by_cases q : xso X E s = 0
    · rw [if_pos (e.mpr q), if_pos q]
      obtain ⟨I2, b1, b2', b3⟩ := t_putU (B := B) (J := J) l1 hk g5
      simp only [P_is, Option.bind_some, b1, e_bind_some]
      exact ⟨-1, I2, rfl, frQ5_t (frQ5_P (frP_S a3)) b3, fun _ => ⟨rfl, b2'⟩, fun f hf => by cases hf⟩
    · rw [if_neg (fun w => q (e.mp w)), if_neg q]
      obtain ⟨I2, c1, c2, c3, c4⟩ := xt_words (B := B) (J := J) hN hG h1 hs a2 l1 hk
      have ok := itm_ok (X := X) (E := E) (g := g) (s := s) hk
      have hle := wtm_le (X := X) (g := g) hs
      have c5 : I2 3 5 = nI (gC g) := (c4 3 5 (by omega) (by omega) (by omega)).trans g5
      rw [itm_w] at ok
      rw [itm_w]
      simp only [P_is, Option.bind_some, c1, e_bind_some, b2_0]
      generalize wtm X E g s = r at *
      obtain ⟨r1, r2, r3⟩ := r
      have hle : r3 ≤ E := hle
      have c3 : xAT I2 X E r3 := c3
      have c2 : xPL I2 r2 := c2
      cases r1
      · rw [show wts X E (false, r2, r3) = (false, r2, r3) from rfl]
        simp only [if_true, Bool.false_eq_true, if_false, T_gi2, Option.bind_some]
        exact ⟨I2 1 2, I2, rfl, frQ5_t (frQ5_P (frP_S a3)) (frQ5_P c4), fun w => (by cases w), fun f hf => (by cases hf; exact ⟨c3.1, hle⟩)⟩
      · have hT : wts X E (true, r2, r3) = (decide (xso X E (xsk X E (xnd X E r3)) = 3), r2, xsk X E (xnd X E r3)) := rfl
        rw [hT] at ok
        rw [hT]
        have x2 : xTX I2 X E := xTX_P h1 c4
        obtain ⟨I5, m1, m2, m3⟩ := xt_semi (B := B) (J := J) (l0 := B + 3) hN x2 (xnd_le (X := X) hle) c3.2.1
        have hle5 := xsk_le (X := X) (xnd_le (X := X) hle)
        have p5 : xPL I5 r2 := xPL_S c2 m3
        have c6 : I5 3 5 = nI (gC g) := (m3 3 5 (by omega)).trans c5
        simp only [Bool.true_eq_false, if_false, P_is, Option.bind_some, m1, e_bind_some, b2_0]
        have x5 : xTX I5 X E := xTX_fr x2 m3
        have f5 : frQ5 I I5 := frQ5_t (frQ5_P (frP_S a3)) (frQ5_t (frQ5_P c4) (frQ5_P (frP_S m3)))
        generalize xsk X E (xnd X E r3) = w at *
        generalize decide (xso X E w = 3) = bb at *
        cases bb
        · simp only [if_true, Bool.false_eq_true, if_false, T_gi2, Option.bind_some]
          exact ⟨I5 1 2, I5, rfl, f5, fun w => (by cases w), fun f hf => (by cases hf; exact ⟨m2.1, hle5⟩)⟩
        · have hC : gC r2 = gC g + 1 := ok.2 rfl
          simp only [if_true, Bool.true_eq_false, if_false, P_gi5, P_p5, Option.bind_some, c6, nI_1]
          obtain ⟨I3, hI3⟩ : ∃ I3, I3 = w2 I5 3 5 (nI (gC g + 1)) := ⟨_, rfl⟩
          have f3 : frQ5 I5 I3 := by rw [hI3]; exact frQ5_w
          rw [← hI3, ← hC]
          obtain ⟨v, I4, d1, d2, d3⟩ := t_fill10 hN hG n (M - 1) I3 r2 (xnd X E w) (by omega) (by omega) (xTX_5 x5 f3) ⟨by rw [hI3, w2_k _ _ (by decide)]; exact p5.1, by rw [hI3, w2_k _ _ (by decide)]; exact p5.2.1, by rw [hI3, w2_k _ _ (by decide)]; exact p5.2.2.1, by rw [hI3, w2_k _ _ (by decide)]; exact p5.2.2.2.1, fun i hi => by rw [hI3, w2_c _ _ (by decide)]; exact p5.2.2.2.2 i hi⟩ ok.1 (by rw [hI3, w2_s, hC]) (xnd_le hle5) (by rw [hI3, w2_c _ _ (by decide)]; exact m2.2.1)
          exact ⟨v, I4, d1, frQ5_t f5 (frQ5_t f3 d2), d3⟩
theorem t_fill {G : eG} (hN : 200 < N) (hG : xinj G) (h : xTX I X E) : xRf B I J E (prs X E 8 g0 0) (F_X7_fill N G (B + 3) (B + 1) (HP B I J)) := by
  unfold F_X7_fill F_X7_forget F_X10_rewind
  simp only [P_is, P_p1, P_p2, P_p3, P_p4, P_p5, T_is, T_p3, Option.bind_some, e_bind_some]
  unfold L_X7_fill_10
  obtain ⟨I1, hI1⟩ : ∃ I1, I1 = w2 (w2 (w2 (w2 (w2 (w2 I 3 1 0) 3 2 0) 3 3 0) 3 4 0) 3 5 0) 1 3 0 := ⟨_, rfl⟩
  have f1 : frQ5 I I1 := by rw [hI1]; exact frQ5_t frQ5_w (frQ5_t frQ5_w (frQ5_t frQ5_w (frQ5_t frQ5_w (frQ5_t frQ5_w (fun c z a _ _ => by unfold w2; rw [if_neg (fun q => a ⟨q.1, by omega, by omega⟩)])))))
  rw [← hI1]
  obtain ⟨v, I4, d1, d2, d3⟩ := t_fill10 (X := X) (E := E) (B := B) (J := J) hN hG 8 N I1 g0 0 rfl (by omega) (xTX_5 h f1) ⟨by rw [hI1, w2_c _ _ (by decide), w2_k _ _ (by decide), w2_k _ _ (by decide), w2_k _ _ (by decide), w2_k _ _ (by decide), w2_s]; rfl, by rw [hI1, w2_c _ _ (by decide), w2_k _ _ (by decide), w2_k _ _ (by decide), w2_k _ _ (by decide), w2_s]; rfl, by rw [hI1, w2_c _ _ (by decide), w2_k _ _ (by decide), w2_k _ _ (by decide), w2_s]; rfl, by rw [hI1, w2_c _ _ (by decide), w2_k _ _ (by decide), w2_s]; rfl, fun i hi => absurd hi (Nat.not_lt_zero i)⟩ ⟨⟨by decide, fun q => absurd rfl q⟩, by decide, by decide, by decide, fun i hi => absurd hi (Nat.not_lt_zero i)⟩ (by rw [hI1, w2_c _ _ (by decide), w2_s]; rfl) (Nat.zero_le _) (by rw [hI1, w2_s]; rfl)
  exact ⟨v, I4, d1, frQ5_t f1 d2, d3⟩
/-- a key that holds nothing -/
def zk (y : eKS) (kd : Nat) : Prop := (∀ t, t < 4 → kM y t = 0) ∧ (∀ s, s < 4 → ∀ t, t < 4 → kR y s t = 0) ∧ (∀ f, f < 8 → ∀ j, kS y f j = false) ∧ kF y = 0 ∧ kkd y = kd
theorem zk_cov {y : eKS} {kd : Nat} (h : zk y kd) (hj : j < 160) : cov (kM y) j = false := by
  unfold cov
  rw [h.1 (j / 40) (by omega)]
  rfl
theorem zk_kb (y : eKS) (kd : Nat) : zk (oKb y kd 4) kd := by
  refine ⟨fun t ht => ?_, fun s hs t ht => ?_, fun f hf j => ?_, rfl, rfl⟩
  · have : t = 0 ∨ t = 1 ∨ t = 2 ∨ t = 3 := by omega
    rcases this with rfl | rfl | rfl | rfl <;> rfl
  · have : s = 0 ∨ s = 1 ∨ s = 2 ∨ s = 3 := by omega
    rcases this with rfl | rfl | rfl | rfl <;> rfl
  · have : f = 0 ∨ f = 1 ∨ f = 2 ∨ f = 3 ∨ f = 4 ∨ f = 5 ∨ f = 6 ∨ f = 7 := by omega
    rcases this with rfl | rfl | rfl | rfl | rfl | rfl | rfl | rfl <;> rfl
theorem WFK_z {y : eKS} {kd T : Nat} (hn : n ≤ 4) (h : zk y kd) (hk : kd ≤ 1) : WFK n T y := by
  have h2 := h.2.2.2.2
  refine ⟨fun t ht => ⟨by rw [h.1 t ht]; omega, fun _ => h.1 t ht⟩, fun s hs t ht => ⟨by rw [h.2.1 s hs t ht]; omega, fun _ => h.2.1 s hs t ht⟩, ?_, fun f hf j hj q => ?_, fun s hs j hj q => ?_, fun j hj q => ?_, fun i j hi hj q => ?_, fun j hj q => ?_, by rw [h2]; exact hk⟩
  · intro s hs
    rw [h.1 s (by omega), h.2.1 s (by omega) s (by omega)]
  · rw [h.2.2.1 f hf j] at q; cases q
  · rw [h.2.2.1 (4 + s) (by omega) j] at q; cases q
  · rw [zk_cov h hj] at q; cases q
  · rw [zk_cov h hi] at q; cases q
  · rw [zk_cov h hj] at q; cases q
/-- the state that a text begins -/
def kdg (g : gS) (k : Nat) : Nat := if k < gK g then gD g k else 0
def nTl (x : eST) (g : gS) : eST := (xus 3 (gN g), xus 4 (gB g), xus 4 (gL g), gK g, 0, 0, zX x, 0, zRK x, zRR x, fun _ => 0, zCN x, zCT x, fun k => oKb (zS x k) (kdg g k) 4)
theorem kdg_le (hk : gOK g) : kdg g k ≤ 1 := by
  unfold kdg
  split
  · rename_i h; exact hk.2.2.2.2 k h
  · omega
theorem t_kindOf (hg : xPu I g) (hk : gOK g) (h4 : k < 4) : F_X7_kindOf (B + 3) (nI k) (HP B I J) = some (nI (kdg g k), HP B I J) := by
  unfold F_X7_kindOf kdg
  rw [if_neg (nI_pos (by omega)), P_gi4, Option.bind_some, hg.2.2.2.1]
  by_cases q : k < gK g
  · simp only [if_neg (nI_ge q (show gK g < 2 ^ 31 by have := hk.2.2.2.1; omega)), P_gr0, P_len, Option.bind_some, if_neg (nlt4 h4), P_ai h4, if_pos q, hg.2.2.2.2.1 k q]
  · rw [if_pos (nI_le (by omega) (by omega)), if_neg q]; rfl
theorem t_begin (hN : 200 < N) (h : Cl I J x) (hg : xPu I g) (hk : gOK g) (hE : I 1 1 = 0) : ∃ I2 J2, F_X11_beginAnew N B (HP B I J) = some ((), HP B I2 J2) ∧ Cl I2 J2 (nTl x g) ∧ frC I J I2 J2 ∧ I2 3 5 = I 3 5 := by
  unfold F_X11_beginAnew
  simp only [V_gr1, P_gi1, P_gi2, P_gi3, P_gi4, Option.bind_some, V_p (show 7 ≤ 7 ∧ 7 < 12 by decide), V_p (show 7 ≤ 8 ∧ 8 < 12 by decide), V_p (show 7 ≤ 9 ∧ 9 < 12 by decide), V_p (show 7 ≤ 10 ∧ 10 < 12 by decide), V_p (show 7 ≤ 11 ∧ 11 < 12 by decide), w2_c _ _ (show (3 : Nat) ≠ 0 by decide), hg.1, hg.2.1, hg.2.2.1, hg.2.2.2.1]
  obtain ⟨I1, hI1⟩ : ∃ I1, I1 = w2 (w2 (w2 (w2 (w2 I 0 7 (nI (xus 3 (gN g)))) 0 8 (nI (xus 4 (gB g)))) 0 9 (nI (xus 4 (gL g)))) 0 10 (nI (gK g))) 0 11 0 := ⟨_, rfl⟩
  have f1 : ∀ c, c ≠ 0 → ∀ z, I1 c z = I c z := fun c hc z => by rw [hI1, w2_c _ _ hc, w2_c _ _ hc, w2_c _ _ hc, w2_c _ _ hc, w2_c _ _ hc]
  have a1 : ClA I1 (nTl x g) := by
    rw [hI1]
    refine ⟨?_, ?_, ?_, ?_, w2_s _ _ _ _⟩
    · rw [w2_k _ _ (by decide), w2_k _ _ (by decide), w2_k _ _ (by decide), w2_k _ _ (by decide), w2_s]; rfl
    · rw [w2_k _ _ (by decide), w2_k _ _ (by decide), w2_k _ _ (by decide), w2_s]; rfl
    · rw [w2_k _ _ (by decide), w2_k _ _ (by decide), w2_s]; rfl
    · rw [w2_k _ _ (by decide), w2_s]; rfl
  have g1' : xPu I1 g := ⟨(f1 3 (by decide) _).trans hg.1, (f1 3 (by decide) _).trans hg.2.1, (f1 3 (by decide) _).trans hg.2.2.1, (f1 3 (by decide) _).trans hg.2.2.2.1, fun i hi => (f1 4 (by decide) _).trans (hg.2.2.2.2.1 i hi), (f1 3 (by decide) _).trans hg.2.2.2.2.2⟩
  rw [← hI1]
  unfold L_X11_beginAnew_51
  obtain ⟨s', ⟨I2, J2, rfl, q1, q2, q3⟩, e2⟩ := e_loop_0 (body := fun (k : Nat × Int32 × eH → Option (Unit × eH)) s => F_X11_beginAnew_51b N (fun l0 l1 h => k (l0, l1, h)) s.1 s.2.1 s.2.2) (fun i st => ∃ I2 J2, st = (B, nI i, HP B I2 J2) ∧ (∀ a, a < i → ClK a I2 J2 (oKb (zS x a) (kdg g a) 4)) ∧ (∀ a, i ≤ a → a < 4 → ClK a I2 J2 (zS x a)) ∧ ∀ c, ¬ (13 ≤ c ∧ c < 121) → ∀ z, I2 c z = I1 c z ∧ J2 c z = J c z) 4 (s := (B, 0, HP B I1 J)) (N := N) ⟨I1, J, rfl, fun a ha => absurd ha (Nat.not_lt_zero a), fun a _ ha => ClK_fr ha (h.2.2.2.2 a ha) (fun c h1 h2 z => f1 c (by omega) z) (fun _ _ _ _ => rfl), fun c _ z => ⟨rfl, rfl⟩⟩ (fun i st hi hst => by
    obtain ⟨I2, J2, rfl, q1, q2, q3⟩ := hst
    have g2 : xPu I2 g := ⟨(q3 3 (by decide) _).1.trans g1'.1, (q3 3 (by decide) _).1.trans g1'.2.1, (q3 3 (by decide) _).1.trans g1'.2.2.1, (q3 3 (by decide) _).1.trans g1'.2.2.2.1, fun i hi => (q3 4 (by decide) _).1.trans (g1'.2.2.2.2.1 i hi), (q3 3 (by decide) _).1.trans g1'.2.2.2.2.2⟩
    obtain ⟨I3, J3, b1, b2', b3⟩ := t_kbegin (B := B) hN hi (q2 i (Nat.le_refl i) hi) (kdg g i)
    refine ⟨(B, nI (i + 1), HP B I3 J3), ⟨I3, J3, rfl, fun a ha => ?_, fun a h1 h2 => ClK_fr h2 (q2 a (by omega) h2) (fun c h1 h2 z => (b3 c (by omega) z).1) (fun c h1 h2 z => (b3 c (by omega) z).2), fun c hc z => ⟨(b3 c (by omega) z).1.trans (q3 c hc z).1, (b3 c (by omega) z).2.trans (q3 c hc z).2⟩⟩, fun K => ?_⟩
    · by_cases e : a = i
      · subst e; exact b2'
      · exact ClK_fr (by omega) (q1 a (by omega)) (fun c h1 h2 z => (b3 c (by omega) z).1) (fun c h1 h2 z => (b3 c (by omega) z).2)
    · show F_X11_beginAnew_51b N (fun l0 l1 h => K (l0, l1, h)) B (nI i) (HP B I2 J2) = _
      unfold F_X11_beginAnew_51b
      simp only [V_gr2, A_len5, Option.bind_some, if_neg (nlt4 hi), A_ar5 hi, V_gr1, P_is, t_kindOf g2 hk hi, e_bind_some, K_is hi, b1, nI_1]) (by omega)
  simp only [e2]
  obtain ⟨s', ⟨I3, rfl, r1, r2⟩, e3⟩ := e_loop_0 (body := fun (k : Nat × Int32 × eH → Option (Unit × eH)) s => F_X11_beginAnew_85b N (fun l0 l1 h => k (l0, l1, h)) s.1 s.2.1 s.2.2) (fun i st => ∃ I3, st = (B, nI i, HP B I3 J2) ∧ (∀ c, c < i → I3 (cC c) 0 = -1) ∧ ∀ c, ¬ (121 ≤ c ∧ c < 125) → ∀ z, I3 c z = I2 c z) 4 (s := (B, 0, HP B I2 J2)) (N := N) ⟨I2, rfl, fun a ha => absurd ha (Nat.not_lt_zero a), fun c _ z => rfl⟩ (fun i st hi hst => by
    obtain ⟨I3, rfl, r1, r2⟩ := hst
    refine ⟨(B, nI (i + 1), HP B (w2 (w2 (w2 I3 (cC i) 0 (-1)) (cC i) 1 0) (cC i) 2 0) J2), ⟨_, rfl, fun c hc => ?_, fun c hc z => ?_⟩, fun K => ?_⟩
    · by_cases e : c = i
      · subst e; rw [w2_k _ _ (by decide), w2_k _ _ (by decide), w2_s]
      · have : cC c ≠ cC i := by unfold cC; omega
        rw [w2_c _ _ this, w2_c _ _ this, w2_c _ _ this]; exact r1 c (by omega)
    · have : c ≠ cC i := by unfold cC; omega
      rw [w2_c _ _ this, w2_c _ _ this, w2_c _ _ this]; exact r2 c hc z
    · show F_X11_beginAnew_85b N (fun l0 l1 h => K (l0, l1, h)) B (nI i) (HP B I3 J2) = _
      unfold F_X11_beginAnew_85b F_X0_becomeBlind
      simp only [V_gr3, A_len6, Option.bind_some, if_neg (nlt4 hi), A_ar6 hi, C_is hi, C_p hi (show 0 < 3 by decide), C_p hi (show 1 < 3 by decide), C_p hi (show 2 < 3 by decide), e_bind_some, nI_1]) (by omega)
  refine ⟨w2 I3 7 2 0, J2, ?_, ⟨?_, ⟨?_, fun i hi => absurd hi (Nat.not_lt_zero i)⟩, ⟨w2_s _ _ _ _, fun i hi => absurd hi (Nat.not_lt_zero i)⟩, fun c hc => ⟨?_, fun q => absurd rfl q⟩, fun a ha => ?_⟩, fun c hc z => ⟨?_, (q3 c (by omega) z).2⟩, ?_⟩
  · show F_X11_beginAnew_51b N _ B (nI 4) (HP B I2 J2) = _
    unfold F_X11_beginAnew_51b L_X11_beginAnew_85
    have hd : (4 : Int32) ≤ nI 4 := Int32.le_refl _
    simp only [V_gr2, A_len5, Option.bind_some, if_pos hd, e3]
    show F_X11_beginAnew_85b N _ B (nI 4) (HP B I3 J2) = _
    unfold F_X11_beginAnew_85b F_X5_forget
    simp only [V_gr3, A_len6, Option.bind_some, if_pos hd, V_gr4, Q_is, Q_p2, e_bind_some]
  · have g0' : ∀ z, w2 I3 7 2 0 0 z = I1 0 z := fun z => (w2_c _ _ (by decide)).trans ((r2 0 (by decide) z).trans (q3 0 (by decide) z).1)
    exact ⟨(g0' _).trans a1.1, (g0' _).trans a1.2.1, (g0' _).trans a1.2.2.1, (g0' _).trans a1.2.2.2.1, (g0' _).trans a1.2.2.2.2⟩
  · exact (w2_c _ _ (by decide)).trans ((r2 1 (by decide) 1).trans ((q3 1 (by decide) 1).1.trans ((f1 1 (by decide) 1).trans hE)))
  · rw [w2_c _ _ (by unfold cC; omega)]
    exact r1 c hc
  · exact ClK_fr ha (q1 a ha) (fun c h1 h2 z => (w2_c _ _ (by omega)).trans (r2 c (by omega) z)) (fun _ _ _ _ => rfl)
  · exact (w2_c _ _ (by omega)).trans ((r2 c (by omega) z).trans ((q3 c (by omega) z).1.trans (f1 c (by omega) z)))
  · exact (w2_c _ _ (by decide)).trans ((r2 3 (by decide) 5).trans ((q3 3 (by decide) 5).1.trans (f1 3 (by decide) 5)))
theorem Cl_5 (h : Cl I J x) (hf : frQ5 I I2) : Cl I2 J x := by
  obtain ⟨⟨a1, a2, a3, a4, a5⟩, ⟨b1, b2⟩, ⟨c1, c2⟩, d, e⟩ := h
  have g : ∀ c, c ≠ 1 → c ≠ 3 → c ≠ 4 → ∀ z, I2 c z = I c z := fun c h1 h2 h3 z => hf c z (by omega) h2 h3
  refine ⟨⟨(g 0 (by decide) (by decide) (by decide) _).trans a1, (g 0 (by decide) (by decide) (by decide) _).trans a2, (g 0 (by decide) (by decide) (by decide) _).trans a3, (g 0 (by decide) (by decide) (by decide) _).trans a4, (g 0 (by decide) (by decide) (by decide) _).trans a5⟩, ⟨(hf 1 1 (by omega) (by decide) (by decide)).trans b1, fun i hi => (g 2 (by decide) (by decide) (by decide) _).trans (b2 i hi)⟩, ⟨(g 7 (by decide) (by decide) (by decide) _).trans c1, fun i hi => ⟨(g 8 (by decide) (by decide) (by decide) _).trans (c2 i hi).1, (g 9 (by decide) (by decide) (by decide) _).trans (c2 i hi).2⟩⟩, ClC_fr d (fun c hc z => g _ (by unfold cC; omega) (by unfold cC; omega) (by unfold cC; omega) z) rfl rfl rfl, fun k hk => ClK_fr hk (e k hk) (fun c h1 h2 z => g c (by omega) (by omega) (by omega) z) (fun _ _ _ _ => rfl)⟩
/-- what tells answers -/
def aTl (r : Option Nat × gS) : Int32 := match r.1 with
  | none => nI (gC r.2)
  | some f => -10 - nI f
def nTs (x : eST) (r : Option Nat × gS) : eST := match r.1 with
  | none => nTl x r.2
  | some _ => x
theorem c_tells {G : eG} (hN : 200 < N) (hG : xinj G) (h : Cl I J x) (w : WF x) : ∃ I2 J2, F_X11_tells N G B (HP B I J) = some (aTl (prs (zX x) (zE x) 8 g0 0), HP B I2 J2) ∧ Cl I2 J2 (nTs x (prs (zX x) (zE x) 8 g0 0)) ∧ frC I J I2 J2 := by
  have hx : xTX I (zX x) (zE x) := ⟨h.2.1.1, h.2.1.2, w.2.2.2.2.2.1.1, w.2.2.2.2.2.1.2⟩
  obtain ⟨v, I1, a1, a2, a3, a4⟩ := t_fill (B := B) (J := J) hN hG hx
  have ok := prs_ok (X := zX x) (E := zE x) 8 g0 0 ⟨⟨by decide, fun q => absurd rfl q⟩, by decide, by decide, by decide, fun i hi => absurd hi (Nat.not_lt_zero i)⟩
  have c1 := Cl_5 h a2
  have fc1 : frC I J I1 J := fun c hc z => ⟨a2 c z (by omega) (by omega) (by omega), rfl⟩
  unfold F_X11_tells
  simp only [V_gr1, V_gr0, Option.bind_some, P_is, a1, e_bind_some]
  generalize prs (zX x) (zE x) 8 g0 0 = r at *
  obtain ⟨r1, r2⟩ := r
  cases r1 with
  | some f =>
    obtain ⟨hv, hf⟩ := a4 f rfl
    have hE := w.2.2.2.2.2.1.1
    rw [if_neg (by rw [hv]; intro q; exact nI_pos (show f < 2 ^ 31 by omega) (by rw [q]; decide))]
    exact ⟨I1, J, by rw [hv]; rfl, c1, fc1⟩
  | none =>
    obtain ⟨hv, hp⟩ := a3 rfl
    rw [if_pos hv]
    have hT : h_p (HP B I1 J) 9 (B + 1) 1 (.int 0) = some (HP B (w2 I1 1 1 0) J) := T_p (by decide)
    obtain ⟨I2, hI2⟩ : ∃ I2, I2 = w2 I1 1 1 0 := ⟨_, rfl⟩
    have f2 : ∀ c, c ≠ 1 → ∀ z, I2 c z = I1 c z := fun c hc z => by rw [hI2, w2_c _ _ hc]
    have c2 : Cl I2 J (vE x 0) := Cl_mk c1 rfl (fun c h1 _ z => f2 c (by omega) z) (fun _ _ _ _ => rfl) ⟨(f2 0 (by decide) _).trans c1.1.1, (f2 0 (by decide) _).trans c1.1.2.1, (f2 0 (by decide) _).trans c1.1.2.2.1, (f2 0 (by decide) _).trans c1.1.2.2.2.1, (f2 0 (by decide) _).trans c1.1.2.2.2.2⟩ ⟨by rw [hI2, w2_s]; rfl, fun i hi => absurd hi (Nat.not_lt_zero i)⟩ ⟨(f2 7 (by decide) _).trans c1.2.2.1.1, fun i hi => ⟨(f2 8 (by decide) _).trans (c1.2.2.1.2 i hi).1, (f2 9 (by decide) _).trans (c1.2.2.1.2 i hi).2⟩⟩ (ClC_fr c1.2.2.2.1 (fun c hc z => f2 _ (by unfold cC; omega) z) rfl rfl rfl)
    have hp2 : xPu I2 r2 := ⟨(f2 3 (by decide) _).trans hp.1, (f2 3 (by decide) _).trans hp.2.1, (f2 3 (by decide) _).trans hp.2.2.1, (f2 3 (by decide) _).trans hp.2.2.2.1, fun i hi => (f2 4 (by decide) _).trans (hp.2.2.2.2.1 i hi), (f2 3 (by decide) _).trans hp.2.2.2.2.2⟩
    obtain ⟨I3, J3, b1, b2', b3, b4⟩ := t_begin (B := B) hN c2 hp2 ok (by rw [hI2, w2_s])
    refine ⟨I3, J3, ?_, b2', frC_t fc1 (frC_t (fun c hc z => ⟨f2 c (by omega) z, rfl⟩) b3)⟩
    unfold F_X10_empty
    simp only [T_is, Option.bind_some, hT, e_bind_some, V_is, ← hI2, b1, V_gr1, P_gi5, b4, hp2.2.2.2.2.2, aTl]
end TL5
