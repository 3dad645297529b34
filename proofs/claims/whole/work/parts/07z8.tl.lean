/-! TELLS: the reference's items; forgets -/
def rPL (I : Nat → Nat → Int32) (g : gS) : Prop := I 125 30 = nI (gN g) ∧ I 125 31 = nI (gB g) ∧ I 125 32 = nI (gL g) ∧ I 125 33 = nI (gK g) ∧ ∀ i, i < gK g → I 145 i = nI (gD g i)
def frV (I : Nat → Nat → Int32) (J : Nat → Nat → Int64) (I2 : Nat → Nat → Int32) (J2 : Nat → Nat → Int64) : Prop := (∀ c z, ¬ (c = 125 ∧ 26 ≤ z) → c ≠ 145 → I2 c z = I c z) ∧ ∀ c z, ¬ (c = 125 ∧ z = 29) → J2 c z = J c z
theorem frV_r {I : Nat → Nat → Int32} {J : Nat → Nat → Int64} : frV I J I J := ⟨fun _ _ _ _ => rfl, fun _ _ _ => rfl⟩
theorem frV_t {I I2 I3 : Nat → Nat → Int32} {J J2 J3 : Nat → Nat → Int64} (h : frV I J I2 J2) (h2 : frV I2 J2 I3 J3) : frV I J I3 J3 := ⟨fun c z a b => (h2.1 c z a b).trans (h.1 c z a b), fun c z q => (h2.2 c z q).trans (h.2 c z q)⟩
theorem frV_N {I I2 : Nat → Nat → Int32} {J J2 : Nat → Nat → Int64} (h : frN I J I2 J2) : frV I J I2 J2 := ⟨fun c z a _ => h.1 c z (by omega), h.2⟩
theorem frV_w {I : Nat → Nat → Int32} {J : Nat → Nat → Int64} {z : Nat} {v : Int32} (h : 26 ≤ z) : frV I J (w2 I 125 z v) J := ⟨fun c z2 q _ => by
  unfold w2
  rw [if_neg]
  rintro ⟨rfl, rfl⟩
  exact q ⟨rfl, h⟩, fun _ _ _ => rfl⟩
theorem frV_145 {I : Nat → Nat → Int32} {J : Nat → Nat → Int64} {z : Nat} {v : Int32} : frV I J (w2 I 145 z v) J := ⟨fun c z2 _ q => w2_c _ _ q, fun _ _ _ => rfl⟩
theorem rPL_N {I I2 : Nat → Nat → Int32} {J J2 : Nat → Nat → Int64} {g : gS} (h : rPL I g) (hf : frN I J I2 J2) : rPL I2 g := ⟨(hf.1 125 30 (by omega)).trans h.1, (hf.1 125 31 (by omega)).trans h.2.1, (hf.1 125 32 (by omega)).trans h.2.2.1, (hf.1 125 33 (by omega)).trans h.2.2.2.1, fun i hi => (hf.1 145 i (by omega)).trans (h.2.2.2.2 i hi)⟩
theorem rTX_M {I I2 : Nat → Nat → Int32} {J J2 : Nat → Nat → Int64} {X : Nat → Nat} {E : Nat} (h : rTX I X E) (hf : frV I J I2 J2) : rTX I2 X E := ⟨(hf.1 125 24 (by omega) (by omega)).trans h.1, fun i hi => (hf.1 144 i (by omega) (by omega)).trans (h.2.1 i hi), h.2.2⟩
section TL4
variable {B N : Nat} {I I2 : Nat → Nat → Int32} {J J2 : Nat → Nat → Int64} {X : Nat → Nat} {E p s q i j n lo hi : Nat} {g : gS} {v : Int32}
theorem xnd_l (hs : s ≤ E) (h : xso X E s = 1) : s ≤ xnd X E s ∧ ∀ j, j < xnd X E s - s → xso X E (s + j) = 1 := by
  obtain ⟨i, a1, a2, a3, a4⟩ := xnd_e hs (Or.inl h)
  refine ⟨by omega, fun j hj => ?_⟩
  rcases j with _ | j
  · exact h
  · rw [show s + (j + 1) = s + 1 + j by omega, a3 j (by omega)]; exact h
theorem xm_word {z : Int64} (hs : s ≤ E) (h : xso X E s = 1) (hz : z = tkI X s (xnd X E s - s)) (hq : q < 5) : (lg_cmp z (Int64.ofNat (xwc q)) = 0) ↔ xW X E s q = true := by
  obtain ⟨h0, hX⟩ := xnd_l hs h
  have hW : 0 < xwc q ∧ xwc q < 32 ^ 5 := (by decide : ∀ q, q < 5 → 0 < xwc q ∧ xwc q < 32 ^ 5) q hq
  rw [lg_cmp0, hz, tkI_eq hX hW]
  unfold xW
  rw [decide_eq_true_iff]
  have all5 : ∀ P : Nat → Prop, (∀ i, i < 5 → P i) ↔ P 0 ∧ P 1 ∧ P 2 ∧ P 3 ∧ P 4 := fun P => ⟨fun h => ⟨h 0 (by decide), h 1 (by decide), h 2 (by decide), h 3 (by decide), h 4 (by decide)⟩, fun ⟨a, b, c, d, e⟩ i hi => by
    have : i = 0 ∨ i = 1 ∨ i = 2 ∨ i = 3 ∨ i = 4 := by omega
    rcases this with rfl | rfl | rfl | rfl | rfl
    · exact a
    · exact b
    · exact c
    · exact d
    · exact e⟩
  have all4 : ∀ P : Nat → Prop, (∀ i, i < 4 → P i) ↔ P 0 ∧ P 1 ∧ P 2 ∧ P 3 := fun P => ⟨fun h => ⟨h 0 (by decide), h 1 (by decide), h 2 (by decide), h 3 (by decide)⟩, fun ⟨a, b, c, d⟩ i hi => by
    have : i = 0 ∨ i = 1 ∨ i = 2 ∨ i = 3 := by omega
    rcases this with rfl | rfl | rfl | rfl
    · exact a
    · exact b
    · exact c
    · exact d⟩
  have hc : q = 0 ∨ q = 1 ∨ q = 2 ∨ q = 3 ∨ q = 4 := by omega
  rcases hc with rfl | rfl | rfl | rfl | rfl
  · rw [show xwc 0 = 24395141 from rfl, tkv_w0 hX, show xwl 0 = 5 from rfl, all5]
    refine ⟨fun ⟨a, b⟩ => ⟨h, by omega, b⟩, fun ⟨_, a, b⟩ => ⟨by omega, b⟩⟩
  · rw [show xwc 1 = 75411 from rfl, tkv_w1 hX, show xwl 1 = 4 from rfl, all4]
    refine ⟨fun ⟨a, b⟩ => ⟨h, by omega, b⟩, fun ⟨_, a, b⟩ => ⟨by omega, b⟩⟩
  · rw [show xwc 2 = 20238515 from rfl, tkv_w2 hX, show xwl 2 = 5 from rfl, all5]
    refine ⟨fun ⟨a, b⟩ => ⟨h, by omega, b⟩, fun ⟨_, a, b⟩ => ⟨by omega, b⟩⟩
  · rw [show xwc 3 = 2610628 from rfl, tkv_w3 hX, show xwl 3 = 5 from rfl, all5]
    refine ⟨fun ⟨a, b⟩ => ⟨h, by omega, b⟩, fun ⟨_, a, b⟩ => ⟨by omega, b⟩⟩
  · rw [show xwc 4 = 12891444 from rfl, tkv_w4 hX, show xwl 4 = 5 from rfl, all5]
    refine ⟨fun ⟨a, b⟩ => ⟨h, by omega, b⟩, fun ⟨_, a, b⟩ => ⟨by omega, b⟩⟩
/-- no token is two words -/
theorem xW_u {q2 : Nat} (hq : q < 5) (hq2 : q2 < 5) (h : xW X E s q = true) (h2 : xW X E s q2 = true) : q = q2 := by
  obtain ⟨_, _, a⟩ := of_decide_eq_true h
  obtain ⟨_, _, b⟩ := of_decide_eq_true h2
  have l : ∀ q, q < 5 → 0 < xwl q ∧ 1 < xwl q := by decide
  have e0 := (a 0 (l q hq).1).symm.trans (b 0 (l q2 hq2).1)
  have e1 := (a 1 (l q hq).2).symm.trans (b 1 (l q2 hq2).2)
  exact (by decide : ∀ q, q < 5 → ∀ q2, q2 < 5 → xwb q 0 = xwb q2 0 → xwb q 1 = xwb q2 1 → q = q2) q hq q2 hq2 e0 e1
theorem xW_1 (h : xW X E s q = true) : xso X E s = 1 := (of_decide_eq_true h).1
theorem xm_w0 (h : eH) : F_X12_word 23 8 15 12 5 h = some (Int64.ofNat (xwc 0), h) := by
  unfold F_X12_word
  exact congrArg (fun v => some (v, h)) (by decide +kernel)
theorem xm_w1 (h : eH) : F_X12_word 0 2 9 20 19 h = some (Int64.ofNat (xwc 1), h) := by
  unfold F_X12_word
  exact congrArg (fun v => some (v, h)) (by decide +kernel)
theorem xm_w2 (h : eH) : F_X12_word 19 9 20 5 19 h = some (Int64.ofNat (xwc 2), h) := by
  unfold F_X12_word
  exact congrArg (fun v => some (v, h)) (by decide +kernel)
theorem xm_w3 (h : eH) : F_X12_word 2 15 21 14 4 h = some (Int64.ofNat (xwc 3), h) := by
  unfold F_X12_word
  exact congrArg (fun v => some (v, h)) (by decide +kernel)
theorem xm_w4 (h : eH) : F_X12_word 12 9 13 9 20 h = some (Int64.ofNat (xwc 4), h) := by
  unfold F_X12_word
  exact congrArg (fun v => some (v, h)) (by decide +kernel)
def xRr (B : Nat) (I : Nat → Nat → Int32) (J : Nat → Nat → Int64) (X : Nat → Nat) (E : Nat) (r : Bool × gS × Nat) (o : Option (Int32 × eH)) : Prop := ∃ I2 J2, o = some (b2 r.1, HP B I2 J2) ∧ rPL I2 r.2.1 ∧ rAT I2 J2 X E r.2.2 ∧ frV I J I2 J2
theorem zbz {h : eH} {b : Bool} : ((h_z (b2 b)).bind fun z => some (z, h)) = some (b2 b, h) := by cases b <;> rfl
theorem xm_key {l : Int64} {kd : Nat} {s0 : Int32} (hN : 200 < N) (h : rTX I X E) (hs : s ≤ E) (ha : rAT I J X E s) (hg : rPL I g) (hk : gK g ≤ 4) (hkd : (s0 = 0 ∧ kd = 1 ∧ l = Int64.ofNat (xwc 1)) ∨ (s0 = 1 ∧ kd = 0)) : xRr B I J X E (itK X E g s kd) (F_X12_readsItem_189 N (B + 125) l s0 (HP B I J)) := by
  have hnd := xnd_le (X := X) hs
  unfold F_X12_readsItem_189 itK
  have e : (nI (gK g) = 4) ↔ gK g = 4 := nI_eq (show gK g < 2 ^ 31 by omega) (show 4 < 2 ^ 31 by decide)
  rw [M_gi33, Option.bind_some, hg.2.2.2.1]
  by_cases q : gK g < 4
  · rw [if_pos q, if_neg (show ¬ nI (gK g) = 4 from fun w => by have := e.mp w; omega)]
    obtain ⟨vk, hvk⟩ : ∃ vk : Int32, vk = nI kd := ⟨_, rfl⟩
    have hgo : xRr B I J X E (decide (xso X E (xsk X E (xnd X E s)) = 3), gK' g kd, xsk X E (xnd X E s)) (F_X12_readsItem_237 N (B + 125) (B + 145) (nI (gK g)) vk (HP B I J)) := by
      obtain ⟨I1, hI1⟩ : ∃ I1, I1 = w2 (w2 I 145 (gK g) vk) 125 33 (nI (gK g + 1)) := ⟨_, rfl⟩
      have f1 : frV I J I1 J := by rw [hI1]; exact frV_t frV_145 (frV_w (by decide))
      have l1 : rPL I1 (gK' g kd) := by
        rw [hI1]
        refine ⟨?_, ?_, ?_, w2_s _ _ _ _, fun i hi => ?_⟩
        · rw [w2_k _ _ (by decide), w2_c _ _ (by decide)]; exact hg.1
        · rw [w2_k _ _ (by decide), w2_c _ _ (by decide)]; exact hg.2.1
        · rw [w2_k _ _ (by decide), w2_c _ _ (by decide)]; exact hg.2.2.1
        · rw [w2_c _ _ (by decide)]
          show w2 I 145 (gK g) vk 145 i = nI (if i = gK g then kd else gD g i)
          have hi2 : i < gK g + 1 := hi
          by_cases r : i = gK g
          · rw [r, w2_s, if_pos rfl, hvk]
          · rw [w2_k _ _ r, if_neg r]; exact hg.2.2.2.2 i (by omega)
      have g26 : I1 125 26 = nI (xnd X E s) := by rw [hI1, w2_k _ _ (by decide), w2_c _ _ (by decide)]; exact ha.2.1
      obtain ⟨I2, J2, a1, a2, a3⟩ := xm_stops (B := B) (J := J) hN (rTX_M h f1) hnd g26
      refine ⟨I2, J2, ?_, rPL_N l1 a3, a2, frV_t f1 (frV_N a3)⟩
      have e4 : w2 I 145 (gK g) vk 125 33 = nI (gK g) := (w2_c _ _ (by decide)).trans hg.2.2.2.1
      unfold F_X12_readsItem_237
      simp only [R_si145 q, M_gi33, M_p33, M_is, Option.bind_some, e4, nI_1, ← hI1, a1, e_bind_some, zbz]
    have h220 : xRr B I J X E (decide (xso X E (xsk X E (xnd X E s)) = 3), gK' g kd, xsk X E (xnd X E s)) (F_X12_readsItem_220 N (B + 125) s0 (HP B I J)) := by
      unfold F_X12_readsItem_220
      rw [M_gr34, Option.bind_some, M_gi33, Option.bind_some, hg.2.2.2.1]
      rcases hkd with ⟨r1, r2, _⟩ | ⟨r1, r2⟩
      · subst r2; rw [r1, if_pos rfl]; rw [hvk] at hgo; exact hgo
      · subst r2; rw [r1, if_neg (by decide)]; rw [hvk] at hgo; exact hgo
    rcases hkd with ⟨r1, r2, r3⟩ | ⟨r1, r2⟩
    · rw [if_pos r1, xm_w1, e_bind_some, if_pos ((lg_cmp0 _ _).mpr r3)]; exact h220
    · rw [if_neg (by rw [r1]; decide)]; exact h220
  · rw [if_neg q, if_pos (e.mpr (by omega))]
    exact ⟨I, J, rfl, hg, ha, frV_r⟩
theorem l32_n {d : Nat} : ((nI d).toInt64).toInt32 = nI d := Int32.toInt32_toInt64 (nI d)
theorem xm_itN (hN : 200 < N) (h : rTX I X E) (hs : s ≤ E) (ha : rAT I J X E s) (hg : rPL I g) : xRr B I J X E (itN X E 2 4 g (gN' g) s) (e_bind (F_X12_number N (B + 125) 2 4 (HP B I J)) fun v28 h29 => if v28 = 0 then ((h_z 0).bind fun z => some (z, h29)) else ((h_gl h29 11 (B + 125) 29).bind fun v30 => (h_p h29 11 (B + 125) 30 (.int (v30.toInt32))).bind fun h31 => (h_is h31 11 (B + 125)).bind fun _ => e_bind (F_X12_stops N (B + 125) h31) fun v32 h33 => (h_z v32).bind fun z => some (z, h33))) := by
  have hE := h.2.2.1
  have hnd := xnd_le (X := X) hs
  have hs1 := xsk_le (X := X) hnd
  obtain ⟨I1, J1, a1, a0, a2, a3⟩ := xm_num (B := B) (J := J) (lo := 2) (hi := 4) (lo' := 2) (hi' := 4) hN h hnd ha.2.1 rfl rfl (by decide) (by decide) (by decide)
  have l1 := rPL_N hg a3
  simp only [a1, e_bind_some, b2_0]
  unfold itN
  obtain ⟨tk, htk⟩ : ∃ tk, tk = xtk X E 2 4 (xsk X E (xnd X E s)) := ⟨_, rfl⟩
  rw [← htk] at a0 ⊢
  by_cases hz0 : tk = 0
  · rw [if_pos hz0, if_pos (decide_eq_false (fun w => w hz0))]
    exact ⟨I1, J1, rfl, l1, a2, frV_N a3⟩
  · rw [if_neg hz0, if_neg (by rw [decide_eq_true hz0]; decide)]
    obtain ⟨I2, hI2⟩ : ∃ I2, I2 = w2 I1 125 30 (nI tk) := ⟨_, rfl⟩
    have f2 : frV I1 J1 I2 J1 := by rw [hI2]; exact frV_w (by decide)
    have l5 : I2 125 33 = nI (gK g) ∧ ∀ i, i < gK g → I2 145 i = nI (gD g i) := ⟨by rw [hI2, w2_k _ _ (by decide)]; exact l1.2.2.2.1, fun i hi => by rw [hI2, w2_c _ _ (by decide)]; exact l1.2.2.2.2 i hi⟩
    have x2 : rTX I2 X E := rTX_M (rTX_N h a3) f2
    have g26 : I2 125 26 = nI (xnd X E (xsk X E (xnd X E s))) := by rw [hI2, w2_k _ _ (by decide)]; exact a2.2.1
    obtain ⟨I3, J3, c1, c2, c3⟩ := xm_stops (B := B) (J := J1) hN x2 (xnd_le (X := X) hs1) g26
    simp only [M_gl29, Option.bind_some, a0 hz0, l32_n, M_p30, M_is, ← hI2, c1, e_bind_some, zbz]
    exact ⟨I3, J3, rfl, rPL_N (g := gN' g tk) ⟨by rw [hI2, w2_s]; rfl, by rw [hI2, w2_k _ _ (by decide)]; exact l1.2.1, by rw [hI2, w2_k _ _ (by decide)]; exact l1.2.2.1, l5⟩ c3, c2, frV_t (frV_N a3) (frV_t f2 (frV_N c3))⟩
theorem xm_itB (hN : 200 < N) (h : rTX I X E) (hs : s ≤ E) (ha : rAT I J X E s) (hg : rPL I g) : xRr B I J X E (itN X E 1 6 g (gB' g) s) (e_bind (F_X12_number N (B + 125) 1 6 (HP B I J)) fun v28 h29 => if v28 = 0 then ((h_z 0).bind fun z => some (z, h29)) else ((h_gl h29 11 (B + 125) 29).bind fun v30 => (h_p h29 11 (B + 125) 31 (.int (v30.toInt32))).bind fun h31 => (h_is h31 11 (B + 125)).bind fun _ => e_bind (F_X12_stops N (B + 125) h31) fun v32 h33 => (h_z v32).bind fun z => some (z, h33))) := by
  have hE := h.2.2.1
  have hnd := xnd_le (X := X) hs
  have hs1 := xsk_le (X := X) hnd
  obtain ⟨I1, J1, a1, a0, a2, a3⟩ := xm_num (B := B) (J := J) (lo := 1) (hi := 6) (lo' := 1) (hi' := 6) hN h hnd ha.2.1 rfl rfl (by decide) (by decide) (by decide)
  have l1 := rPL_N hg a3
  simp only [a1, e_bind_some, b2_0]
  unfold itN
  obtain ⟨tk, htk⟩ : ∃ tk, tk = xtk X E 1 6 (xsk X E (xnd X E s)) := ⟨_, rfl⟩
  rw [← htk] at a0 ⊢
  by_cases hz0 : tk = 0
  · rw [if_pos hz0, if_pos (decide_eq_false (fun w => w hz0))]
    exact ⟨I1, J1, rfl, l1, a2, frV_N a3⟩
  · rw [if_neg hz0, if_neg (by rw [decide_eq_true hz0]; decide)]
    obtain ⟨I2, hI2⟩ : ∃ I2, I2 = w2 I1 125 31 (nI tk) := ⟨_, rfl⟩
    have f2 : frV I1 J1 I2 J1 := by rw [hI2]; exact frV_w (by decide)
    have l5 : I2 125 33 = nI (gK g) ∧ ∀ i, i < gK g → I2 145 i = nI (gD g i) := ⟨by rw [hI2, w2_k _ _ (by decide)]; exact l1.2.2.2.1, fun i hi => by rw [hI2, w2_c _ _ (by decide)]; exact l1.2.2.2.2 i hi⟩
    have x2 : rTX I2 X E := rTX_M (rTX_N h a3) f2
    have g26 : I2 125 26 = nI (xnd X E (xsk X E (xnd X E s))) := by rw [hI2, w2_k _ _ (by decide)]; exact a2.2.1
    obtain ⟨I3, J3, c1, c2, c3⟩ := xm_stops (B := B) (J := J1) hN x2 (xnd_le (X := X) hs1) g26
    simp only [M_gl29, Option.bind_some, a0 hz0, l32_n, M_p31, M_is, ← hI2, c1, e_bind_some, zbz]
    exact ⟨I3, J3, rfl, rPL_N (g := gB' g tk) ⟨by rw [hI2, w2_k _ _ (by decide)]; exact l1.1, by rw [hI2, w2_s]; rfl, by rw [hI2, w2_k _ _ (by decide)]; exact l1.2.2.1, l5⟩ c3, c2, frV_t (frV_N a3) (frV_t f2 (frV_N c3))⟩
theorem xm_itL (hN : 200 < N) (h : rTX I X E) (hs : s ≤ E) (ha : rAT I J X E s) (hg : rPL I g) : xRr B I J X E (itN X E 1 4 g (gL' g) s) (e_bind (F_X12_number N (B + 125) 1 4 (HP B I J)) fun v28 h29 => if v28 = 0 then ((h_z 0).bind fun z => some (z, h29)) else ((h_gl h29 11 (B + 125) 29).bind fun v30 => (h_p h29 11 (B + 125) 32 (.int (v30.toInt32))).bind fun h31 => (h_is h31 11 (B + 125)).bind fun _ => e_bind (F_X12_stops N (B + 125) h31) fun v32 h33 => (h_z v32).bind fun z => some (z, h33))) := by
  have hE := h.2.2.1
  have hnd := xnd_le (X := X) hs
  have hs1 := xsk_le (X := X) hnd
  obtain ⟨I1, J1, a1, a0, a2, a3⟩ := xm_num (B := B) (J := J) (lo := 1) (hi := 4) (lo' := 1) (hi' := 4) hN h hnd ha.2.1 rfl rfl (by decide) (by decide) (by decide)
  have l1 := rPL_N hg a3
  simp only [a1, e_bind_some, b2_0]
  unfold itN
  obtain ⟨tk, htk⟩ : ∃ tk, tk = xtk X E 1 4 (xsk X E (xnd X E s)) := ⟨_, rfl⟩
  rw [← htk] at a0 ⊢
  by_cases hz0 : tk = 0
  · rw [if_pos hz0, if_pos (decide_eq_false (fun w => w hz0))]
    exact ⟨I1, J1, rfl, l1, a2, frV_N a3⟩
  · rw [if_neg hz0, if_neg (by rw [decide_eq_true hz0]; decide)]
    obtain ⟨I2, hI2⟩ : ∃ I2, I2 = w2 I1 125 32 (nI tk) := ⟨_, rfl⟩
    have f2 : frV I1 J1 I2 J1 := by rw [hI2]; exact frV_w (by decide)
    have l5 : I2 125 33 = nI (gK g) ∧ ∀ i, i < gK g → I2 145 i = nI (gD g i) := ⟨by rw [hI2, w2_k _ _ (by decide)]; exact l1.2.2.2.1, fun i hi => by rw [hI2, w2_c _ _ (by decide)]; exact l1.2.2.2.2 i hi⟩
    have x2 : rTX I2 X E := rTX_M (rTX_N h a3) f2
    have g26 : I2 125 26 = nI (xnd X E (xsk X E (xnd X E s))) := by rw [hI2, w2_k _ _ (by decide)]; exact a2.2.1
    obtain ⟨I3, J3, c1, c2, c3⟩ := xm_stops (B := B) (J := J1) hN x2 (xnd_le (X := X) hs1) g26
    simp only [M_gl29, Option.bind_some, a0 hz0, l32_n, M_p32, M_is, ← hI2, c1, e_bind_some, zbz]
    exact ⟨I3, J3, rfl, rPL_N (g := gL' g tk) ⟨by rw [hI2, w2_k _ _ (by decide)]; exact l1.1, by rw [hI2, w2_k _ _ (by decide)]; exact l1.2.1, by rw [hI2, w2_s]; rfl, l5⟩ c3, c2, frV_t (frV_N a3) (frV_t f2 (frV_N c3))⟩
theorem xm_item (hN : 200 < N) (h : rTX I X E) (hp : p ≤ E) (h26 : I 125 26 = nI p) (hg : rPL I g) (hk : gOK g) : xRr B I J X E (itm X E g (xsk X E p)) (F_X12_readsItem N (B + 125) (HP B I J)) := by
  obtain ⟨I1, J1, a1, a2, a3⟩ := xm_next (B := B) (J := J) hN h hp h26
  have hs := xsk_le (X := X) hp
  have h1 := rTX_N h a3
  have l1 := rPL_N hg a3
  suffices hh : xRr B I1 J1 X E (itm X E g (xsk X E p)) (F_X12_readsItem N (B + 125) (HP B I J)) by
    obtain ⟨I2, J2, c1, c2, c3, c4⟩ := hh
    exact ⟨I2, J2, c1, c2, c3, frV_t (frV_N a3) c4⟩
  unfold F_X12_readsItem
  simp only [M_is, Option.bind_some, a1, e_bind_some, M_gi28, a2.2.2.1]
  generalize xsk X E p = s at *
  have e : (nI (xrs X E s) = 1) ↔ xrs X E s = 1 := nI_eq (show xrs X E s < 2 ^ 31 by have := xrs_le (X := X) (E := E) (s := s); omega) (show 1 < 2 ^ 31 by decide)
  have hno : xRr B I1 J1 X E (false, g, s) (some (0, HP B I1 J1)) := ⟨I1, J1, rfl, l1, a2, frV_r⟩
  by_cases r : xso X E s = 1
  · rw [if_pos (e.mpr (xrs_1.mpr r))]
    have w := fun q (hq : q < 5) => xm_word (q := q) hs r (a2.2.2.2.1 r) hq
    have n1 : (nI (gN g) = 0) ↔ gN g = 0 := nI_eq (show gN g < 2 ^ 31 by have := hk.1.1; omega) (show 0 < 2 ^ 31 by decide)
    have n2 : (nI (gB g) = 0) ↔ gB g = 0 := nI_eq (show gB g < 2 ^ 31 by have := hk.2.1; omega) (show 0 < 2 ^ 31 by decide)
    have n3 : (nI (gL g) = 0) ↔ gL g = 0 := nI_eq (show gL g < 2 ^ 31 by have := hk.2.2.1; omega) (show 0 < 2 ^ 31 by decide)
    simp only [M_gl29, Option.bind_some, xm_w2, xm_w3, xm_w4, xm_w0, e_bind_some, M_gi30, M_gi31, M_gi32, l1.1, l1.2.1, l1.2.2.1, M_is]
    have no := fun q q2 (hq : q < 5) (hq2 : q2 < 5) (hne : q ≠ q2) (hw : xW X E s q = true) => (show ¬ xW X E s q2 = true from fun w2' => hne (xW_u hq hq2 hw w2'))
    by_cases c2 : xW X E s 2 = true
    · rw [if_pos ((w 2 (by decide)).mpr c2)]
      by_cases z : gN g = 0
      · rw [if_pos (n1.mpr z), show itm X E g s = itN X E 2 4 g (gN' g) s from by unfold itm; rw [if_neg (no 2 0 (by decide) (by decide) (by decide) c2), if_neg (no 2 1 (by decide) (by decide) (by decide) c2), if_pos ⟨c2, z⟩]]
        exact xm_itN hN h1 hs a2 l1
      · rw [if_neg (fun q => z (n1.mp q)), show itm X E g s = (false, g, s) from by unfold itm; rw [if_neg (no 2 0 (by decide) (by decide) (by decide) c2), if_neg (no 2 1 (by decide) (by decide) (by decide) c2), if_neg (fun q => z q.2), if_neg (fun q => no 2 3 (by decide) (by decide) (by decide) c2 q.1), if_neg (fun q => no 2 4 (by decide) (by decide) (by decide) c2 q.1)]]
        exact hno
    · rw [if_neg (fun q => c2 ((w 2 (by decide)).mp q))]
      by_cases c3 : xW X E s 3 = true
      · rw [if_pos ((w 3 (by decide)).mpr c3)]
        by_cases z : gB g = 0
        · rw [if_pos (n2.mpr z), show itm X E g s = itN X E 1 6 g (gB' g) s from by unfold itm; rw [if_neg (no 3 0 (by decide) (by decide) (by decide) c3), if_neg (no 3 1 (by decide) (by decide) (by decide) c3), if_neg (fun q => c2 q.1), if_pos ⟨c3, z⟩]]
          exact xm_itB hN h1 hs a2 l1
        · rw [if_neg (fun q => z (n2.mp q)), show itm X E g s = (false, g, s) from by unfold itm; rw [if_neg (no 3 0 (by decide) (by decide) (by decide) c3), if_neg (no 3 1 (by decide) (by decide) (by decide) c3), if_neg (fun q => c2 q.1), if_neg (fun q => z q.2), if_neg (fun q => no 3 4 (by decide) (by decide) (by decide) c3 q.1)]]
          exact hno
      · rw [if_neg (fun q => c3 ((w 3 (by decide)).mp q))]
        by_cases c4 : xW X E s 4 = true
        · rw [if_pos ((w 4 (by decide)).mpr c4)]
          by_cases z : gL g = 0
          · rw [if_pos (n3.mpr z), show itm X E g s = itN X E 1 4 g (gL' g) s from by unfold itm; rw [if_neg (no 4 0 (by decide) (by decide) (by decide) c4), if_neg (no 4 1 (by decide) (by decide) (by decide) c4), if_neg (fun q => c2 q.1), if_neg (fun q => c3 q.1), if_pos ⟨c4, z⟩]]
            exact xm_itL hN h1 hs a2 l1
          · rw [if_neg (fun q => z (n3.mp q)), show itm X E g s = (false, g, s) from by unfold itm; rw [if_neg (no 4 0 (by decide) (by decide) (by decide) c4), if_neg (no 4 1 (by decide) (by decide) (by decide) c4), if_neg (fun q => c2 q.1), if_neg (fun q => c3 q.1), if_neg (fun q => z q.2)]]
            exact hno
        · rw [if_neg (fun q => c4 ((w 4 (by decide)).mp q))]
          by_cases c0 : xW X E s 0 = true
          · rw [if_pos ((w 0 (by decide)).mpr c0), show itm X E g s = itK X E g s 0 from by unfold itm; rw [if_pos c0]]
            exact xm_key hN h1 hs a2 l1 hk.2.2.2.1 (Or.inr ⟨rfl, rfl⟩)
          · rw [if_neg (fun q => c0 ((w 0 (by decide)).mp q))]
            by_cases c1 : xW X E s 1 = true
            · rw [show itm X E g s = itK X E g s 1 from by unfold itm; rw [if_neg c0, if_pos c1]]
              exact xm_key hN h1 hs a2 l1 hk.2.2.2.1 (Or.inl ⟨rfl, rfl, (lg_cmp0 _ _).mp ((w 1 (by decide)).mpr c1)⟩)
            · rw [show itm X E g s = (false, g, s) from by unfold itm; rw [if_neg c0, if_neg c1, if_neg (fun q => c2 q.1), if_neg (fun q => c3 q.1), if_neg (fun q => c4 q.1)]]
              unfold F_X12_readsItem_189
              rw [M_gi33, Option.bind_some]
              have hcm : ¬ lg_cmp (J1 125 29) (Int64.ofNat (xwc 1)) = 0 := fun q => c1 ((w 1 (by decide)).mp q)
              by_cases q4 : I1 125 33 = 4
              · rw [if_pos q4]; exact hno
              · rw [if_neg q4, if_pos rfl, xm_w1, e_bind_some, if_neg hcm]; exact hno
  · rw [if_neg (fun q => r (xrs_1.mp (e.mp q)))]
    have c : ∀ q, ¬ xW X E s q = true := fun q w => r (xW_1 w)
    rw [show itm X E g s = (false, g, s) from by unfold itm; rw [if_neg (c 0), if_neg (c 1), if_neg (fun q => c 2 q.1), if_neg (fun q => c 3 q.1), if_neg (fun q => c 4 q.1)]]
    exact hno
end TL4
