/-! REFERENCE: writes -/
/-- states one after the other, chosen once -/
theorem steps {α : Type} (P : Nat → α → Prop) (Q : Nat → α → α → Prop) (n : Nat) {a0 : α} (h0 : P 0 a0) (hs : ∀ i a, i < n → P i a → ∃ b, P (i + 1) b ∧ Q i a b) : ∃ f : Nat → α, f 0 = a0 ∧ ∀ i, i ≤ n → P i (f i) ∧ (i < n → Q i (f i) (f (i + 1))) := by
  induction n with
  | zero => exact ⟨fun _ => a0, rfl, fun i hi => by rw [show i = 0 by omega]; exact ⟨h0, fun q => absurd q (Nat.lt_irrefl 0)⟩⟩
  | succ n ih =>
    obtain ⟨f, f0, f1⟩ := ih (fun i a hi hp => hs i a (by omega) hp)
    obtain ⟨b, b1, b2'⟩ := hs n (f n) (by omega) (f1 n (Nat.le_refl n)).1
    obtain ⟨F, hF⟩ : ∃ F : Nat → α, ∀ i, F i = if i ≤ n then f i else b := ⟨_, fun _ => rfl⟩
    refine ⟨F, by rw [hF, if_pos (Nat.zero_le n)]; exact f0, fun i hi => ?_⟩
    rcases Nat.lt_or_ge n i with e | e
    · have : i = n + 1 := by omega
      subst this
      rw [hF, if_neg (by omega)]
      exact ⟨b1, fun q => absurd q (Nat.lt_irrefl _)⟩
    · rw [hF i, if_pos (show i ≤ n from e)]
      refine ⟨(f1 i e).1, fun _ => ?_⟩
      by_cases q : i = n
      · subst q
        rw [hF, if_neg (by omega)]; exact b2'
      · rw [hF, if_pos (by omega)]; exact (f1 i e).2 (by omega)
section RWRITES
variable {B : Nat} {I I2 I3 : Nat → Nat → Int32} {J : Nat → Nat → Int64} {x : eST} {y z : eKS} {a b c k l s t i j n m T W : Nat} {mt mk : Nat → Nat} {v : Int64}
/-- the key after the search for what the new write tells and knows -/
theorem oT3_s (y : eKS) (s : Nat) (mt mk : Nat → Nat) : kS (oT3 y s mt mk) (4 + s) = fun j => kS y (4 + s) j && !cov mt j := by
  have e1 : kS (oT1 y s mt) (4 + s) = kS y (4 + s) := oS_ne (by omega)
  have e3 : kS (oT2 y s mt) (4 + s) = fun j => kS (oT1 y s mt) (4 + s) j && !cov mt j := if_pos rfl
  show kS (oT2 y s mt) (4 + s) = _
  rw [e3, e1]
theorem oT3_2 (y : eKS) (s : Nat) (mt mk : Nat → Nat) : kS (oT3 y s mt mk) 2 = fun j => kS y 2 j || (kS y (4 + s) j && cov mt j) := by
  have e3 : kS (oT2 y s mt) 2 = kS (oT1 y s mt) 2 := oS_ne (by omega)
  show kS (oT2 y s mt) 2 = _
  rw [e3]
  rfl
theorem oT3_o (y : eKS) (s : Nat) (mt mk : Nat → Nat) {f : Nat} (h1 : f ≠ 4 + s) (h2 : f ≠ 2) : kS (oT3 y s mt mk) f = kS y f := by
  have e3 : kS (oT2 y s mt) f = kS (oT1 y s mt) f := oS_ne h1
  have e4 : kS (oT1 y s mt) f = kS y f := oS_ne h2
  show kS (oT2 y s mt) f = _
  rw [e3, e4]
def nbw (y : eKS) (s : Nat) (mt mk : Nat → Nat) (p : Nat) : Int32 := hb (fun v => plc (kS (oT3 y s mt mk) (4 + v)) p) 4
def nrw (y : eKS) (s : Nat) (mt mk : Nat → Nat) (p : Nat) : Int32 := b2 (plc (kS (oT3 y s mt mk) 2) p)
def qfw (y : eKS) (s : Nat) (mt mk : Nat → Nat) (j : Nat) : Bool := (kS y (4 + s) j && !cov mt j) && cov mk j
/-- the search has gone through the places below m -/
def WI (k : Nat) (y : eKS) (s : Nat) (mt mk : Nat → Nat) (I2 : Nat → Nat → Int32) (m : Nat) (I3 : Nat → Nat → Int32) : Prop :=
  (∀ p, p < 164 → I3 135 (164 * k + p) = if p < m then nbw y s mt mk p else I2 135 (164 * k + p)) ∧ (∀ p, p < 164 → I3 133 (164 * k + p) = if p < m then nrw y s mt mk p else I2 133 (164 * k + p)) ∧ I3 138 k = kF y + nI (ct (plc (qfw y s mt mk)) m) ∧ ∀ d q, ¬ ((d = 135 ∨ d = 133) ∧ q / 164 = k) → ¬ (d = 138 ∧ q = k) → I3 d q = I2 d q
theorem WI_0 (h : MoK k I2 J y) : WI k y s mt mk I2 0 I2 := by
  refine ⟨fun p _ => (if_neg (Nat.not_lt_zero p)).symm, fun p _ => (if_neg (Nat.not_lt_zero p)).symm, ?_, fun _ _ _ _ => rfl⟩
  rw [h.2.2.1]
  show _ = kF y + 0
  rw [Int32.add_zero]
theorem b2_o (b : Bool) : (b || false) = b := by cases b <;> rfl
/-- a place where nothing changes -/
theorem WI_skip1 (hs : s < 4) (h : MoK k I2 J y) (hw : WI k y s mt mk I2 m I3) (hm : m < 164) (hn : plc (kS y (4 + s)) m = false) : WI k y s mt mk I2 (m + 1) I3 := by
  obtain ⟨a1, a2, a3, a4⟩ := hw
  have key : ∀ q : Nat → Bool, (∀ j, q j = (kS y (4 + s) j && q j)) → plc q m = false := by
    intro q hq
    by_cases h0 : m % 41 = 0
    · exact plc_0 _ h0
    · rw [plc_1 _ h0] at hn ⊢
      rw [hq, hn]; rfl
  refine ⟨fun p hp => ?_, fun p hp => ?_, ?_, a4⟩
  · rw [a1 p hp]
    by_cases e : p = m
    · rw [e, if_neg (Nat.lt_irrefl m), if_pos (Nat.lt_succ_self m), Y_beside h hm]
      unfold nbw
      refine hb_cong (fun u hu => ?_)
      by_cases q : u = s
      · rw [q, hn, oT3_s]
        exact (key _ (fun j => by cases kS y (4 + s) j <;> simp)).symm
      · rw [oT3_o y s mt mk (show 4 + u ≠ 4 + s by omega) (by omega)]
    · by_cases e2 : p < m
      · rw [if_pos e2, if_pos (by omega)]
      · rw [if_neg e2, if_neg (by omega)]
  · rw [a2 p hp]
    by_cases e : p = m
    · rw [e, if_neg (Nat.lt_irrefl m), if_pos (Nat.lt_succ_self m), Y_set h (f := 2) (by decide) hm]
      unfold nrw
      rw [oT3_2]
      by_cases h0 : m % 41 = 0
      · rw [plc_0 _ h0, plc_0 _ h0]
      · rw [plc_1 _ h0] at hn ⊢
        rw [plc_1 _ h0, hn]
        simp
    · by_cases e2 : p < m
      · rw [if_pos e2, if_pos (by omega)]
      · rw [if_neg e2, if_neg (by omega)]
  · rw [a3]
    show _ = kF y + nI (ct (plc (qfw y s mt mk)) m + if plc (qfw y s mt mk) m = true then 1 else 0)
    rw [key (qfw y s mt mk) (fun j => by unfold qfw; cases kS y (4 + s) j <;> simp)]
    rfl
theorem WI_skip (hs : s < 4) (h : MoK k I2 J y) : ∀ d, WI k y s mt mk I2 m I3 → m + d ≤ 164 → (∀ q, m ≤ q → q < m + d → plc (kS y (4 + s)) q = false) → WI k y s mt mk I2 (m + d) I3
  | 0, hw, _, _ => hw
  | d + 1, hw, h1, h2 => WI_skip1 (m := m + d) hs h (WI_skip hs h d hw (by omega) (fun q a b => h2 q a (by omega))) (by omega) (h2 (m + d) (by omega) (by omega))
theorem plc_nc (hcv : ∀ j, j < 160 → kS y (4 + s) j = true → cov (kM y) j = true) {q : Nat} (hq : q < 164) (hn : q % 41 = 0 ∨ cov (kM y) (plj q) = false) : plc (kS y (4 + s)) q = false := by
  by_cases h0 : q % 41 = 0
  · exact plc_0 _ h0
  · rw [plc_1 _ h0]
    cases e : kS y (4 + s) (plj q)
    · rfl
    · have := hcv _ (plj_lt hq) e
      rw [hn.resolve_left h0] at this
      cases this
theorem y_wr233 {N : Nat} (hk : k < 4) (hs : s < 4) (ht : t < 4) (h : MoK k I2 J y) (hw : WI k y s mt mk I2 (41 * t + 1 + i) I3) (hi : i < kM y t) (hM : kM y t ≤ 40) (hW : W < 656) (hmt : mt t ≤ 40) (hmk : mk t ≤ 40) (hto : I2 129 (4 * W + t) = nI (mt t) ∧ I2 130 (4 * W + t) = nI (mk t)) : ∃ I4, WI k y s mt mk I2 (41 * t + 1 + (i + 1)) I4 ∧ ∀ (K221 : Nat → Int32 → Int32 → Int64 → Int32 → Int32 → eH → Option (Int32 × eH)) (K : Nat → Int32 → Int32 → Int64 → Int32 → Int32 → Int32 → eH → Option (Int32 × eH)), F_X12_writes_233b N K221 K (B + 125) (nI s) (nI k) v (nI W) (nI t) (nI (i + 1)) (HP B I3 J) = K (B + 125) (nI s) (nI k) v (nI W) (nI t) (nI (i + 1 + 1)) (HP B I4 J) := by
  have hj : 40 * t + i < 160 := by omega
  have hp := plp_lt hj
  have e := plp_ti (t := t) (show i < 40 by omega)
  have hm : 41 * t + 1 + i = plp (40 * t + i) := by omega
  have hP : 164 * k + plp (40 * t + i) < 656 := by omega
  have hw' := hw
  obtain ⟨a1, a2, a3, a4⟩ := hw
  have g1 : I3 135 (164 * k + plp (40 * t + i)) = hb (fun s => kS y (4 + s) (40 * t + i)) 4 := by
    rw [a1 _ hp, if_neg (by omega)]; exact Y_besideJ h hj
  have g2 : I3 136 (4 * k + t) = nI (kM y t) := (a4 _ _ (by omega) (by omega)).trans (Y_made h ht)
  have g3 : I3 129 (4 * W + t) = nI (mt t) := (a4 _ _ (by omega) (by omega)).trans hto.1
  have g4 : I3 130 (4 * W + t) = nI (mk t) := (a4 _ _ (by omega) (by omega)).trans hto.2
  have c1 : cov mt (40 * t + i) = decide (i < mt t) := cov_ti _ (by omega)
  have c2 : cov mk (40 * t + i) = decide (i < mk t) := cov_ti _ (by omega)
  have body : ∀ (K221 : Nat → Int32 → Int32 → Int64 → Int32 → Int32 → eH → Option (Int32 × eH)) (K : Nat → Int32 → Int32 → Int64 → Int32 → Int32 → Int32 → eH → Option (Int32 × eH)), F_X12_writes_233b N K221 K (B + 125) (nI s) (nI k) v (nI W) (nI t) (nI (i + 1)) (HP B I3 J) = if kS y (4 + s) (40 * t + i) = false then K (B + 125) (nI s) (nI k) v (nI W) (nI t) (nI (i + 1 + 1)) (HP B I3 J) else if mt t < i + 1 then (if mk t < i + 1 then K (B + 125) (nI s) (nI k) v (nI W) (nI t) (nI (i + 1 + 1)) (HP B I3 J) else K (B + 125) (nI s) (nI k) v (nI W) (nI t) (nI (i + 1 + 1)) (HP B (w2 I3 138 k (I3 138 k + 1)) J)) else K (B + 125) (nI s) (nI k) v (nI W) (nI t) (nI (i + 1 + 1)) (HP B (w2 (w2 I3 135 (164 * k + plp (40 * t + i)) (hb (fun u => kS y (4 + u) (40 * t + i) && !decide (u = s)) 4)) 133 (164 * k + plp (40 * t + i)) 1) J) := by
    intro K221 K
    unfold F_X12_writes_233b F_X12_writes_320 F_X12_writes_352
    simp only [M_gr15, M_gr14, M_gr8, M_gr9, M_gr12, M_gr17, n_4, nI_add, R_ai136 (show 4 * k + t < 16 by omega), g2, Option.bind_some, if_neg (nI_nlt (show i + 1 ≤ kM y t from hi) (show kM y t < 2 ^ 31 by omega)), at_ti k (show i < 40 by omega), e_bind_some, R_ai135 hP, g1, hb_has _ hs, b2_0, R_ai129 (show 4 * W + t < 2624 by omega), R_ai130 (show 4 * W + t < 2624 by omega), g3, g4, nI_ltI (show mt t < 2 ^ 31 by omega) (show i + 1 < 2 ^ 31 by omega), nI_ltI (show mk t < 2 ^ 31 by omega) (show i + 1 < 2 ^ 31 by omega), hb_rem _ hs, R_si135 hP, R_si133 hP, nar_1, R_ai138 hk, R_si138 hk, nI_1]
    cases kS y (4 + s) (40 * t + i)
    · simp only [if_true]
    · simp only [Bool.true_eq_false, if_false]
  by_cases q1 : kS y (4 + s) (40 * t + i) = false
  · refine ⟨I3, WI_skip1 (m := 41 * t + 1 + i) hs h hw' (by omega) (by rw [hm, plc_p]; exact q1), fun K221 K => ?_⟩
    rw [body, if_pos q1]
  · have q1t : kS y (4 + s) (40 * t + i) = true := by cases h : kS y (4 + s) (40 * t + i); exact absurd h q1; rfl
    by_cases q2 : mt t < i + 1
    · -- not told: nothing goes
      have d1 : cov mt (40 * t + i) = false := by rw [c1]; exact decide_eq_false (by omega)
      have z1 : nbw y s mt mk (41 * t + 1 + i) = I2 135 (164 * k + (41 * t + 1 + i)) := by
        rw [hm, Y_besideJ h hj]
        unfold nbw
        refine hb_cong (fun u hu => ?_)
        rw [plc_p]
        by_cases q : u = s
        · rw [q, oT3_s]; simp only [d1, Bool.not_false, Bool.and_true]
        · rw [oT3_o y s mt mk (show 4 + u ≠ 4 + s by omega) (by omega)]
      have z2 : nrw y s mt mk (41 * t + 1 + i) = I2 133 (164 * k + (41 * t + 1 + i)) := by
        rw [hm, Y_set2 h hj]
        unfold nrw
        rw [plc_p, oT3_2]; simp only [d1, Bool.and_false, Bool.or_false]
      have hct : ∀ bb : Bool, cov mk (40 * t + i) = bb → ct (plc (qfw y s mt mk)) (41 * t + 1 + (i + 1)) = ct (plc (qfw y s mt mk)) (41 * t + 1 + i) + if bb = true then 1 else 0 := by
        intro bb hbb
        show ct _ (41 * t + 1 + i) + (if plc (qfw y s mt mk) (41 * t + 1 + i) = true then 1 else 0) = _
        rw [hm, plc_p]
        unfold qfw
        rw [q1t, d1, hbb]; rfl
      have nx : ∀ p, p < 164 → ∀ (f : Nat → Int32) (d : Nat), f (41 * t + 1 + i) = I2 d (164 * k + (41 * t + 1 + i)) → (if p < 41 * t + 1 + i then f p else I2 d (164 * k + p)) = if p < 41 * t + 1 + (i + 1) then f p else I2 d (164 * k + p) := by
        intro p _ f d hf
        by_cases e : p = 41 * t + 1 + i
        · rw [e, if_neg (Nat.lt_irrefl _), if_pos (by omega), hf]
        · by_cases e2 : p < 41 * t + 1 + i
          · rw [if_pos e2, if_pos (by omega)]
          · rw [if_neg e2, if_neg (by omega)]
      by_cases q3 : mk t < i + 1
      · refine ⟨I3, ⟨fun p hp => (a1 p hp).trans (nx p hp _ 135 z1), fun p hp => (a2 p hp).trans (nx p hp _ 133 z2), ?_, a4⟩, fun K221 K => ?_⟩
        · rw [hct false (by rw [c2]; exact decide_eq_false (by omega)), a3]; rfl
        · rw [body, if_neg q1, if_pos q2, if_pos q3]
      · refine ⟨w2 I3 138 k (I3 138 k + 1), ⟨fun p hp => (w2_c _ _ (by decide)).trans ((a1 p hp).trans (nx p hp _ 135 z1)), fun p hp => (w2_c _ _ (by decide)).trans ((a2 p hp).trans (nx p hp _ 133 z2)), ?_, fun d q hd1 hd2 => (w2_ne (fun e1 e2 => hd2 ⟨e1, e2⟩)).trans (a4 d q hd1 hd2)⟩, fun K221 K => ?_⟩
        · rw [w2_s, hct true (by rw [c2]; exact decide_eq_true (by omega)), a3, Int32.add_assoc, nI_1]; rfl
        · rw [body, if_neg q1, if_pos q2, if_neg q3]
    · -- told: it is replaced
      have d1 : cov mt (40 * t + i) = true := by rw [c1]; exact decide_eq_true (by omega)
      refine ⟨w2 (w2 I3 135 (164 * k + plp (40 * t + i)) (hb (fun u => kS y (4 + u) (40 * t + i) && !decide (u = s)) 4)) 133 (164 * k + plp (40 * t + i)) 1, ⟨fun p hp => ?_, fun p hp => ?_, ?_, fun d q hd1 hd2 => ?_⟩, fun K221 K => ?_⟩
      · rw [w2_c _ _ (by decide)]
        by_cases e2 : p = plp (40 * t + i)
        · rw [e2, w2_s, if_pos (by omega)]
          unfold nbw
          refine hb_cong (fun u hu => ?_)
          rw [plc_p]
          by_cases q : u = s
          · rw [q, oT3_s]; simp only [d1, Bool.not_true, Bool.and_false, decide_true]
          · rw [oT3_o y s mt mk (show 4 + u ≠ 4 + s by omega) (by omega), decide_eq_false q, Bool.not_false, Bool.and_true]
        · rw [w2_k _ _ (by omega), a1 p hp]
          by_cases e3 : p < 41 * t + 1 + i
          · rw [if_pos e3, if_pos (by omega)]
          · rw [if_neg e3, if_neg (by omega)]
      · by_cases e2 : p = plp (40 * t + i)
        · rw [e2, w2_s, if_pos (by omega)]
          unfold nrw
          rw [plc_p, oT3_2]
          simp only [d1, q1t, Bool.and_true, Bool.or_true, b2_t]
        · rw [w2_k _ _ (by omega), w2_c _ _ (by decide), a2 p hp]
          by_cases e3 : p < 41 * t + 1 + i
          · rw [if_pos e3, if_pos (by omega)]
          · rw [if_neg e3, if_neg (by omega)]
      · rw [w2_c _ _ (by decide), w2_c _ _ (by decide), a3]
        show _ = kF y + nI (ct (plc (qfw y s mt mk)) (41 * t + 1 + i) + if plc (qfw y s mt mk) (41 * t + 1 + i) = true then 1 else 0)
        rw [hm, plc_p]
        unfold qfw
        rw [d1, Bool.not_true, Bool.and_false, Bool.false_and]
        rfl
      · rw [w2_ne (fun e1 e2 => hd1 ⟨Or.inr e1, by omega⟩), w2_ne (fun e1 e2 => hd1 ⟨Or.inl e1, by omega⟩)]
        exact a4 d q hd1 hd2
      · rw [body, if_neg q1, if_neg q2]
theorem WI_end (h : MoK k I2 J y) (hw : WI k y s mt mk I2 164 I3) : MoK k I3 J (oT3 y s mt mk) ∧ frQ k I2 J I3 J := by
  obtain ⟨a1, a2, a3, a4⟩ := hw
  obtain ⟨h1, h2, h3, h4, h5, h6⟩ := h
  refine ⟨⟨fun t ht => (a4 _ _ (by omega) (by omega)).trans (h1 t ht), fun s hs t ht => (a4 _ _ (by omega) (by omega)).trans (h2 s hs t ht), ?_, fun p hp => ?_, fun f hf p hp => ?_, fun j hj hc => ?_⟩, fun d q hdq => ⟨a4 d q (fun e => hdq ⟨by omega, by omega, ?_⟩) (fun e => hdq ⟨by omega, by omega, ?_⟩), rfl⟩⟩
  · rw [a3, ct_164]
    show _ = kF y + nI (ct (fun j => kS (oT2 y s mt) (4 + s) j && cov mk j) 160)
    rw [show kS (oT2 y s mt) (4 + s) = fun j => kS y (4 + s) j && !cov mt j from oT3_s y s mt mk]
    rfl
  · rw [a1 p hp, if_pos hp]; rfl
  · by_cases e : f = 2
    · subst e
      rw [a2 p hp, if_pos hp]; rfl
    · rw [a4 _ _ (by omega) (by omega), h5 f hf p hp, oT3_o y s mt mk (by omega) e]
  · obtain ⟨g1, g2, g3⟩ := h6 j hj hc
    exact ⟨(a4 _ _ (by omega) (by omega)).trans g1, g2, fun t ht => ⟨(a4 _ _ (by omega) (by omega)).trans (g3 t ht).1, (a4 _ _ (by omega) (by omega)).trans (g3 t ht).2⟩⟩
  · have hd : dvR d = 164 := by rcases e.1 with r | r <;> subst r <;> rfl
    rw [hd]; exact e.2
  · rw [e.1, e.2]
    show k / 1 = k
    omega
theorem frQ_5 {v5 : Int32} (h : frQ k I2 J I3 J) : frQ k (w2 I2 125 5 v5) J (w2 I3 125 5 v5) J := by
  intro d q hdq
  refine ⟨?_, rfl⟩
  unfold w2
  rw [(h d q hdq).1]
/-- the whole inner run of writes -/
theorem y_writes {N : Nat} (hN : 300 < N) (hk : k < 4) (hs : s < n) (h : MoK k I2 J y) (hW : WFK n T y) (hT2 : T < 2 ^ 30) (hn : n ≤ 4) (hn40 : kR y s s < 40) (h0 : I2 125 0 = nI n) (hT : I2 125 5 = nI T) (hB : I2 125 1 = nI b) (hb2 : b < 2 ^ 31) (hmt : ∀ t, t < 4 → mt t ≤ 40) (hmk : ∀ t, t < 4 → mk t ≤ 40) (hto : ∀ t, t < 4 → I2 129 (4 * (164 * k + plp (40 * s + kR y s s)) + t) = nI (mt t) ∧ I2 130 (4 * (164 * k + plp (40 * s + kR y s s)) + t) = nI (mk t)) : ∃ I4 J4, L_X12_writes_221 N (B + 125) (nI s) (nI k) v (nI (164 * k + plp (40 * s + kR y s s))) 0 (HP B I2 J) = some (nI (kR y s s + 1), HP B I4 J4) ∧ MoK k I4 J4 (oWr y s v (T + 1) mt mk b) ∧ frQ k (w2 I2 125 5 (nI (T + 1))) J I4 J4 := by
  have hs4 : s < 4 := by omega
  obtain ⟨W, hWd⟩ : ∃ W, W = 164 * k + plp (40 * s + kR y s s) := ⟨_, rfl⟩
  have hp := plp_lt (show 40 * s + kR y s s < 160 by omega)
  have hW6 : W < 656 := by omega
  rw [← hWd] at hto ⊢
  have hcv := fun j hj q => hW.2.2.2.1 (4 + s) (by omega) j hj q
  have inner : ∀ (t : Nat) (I3 : Nat → Nat → Int32), t < 4 → WI k y s mt mk I2 (41 * t) I3 → ∃ I4, WI k y s mt mk I2 (41 * (t + 1)) I4 ∧ ∀ (K221 : Nat → Int32 → Int32 → Int64 → Int32 → Int32 → eH → Option (Int32 × eH)), L_X12_writes_233 N K221 (B + 125) (nI s) (nI k) v (nI W) (nI t) 1 (HP B I3 J) = K221 (B + 125) (nI s) (nI k) v (nI W) (nI (t + 1)) (HP B I4 J) := by
    intro t I3 ht hw
    have hMt := (hW.1 t ht).1
    have hw1 : WI k y s mt mk I2 (41 * t + 1 + 0) I3 := WI_skip hs4 h 1 hw (by omega) (fun q h1 h2 => plc_nc hcv (by omega) (Or.inl (by omega)))
    obtain ⟨f, f0, f1⟩ : ∃ f : Nat → (Nat → Nat → Int32), f 0 = I3 ∧ ∀ i, i ≤ kM y t → WI k y s mt mk I2 (41 * t + 1 + i) (f i) ∧ (i < kM y t → ∀ (K221 : Nat → Int32 → Int32 → Int64 → Int32 → Int32 → eH → Option (Int32 × eH)) (K : Nat → Int32 → Int32 → Int64 → Int32 → Int32 → Int32 → eH → Option (Int32 × eH)), F_X12_writes_233b N K221 K (B + 125) (nI s) (nI k) v (nI W) (nI t) (nI (i + 1)) (HP B (f i) J) = K (B + 125) (nI s) (nI k) v (nI W) (nI t) (nI (i + 1 + 1)) (HP B (f (i + 1)) J)) := by
      refine steps (fun i M => WI k y s mt mk I2 (41 * t + 1 + i) M) (fun i M M2 => ∀ (K221 : Nat → Int32 → Int32 → Int64 → Int32 → Int32 → eH → Option (Int32 × eH)) (K : Nat → Int32 → Int32 → Int64 → Int32 → Int32 → Int32 → eH → Option (Int32 × eH)), F_X12_writes_233b N K221 K (B + 125) (nI s) (nI k) v (nI W) (nI t) (nI (i + 1)) (HP B M J) = K (B + 125) (nI s) (nI k) v (nI W) (nI t) (nI (i + 1 + 1)) (HP B M2 J)) (kM y t) hw1 (fun i M hi c1 => ?_)
      exact y_wr233 (B := B) (N := N) (v := v) hk hs4 ht h c1 hi hMt hW6 (hmt t ht) (hmk t ht) (hto t ht)
    have q1 := (f1 (kM y t) (Nat.le_refl _)).1
    refine ⟨f (kM y t), ?_, fun K221 => ?_⟩
    · have := WI_skip hs4 h (40 - kM y t) q1 (by omega) (fun q h1 h2 => plc_nc hcv (by omega) (Or.inr (by
        unfold cov plj
        rw [show (40 * (q / 41) + (q % 41 - 1)) / 40 = t by omega]
        exact decide_eq_false (by omega))))
      rwa [show 41 * t + 1 + kM y t + (40 - kM y t) = 41 * (t + 1) by omega] at this
    · unfold L_X12_writes_233
      have e1 := e_loop_f (body := fun (k : Nat × Int32 × Int32 × Int64 × Int32 × Int32 × Int32 × eH → Option (Int32 × eH)) s => F_X12_writes_233b N K221 (fun l0 l2 l3 l5 l8 l9 l10 h => k (l0, l2, l3, l5, l8, l9, l10, h)) s.1 s.2.1 s.2.2.1 s.2.2.2.1 s.2.2.2.2.1 s.2.2.2.2.2.1 s.2.2.2.2.2.2.1 s.2.2.2.2.2.2.2) (fun i => (B + 125, nI s, nI k, v, nI W, nI t, nI (i + 1), HP B (f i) J)) (kM y t) (N := N) (fun i hi K => (f1 i (by omega)).2 hi K221 (fun l0 l2 l3 l5 l8 l9 l10 h => K (l0, l2, l3, l5, l8, l9, l10, h))) (by omega)
      rw [f0] at e1
      refine Eq.trans e1 ?_
      show F_X12_writes_233b N K221 _ (B + 125) (nI s) (nI k) v (nI W) (nI t) (nI (kM y t + 1)) (HP B (f (kM y t)) J) = _
      have g2 : f (kM y t) 136 (4 * k + t) = nI (kM y t) := (q1.2.2.2 _ _ (by omega) (by omega)).trans (Y_made h ht)
      unfold F_X12_writes_233b
      simp only [M_gr15, n_4, nI_add, R_ai136 (show 4 * k + t < 16 by omega), g2, Option.bind_some, if_pos (nI_lt (show kM y t < kM y t + 1 by omega) (show kM y t + 1 < 2 ^ 31 by omega)), nI_1]
  obtain ⟨s', ⟨I3, hs', q1⟩, q3⟩ := e_loop_0 (body := fun (k : Nat × Int32 × Int32 × Int64 × Int32 × Int32 × eH → Option (Int32 × eH)) s => F_X12_writes_221b N (fun l0 l2 l3 l5 l8 l9 h => k (l0, l2, l3, l5, l8, l9, h)) s.1 s.2.1 s.2.2.1 s.2.2.2.1 s.2.2.2.2.1 s.2.2.2.2.2.1 s.2.2.2.2.2.2) (fun i st => ∃ I3, st = (B + 125, nI s, nI k, v, nI W, nI i, HP B I3 J) ∧ WI k y s mt mk I2 (41 * i) I3) n (N := N) (s := (B + 125, nI s, nI k, v, nI W, 0, HP B I2 J)) ⟨I2, rfl, WI_0 h⟩ (fun i st hi hst => by
    obtain ⟨I3, hst, c1⟩ := hst
    subst hst
    obtain ⟨I4, d1, d2⟩ := inner i I3 (by omega) c1
    refine ⟨(B + 125, nI s, nI k, v, nI W, nI (i + 1), HP B I4 J), ⟨I4, rfl, d1⟩, fun K => ?_⟩
    show F_X12_writes_221b N _ (B + 125) (nI s) (nI k) v (nI W) (nI i) (HP B I3 J) = _
    have g0 : I3 125 0 = nI n := (c1.2.2.2 _ _ (by omega) (by omega)).trans h0
    unfold F_X12_writes_221b
    simp only [M_gi0, g0, Option.bind_some, if_neg (nI_ge hi (show n < 2 ^ 31 by omega))]
    exact d2 _) (by omega)
  have q2 := WI_skip hs4 h (164 - 41 * n) q1 (by omega) (fun q h1 h2 => plc_nc hcv (by omega) (Or.inr (by
    have := (hW.1 (plj q / 40) (by have := plj_lt (show q < 164 by omega); omega)).2 (by unfold plj; omega)
    unfold cov
    rw [this]
    exact decide_eq_false (Nat.not_lt_zero _))))
  rw [show 41 * n + (164 - 41 * n) = 164 by omega] at q2
  obtain ⟨m1, m2⟩ := WI_end h q2
  have fr3 : ∀ d q, ¬ ((d = 135 ∨ d = 133) ∧ q / 164 = k) → ¬ (d = 138 ∧ q = k) → I3 d q = I2 d q := q1.2.2.2
  obtain ⟨I4, J4, t1, t2, t3⟩ := y_comes (B := B) (z := oT3 y s mt mk) (v := v) (mt := mt) (mk := mk) (T := T) (b := b) hN hk hs4 m1 (hW.2.2.1 s hs).symm hn40 (fun t ht => (hW.1 t ht).1) (fun t ht => Nat.le_trans (hW.2.1 s hs4 t ht).1 (hW.1 t ht).1) hmt (fun f hf j hj q => by
    by_cases e : f = 4 + s
    · subst e
      rw [oT3_s] at q
      simp only [Bool.and_eq_true] at q
      exact hcv j hj q.1
    · by_cases e2 : f = 2
      · subst e2
        rw [oT3_2] at q
        simp only [Bool.or_eq_true, Bool.and_eq_true] at q
        exact q.elim (fun q => hW.2.2.2.1 2 (by decide) j hj q) (fun q => hcv j hj q.1)
      · rw [oT3_o y s mt mk e e2] at q
        exact hW.2.2.2.1 f hf j hj q) (fun j hj q => by
    obtain ⟨a1, a2⟩ := hW.2.2.2.2.2.1 j hj q
    exact ⟨a1, Nat.lt_of_le_of_lt a2 (by omega)⟩) (fun t ht => by
    show I3 129 (4 * (164 * k + plp (40 * s + kR y s s)) + t) = nI (mt t) ∧ I3 130 (4 * (164 * k + plp (40 * s + kR y s s)) + t) = nI (mk t)
    rw [← hWd, fr3 _ _ (by omega) (by omega), fr3 _ _ (by omega) (by omega)]
    exact hto t ht) ((fr3 _ _ (by omega) (by omega)).trans hT) hT2 ((fr3 _ _ (by omega) (by omega)).trans hB) hb2
  refine ⟨I4, J4, ?_, t2, frQ_t (frQ_5 m2) t3⟩
  unfold L_X12_writes_221
  refine Eq.trans q3 ?_
  rw [hs']
  show F_X12_writes_221b N _ (B + 125) (nI s) (nI k) v (nI W) (nI n) (HP B I3 J) = _
  have g0 : I3 125 0 = nI n := (fr3 _ _ (by omega) (by omega)).trans h0
  unfold F_X12_writes_221b
  simp only [M_gi0, g0, Option.bind_some, if_pos (nI_le (Nat.le_refl n) (show n < 2 ^ 31 by omega)), M_is, t1, e_bind_some]
  rfl
end RWRITES
