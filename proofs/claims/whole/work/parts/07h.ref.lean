/-! REFERENCE: siblings, eldest, bounds -/
section RKEY
variable {B : Nat} {I : Nat → Nat → Int32} {J : Nat → Nat → Int64} {x : eKS} {k s i n b j : Nat} {v : Int32}
theorem k164_ge (k : Nat) {i : Nat} (hi : i < 164) (hk : k < 4) : ¬ nI (164 * k + 164) ≤ nI (164 * k + i) := nI_ge (by omega) (by omega)
theorem k164_n (k : Nat) (hk : k < 4) : nI (164 * k + 164) ≤ nI (164 * k + 164) := Int32.le_refl _
theorem Y_beside (h : MoK k I J x) (hi : i < 164) : I 135 (164 * k + i) = hb (fun s => plc (kS x (4 + s)) i) 4 := h.2.2.2.1 i hi
theorem Y_set (h : MoK k I J x) {f : Nat} (hf : f < 4) (hi : i < 164) : I (131 + f) (164 * k + i) = b2 (plc (kS x f) i) := h.2.2.2.2.1 f hf i hi
theorem y_siblings {N : Nat} (hN : 200 < N) (hk : k < 4) (hs : s < 4) (h : MoK k I J x) : F_X12_siblings N (B + 125) (nI s) (nI k) (HP B I J) = some (nI (ct (kS x (4 + s)) 160), HP B I J) := by
  unfold F_X12_siblings
  simp only [n_164, e_let]
  unfold L_X12_siblings_9
  have e1 := e_loop_f (body := fun (k : Nat × Int32 × Int32 × Int32 × Int32 × eH → Option (Int32 × eH)) s => F_X12_siblings_9b N (fun l0 l1 l2 l3 l4 h => k (l0, l1, l2, l3, l4, h)) s.1 s.2.1 s.2.2.1 s.2.2.2.1 s.2.2.2.2.1 s.2.2.2.2.2) (fun i => (B + 125, nI s, nI k, nI (ct (plc (kS x (4 + s))) i), nI (164 * k + i), HP B I J)) 164 (N := N) (fun i hi k0 => by
    show F_X12_siblings_9b N _ (B + 125) (nI s) (nI k) (nI (ct (plc (kS x (4 + s))) i)) (nI (164 * k + i)) (HP B I J) = k0 _
    unfold F_X12_siblings_9b
    simp only [n_164, n_p164, if_neg (k164_ge k hi hk), M_gr14, R_ai135 (show 164 * k + i < 656 by omega), Y_beside h hi, Option.bind_some, hb_has _ hs, e_bind_some, b2_0, F_X12_siblings_43, e_let, nI_1, Int32.add_zero]
    cases hp : plc (kS x (4 + s)) i
    · rw [if_pos rfl, show ct (plc (kS x (4 + s))) (i + 1) = ct (plc (kS x (4 + s))) i by simp [ct, hp]]; rfl
    · rw [if_neg (by decide), show ct (plc (kS x (4 + s))) (i + 1) = ct (plc (kS x (4 + s))) i + 1 by simp [ct, hp]]; rfl) (by omega)
  refine Eq.trans e1 ?_
  show F_X12_siblings_9b N _ (B + 125) (nI s) (nI k) (nI (ct (plc (kS x (4 + s))) 164)) (nI (164 * k + 164)) (HP B I J) = _
  unfold F_X12_siblings_9b
  rw [n_164, n_p164, if_pos (k164_n k hk), ct_164]

def en9 (k : Nat) (o : Option Nat) : Int32 := match o with | none => -9 | some b => nI (164 * k + b)
/-- all members are written, and stamps stand -/
def mst (x : eKS) (s : Nat) : Prop := (∀ j, j < 160 → kS x (4 + s) j = true → cov (kM x) j = true) ∧ ∀ j, j < 160 → cov (kM x) j = true → 0 < kSt x j ∧ kSt x j < 2 ^ 31
theorem Y_stamp (h : MoK k I J x) (hi : i < 160) (hc : cov (kM x) i = true) : I 128 (164 * k + plp i) = nI (kSt x i) := (h.2.2.2.2.2 i hi hc).1
theorem Y_stampP (h : MoK k I J x) (hm : mst x s) (hi : i < 164) (hp : plc (kS x (4 + s)) i = true) : I 128 (164 * k + i) = nI (kSt x (plj i)) ∧ 0 < kSt x (plj i) ∧ kSt x (plj i) < 2 ^ 31 := by
  have h0 : i % 41 ≠ 0 := fun q => by rw [plc_0 _ q] at hp; cases hp
  rw [plc_1 _ h0] at hp
  have hl := plj_lt hi
  have hc := hm.1 _ hl hp
  have := Y_stamp h hl hc
  rw [plp_j h0] at this
  exact ⟨this, hm.2 _ hl hc⟩
theorem y_eldest {N : Nat} (hN : 200 < N) (hk : k < 4) (hs : s < 4) (h : MoK k I J x) (hm : mst x s) : F_X12_eldest N (B + 125) (nI s) (nI k) (HP B I J) = some (en9 k ((bst (kS x (4 + s)) (kSt x) 0 160).map plp), HP B I J) := by
  unfold F_X12_eldest
  simp only [n_164, e_let]
  unfold L_X12_eldest_10
  have e1 := e_loop_f (body := fun (k : Nat × Int32 × Int32 × Int32 × Int32 × eH → Option (Int32 × eH)) s => F_X12_eldest_10b N (fun l0 l1 l2 l3 l4 h => k (l0, l1, l2, l3, l4, h)) s.1 s.2.1 s.2.2.1 s.2.2.2.1 s.2.2.2.2.1 s.2.2.2.2.2) (fun i => (B + 125, nI s, nI k, en9 k (bst (plc (kS x (4 + s))) (fun m => kSt x (plj m)) 0 i), nI (164 * k + i), HP B I J)) 164 (N := N) (fun i hi k0 => by
    show F_X12_eldest_10b N _ (B + 125) (nI s) (nI k) (en9 k (bst (plc (kS x (4 + s))) (fun m => kSt x (plj m)) 0 i)) (nI (164 * k + i)) (HP B I J) = k0 _
    unfold F_X12_eldest_10b
    simp only [n_164, n_p164, if_neg (k164_ge k hi hk), M_gr14, M_gr7, R_ai135 (show 164 * k + i < 656 by omega), Y_beside h hi, Option.bind_some, hb_has _ hs, e_bind_some, b2_0, F_X12_eldest_65, F_X12_eldest_60, F_X12_eldest_66, nI_1]
    cases hp : plc (kS x (4 + s)) i
    · rw [if_pos rfl, show bst (plc (kS x (4 + s))) (fun m => kSt x (plj m)) 0 (i + 1) = bst (plc (kS x (4 + s))) (fun m => kSt x (plj m)) 0 i by simp [bst, hp]]; rfl
    · obtain ⟨a1, a2, a3⟩ := Y_stampP h hm hi hp
      rw [if_neg (by decide)]
      cases h3 : bst (plc (kS x (4 + s))) (fun m => kSt x (plj m)) 0 i with
      | none => simp [en9, bst, hp, h3, a2, Nat.add_assoc]
      | some b =>
        obtain ⟨c1, c2, c3⟩ := bst_in h3
        obtain ⟨d1, d2, d3⟩ := Y_stampP h hm (show b < 164 by omega) c2
        simp only [en9, if_neg (nI_m9 (show 164 * k + b < 2 ^ 31 by omega)), R_ai128 (show 164 * k + i < 656 by omega), R_ai128 (show 164 * k + b < 656 by omega), Option.bind_some, a1, d1, nI_leI d3 a3]
        by_cases h4 : kSt x (plj b) ≤ kSt x (plj i)
        · rw [if_pos h4]; simp [bst, hp, h3, a2, Nat.not_lt.mpr h4, Nat.add_assoc]
        · rw [if_neg h4]; simp [bst, hp, h3, a2, Nat.lt_of_not_le h4, Nat.add_assoc]) (by omega)
  refine Eq.trans e1 ?_
  show F_X12_eldest_10b N _ (B + 125) (nI s) (nI k) (en9 k (bst (plc (kS x (4 + s))) (fun m => kSt x (plj m)) 0 164)) (nI (164 * k + 164)) (HP B I J) = _
  unfold F_X12_eldest_10b
  rw [n_164, n_p164, if_pos (k164_n k hk), bst_pl (kS x (4 + s)) (kSt x) 0 (fun _ _ => rfl) 164, plj_164]

theorem bst_none {p : Nat → Bool} {S : Nat → Nat} {lo : Nat} : ∀ {n : Nat}, bst p S lo n = none → ∀ j, j < n → p j = true → ¬ lo < S j
  | 0, _, _, h, _ => by cases h
  | n + 1, h, j, hj, hp => by
    unfold bst at h
    by_cases h1 : p n = true ∧ lo < S n
    · rw [if_pos h1] at h
      cases h2 : bst p S lo n with
      | none => rw [h2] at h; cases h
      | some c =>
        rw [h2] at h
        by_cases h3 : S n < S c <;> simp [h3] at h
    · rw [if_neg h1] at h
      intro q
      rcases Nat.lt_or_ge j n with h4 | h4
      · exact bst_none h j h4 hp q
      · have : j = n := by omega
        subst this
        exact h1 ⟨hp, q⟩
/-- other sets, all else the same -/
theorem MoK_S {I2 : Nat → Nat → Int32} {S : Nat → Nat → Bool} (h : MoK k I J x) (hI : ∀ c, c < 131 ∨ 135 < c → ∀ z, I2 c z = I c z) (h4 : ∀ p, p < 164 → I2 135 (164 * k + p) = hb (fun s => plc (S (4 + s)) p) 4) (h5 : ∀ f, f < 4 → ∀ p, p < 164 → I2 (131 + f) (164 * k + p) = b2 (plc (S f) p)) : MoK k I2 J (uS x S) := by
  obtain ⟨h1, h2, h3, _, _, h6⟩ := h
  refine ⟨fun t ht => (hI 136 (by decide) _).trans (h1 t ht), fun s hs t ht => (hI 137 (by decide) _).trans (h2 s hs t ht), (hI 138 (by decide) _).trans h3, h4, h5, fun j hj hc => ?_⟩
  obtain ⟨g1, g2, g3⟩ := h6 j hj hc
  exact ⟨(hI 128 (by decide) _).trans g1, g2, fun t ht => ⟨(hI 129 (by decide) _).trans (g3 t ht).1, (hI 130 (by decide) _).trans (g3 t ht).2⟩⟩
theorem plc_and (p : Nat → Bool) (b : Nat) {m : Nat} : plc (fun j => p j && !decide (j = b)) m = (plc p m && !decide (m = plp b)) := by
  by_cases h : m % 41 = 0
  · rw [plc_0 _ h, plc_0 _ h]; rfl
  · rw [plc_1 _ h, plc_1 _ h]
    have e : (plj m = b) ↔ (m = plp b) := ⟨fun q => by rw [← q, plp_j h], fun q => by rw [q, plj_p]⟩
    by_cases q : plj m = b
    · rw [decide_eq_true q, decide_eq_true (e.mp q)]
    · rw [decide_eq_false q, decide_eq_false (fun r => q (e.mpr r))]
theorem plc_or (p : Nat → Bool) (b : Nat) {m : Nat} : plc (fun j => p j || decide (j = b)) m = (plc p m || decide (m = plp b)) := by
  by_cases h : m % 41 = 0
  · have : m ≠ plp b := fun q => plp_m b (q ▸ h)
    rw [plc_0 _ h, plc_0 _ h, decide_eq_false this]; rfl
  · rw [plc_1 _ h, plc_1 _ h]
    have e : (plj m = b) ↔ (m = plp b) := ⟨fun q => by rw [← q, plp_j h], fun q => by rw [q, plj_p]⟩
    by_cases q : plj m = b
    · rw [decide_eq_true q, decide_eq_true (e.mp q)]
    · rw [decide_eq_false q, decide_eq_false (fun r => q (e.mpr r))]
/-- one is dropped -/
theorem y_drop1 (hk : k < 4) (hs : s < 4) (h : MoK k I J x) (hb1 : bst (kS x (4 + s)) (kSt x) 0 160 = some b) : MoK k (w2 (w2 I 135 (164 * k + plp b) (I 135 (164 * k + plp b) &&& ((1 <<< (nI s &&& 31)) ^^^ (-1)))) 132 (164 * k + plp b) 1) J (uS x (dr1 (kSt x) s (kS x))) := by
  have hx : dr1 (kSt x) s (kS x) = fun f j => if f = 4 + s then kS x f j && !decide (j = b) else if f = 1 then kS x f j || decide (j = b) else kS x f j := by unfold dr1; rw [hb1]
  obtain ⟨b1, _, _⟩ := bst_in hb1
  have hp := plp_lt b1
  rw [hx]
  refine MoK_S h (fun c hc z => ?_) (fun p hp2 => ?_) (fun f hf p hp2 => ?_)
  · rw [w2_c _ _ (by omega), w2_c _ _ (by omega)]
  · rw [w2_c _ _ (by decide)]
    by_cases e : p = plp b
    · subst e
      rw [w2_s, Y_beside h hp, hb_rem _ hs]
      refine hb_cong (fun u hu => ?_)
      by_cases q : u = s
      · subst q; simp only [if_true]; rw [plc_and]; simp
      · have : ¬ 4 + u = 4 + s := by omega
        have : ¬ 4 + u = 1 := by omega
        simp [q, *]
    · rw [w2_k _ _ (by omega), Y_beside h hp2]
      refine hb_cong (fun u hu => ?_)
      by_cases q : u = s
      · subst q; simp only [if_true]; rw [plc_and]; simp [e]
      · have : ¬ 4 + u = 4 + s := by omega
        have : ¬ 4 + u = 1 := by omega
        simp [*]
  · have n4 : ¬ f = 4 + s := by omega
    by_cases e1 : f = 1
    · subst e1
      simp only [if_neg n4, if_true]
      by_cases e : p = plp b
      · subst e
        rw [w2_s, plc_or]; simp [b2]
      · rw [w2_k _ _ (by omega), w2_c _ _ (by omega), Y_set h hf hp2, plc_or]; simp [e]
    · simp only [if_neg n4, if_neg e1]
      rw [w2_c _ _ (by omega), w2_c _ _ (by omega), Y_set h hf hp2]
theorem drn_cov {St : Nat → Nat} {S : Nat → Nat → Bool} {M : Nat → Nat} (hc : ∀ j, j < 160 → S (4 + s) j = true → cov M j = true) (e : Nat) : ∀ j, j < 160 → drn St s S e (4 + s) j = true → cov M j = true := fun j hj hp => hc j hj (drn_sub e hp)
theorem dr1_ct {St : Nat → Nat} {S : Nat → Nat → Bool} (h : bst (S (4 + s)) St 0 160 = some b) : ct (dr1 St s S (4 + s)) 160 + 1 = ct (S (4 + s)) 160 := by
  obtain ⟨b1, b2', _⟩ := bst_in h
  have hx : dr1 St s S (4 + s) = fun j => S (4 + s) j && !decide (j = b) := by unfold dr1; rw [h]; funext j; simp
  rw [hx]
  exact ct_less b2' (by simp) (fun i hi => by simp [hi]) 160 b1
theorem drn_ct {St : Nat → Nat} {S : Nat → Nat → Bool} (hS : ∀ j, j < 160 → S (4 + s) j = true → 0 < St j) : ∀ e, e ≤ ct (S (4 + s)) 160 → ct (drn St s S e (4 + s)) 160 + e = ct (S (4 + s)) 160
  | 0, _ => Nat.add_zero _
  | e + 1, he => by
    have ih := drn_ct hS e (by omega)
    show ct (dr1 St s (drn St s S e) (4 + s)) 160 + (e + 1) = _
    cases hb1 : bst (drn St s S e (4 + s)) St 0 160 with
    | none =>
      obtain ⟨j, j1, j2⟩ := ct_pos (p := drn St s S e (4 + s)) (n := 160) (by omega)
      exact absurd (hS j j1 (drn_sub e j2)) (bst_none hb1 j j1 j2)
    | some b =>
      have := dr1_ct hb1
      omega
theorem y_bounds {N : Nat} (hN : 300 < N) (hk : k < 4) (hs : s < 4) (h : MoK k I J x) (hm : mst x s) (hB : I 125 1 = nI b) (hb2 : b < 2 ^ 31) : ∃ I2, F_X12_bounds N (B + 125) (nI s) (nI k) (HP B I J) = some ((), HP B I2 J) ∧ MoK k I2 J (uS x (drn (kSt x) s (kS x) (ct (kS x (4 + s)) 160 - b))) ∧ frQ k I J I2 J := by
  have hle := ct_le (kS x (4 + s)) 160
  obtain ⟨E, hE⟩ : ∃ E, E = ct (kS x (4 + s)) 160 - b := ⟨_, rfl⟩
  have hpos : ∀ j, j < 160 → kS x (4 + s) j = true → 0 < kSt x j := fun j hj q => (hm.2 j hj (hm.1 j hj q)).1
  have hcnt : ∀ i, i ≤ E → ct (drn (kSt x) s (kS x) i (4 + s)) 160 + i = ct (kS x (4 + s)) 160 := fun i hi => drn_ct hpos i (by omega)
  unfold F_X12_bounds L_X12_bounds_0
  obtain ⟨s', ⟨I2, hs', q1, q2⟩, q3⟩ := e_loop_0 (body := fun (k : Nat × Int32 × Int32 × eH → Option (Unit × eH)) s => F_X12_bounds_0b N (fun l0 l1 l2 h => k (l0, l1, l2, h)) s.1 s.2.1 s.2.2.1 s.2.2.2) (fun i st => ∃ I2, st = (B + 125, nI s, nI k, HP B I2 J) ∧ MoK k I2 J (uS x (drn (kSt x) s (kS x) i)) ∧ frQ k I J I2 J) E (N := N) ⟨I, rfl, h, frQ_r⟩ (fun i st hi hst => by
    obtain ⟨I2, hst, c1, c2⟩ := hst
    subst hst
    have hc := hcnt i (by omega)
    have hm2 : mst (uS x (drn (kSt x) s (kS x) i)) s := ⟨drn_cov hm.1 i, hm.2⟩
    have h125 : I2 125 1 = nI b := ((c2 125 1 (fun q => by have := q.1; omega)).1).trans hB
    cases hb1 : bst (drn (kSt x) s (kS x) i (4 + s)) (kSt x) 0 160 with
    | none =>
      obtain ⟨j, j1, j2⟩ := ct_pos (p := drn (kSt x) s (kS x) i (4 + s)) (n := 160) (by omega)
      exact absurd (hpos j j1 (drn_sub i j2)) (bst_none hb1 j j1 j2)
    | some d =>
      have hb1' : bst (kS (uS x (drn (kSt x) s (kS x) i)) (4 + s)) (kSt (uS x (drn (kSt x) s (kS x) i))) 0 160 = some d := hb1
      have hp := plp_lt (bst_in hb1).1
      refine ⟨(B + 125, nI s, nI k, HP B (w2 (w2 I2 135 (164 * k + plp d) (I2 135 (164 * k + plp d) &&& ((1 <<< (nI s &&& 31)) ^^^ (-1)))) 132 (164 * k + plp d) 1) J), ⟨_, rfl, y_drop1 hk hs c1 hb1', frQ_t c2 (frQ_t (frQ_w (inK_a (by decide) hp)) (frQ_w (inK_a (by decide) hp)))⟩, fun K => ?_⟩
      show F_X12_bounds_0b N _ (B + 125) (nI s) (nI k) (HP B I2 J) = _
      unfold F_X12_bounds_0b
      have hgt : ¬ nI (ct (kS (uS x (drn (kSt x) s (kS x) i)) (4 + s)) 160) ≤ nI b := nI_ge (show b < ct (drn (kSt x) s (kS x) i (4 + s)) 160 by omega) (by have := ct_le (drn (kSt x) s (kS x) i (4 + s)) 160; show ct (drn (kSt x) s (kS x) i (4 + s)) 160 < 2 ^ 31; omega)
      simp only [M_is, Option.bind_some, y_siblings (show 200 < N by omega) hk hs c1, e_bind_some, M_gi1, h125, if_neg hgt, y_eldest (show 200 < N by omega) hk hs c1 hm2, hb1', Option.map_some, en9, M_gr14, M_gr11, R_ai135 (show 164 * k + plp d < 656 by omega), R_si135 (show 164 * k + plp d < 656 by omega), R_si132 (show 164 * k + plp d < 656 by omega), nar_1]) (by omega)
  refine ⟨I2, ?_, by rw [← hE]; exact q1, q2⟩
  refine Eq.trans q3 ?_
  rw [hs']
  show F_X12_bounds_0b N _ (B + 125) (nI s) (nI k) (HP B I2 J) = _
  have h125 : I2 125 1 = nI b := ((q2 125 1 (fun q => by have := q.1; omega)).1).trans hB
  have hle2 : nI (ct (kS (uS x (drn (kSt x) s (kS x) E)) (4 + s)) 160) ≤ nI b := by
    have := hcnt E (Nat.le_refl _)
    exact nI_le (show ct (drn (kSt x) s (kS x) E (4 + s)) 160 ≤ b by omega) hb2
  unfold F_X12_bounds_0b
  simp only [M_is, Option.bind_some, y_siblings (show 200 < N by omega) hk hs q1, e_bind_some, M_gi1, h125, if_pos hle2]
end RKEY
