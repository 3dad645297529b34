/-! REFERENCE: writes, the call -/
section RWR
variable {B : Nat} {I I2 I3 : Nat → Nat → Int32} {J : Nat → Nat → Int64} {x : eST} {y z : eKS} {a b c k l s t i j n m T W : Nat} {u w1 : Int32} {v : Int64}
theorem wO_w2 {α : Type} {I : Nat → Nat → α} {c d b n p : Nat} {f : Nat → α} {v : α} (h : c ≠ d) : w2 (wO I c b n f) d p v = wO (w2 I d p v) c b n f := by
  funext a z
  show (if a = d ∧ z = p then v else (if a = c ∧ b ≤ z ∧ z < b + n then f (z - b) else I a z)) = (if a = c ∧ b ≤ z ∧ z < b + n then f (z - b) else (if a = d ∧ z = p then v else I a z))
  by_cases h1 : a = d ∧ z = p
  · rw [if_pos h1, if_neg (fun q => h (q.1.symm.trans h1.1)), if_pos h1]
  · rw [if_neg h1, if_neg h1]
theorem w2_id {α : Type} {I : Nat → Nat → α} {c k : Nat} {v : α} (h : v = I c k) : w2 I c k v = I := by
  funext a z
  unfold w2
  by_cases h1 : a = c ∧ z = k
  · rw [if_pos h1, h1.1, h1.2, h]
  · rw [if_neg h1]
theorem oK_same (x : eST) (k : Nat) : oK x k (zS x k) = x := by
  have : (fun a => if a = k then zS x k else zS x a) = zS x := by
    funext a
    by_cases e : a = k
    · rw [if_pos e, e]
    · rw [if_neg e]
  unfold oK
  rw [this]
  rfl
theorem Mo_T (h : Mo I J x) (n : Nat) : Mo (w2 I 125 5 (nI n)) J (vT x n) := by
  obtain ⟨⟨a1, a2, a3, a4, a5⟩, b, c, d, e, f⟩ := h
  exact ⟨⟨(w2_k _ _ (by decide)).trans a1, (w2_k _ _ (by decide)).trans a2, (w2_k _ _ (by decide)).trans a3, (w2_k _ _ (by decide)).trans a4, w2_s _ _ _ _⟩, MoT_fr (x := vT x n) b (w2_k _ _ (by decide)) (fun z => w2_c _ _ (by decide)), MoR_fr (x := vT x n) c (w2_k _ _ (by decide)) (fun c hc z => w2_c _ _ (by omega)), MoC_fr (x := vT x n) d (fun c h1 h2 z => w2_c _ _ (by omega)), fun k hk => (w2_c _ _ (by decide)).trans (e k hk), fun k hk => MoK_id (f k hk) (fun c h1 h2 z => w2_c _ _ (by omega)) (fun _ => rfl)⟩
/-- told and known are laid for the write to come -/
theorem Y_lay (hk : k < 4) (h : MoK k I J y) {d : Nat} (hd : d < 160) (hcd : cov (kM y) d = false) (f g : Nat → Int32) : MoK k (wO (wO I 129 (4 * (164 * k + plp d)) 4 f) 130 (4 * (164 * k + plp d)) 4 g) J y ∧ frQ k I J (wO (wO I 129 (4 * (164 * k + plp d)) 4 f) 130 (4 * (164 * k + plp d)) 4 g) J := by
  have hp := plp_lt hd
  have o : ∀ c q, c ≠ 129 → c ≠ 130 → wO (wO I 129 (4 * (164 * k + plp d)) 4 f) 130 (4 * (164 * k + plp d)) 4 g c q = I c q := fun c q h1 h2 => (wO_c _ _ _ _ h2).trans (wO_c _ _ _ _ h1)
  have o2 : ∀ c q, q < 4 * (164 * k + plp d) ∨ 4 * (164 * k + plp d) + 4 ≤ q → wO (wO I 129 (4 * (164 * k + plp d)) 4 f) 130 (4 * (164 * k + plp d)) 4 g c q = I c q := by
    intro c q hq
    by_cases e : c = 130
    · subst e
      rw [wO_out _ _ _ _ _ hq, wO_c _ _ _ _ (by decide)]
    · rw [wO_c _ _ _ _ e]
      by_cases e2 : c = 129
      · subst e2
        exact wO_out _ _ _ _ _ hq
      · exact wO_c _ _ _ _ e2
  obtain ⟨h1, h2, h3, h4, h5, h6⟩ := h
  refine ⟨⟨fun t ht => (o _ _ (by decide) (by decide)).trans (h1 t ht), fun s hs t ht => (o _ _ (by decide) (by decide)).trans (h2 s hs t ht), (o _ _ (by decide) (by decide)).trans h3, fun p hp => (o _ _ (by decide) (by decide)).trans (h4 p hp), fun f hf p hp => (o _ _ (by omega) (by omega)).trans (h5 f hf p hp), fun j hj hc => ?_⟩, fun c q hcq => ⟨?_, rfl⟩⟩
  · obtain ⟨g1, g2, g3⟩ := h6 j hj hc
    have hne : plp j ≠ plp d := fun e => by
      rw [plp_i] at e
      rw [e, hcd] at hc
      cases hc
    refine ⟨(o _ _ (by decide) (by decide)).trans g1, g2, fun t ht => ⟨(o2 _ _ ?_).trans (g3 t ht).1, (o2 _ _ ?_).trans (g3 t ht).2⟩⟩
    · omega
    · omega
  · by_cases e : c = 129 ∨ c = 130
    · refine o2 c q ?_
      have : ¬ q / 656 = k := fun r => hcq ⟨by omega, by omega, by unfold dvR; rw [if_pos e]; exact r⟩
      omega
    · exact o c q (fun r => e (Or.inl r)) (fun r => e (Or.inr r))
theorem y_lay {N : Nat} (hN : 200 < N) (hc : c < 4) (hW : W < 656) (wi : Bool) {f g : Nat → Nat} (hf : wi = true → ∀ t, t < 4 → I 141 (4 * c + t) = nI (f t)) (hg : wi = true → ∀ t, t < 4 → I 140 (4 * c + t) = nI (g t)) (hf0 : wi = false → f = fun _ => 0) (hg0 : wi = false → g = fun _ => 0) : L_X12_writes_120 N (B + 125) (nI c) (nI s) (nI k) v (b2 wi) (nI W) 0 (HP B I J) = L_X12_writes_221 N (B + 125) (nI s) (nI k) v (nI W) 0 (HP B (w2 (wO (wO I 129 (4 * W) 4 (fun t => nI (f t))) 130 (4 * W) 4 (fun t => nI (g t))) 139 c (if wi = true then -9 else I 139 c)) J) := by
  unfold L_X12_writes_120
  have e1 := e_loop_f (body := fun (k : Nat × Int32 × Int32 × Int32 × Int64 × Int32 × Int32 × Int32 × eH → Option (Int32 × eH)) s => F_X12_writes_120b N (fun l0 l1 l2 l3 l5 l7 l8 l9 h => k (l0, l1, l2, l3, l5, l7, l8, l9, h)) s.1 s.2.1 s.2.2.1 s.2.2.2.1 s.2.2.2.2.1 s.2.2.2.2.2.1 s.2.2.2.2.2.2.1 s.2.2.2.2.2.2.2.1 s.2.2.2.2.2.2.2.2) (fun i => (B + 125, nI c, nI s, nI k, v, b2 wi, nI W, nI i, HP B (wO (wO I 129 (4 * W) i (fun t => nI (f t))) 130 (4 * W) i (fun t => nI (g t))) J)) 4 (N := N) (fun i hi k0 => by
    show F_X12_writes_120b N _ (B + 125) (nI c) (nI s) (nI k) (v) (b2 wi) (nI W) (nI i) (HP B (wO (wO I 129 (4 * W) i (fun t => nI (f t))) 130 (4 * W) i (fun t => nI (g t))) J) = k0 _
    unfold F_X12_writes_120b
    have ws1 := wO_s I 129 (4 * W) i (fun t => nI (f t))
    have ws2 := wO_s (wO I 129 (4 * W) (i + 1) (fun t => nI (f t))) 130 (4 * W) i (fun t => nI (g t))
    have e3 : ∀ v1, w2 (wO (wO I 129 (4 * W) i (fun t => nI (f t))) 130 (4 * W) i (fun t => nI (g t))) 129 (4 * W + i) v1 = wO (w2 (wO I 129 (4 * W) i (fun t => nI (f t))) 129 (4 * W + i) v1) 130 (4 * W) i (fun t => nI (g t)) := fun v1 => wO_w2 (by decide)
    simp only [if_neg (k4_lt i hi), M_gr8, M_gr9, M_gr19, M_gr20, Option.bind_some, b2_0, n_4, nI_add, F_X12_writes_157, F_X12_writes_189, R_si129 (show 4 * W + i < 2624 by omega), R_si130 (show 4 * W + i < 2624 by omega), R_ai141 (show 4 * c + i < 16 by omega), R_ai140 (show 4 * c + i < 16 by omega), nI_1, e3]
    cases wi
    · simp only [if_true]
      have z1 : nI (f i) = 0 := by rw [hf0 rfl]; rfl
      have z2 : nI (g i) = 0 := by rw [hg0 rfl]; rfl
      rw [z1] at ws1
      rw [z2] at ws2
      rw [ws1, ws2]
    · simp only [Bool.true_eq_false, if_false]
      have z1 : wO (wO I 129 (4 * W) i (fun t => nI (f t))) 130 (4 * W) i (fun t => nI (g t)) 141 (4 * c + i) = nI (f i) := (wO_c _ _ _ _ (by decide)).trans ((wO_c _ _ _ _ (by decide)).trans (hf rfl i hi))
      rw [z1, ws1]
      have z2 : wO (wO I 129 (4 * W) (i + 1) (fun t => nI (f t))) 130 (4 * W) i (fun t => nI (g t)) 140 (4 * c + i) = nI (g i) := (wO_c _ _ _ _ (by decide)).trans ((wO_c _ _ _ _ (by decide)).trans (hg rfl i hi))
      rw [z2, ws2]) (by omega)
  simp only [wO_0] at e1
  refine Eq.trans e1 ?_
  show F_X12_writes_120b N _ (B + 125) (nI c) (nI s) (nI k) (v) (b2 wi) (nI W) (nI 4) (HP B (wO (wO I 129 (4 * W) 4 (fun t => nI (f t))) 130 (4 * W) 4 (fun t => nI (g t))) J) = _
  unfold F_X12_writes_120b
  rw [if_pos k4_n]
  have z : wO (wO I 129 (4 * W) 4 (fun t => nI (f t))) 130 (4 * W) 4 (fun t => nI (g t)) 139 c = I 139 c := (wO_c _ _ _ _ (by decide)).trans (wO_c _ _ _ _ (by decide))
  simp only [M_gr18, Option.bind_some, b2_0, R_ai139 hc, z, F_X12_writes_217, R_si139 hc]
  cases wi
  · simp only [if_true, Bool.false_eq_true, if_false]
  · simp only [Bool.true_eq_false, if_false, if_true]

theorem m_writes_no (h : Mo I J x) (w : WF x) {N : Nat} {u v z q : Int32} {val : Int64} (hv : nix u 4 ∨ nix v (zN x) ∨ nix z (zK x)) : F_X12_writes N (B + 125) u v z q val (HP B I J) = some (-1, HP B I J) := by
  have h1 := w.1.2
  have h2 := w.2.2.2.1
  unfold F_X12_writes
  rcases nix_c u (show 4 < 2 ^ 31 by decide) with e | ⟨c, hc, rfl⟩
  · simp only [X_cl_no e, e_bind_some, if_true]
  · rcases nix_c v (show zN x < 2 ^ 31 by omega) with e | ⟨s, hs, rfl⟩
    · simp only [X_cl_ok hc, M_is, Option.bind_some, X_site_no h w e, e_bind_some, if_true, if_neg (show ¬ (1 : Int32) = 0 by decide)]
    · have e : nix z (zK x) := (hv.resolve_left (nix_not hc (by decide))).resolve_left (nix_not hs (by omega))
      simp only [X_cl_ok hc, M_is, Option.bind_some, X_site_ok h w hs, X_key_no h w e, e_bind_some, if_true, if_neg (show ¬ (1 : Int32) = 0 by decide)]
theorem m_writes_kd (h : Mo I J x) (w : WF x) {N : Nat} (hc : c < 4) (hs : s < zN x) (hk : k < zK x) {val : Int64} (hv : nix u 2) : F_X12_writes N (B + 125) (nI c) (nI s) (nI k) u val (HP B I J) = some (-1, HP B I J) := by
  unfold F_X12_writes
  simp only [X_cl_ok hc, M_is, Option.bind_some, X_site_ok h w hs, X_key_ok h w hk, e_bind_some, if_neg (show ¬ (1 : Int32) = 0 by decide), X_in_no (m := 2) l1' hv (by decide), if_true]
theorem m_writes_neg (h : Mo I J x) (w : WF x) {N : Nat} (hc : c < 4) (hs : s < zN x) (hk : k < zK x) {val : Int64} (hv : ¬ (0 : Int32) ≤ lg_cmp val 0) : F_X12_writes N (B + 125) (nI c) (nI s) (nI k) (nI 1) val (HP B I J) = some (-1, HP B I J) := by
  unfold F_X12_writes
  simp only [X_cl_ok hc, M_is, Option.bind_some, X_site_ok h w hs, X_key_ok h w hk, e_bind_some, if_neg (show ¬ (1 : Int32) = 0 by decide), X_in_ok l1 (show 1 ≤ 1 by decide) (show 1 < 2 ^ 31 by decide), if_neg hv]
  rfl
theorem m_writes_in (h : Mo I J x) (w : WF x) {N : Nat} (hc : c < 4) (hs : s < zN x) (hk : k < zK x) (hj : j < 2) {val : Int64} (hv : j = 1 → (0 : Int32) ≤ lg_cmp val 0) : F_X12_writes N (B + 125) (nI c) (nI s) (nI k) (nI j) val (HP B I J) = F_X12_writes_49 N (B + 125) (nI c) (nI s) (nI k) (nI j) val (HP B I J) := by
  unfold F_X12_writes
  simp only [X_cl_ok hc, M_is, Option.bind_some, X_site_ok h w hs, X_key_ok h w hk, e_bind_some, if_neg (show ¬ (1 : Int32) = 0 by decide), X_in_ok l1 (show j ≤ 1 by omega) (show 1 < 2 ^ 31 by decide)]
  have hc : j = 0 ∨ j = 1 := by omega
  rcases hc with rfl | rfl
  · rfl
  · rw [if_pos (show nI 1 = 1 from rfl), if_pos (hv rfl)]
theorem m_writes_full (h : Mo I J x) (w : WF x) {N : Nat} (hs : s < zN x) (hk : k < zK x) {val : Int64} (hn : 40 ≤ kR (zS x k) s s) : F_X12_writes_49 N (B + 125) w1 (nI s) (nI k) u val (HP B I J) = some (-3, HP B I J) := by
  have h4 : k < 4 := Nat.lt_of_lt_of_le hk w.2.2.2.1
  have h5 : s < 4 := Nat.lt_of_lt_of_le hs w.1.2
  have hW := WF_k w h4
  have hM : kM (zS x k) s = 40 := by have := hW.2.2.1 s hs; have := (hW.1 s h5).1; omega
  unfold F_X12_writes_49
  simp only [M_gr15, Option.bind_some, n_4, nI_add, R_ai136 (show 4 * k + s < 16 by omega), Y_made (Mo_k h h4) h5, hM]
  rfl
theorem m_writes_unlike (h : Mo I J x) (w : WF x) {N : Nat} (hs : s < zN x) (hk : k < zK x) {val : Int64} (hn : kR (zS x k) s s < 40) (hj : j < 2) (hne : j ≠ kkd (zS x k)) : F_X12_writes_49 N (B + 125) w1 (nI s) (nI k) (nI j) val (HP B I J) = some (-4, HP B I J) := by
  have h4 : k < 4 := Nat.lt_of_lt_of_le hk w.2.2.2.1
  have h5 : s < 4 := Nat.lt_of_lt_of_le hs w.1.2
  have hW := WF_k w h4
  have hkd := hW.2.2.2.2.2.2.2.2
  have hM : kM (zS x k) s = kR (zS x k) s s := (hW.2.2.1 s hs).symm
  have h40 : ¬ nI (kR (zS x k) s s) = 40 := fun q => absurd ((nI_eq (show kR (zS x k) s s < 2 ^ 31 by omega) (show 40 < 2 ^ 31 by decide)).mp q) (by omega)
  have e126 : I 126 k = nI (kkd (zS x k)) := h.2.2.2.2.1 k hk
  unfold F_X12_writes_49
  simp only [M_gr15, M_gr4, Option.bind_some, n_4, nI_add, R_ai136 (show 4 * k + s < 16 by omega), Y_made (Mo_k h h4) h5, hM, if_neg h40, R_ai126 h4, e126, if_neg (show ¬ nI (kkd (zS x k)) = nI j from fun q => hne ((nI_eq (show kkd (zS x k) < 2 ^ 31 by omega) (show j < 2 ^ 31 by omega)).mp q).symm)]
theorem m_writes_49 {N : Nat} (hN : 300 < N) (h : Mo I J x) (w : WF x) (hc : c < 4) (hs : s < zN x) (hk : k < zK x) (hn : kR (zS x k) s s < 40) (val : Int64) : ∃ I2 J2, F_X12_writes_49 N (B + 125) (nI c) (nI s) (nI k) (nI (kkd (zS x k))) val (HP B I J) = some (nI (kR (zS x k) s s + 1), HP B I2 J2) ∧ Mo I2 J2 (nWr x c s k val) ∧ frR I J I2 J2 := by
  have h4 : k < 4 := Nat.lt_of_lt_of_le hk w.2.2.2.1
  have h5 : s < 4 := Nat.lt_of_lt_of_le hs w.1.2
  have hK := Mo_k h h4
  have hW := WF_k w h4
  have hN4 := w.1.2
  have hT : zT x ≤ 1000 := w.2.2.2.2.1
  have hB6 := w.2.1.2
  have hM : kM (zS x k) s = kR (zS x k) s s := (hW.2.2.1 s hs).symm
  have hdd : 40 * s + kR (zS x k) s s < 160 := by omega
  have hcd : cov (kM (zS x k)) (40 * s + kR (zS x k) s s) = false := by rw [cov_ti _ hn, hM]; exact decide_eq_false (Nat.lt_irrefl _)
  have hp := plp_lt hdd
  have h40 : ¬ nI (kR (zS x k) s s) = 40 := fun q => absurd ((nI_eq (show kR (zS x k) s s < 2 ^ 31 by omega) (show 40 < 2 ^ 31 by decide)).mp q) (by omega)
  have e126 : I 126 k = nI (kkd (zS x k)) := h.2.2.2.2.1 k hk
  have ctx := (w.2.2.2.2.2.2.2.1 c hc)
  have hK4 := w.2.2.2.1
  -- in both cases
  have both : ∀ (wi : Bool) (f g : Nat → Nat) (x1 : eST), (wi = true → zCK x c = k + 1) → (wi = true → f = zCT x c ∧ g = zCN x c) → (wi = false → f = (fun _ => 0) ∧ g = fun _ => 0) → (∀ t, t < 4 → f t ≤ 40 ∧ g t ≤ 40) → x1 = (if wi = true then oBl x c else x) → ∃ I2 J2, F_X12_writes_96 N (B + 125) (nI c) (nI s) (nI k) val (b2 wi) (HP B I J) = some (nI (kR (zS x k) s s + 1), HP B I2 J2) ∧ Mo I2 J2 (oK (vT x1 (zT x + 1)) k (oWr (zS x k) s val (zT x + 1) f g (zB x))) ∧ frR I J I2 J2 := by
    intro wi f g x1 hw1 hw2 hw3 hb hx1
    obtain ⟨l1, l2⟩ := Y_lay (I := I) (J := J) h4 hK hdd hcd (fun t => nI (f t)) (fun t => nI (g t))
    obtain ⟨I1, hI1⟩ : ∃ I1, I1 = wO (wO I 129 (4 * (164 * k + plp (40 * s + kR (zS x k) s s))) 4 (fun t => nI (f t))) 130 (4 * (164 * k + plp (40 * s + kR (zS x k) s s))) 4 (fun t => nI (g t)) := ⟨_, rfl⟩
    rw [← hI1] at l1 l2
    have hMo1 : Mo I1 J x := by
      have := Mo_K h4 h l2 rfl l1
      rwa [oK_same] at this
    have e139 : I1 139 c = I 139 c := by rw [hI1, wO_c _ _ _ _ (by decide), wO_c _ _ _ _ (by decide)]
    obtain ⟨I2, hI2⟩ : ∃ I2, I2 = w2 I1 139 c (if wi = true then -9 else I 139 c) := ⟨_, rfl⟩
    have f2 : ∀ d q, d ≠ 139 → I2 d q = I1 d q := fun d q hd => by rw [hI2]; exact w2_c _ _ hd
    have hMo2 : Mo I2 J x1 := by
      cases wi
      · have : I2 = I1 := by rw [hI2]; exact w2_id (by rw [if_neg (by decide), e139])
        rw [this, hx1, if_neg (by decide)]; exact hMo1
      · rw [hx1, if_pos rfl]
        refine Mo_C hMo1 hc (fun d hd z => f2 d z (by omega)) (fun d hd hne => ⟨?_, fun t _ => ⟨f2 _ _ (by decide), f2 _ _ (by decide)⟩⟩) ?_ (fun q => absurd rfl q)
        · rw [hI2]; exact w2_k _ _ hne
        · rw [hI2, w2_s]; rfl
    have zz : zS x1 = zS x ∧ zT x1 = zT x ∧ zB x1 = zB x ∧ zN x1 = zN x := by rw [hx1]; cases wi <;> exact ⟨rfl, rfl, rfl, rfl⟩
    have hK2 : MoK k I2 J (zS x k) := by have := Mo_k hMo2 h4; rwa [zz.1] at this
    obtain ⟨I4, J4, t1, t2, t3⟩ := y_writes (B := B) (v := val) (b := zB x) (T := zT x) (mt := f) (mk := g) hN h4 hs hK2 hW (by omega) hN4 hn (by rw [hMo2.1.1, zz.2.2.2]) (by rw [hMo2.1.2.2.2.2, zz.2.1]) (by rw [hMo2.1.2.1, zz.2.2.1]) (by omega) (fun t ht => (hb t ht).1) (fun t ht => (hb t ht).2) (fun t ht => by
      rw [f2 _ _ (by decide), f2 _ _ (by decide), hI1]
      exact ⟨(wO_c _ _ _ _ (by decide)).trans (wO_in _ _ _ _ _ ht), wO_in _ _ _ _ _ ht⟩)
    refine ⟨I4, J4, ?_, ?_, ?_⟩
    · unfold F_X12_writes_96
      simp only [M_gr15, Option.bind_some, n_4, nI_add, R_ai136 (show 4 * k + s < 16 by omega), Y_made hK h5, hM, nI_1, at_ti k hn, e_bind_some]
      rw [y_lay (B := B) (I := I) (f := f) (g := g) (show 200 < N by omega) hc (by omega) wi (fun q t ht => ?_) (fun q t ht => ?_) (fun q => (hw3 q).1) (fun q => (hw3 q).2), ← hI1, ← hI2]
      · exact t1
      · rw [(hw2 q).1]; exact ((h.2.2.2.1 c hc).2 (by rw [hw1 q]; omega) t ht).2
      · rw [(hw2 q).2]; exact ((h.2.2.2.1 c hc).2 (by rw [hw1 q]; omega) t ht).1
    · have hMoT := Mo_T hMo2 (zT x + 1)
      refine Mo_K h4 hMoT t3 ?_ t2
      show kkd (zS x k) = kkd (zS x1 k)
      rw [zz.1]
    · refine fun d hd z => ⟨((t3 d z (fun q => by have := q.1; omega)).1).trans ?_, (t3 d z (fun q => by have := q.1; omega)).2⟩
      rw [w2_c _ _ (by omega), f2 _ _ (by omega)]
      exact (l2 d z (fun q => by have := q.1; omega)).1
  have pre : ∀ bb : Bool, (if zCK x c = k + 1 then bb = true else bb = false) → F_X12_writes_49 N (B + 125) (nI c) (nI s) (nI k) (nI (kkd (zS x k))) val (HP B I J) = F_X12_writes_96 N (B + 125) (nI c) (nI s) (nI k) val (b2 bb) (HP B I J) := by
    intro bb hbb
    unfold F_X12_writes_49
    simp only [M_gr15, M_gr4, M_gr18, Option.bind_some, n_4, nI_add, R_ai136 (show 4 * k + s < 16 by omega), Y_made hK h5, hM, if_neg h40, R_ai126 h4, e126, if_true, R_ai139 hc, Y_ck h hc]
    by_cases e : zCK x c = k + 1
    · rw [if_pos e] at hbb
      rw [hbb, if_pos (by rw [if_neg (by omega), e]; rfl)]; rfl
    · rw [if_neg e] at hbb
      rw [hbb, if_neg]
      · rfl
      · intro q
        by_cases e0 : zCK x c = 0
        · rw [if_pos e0] at q
          exact nI_m9 (show k < 2 ^ 31 by omega) q.symm
        · rw [if_neg e0] at q
          have := (nI_eq (show zCK x c - 1 < 2 ^ 31 by omega) (show k < 2 ^ 31 by omega)).mp q
          omega
  by_cases e : zCK x c = k + 1
  · have hn : nWr x c s k val = oBl (oK (vT x (zT x + 1)) k (oWr (zS x k) s val (zT x + 1) (zCT x c) (zCN x c) (zB x))) c := if_pos e
    obtain ⟨I2, J2, t1, t2, t3⟩ := both true (zCT x c) (zCN x c) (oBl x c) (fun _ => e) (fun _ => ⟨rfl, rfl⟩) (fun q => by cases q) (fun t ht => by
      obtain ⟨a1, a2⟩ := ctx.2 (by omega) t ht
      have hMt := WF_M w (show zCK x c - 1 < 4 by omega) ht
      omega) rfl
    refine ⟨I2, J2, ?_, ?_, t3⟩
    · rw [pre true (by rw [if_pos e])]; exact t1
    · rw [hn]; exact t2
  · have hn : nWr x c s k val = oK (vT x (zT x + 1)) k (oWr (zS x k) s val (zT x + 1) (fun _ => 0) (fun _ => 0) (zB x)) := if_neg e
    obtain ⟨I2, J2, t1, t2, t3⟩ := both false (fun _ => 0) (fun _ => 0) x (fun q => by cases q) (fun q => by cases q) (fun _ => ⟨rfl, rfl⟩) (fun t ht => by omega) rfl
    refine ⟨I2, J2, ?_, ?_, t3⟩
    · rw [pre false (by rw [if_neg e])]; exact t1
    · rw [hn]; exact t2
end RWR
