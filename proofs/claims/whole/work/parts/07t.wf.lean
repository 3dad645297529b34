/-! WHAT HOLDS OF EVERY STATE is kept by each call -/
section WFS
variable {x : eST} {y : eKS} {n T T2 k s a b c i j : Nat} {v : Int64} {mt mk : Nat → Nat} {S : Nat → Nat → Bool}
theorem WFK_mono (h : WFK n T y) (hT : T ≤ T2) : WFK n T2 y := by
  obtain ⟨h1, h2, h3, h4, h5, h6, h7, h8, h9⟩ := h
  exact ⟨h1, h2, h3, h4, h5, fun j hj q => ⟨(h6 j hj q).1, Nat.le_trans (h6 j hj q).2 hT⟩, h7, h8, h9⟩
/-- the sets fit -/
def sOK (y : eKS) (S : Nat → Nat → Bool) : Prop := (∀ f, f < 8 → ∀ j, j < 160 → S f j = true → cov (kM y) j = true) ∧ ∀ s, s < 4 → ∀ j, j < 160 → S (4 + s) j = true → cov (kR y s) j = true
theorem WFK_uS (h : WFK n T y) (hS : sOK y S) : WFK n T (uS y S) := by
  obtain ⟨h1, h2, h3, h4, h5, h6, h7, h8, h9⟩ := h
  exact ⟨h1, h2, h3, hS.1, hS.2, h6, h7, h8, h9⟩
theorem WFK_sOK (h : WFK n T y) : sOK y (kS y) := ⟨h.2.2.2.1, h.2.2.2.2.1⟩
theorem sOK_dr1 {St : Nat → Nat} (h : sOK y S) (hs : s < 4) : sOK y (dr1 St s S) := by
  unfold dr1
  cases e : bst (S (4 + s)) St 0 160 with
  | none => exact h
  | some d =>
    obtain ⟨d1, d2, _⟩ := bst_in e
    have hd := h.1 (4 + s) (by omega) d d1 d2
    refine ⟨fun f hf j hj q => ?_, fun u hu j hj q => ?_⟩
    · by_cases e1 : f = 4 + s
      · simp only [if_pos e1, Bool.and_eq_true] at q
        exact h.1 f hf j hj q.1
      · simp only [if_neg e1] at q
        by_cases e2 : f = 1
        · simp only [if_pos e2, Bool.or_eq_true, decide_eq_true_eq] at q
          exact q.elim (h.1 f hf j hj) (fun q => by rw [q]; exact hd)
        · simp only [if_neg e2] at q
          exact h.1 f hf j hj q
    · by_cases e1 : 4 + u = 4 + s
      · simp only [if_pos e1, Bool.and_eq_true] at q
        exact h.2 u hu j hj q.1
      · simp only [if_neg e1, if_neg (show ¬ 4 + u = 1 by omega)] at q
        exact h.2 u hu j hj q
theorem sOK_drn {St : Nat → Nat} (hs : s < 4) (h : sOK y S) : ∀ e, sOK y (drn St s S e)
  | 0 => h
  | e + 1 => sOK_dr1 (sOK_drn hs h e) hs
theorem cov_mono {m m2 : Nat → Nat} (hj : j < 160) (h : ∀ t, t < 4 → m t ≤ m2 t) (hc : cov m j = true) : cov m2 j = true := cov_le hc (h _ (by omega))
theorem WFK_seen (h : WFK n T y) (hs : s < 4) : WFK n T (oS y 0 (fun j => kS y 0 j || kS y (4 + s) j)) := by
  refine WFK_uS h ⟨fun f hf j hj q => ?_, fun u hu j hj q => ?_⟩
  · by_cases e : f = 0
    · simp only [if_pos e, Bool.or_eq_true] at q
      exact q.elim (h.2.2.2.1 0 (by decide) j hj) (h.2.2.2.1 (4 + s) (by omega) j hj)
    · simp only [if_neg e] at q
      exact h.2.2.2.1 f hf j hj q
  · simp only [if_neg (show ¬ 4 + u = 0 by omega)] at q
    exact h.2.2.2.2.1 u hu j hj q
theorem WFK_oRc (h : WFK n T y) (hn : n ≤ 4) (ha : a < n) (hb1 : b < n) : WFK n T (oRc y b a) := by
  obtain ⟨h1, h2, h3, h4, h5, h6, h7, h8, h9⟩ := h
  have ha4 : a < 4 := by omega
  have hb4 : b < 4 := by omega
  have eR : ∀ s, kR (oRc y b a) s = if s = b then (fun t => max (kR y b t) (kR y a t)) else kR y s := fun s => rfl
  refine ⟨h1, fun s hs t ht => ?_, fun s hs => ?_, fun f hf j hj q => ?_, fun s hs j hj q => ?_, h6, h7, h8, h9⟩
  · rw [eR]
    by_cases e : s = b
    · rw [if_pos e]
      have r1 := (h2 b hb4 t ht).1
      have r2 := (h2 a ha4 t ht).1
      exact ⟨by show max _ _ ≤ kM y t; omega, fun q => by omega⟩
    · rw [if_neg e]; exact h2 s hs t ht
  · rw [eR]
    by_cases e : s = b
    · rw [if_pos e, e]
      have r1 := h3 b hb1
      have r2 := (h2 a ha4 b hb4).1
      show max (kR y b b) (kR y a b) = kM y b
      omega
    · rw [if_neg e]; exact h3 s hs
  · rw [oRc_S] at q
    by_cases e : f = 4 + b
    · simp only [if_pos e] at q
      unfold stay at q
      cases q1 : kS y (4 + b) j
      · cases q2 : kS y (4 + a) j
        · rw [q1, q2] at q; simp at q
        · exact h4 _ (by omega) j hj q2
      · exact h4 _ (by omega) j hj q1
    · simp only [if_neg e] at q
      exact h4 f hf j hj q
  · rw [oRc_S] at q
    rw [eR]
    by_cases e : s = b
    · rw [if_pos e]
      simp only [if_pos (show 4 + s = 4 + b by omega)] at q
      unfold stay at q
      cases q1 : kS y (4 + b) j
      · cases q2 : kS y (4 + a) j
        · rw [q1, q2] at q; simp at q
        · exact cov_mono hj (fun t _ => Nat.le_max_right _ _) (h5 a ha4 j hj q2)
      · exact cov_mono hj (fun t _ => Nat.le_max_left _ _) (h5 b hb4 j hj q1)
    · rw [if_neg e]
      simp only [if_neg (show ¬ 4 + s = 4 + b by omega)] at q
      exact h5 s hs j hj q
theorem WFK_oSe (h : WFK n T y) (hn : n ≤ 4) (ha : a < n) (hb1 : b < n) : WFK n T (oSe y b a c) := by
  have h1 := WFK_oRc h hn ha hb1
  exact WFK_uS h1 (sOK_drn (by omega) (WFK_sOK h1) _)
theorem WFK_oT (h : WFK n T y) (hn : n ≤ 4) (hs : s < n) (hn40 : kR y s s < 40) (hmt : ∀ t, t < 4 → mt t ≤ kM y t) (hmk : ∀ t, t < 4 → mk t ≤ kM y t) : WFK n (T + 1) (oT y s v (T + 1) mt mk) := by
  obtain ⟨h1, h2, h3, h4, h5, h6, h7, h8, h9⟩ := h
  have hs4 : s < 4 := by omega
  have hM := (h3 s hs).symm
  have eM : ∀ t, kM (oT y s v (T + 1) mt mk) t = if t = s then kR y s s + 1 else kM y t := fun _ => rfl
  have eR : ∀ u t, kR (oT y s v (T + 1) mt mk) u t = (if u = s then (fun t => if t = s then kR y s s + 1 else max (kR y s t) (mt t)) else kR y u) t := fun _ _ => rfl
  have mM : ∀ t, t < 4 → kM y t ≤ kM (oT y s v (T + 1) mt mk) t := by
    intro t ht
    rw [eM]
    by_cases e : t = s
    · rw [if_pos e, e]; omega
    · rw [if_neg e]; exact Nat.le_refl _
  have hcov : ∀ j, j < 160 → cov (kM (oT y s v (T + 1) mt mk)) j = (cov (kM y) j || decide (j = 40 * s + kR y s s)) := fun j hj => by
    have := oCm_cov (z := oT3 y s mt mk) (s := s) (v := v) (mt := mt) (mk := mk) (st := T + 1) hM hn40 hj
    rw [oCm_T] at this
    exact this
  have eSt : ∀ j, kSt (oT y s v (T + 1) mt mk) j = if j = 40 * s + (kR y s s + 1 - 1) then T + 1 else kSt y j := fun _ => rfl
  have eTo : ∀ j, kTo (oT y s v (T + 1) mt mk) j = if j = 40 * s + (kR y s s + 1 - 1) then mt else kTo y j := fun _ => rfl
  have eKn : ∀ j, kKn (oT y s v (T + 1) mt mk) j = if j = 40 * s + (kR y s s + 1 - 1) then mk else kKn y j := fun _ => rfl
  rw [Nat.add_sub_cancel] at eSt eTo eKn
  have eS : ∀ f, f ≠ 4 + s → f ≠ 2 → kS (oT y s v (T + 1) mt mk) f = kS y f := by
    intro f f1 f2
    rw [← oCm_T, oCm_S]
    simp only [if_neg f1]
    exact oT3_o y s mt mk f1 f2
  have eS2 : kS (oT y s v (T + 1) mt mk) 2 = fun j => kS y 2 j || (kS y (4 + s) j && cov mt j) := by
    rw [← oCm_T, oCm_S]
    simp only [if_neg (show ¬ 2 = 4 + s by omega)]
    exact oT3_2 y s mt mk
  have hR5 : ∀ t, t < 4 → kR y s t ≤ kR (oT y s v (T + 1) mt mk) s t := by
    intro t ht
    rw [eR, if_pos rfl]
    by_cases e : t = s
    · rw [if_pos e, e]; omega
    · rw [if_neg e]; exact Nat.le_max_left _ _
  refine ⟨fun t ht => ?_, fun u hu t ht => ?_, fun u hu => ?_, fun f hf j hj q => ?_, fun u hu j hj q => ?_, fun j hj q => ?_, fun i j hi hj qi qj e => ?_, fun j hj q t ht => ?_, ?_⟩
  · rw [eM]
    by_cases e : t = s
    · rw [if_pos e]; exact ⟨by omega, fun q => by omega⟩
    · rw [if_neg e]; exact h1 t ht
  · rw [eR, eM]
    by_cases e : u = s
    · rw [if_pos e]
      by_cases e2 : t = s
      · rw [if_pos e2, if_pos e2]; exact ⟨Nat.le_refl _, fun q => by omega⟩
      · rw [if_neg e2, if_neg e2]
        have r1 := (h2 s hs4 t ht).1
        have r2 := hmt t ht
        exact ⟨by omega, fun q => by omega⟩
    · rw [if_neg e]
      obtain ⟨r1, r2⟩ := h2 u hu t ht
      refine ⟨?_, r2⟩
      by_cases e2 : t = s
      · rw [if_pos e2]; rw [e2] at r1 ⊢; omega
      · rw [if_neg e2]; exact r1
  · rw [eR, eM]
    by_cases e : u = s
    · rw [if_pos e, if_pos e, if_pos e]
    · rw [if_neg e, if_neg e]; exact h3 u hu
  · by_cases e : f = 4 + s
    · subst e
      rw [oT_S] at q
      rw [hcov j hj]
      rw [Bool.or_eq_true] at q ⊢
      refine q.imp (fun q => ?_) id
      rw [Bool.and_eq_true] at q
      exact h4 (4 + s) hf j hj q.1
    · by_cases e2 : f = 2
      · subst e2
        rw [eS2] at q
        simp only [Bool.or_eq_true, Bool.and_eq_true] at q
        exact cov_mono hj mM (q.elim (h4 2 hf j hj) (fun q => h4 (4 + s) (by omega) j hj q.1))
      · rw [eS f e e2] at q
        exact cov_mono hj mM (h4 f hf j hj q)
  · by_cases e : u = s
    · subst e
      rw [oT_S, Bool.or_eq_true, Bool.and_eq_true, decide_eq_true_eq] at q
      rcases q with q | q
      · exact cov_mono hj hR5 (h5 u hu j hj q.1)
      · rw [q, cov_ti _ hn40, eR, if_pos rfl, if_pos rfl]
        exact decide_eq_true (by omega)
    · rw [eS (4 + u) (by omega) (by omega)] at q
      have := h5 u hu j hj q
      refine cov_mono hj (fun t ht => ?_) this
      rw [eR, if_neg e]
      exact Nat.le_refl _
  · rw [hcov j hj, Bool.or_eq_true, decide_eq_true_eq] at q
    rw [eSt]
    by_cases e : j = 40 * s + kR y s s
    · rw [if_pos e]; omega
    · rw [if_neg e]
      have := h6 j hj (q.resolve_right e)
      omega
  · rw [hcov i hi, Bool.or_eq_true, decide_eq_true_eq] at qi
    rw [hcov j hj, Bool.or_eq_true, decide_eq_true_eq] at qj
    rw [eSt, eSt] at e
    by_cases ei : i = 40 * s + kR y s s
    · by_cases ej : j = 40 * s + kR y s s
      · omega
      · rw [if_pos ei, if_neg ej] at e
        have := h6 j hj (qj.resolve_right ej)
        omega
    · by_cases ej : j = 40 * s + kR y s s
      · rw [if_neg ei, if_pos ej] at e
        have := h6 i hi (qi.resolve_right ei)
        omega
      · rw [if_neg ei, if_neg ej] at e
        exact h7 i j hi hj (qi.resolve_right ei) (qj.resolve_right ej) e
  · rw [hcov j hj, Bool.or_eq_true, decide_eq_true_eq] at q
    have hm := mM t ht
    rw [eTo, eKn]
    by_cases e : j = 40 * s + kR y s s
    · rw [if_pos e, if_pos e]
      exact ⟨Nat.le_trans (hmt t ht) hm, Nat.le_trans (hmk t ht) hm⟩
    · rw [if_neg e, if_neg e]
      obtain ⟨r1, r2⟩ := h8 j hj (q.resolve_right e) t ht
      exact ⟨Nat.le_trans r1 hm, Nat.le_trans r2 hm⟩
  · rw [kd_oT]; exact h9
theorem WFK_oWr (h : WFK n T y) (hn : n ≤ 4) (hs : s < n) (hn40 : kR y s s < 40) (hmt : ∀ t, t < 4 → mt t ≤ kM y t) (hmk : ∀ t, t < 4 → mk t ≤ kM y t) : WFK n (T + 1) (oWr y s v (T + 1) mt mk b) := by
  have h1 := WFK_oT (v := v) h hn hs hn40 hmt hmk
  exact WFK_uS h1 (sOK_drn (by omega) (WFK_sOK h1) _)
theorem WFK_oMg2 (h : WFK n T y) (hs : s < 4) : WFK n T (oMg2 y s) := by
  have e : oMg2 y s = uS y (kS (oMg2 y s)) := rfl
  rw [e]
  refine WFK_uS h ⟨fun f hf j hj q => ?_, fun u hu j hj q => ?_⟩
  · by_cases e : f = 4 + s
    · subst e
      rw [oMg2_s] at q; cases q
    · by_cases e0 : f = 0
      · subst e0
        rw [oMg2_0] at q
        simp only [Bool.or_eq_true] at q
        exact q.elim (h.2.2.2.1 0 (by decide) j hj) (h.2.2.2.1 (4 + s) (by omega) j hj)
      · by_cases e3 : f = 3
        · subst e3
          rw [oMg2_3] at q
          simp only [Bool.or_eq_true] at q
          exact q.elim (h.2.2.2.1 3 (by decide) j hj) (h.2.2.2.1 (4 + s) (by omega) j hj)
        · rw [oMg2_o y s e e0 e3] at q
          exact h.2.2.2.1 f hf j hj q
  · by_cases e : u = s
    · subst e
      rw [oMg2_s] at q; cases q
    · rw [oMg2_o y s (by omega) (by omega) (by omega)] at q
      exact h.2.2.2.2.1 u hu j hj q
theorem WFK_oMg (h : WFK n T y) (hn : n ≤ 4) (hs : s < n) (hn40 : kR y s s < 40) : WFK n (T + 1) (oMg y s v (T + 1)) := by
  rw [oMg_d]
  exact WFK_oT (WFK_oMg2 h (by omega)) hn hs hn40 (fun t ht => (h.2.1 s (by omega) t ht).1) (fun t ht => (h.2.1 s (by omega) t ht).1)
/-- a key laid anew -/
theorem WF_oK (w : WF x) (hk : k < 4) (hy : WFK (zN x) (zT x) y) (hm : ∀ t, t < 4 → kM (zS x k) t ≤ kM y t) : WF (oK x k y) := by
  obtain ⟨w1, w2, w3, w4, w5, w6, w7, w8, w9⟩ := w
  have eS : ∀ a, zS (oK x k y) a = if a = k then y else zS x a := fun _ => rfl
  refine ⟨w1, w2, w3, w4, w5, w6, w7, fun c hc => ⟨(w8 c hc).1, fun q t ht => ?_⟩, fun a ha => ?_⟩
  · obtain ⟨r1, r2⟩ := (w8 c hc).2 q t ht
    show zCN x c t ≤ kM (zS (oK x k y) (zCK x c - 1)) t ∧ zCT x c t ≤ kM (zS (oK x k y) (zCK x c - 1)) t
    rw [eS]
    by_cases e : zCK x c - 1 = k
    · rw [if_pos e]
      rw [e] at r1 r2
      exact ⟨Nat.le_trans r1 (hm t ht), Nat.le_trans r2 (hm t ht)⟩
    · rw [if_neg e]; exact ⟨r1, r2⟩
  · rw [eS]
    by_cases e : a = k
    · rw [if_pos e]; exact hy
    · rw [if_neg e]; exact w9 a ha
theorem WF_vT (w : WF x) (h1 : zT x ≤ n) (h2 : n ≤ 1000) : WF (vT x n) := by
  obtain ⟨w1, w2, w3, w4, w5, w6, w7, w8, w9⟩ := w
  exact ⟨w1, w2, w3, w4, h2, w6, w7, w8, fun a ha => WFK_mono (w9 a ha) h1⟩
theorem WF_oC (w : WF x) {ck : Nat} {cn ctt : Nat → Nat} (h1 : ck ≤ zK x) (h2 : ck ≠ 0 → ∀ t, t < 4 → cn t ≤ kM (zS x (ck - 1)) t ∧ ctt t ≤ kM (zS x (ck - 1)) t) : WF (oC x c ck cn ctt) := by
  obtain ⟨w1, w2, w3, w4, w5, w6, w7, w8, w9⟩ := w
  refine ⟨w1, w2, w3, w4, w5, w6, w7, fun d hd => ?_, w9⟩
  show (if d = c then ck else zCK x d) ≤ zK x ∧ ((if d = c then ck else zCK x d) ≠ 0 → ∀ t, t < 4 → (if d = c then cn else zCN x d) t ≤ kM (zS x ((if d = c then ck else zCK x d) - 1)) t ∧ (if d = c then ctt else zCT x d) t ≤ kM (zS x ((if d = c then ck else zCK x d) - 1)) t)
  by_cases e : d = c
  · simp only [if_pos e]; exact ⟨h1, h2⟩
  · simp only [if_neg e]; exact w8 d hd
theorem WF_oBl (w : WF x) : WF (oBl x c) := WF_oC w (Nat.zero_le _) (fun q => absurd rfl q)
theorem WF_oTy (w : WF x) (hj : j < 256) (hE : zE x < 100) : WF (oTy x j) := by
  obtain ⟨w1, w2, w3, w4, w5, w6, w7, w8, w9⟩ := w
  refine ⟨w1, w2, w3, w4, w5, ⟨?_, fun i hi => ?_⟩, w7, w8, w9⟩
  · show zE x + 1 ≤ 100
    omega
  · have hi2 : i < zE x + 1 := hi
    show (if i = zE x then j else zX x i) ≤ 255
    by_cases e : i = zE x
    · rw [if_pos e]; omega
    · rw [if_neg e]; exact w6.2 i (by omega)
theorem WF_vE0 (w : WF x) : WF (vE x 0) := by
  obtain ⟨w1, w2, w3, w4, w5, w6, w7, w8, w9⟩ := w
  exact ⟨w1, w2, w3, w4, w5, ⟨Nat.zero_le _, fun i hi => absurd hi (Nat.not_lt_zero i)⟩, w7, w8, w9⟩
theorem WF_oRd (w : WF x) (hs : s < zN x) (hk : k < zK x) : WF (oRd x c s k) := by
  have h4 : k < 4 := Nat.lt_of_lt_of_le hk w.2.2.2.1
  have h5 : s < 4 := Nat.lt_of_lt_of_le hs w.1.2
  have hW := WF_k w h4
  have w1 : WF (oC x c (k + 1) (kR (zS x k) s) (aPr x k s)) := WF_oC w hk (fun _ t ht => ⟨(hW.2.1 s h5 t ht).1, Nat.le_trans (prn_le _ _ _ t) (hW.2.1 s h5 t ht).1⟩)
  exact WF_oK w1 h4 (WFK_seen hW h5) (fun t ht => Nat.le_refl _)
theorem oT_Mle (hM : kM y s = kR y s s) {st : Nat} (t : Nat) : kM y t ≤ kM (oT y s v st mt mk) t := by
  show kM y t ≤ if t = s then kR y s s + 1 else kM y t
  by_cases e : t = s
  · rw [if_pos e, e]; omega
  · rw [if_neg e]; exact Nat.le_refl _
theorem WF_nWr (w : WF x) (hT : zT x < 1000) (hc : c < 4) (hs : s < zN x) (hk : k < zK x) (hn : kR (zS x k) s s < 40) : WF (nWr x c s k v) := by
  have h4 : k < 4 := Nat.lt_of_lt_of_le hk w.2.2.2.1
  have h5 : s < 4 := Nat.lt_of_lt_of_le hs w.1.2
  have hW := WF_k w h4
  have hM : kM (zS x k) s = kR (zS x k) s s := (hW.2.2.1 s hs).symm
  have w1 := WF_vT w (n := zT x + 1) (by omega) (by omega)
  unfold nWr
  by_cases e : zCK x c = k + 1
  · rw [if_pos e]
    obtain ⟨_, q2⟩ := w.2.2.2.2.2.2.2.1 c hc
    have q3 := q2 (by omega)
    rw [e, Nat.add_sub_cancel] at q3
    refine WF_oBl (WF_oK w1 h4 (WFK_oWr hW w.1.2 hs hn (fun t ht => (q3 t ht).2) (fun t ht => (q3 t ht).1)) (fun t ht => oT_Mle (v := v) (st := zT x + 1) hM t))
  · rw [if_neg e]
    exact WF_oK w1 h4 (WFK_oWr hW w.1.2 hs hn (fun t _ => Nat.zero_le _) (fun t _ => Nat.zero_le _)) (fun t ht => oT_Mle (v := v) (st := zT x + 1) hM t)
theorem WF_nMg (w : WF x) (hT : zT x < 1000) (hs : s < zN x) (hk : k < zK x) (hn : kR (zS x k) s s < 40) : WF (nMg x s k i) := by
  have h4 : k < 4 := Nat.lt_of_lt_of_le hk w.2.2.2.1
  have hW := WF_k w h4
  have hM : kM (zS x k) s = kR (zS x k) s s := (hW.2.2.1 s hs).symm
  have w1 := WF_vT w (n := zT x + 1) (by omega) (by omega)
  unfold nMg
  refine WF_oK w1 h4 (WFK_oMg hW w.1.2 hs hn) (fun t ht => ?_)
  rw [oMg_d]
  exact oT_Mle (y := oMg2 (zS x k) s) (st := zT x + 1) hM t
theorem WF_oSe (w : WF x) (ha : a < zN x) (hb1 : b < zN x) (hk : k < zK x) : WF (oK x k (oSe (zS x k) b a (zB x))) := by
  have h4 : k < 4 := Nat.lt_of_lt_of_le hk w.2.2.2.1
  exact WF_oK w h4 (WFK_oSe (WF_k w h4) w.1.2 ha hb1) (fun t ht => Nat.le_refl _)
theorem WF_nRu (w : WF x) (hk : k < 4) (hb1 : b < 5) : WF (nRu x k b) := by
  have h2 := WF_2 w
  obtain ⟨w1, w2, w3, w4, w5, w6, w7, w8, w9⟩ := w
  unfold nRu
  cases e : fd x k with
  | some i =>
    refine ⟨w1, w2, w3, w4, w5, w6, ⟨h2, fun a ha => ⟨(w7.2 a ha).1, ?_⟩⟩, w8, w9⟩
    show (if a = i then b else zRR x a) ≤ 4
    by_cases q : a = i
    · rw [if_pos q]; omega
    · rw [if_neg q]; exact (w7.2 a ha).2
  | none =>
    by_cases q : zM x < 2
    · simp only [if_pos q]
      refine ⟨w1, w2, w3, w4, w5, w6, ⟨q, fun a ha => ?_⟩, w8, w9⟩
      have ha2 : a < zM x + 1 := ha
      show (if a = zM x then k else zRK x a) < 4 ∧ (if a = zM x then b else zRR x a) ≤ 4
      by_cases r : a = zM x
      · rw [if_pos r, if_pos r]; exact ⟨hk, by omega⟩
      · rw [if_neg r, if_neg r]; exact w7.2 a (by omega)
    · simp only [if_neg q]
      have r1 := w7.2 1 (by omega)
      refine ⟨w1, w2, w3, w4, w5, w6, ⟨Nat.le_refl _, fun a ha => ?_⟩, w8, w9⟩
      show (if a = 0 then zRK x 1 else k) < 4 ∧ (if a = 0 then zRR x 1 else b) ≤ 4
      by_cases r : a = 0
      · rw [if_pos r, if_pos r]; exact r1
      · rw [if_neg r, if_neg r]; exact ⟨hk, by omega⟩
end WFS
