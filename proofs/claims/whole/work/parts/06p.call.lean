/-! CALLS of the class: writes -/
section CALL4
variable {B : Nat} {I : Nat → Nat → Int32} {J J2 : Nat → Nat → Int64} {a b c i j k s f t n : Nat} {x : eST} {y : eKS} {v w : Int32}
theorem V_p (hk : 7 ≤ k ∧ k < 12) : h_p (HP B I J) 10 B k (.int v) = some (HP B (w2 I 0 k v) J) := m_pi (c := 0) (n := 12) (by decide) hk.2 ((by decide : ∀ k, k < 12 → 7 ≤ k → m_fk 10 k = 0) k hk.2 hk.1)
theorem t_setT (h : Cl I J x) (n : Nat) : ∃ I2, h_p (HP B I J) 10 B 11 (.int (nI n)) = some (HP B I2 J) ∧ Cl I2 J (vT x n) ∧ frC I J I2 J ∧ I2 0 11 = nI n ∧ ∀ d, d ≠ 0 → ∀ z, I2 d z = I d z := by
  obtain ⟨⟨a1, a2, a3, a4, a5⟩, ⟨b1, b2⟩, ⟨c1, c2⟩, d, e⟩ := h
  have fo : ∀ d, d ≠ 0 → ∀ z, w2 I 0 11 (nI n) d z = I d z := fun d hd z => w2_c _ _ hd
  refine ⟨w2 I 0 11 (nI n), V_p (by decide), Cl_mk (x := x) ⟨⟨a1, a2, a3, a4, a5⟩, ⟨b1, b2⟩, ⟨c1, c2⟩, d, e⟩ rfl (fun c _ h2 z => fo c (by omega) z) (fun c _ h2 z => rfl) ⟨?_, ?_, ?_, ?_, ?_⟩ ⟨?_, fun i hi => ?_⟩ ⟨?_, fun i hi => ?_⟩ (ClC_fr d (fun c hc z => fo _ (by unfold cC; omega) z) rfl rfl rfl), fun d hd z => ⟨fo d (by omega) z, rfl⟩, w2_s _ _ _ _, fo⟩
  · rw [w2_k _ _ (by decide)]; exact a1
  · rw [w2_k _ _ (by decide)]; exact a2
  · rw [w2_k _ _ (by decide)]; exact a3
  · rw [w2_k _ _ (by decide)]; exact a4
  · exact w2_s _ _ _ _
  · rw [fo 1 (by decide)]; exact b1
  · rw [fo 2 (by decide)]; exact b2 i hi
  · rw [fo 7 (by decide)]; exact c1
  · rw [fo 8 (by decide), fo 9 (by decide)]; exact c2 i hi
theorem oT_M (y : eKS) (s : Nat) (v : Int64) (st : Nat) (mt mk : Nat → Nat) : kM (oT y s v st mt mk) = fun t => if t = s then kR y s s + 1 else kM y t := rfl
theorem oT_S (y : eKS) (s : Nat) (v : Int64) (st : Nat) (mt mk : Nat → Nat) (j : Nat) : kS (oT y s v st mt mk) (4 + s) j = (kS y (4 + s) j && !cov mt j || decide (j = 40 * s + kR y s s)) := by
  have e1 : kS (oT1 y s mt) (4 + s) = kS y (4 + s) := oS_ne (by omega)
  have e2 : kS (oT5 y s v st mt mk) (4 + s) = kS (oT2 y s mt) (4 + s) := rfl
  have e3 : kS (oT2 y s mt) (4 + s) = fun j => kS (oT1 y s mt) (4 + s) j && !cov mt j := if_pos rfl
  have e4 : kS (oT y s v st mt mk) (4 + s) = fun z => kS (oT5 y s v st mt mk) (4 + s) z || decide (z = 40 * s + kR y s s) := if_pos rfl
  rw [e4, e2, e3, e1]
theorem cov_le {m m2 : Nat → Nat} (h : cov m j = true) (hm : m (j / 40) ≤ m2 (j / 40)) : cov m2 j = true := by
  unfold cov at *
  rw [decide_eq_true_eq] at *
  omega
theorem oT_cov {st : Nat} {v : Int64} {mt mk : Nat → Nat} (hM : kM y s = kR y s s) (hn : kR y s s < 40) (hc : ∀ j, j < 160 → kS y (4 + s) j = true → cov (kM y) j = true) : ∀ j, j < 160 → kS (oT y s v st mt mk) (4 + s) j = true → cov (kM (oT y s v st mt mk)) j = true := by
  intro j hj q
  rw [oT_S, Bool.or_eq_true, Bool.and_eq_true] at q
  rw [oT_M]
  rcases q with q | q
  · refine cov_le (hc j hj q.1) ?_
    by_cases e : j / 40 = s
    · simp only [e, if_true]; omega
    · simp only [if_neg e]; omega
  · have := of_decide_eq_true q
    subst this
    rw [cov_ti _ hn, if_pos rfl, decide_eq_true_eq]
    omega
/-- a key after a write -/
def oWr (y : eKS) (s : Nat) (v : Int64) (st : Nat) (mt mk : Nat → Nat) (b : Nat) : eKS := uS (oT y s v st mt mk) (drn (kSt (oT y s v st mt mk)) s (kS (oT y s v st mt mk)) (ct (kS (oT y s v st mt mk) (4 + s)) 160 - b))
theorem t_wr148 {N : Nat} (hN : 200 < N) (h : Cl I J x) (hc : c < 4) (hk : k < 4) (hs : s < 4) (hM : kM (zS x k) s = kR (zS x k) s s) (hn : kR (zS x k) s s < 40) (hcov : ∀ j, j < 160 → kS (zS x k) (4 + s) j = true → cov (kM (zS x k)) j = true) (hB : zB x ≤ 6) {val : Int64} {st : Nat} (hst : st < 2 ^ 31) {p q : Int32} {mt mk : Nat → Nat} (hp : rwN p mt) (hq : rwN q mk) (l9 : Int32) (bl : Bool) : ∃ I2 J2, F_X11_writes_148 N B (B + cC c) (B + cR k s) l9 (b2 bl) (B + cR k s) val (nI st) p q (HP B I J) = some (l9, HP B I2 J2) ∧ Cl I2 J2 (if bl = true then oBl (oK x k (oWr (zS x k) s val st mt mk (zB x))) c else oK x k (oWr (zS x k) s val st mt mk (zB x))) ∧ frC I J I2 J2 := by
  have hK := Cl_k h hk
  obtain ⟨I1, J1, e1, c1, f1⟩ := t_take (B := B) hN hk hs hK hM hn val hst hp hq
  obtain ⟨J2, c2, f2, e2⟩ := t_dropBeyond (B := B) hN hk hs c1 (oT_cov hM hn hcov) (b := zB x) (by omega)
  have f2' : frK k I1 J1 I1 J2 := fun c hc z => ⟨rfl, f2 c (by have := dF_hi k hk 1 (by decide); omega) (by have := dF_hi k hk (4 + s) (by omega); omega) z⟩
  have hf := frK_t f1 f2'
  have h2 := Cl_K hk h hf c2
  have g8 : h_gi (HP B I1 J1) 10 B 8 = some (nI (zB x)) := (V_gi (by decide)).trans (congrArg some (((f1 0 (Or.inl (by omega)) 8).1).trans h.1.2.1))
  cases bl
  · refine ⟨I1, J2, ?_, h2, frK_C hk hf⟩
    unfold F_X11_writes_148
    simp only [R_is hk hs, Option.bind_some, e1, e_bind_some, g8, e2, b2, Bool.false_eq_true, if_false, if_true]
  · obtain ⟨I3, e3, c3, f3⟩ := t_blind (B := B) h2 hc
    refine ⟨I3, J2, ?_, c3, frC_t (frK_C hk hf) f3⟩
    unfold F_X11_writes_148
    simp only [R_is hk hs, Option.bind_some, e1, e_bind_some, g8, e2, b2, if_true, if_neg (show ¬ ((1 : Int32) = 0) by decide), C_is hc, e3]
/-- the state after a write -/
def nWr (x : eST) (c s k : Nat) (val : Int64) : eST :=
  if zCK x c = k + 1 then oBl (oK (vT x (zT x + 1)) k (oWr (zS x k) s val (zT x + 1) (zCT x c) (zCN x c) (zB x))) c
  else oK (vT x (zT x + 1)) k (oWr (zS x k) s val (zT x + 1) (fun _ => 0) (fun _ => 0) (zB x))
theorem c_writes_53 {N : Nat} (hN : 200 < N) (h : Cl I J x) (w : WF x) (hc : c < 4) (hs : s < zN x) (hk : k < zK x) (hn : kR (zS x k) s s < 40) (val : Int64) : ∃ I2 J2, F_X11_writes_53 N B (nI k) (nI (kkd (zS x k))) val (B + cC c) (B + cR k s) (HP B I J) = some (nI (kR (zS x k) s s + 1), HP B I2 J2) ∧ Cl I2 J2 (nWr x c s k val) ∧ frC I J I2 J2 := by
  have h4 : k < 4 := Nat.lt_of_lt_of_le hk w.2.2.2.1
  have h5 : s < 4 := Nat.lt_of_lt_of_le hs w.1.2
  have hK := Cl_k h h4
  have hW := WF_k w h4
  have hT : zT x ≤ 1000 := w.2.2.2.2.1
  obtain ⟨I1, e1, c1, f1, g1, g2⟩ := t_setT (B := B) h (zT x + 1)
  have hM : kM (zS x k) s = kR (zS x k) s s := (hW.2.2.1 s hs).symm
  have a1 : F_X8_nextNumber (B + cR k s) (HP B I J) = some (nI (kR (zS x k) s s + 1), HP B I J) := s_nextNumber h4 h5 hK
  have a2 : h_gi (HP B I J) 3 (B + cJ k) 8 = some (nI (kkd (zS x k))) := (m_gi (sh_J k h4) (by decide) (by decide)).trans (congrArg some hK.2.2.2.2.1)
  have a3 : h_gi (HP B I J) 10 B 11 = some (nI (zT x)) := (V_gi (by decide)).trans (congrArg some h.1.2.2.2.2)
  have a4 : h_gi (HP B I1 J) 10 B 11 = some (nI (zT x + 1)) := (V_gi (by decide)).trans (congrArg some g1)
  have n0 : cC c ≠ 0 := by unfold cC; omega
  have hle : nI (kR (zS x k) s s + 1) ≤ (40 : Int32) := nI_le (show kR (zS x k) s s + 1 ≤ 40 by omega) (by decide)
  have hcov := fun j hj q => hW.2.2.2.1 (4 + s) (by omega) j hj q
  have hB : zB x ≤ 6 := w.2.1.2
  by_cases e : zCK x c = k + 1
  · have hne : zCK x c ≠ 0 := by omega
    have hcl := (h.2.2.2.1 c hc).2 hne
    have hck : I (cC c) 0 = nI k := by rw [(h.2.2.2.1 c hc).1, if_neg hne, e]; rfl
    obtain ⟨I2, J2, e2, c2, f2⟩ := t_wr148 (B := B) (x := vT x (zT x + 1)) hN c1 hc h4 h5 hM hn hcov hB (val := val) (st := zT x + 1) (by omega) hcl.2 hcl.1 (nI (kR (zS x k) s s + 1)) true
    refine ⟨I2, J2, ?_, ?_, frC_t f1 f2⟩
    · have e2' : F_X11_writes_148 N B (B + cC c) (B + cR k s) (nI (kR (zS x k) s s + 1)) 1 (B + cR k s) val (nI (zT x + 1)) (I (cC c) 2) (I (cC c) 1) (HP B I1 J) = some (nI (kR (zS x k) s s + 1), HP B I2 J2) := e2
      unfold F_X11_writes_53 F_X11_writes_100 F_X11_writes_134
      simp only [R_is h4 h5, Option.bind_some, a1, e_bind_some, if_pos hle, R_gr1 h4 h5, a2, if_true, C_gi hc (show 0 < 3 by decide), hck, a3, nI_1, e1, a4, if_neg (show ¬ ((1 : Int32) = 0) by decide), C_gi hc (show 1 < 3 by decide), C_gi hc (show 2 < 3 by decide), g2 _ n0, e2']
    · have : nWr x c s k val = oBl (oK (vT x (zT x + 1)) k (oWr (zS x k) s val (zT x + 1) (zCT x c) (zCN x c) (zB x))) c := if_pos e
      rw [this]
      exact c2
  · have hck : ¬ I (cC c) 0 = nI k := by
      rw [(h.2.2.2.1 c hc).1]
      by_cases e0 : zCK x c = 0
      · rw [if_pos e0]
        intro q
        have := nI_pos (n := k) (by omega)
        rw [← q] at this
        exact this (by decide)
      · rw [if_neg e0]
        intro q
        have h1 := (w.2.2.2.2.2.2.2.1 c hc).1
        have h2 := w.2.2.2.1
        have := (nI_eq (show zCK x c - 1 < 2 ^ 31 by omega) (show k < 2 ^ 31 by omega)).mp q
        omega
    obtain ⟨I2, J2, e2, c2, f2⟩ := t_wr148 (B := B) (x := vT x (zT x + 1)) hN c1 hc h4 h5 hM hn hcov hB (val := val) (st := zT x + 1) (by omega) rwN_0 rwN_0 (nI (kR (zS x k) s s + 1)) false
    refine ⟨I2, J2, ?_, ?_, frC_t f1 f2⟩
    · have e2' : F_X11_writes_148 N B (B + cC c) (B + cR k s) (nI (kR (zS x k) s s + 1)) 0 (B + cR k s) val (nI (zT x + 1)) 0 0 (HP B I1 J) = some (nI (kR (zS x k) s s + 1), HP B I2 J2) := e2
      unfold F_X11_writes_53 F_X11_writes_100 F_X11_writes_134
      simp only [R_is h4 h5, Option.bind_some, a1, e_bind_some, if_pos hle, R_gr1 h4 h5, a2, if_true, C_gi hc (show 0 < 3 by decide), if_neg hck, a3, nI_1, e1, a4, e2']
    · have : nWr x c s k val = oK (vT x (zT x + 1)) k (oWr (zS x k) s val (zT x + 1) (fun _ => 0) (fun _ => 0) (zB x)) := if_neg e
      rw [this]
      exact c2
end CALL4
