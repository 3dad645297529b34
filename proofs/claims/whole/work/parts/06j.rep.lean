/-! REPLICAS: take, receive, merge, begin anew -/
def oRw (x : eKS) (s : Nat) (m : Nat → Nat) : eKS := uR x (fun a => if a = s then m else kR x a)
def oT1 (x : eKS) (s : Nat) (mt : Nat → Nat) : eKS := oS x 2 (fun j => kS x 2 j || (kS x (4 + s) j && cov mt j))
def oT2 (x : eKS) (s : Nat) (mt : Nat → Nat) : eKS := oS (oT1 x s mt) (4 + s) (fun j => kS (oT1 x s mt) (4 + s) j && !cov mt j)
def oT3 (x : eKS) (s : Nat) (mt mk : Nat → Nat) : eKS := uF (oT2 x s mt) (kF x + nI (ct (fun j => kS (oT2 x s mt) (4 + s) j && cov mk j) 160))
def oT4 (x : eKS) (s : Nat) (mt mk : Nat → Nat) : eKS := oRw (oT3 x s mt mk) s (fun t => if t = s then kR x s s + 1 else max (kR x s t) (mt t))
def oT5 (x : eKS) (s : Nat) (v : Int64) (st : Nat) (mt mk : Nat → Nat) : eKS := oW (oT4 x s mt mk) s (kR x s s + 1) v st mt mk
def oT (x : eKS) (s : Nat) (v : Int64) (st : Nat) (mt mk : Nat → Nat) : eKS := oS (oT5 x s v st mt mk) (4 + s) (fun y => kS (oT5 x s v st mt mk) (4 + s) y || decide (y = 40 * s + kR x s s))
section REP2
variable {B : Nat} {I : Nat → Nat → Int32} {J J2 : Nat → Nat → Int64} {d e t n i j k s f g u : Nat} {x : eKS} {m : Nat → Nat} {p : Nat → Bool}
theorem t_take {N : Nat} (hN : 200 < N) (hk : k < 4) (hs : s < 4) (h : ClK k I J x) (hM : kM x s = kR x s s) (hn : kR x s s < 40) (v : Int64) {st : Nat} (hst : st < 2 ^ 31) {y z : Int32} {mt mk : Nat → Nat} (hy : rwN y mt) (hz : rwN z mk) : KP B k I J (oT x s v st mt mk) (F_X8_take N (B + cR k s) v (nI st) y z (HP B I J)) := by
  obtain ⟨I1, J1, e1, c1, f1⟩ := t_addCovered (B := B) hN hk (show 2 < 8 by decide) (show 4 + s < 8 by omega) (by omega) h hy
  obtain ⟨I2, J2, e2, c2, f2⟩ := t_removeCovered (B := B) hN hk (show 4 + s < 8 by omega) (x := oT1 x s mt) c1 hy
  have e3 := t_coveredTotal (B := B) (I := I2) (show 5 < N by omega) (isD_F k hk (4 + s) (by omega)) (p := kS (oT2 x s mt) (4 + s)) (ClK_d (x := oT2 x s mt) c2 (by omega)) hz
  obtain ⟨I3, e4, c3, f3⟩ := t_setF (B := B) (x := oT2 x s mt) hk c2 (kF x + nI (ct (fun j => kS (oT2 x s mt) (4 + s) j && cov mk j) 160))
  have e5 : F_X8_nextNumber (B + cR k s) (HP B I3 J2) = some (nI (kR x s s + 1), HP B I3 J2) := s_nextNumber (x := oT3 x s mt mk) hk hs c3
  have hw := rwN_w (rwN_gr (c3.2.1 s hs) hy) hs (show kR x s s + 1 ≤ 40 by omega)
  obtain ⟨I4, e6, c4, f4⟩ := t_setR (B := B) (x := oT3 x s mt mk) hk hs c3 hw
  obtain ⟨I5, J5, e7, c5, f5⟩ := t_note (B := B) (x := oT4 x s mt mk) hk hs c4 (n := kR x s s + 1) (by show kM x s + 1 = _; rw [hM]) (by omega) v hst hy hz
  obtain ⟨I6, J6, e8, c6, f6⟩ := t_add (B := B) (x := oT5 x s v st mt mk) (j := 40 * s + kR x s s) hk (show 4 + s < 8 by omega) c5 (by omega)
  refine ⟨I6, J6, ?_, c6, frK_t f1 (frK_t f2 (frK_t f3 (frK_t f4 (frK_t f5 f6))))⟩
  have g0 : h_gi (HP B I2 J2) 3 (B + cJ k) 10 = some (kF x) := (m_gi (sh_J k hk) (by decide) (by decide)).trans (congrArg some c2.2.2.2.1)
  have g1 : h_gi (HP B I3 J2) 8 (B + cR k s) 0 = some (nI s) := (R_gi0 hk hs).trans (congrArg some (c3.1 s hs))
  have g2 : ∀ h, F_X1_of (nI s) (nI (kR x s s + 1)) h = some (dt s (kR x s s + 1), h) := s_of (by omega)
  have g3 : dt s (kR x s s + 1) = nI (40 * s + kR x s s) := by unfold dt; rw [Nat.add_sub_cancel]
  have g4 : ∀ a b h, F_X9_greater N a b h = some (rgr a b 4, h) := s_greater (by omega)
  unfold F_X8_take
  simp only [R_gr1 hk hs, J_gr6 hk, R_gr2 hk hs, F_is hk (show 2 < 8 by decide), F_is hk (show 4 + s < 8 by omega), Option.bind_some, e1, e_bind_some, e2, g0, e3, e4, R_is hk hs, e5, g1, g2, R_gi3 hk hs, g4, s_with, e6, J_is hk, e7]
  rw [g3, e8]
  rfl
def oRc (x : eKS) (s u : Nat) : eKS := oRw (oS x (4 + s) (fun j => kS x (4 + s) j && kS x (4 + u) j || kS x (4 + s) j && !cov (kR x u) j || kS x (4 + u) j && !cov (kR x s) j)) s (fun t => max (kR x s t) (kR x u t))
theorem t_receive {N : Nat} (hN : 200 < N) (hk : k < 4) (hs : s < 4) (hu : u < 4) (hsu : s ≠ u) (h : ClK k I J x) : KP B k I J (oRc x s u) (F_X8_receive N (B + cR k s) (B + cR k u) (HP B I J)) := by
  obtain ⟨I1, J1, e1, c1, f1⟩ := t_join (B := B) hN hk (show 4 + s < 8 by omega) (show 4 + u < 8 by omega) (by omega) h (h.2.1 s hs) (h.2.1 u hu)
  obtain ⟨I2, e2, c2, f2⟩ := t_setR (B := B) hk hs c1 (rwN_gr (c1.2.1 s hs) (c1.2.1 u hu))
  refine ⟨I2, J1, ?_, c2, frK_t f1 f2⟩
  unfold F_X8_receive
  simp only [R_gr2 hk hs, R_gr2 hk hu, R_gi3 hk hs, R_gi3 hk hu, Option.bind_some, F_is hk (show 4 + s < 8 by omega), e1, e_bind_some, s_greater (show 5 < N by omega), e2]
def oMg0 (x : eKS) (s : Nat) : eKS := oS x 0 (fun j => kS x 0 j || kS x (4 + s) j)
def oMg1 (x : eKS) (s : Nat) : eKS := oS (oMg0 x s) 3 (fun j => kS x 3 j || kS x (4 + s) j)
def oMg2 (x : eKS) (s : Nat) : eKS := oS (oMg1 x s) (4 + s) (fun _ => false)
def oMg (x : eKS) (s : Nat) (v : Int64) (st : Nat) : eKS := oT (oMg2 x s) s v st (kR x s) (kR x s)
theorem oS_ne {x : eKS} {f g : Nat} {p : Nat → Bool} (h : g ≠ f) : kS (oS x f p) g = kS x g := by
  show (if g = f then p else kS x g) = _
  rw [if_neg h]
theorem t_mergeInto {N : Nat} (hN : 200 < N) (hk : k < 4) (hs : s < 4) (h : ClK k I J x) (hM : kM x s = kR x s s) (hn : kR x s s < 40) (v : Int64) {st : Nat} (hst : st < 2 ^ 31) : KP B k I J (oMg x s v st) (F_X8_mergeInto N (B + cR k s) v (nI st) (HP B I J)) := by
  obtain ⟨I1, J1, e1, c1, f1⟩ := t_addAll (B := B) hN hk (show 0 < 8 by decide) (show 4 + s < 8 by omega) (by omega) h
  obtain ⟨I2, J2, e2, c2, f2⟩ := t_addAll (B := B) (x := oMg0 x s) hN hk (show 3 < 8 by decide) (show 4 + s < 8 by omega) (by omega) c1
  have w : oS (oMg0 x s) 3 (fun j => kS (oMg0 x s) 3 j || kS (oMg0 x s) (4 + s) j) = oMg1 x s := by
    unfold oMg1 oMg0
    rw [oS_ne (by decide), oS_ne (by omega)]
  rw [w] at c2
  obtain ⟨I3, J3, e3, c3, f3⟩ := t_empty (B := B) (x := oMg1 x s) (f := 4 + s) hN hk (by omega) c2
  obtain ⟨I4, J4, e4, c4, f4⟩ := t_take (B := B) (x := oMg2 x s) hN hk hs c3 hM hn v hst (c3.2.1 s hs) (c3.2.1 s hs)
  refine ⟨I4, J4, ?_, c4, frK_t f1 (frK_t f2 (frK_t f3 f4))⟩
  unfold F_X8_mergeInto
  simp only [R_gr1 hk hs, J_gr4 hk, J_gr7 hk, R_gr2 hk hs, F_is hk (show 0 < 8 by decide), F_is hk (show 3 < 8 by decide), F_is hk (show 4 + s < 8 by omega), Option.bind_some, e1, e_bind_some, e2, e3, R_gi3 hk hs, R_is hk hs, e4]
/-- the journal's fields -/
theorem t_set8 (hk : k < 4) (h : ClK k I J x) (kd : Nat) : ∃ I2, h_p (HP B I J) 3 (B + cJ k) 8 (.int (nI kd)) = some (HP B I2 J) ∧ ClK k I2 J (ukd x kd) ∧ frK k I J I2 J := by
  obtain ⟨h1, h2, h3, h4, h5, h6, h7⟩ := h
  refine ⟨_, m_pi (sh_J k hk) (by decide) (by decide), ⟨fun s hs => ?_, fun s hs => ?_, ?_, ?_, ?_, h6, fun j hj hc => ?_⟩, fun c hc z => ⟨w2_c _ _ ?_, rfl⟩⟩
  · rw [w2_c _ _ (cRJ0 k)]; exact h1 s hs
  · rw [w2_c _ _ (cRJ0 k)]; exact h2 s hs
  · rw [w2_k _ _ (by decide)]; exact h3
  · rw [w2_k _ _ (by decide)]; exact h4
  · rw [w2_s]; rfl
  · rw [w2_c _ _ (by omega), w2_c _ _ (by omega), w2_c _ _ (by omega)]; exact h7 j hj hc
  · have := cJ_hi k (s := 0) (by decide); omega
theorem t_set9 (hk : k < 4) (h : ClK k I J x) : ∃ I2, h_p (HP B I J) 3 (B + cJ k) 9 (.int 0) = some (HP B I2 J) ∧ ClK k I2 J (uM x (fun _ => 0)) ∧ frK k I J I2 J := by
  obtain ⟨h1, h2, h3, h4, h5, h6, h7⟩ := h
  refine ⟨_, m_pi (sh_J k hk) (by decide) (by decide), ⟨fun s hs => ?_, fun s hs => ?_, ?_, ?_, ?_, h6, fun j hj hc => ?_⟩, fun c hc z => ⟨w2_c _ _ ?_, rfl⟩⟩
  · rw [w2_c _ _ (cRJ0 k)]; exact h1 s hs
  · rw [w2_c _ _ (cRJ0 k)]; exact h2 s hs
  · rw [w2_s]; exact rwN_0
  · rw [w2_k _ _ (by decide)]; exact h4
  · rw [w2_k _ _ (by decide)]; exact h5
  · have hc2 : decide (j % 40 < 0) = true := hc
    simp at hc2
  · have := cJ_hi k (s := 0) (by decide); omega
/-- a journal begun anew -/
def oJ0 (x : eKS) (kd : Nat) : eKS := uF (uM (ukd x kd) (fun _ => 0)) 0
def oJ1 (x : eKS) (kd : Nat) : eKS := oS (oJ0 x kd) 0 (fun _ => false)
def oJ2 (x : eKS) (kd : Nat) : eKS := oS (oJ1 x kd) 1 (fun _ => false)
def oJ3 (x : eKS) (kd : Nat) : eKS := oS (oJ2 x kd) 2 (fun _ => false)
def oJ (x : eKS) (kd : Nat) : eKS := oS (oJ3 x kd) 3 (fun _ => false)
theorem t_jbegin {N : Nat} (hN : 200 < N) (hk : k < 4) (h : ClK k I J x) (kd : Nat) : KP B k I J (oJ x kd) (F_X3_beginAnew N (B + cJ k) (nI kd) (HP B I J)) := by
  obtain ⟨I1, e1, c1, f1⟩ := t_set8 (B := B) hk h kd
  obtain ⟨I2, e2, c2, f2⟩ := t_set9 (B := B) hk c1
  obtain ⟨I3, e3, c3, f3⟩ := t_setF (B := B) hk c2 0
  obtain ⟨I4, J4, e4, c4, f4⟩ := t_empty (B := B) (x := oJ0 x kd) (f := 0) hN hk (by decide) c3
  obtain ⟨I5, J5, e5, c5, f5⟩ := t_empty (B := B) (x := oJ1 x kd) (f := 1) hN hk (by decide) c4
  obtain ⟨I6, J6, e6, c6, f6⟩ := t_empty (B := B) (x := oJ2 x kd) (f := 2) hN hk (by decide) c5
  obtain ⟨I7, J7, e7, c7, f7⟩ := t_empty (B := B) (x := oJ3 x kd) (f := 3) hN hk (by decide) c6
  refine ⟨I7, J7, ?_, c7, frK_t f1 (frK_t f2 (frK_t f3 (frK_t f4 (frK_t f5 (frK_t f6 f7)))))⟩
  unfold F_X3_beginAnew
  simp only [e1, e2, e3, J_gr4 hk, J_gr5 hk, J_gr6 hk, J_gr7 hk, F_is hk (show 0 < 8 by decide), F_is hk (show 1 < 8 by decide), F_is hk (show 2 < 8 by decide), F_is hk (show 3 < 8 by decide), Option.bind_some, e4, e5, e6, e7, e_bind_some]
def oRb (x : eKS) (s : Nat) : eKS := oS (oRw x s (fun _ => 0)) (4 + s) (fun _ => false)
theorem t_rbegin {N : Nat} (hN : 200 < N) (hk : k < 4) (hs : s < 4) (h : ClK k I J x) : KP B k I J (oRb x s) (F_X8_beginAnew N (B + cR k s) (HP B I J)) := by
  obtain ⟨I1, e1, c1, f1⟩ := t_setR (B := B) hk hs h rwN_0
  obtain ⟨I2, J2, e2, c2, f2⟩ := t_empty (B := B) (x := oRw x s (fun _ => 0)) (f := 4 + s) hN hk (by omega) c1
  refine ⟨I2, J2, ?_, c2, frK_t f1 f2⟩
  unfold F_X8_beginAnew
  simp only [e1, R_gr2 hk hs, F_is hk (show 4 + s < 8 by omega), Option.bind_some, e2, e_bind_some]
def oKb (x : eKS) (kd : Nat) : Nat → eKS
  | 0 => oJ x kd
  | s + 1 => oRb (oKb x kd s) s
theorem K_gr0 (hk : k < 4) : h_gr (HP B I J) 4 (B + cK k) 0 = some (B + cJ k) := by rw [m_gr (sh_K k hk) (by decide) (by decide), (rf_K k hk).1]
theorem K_gr1 (hk : k < 4) : h_gr (HP B I J) 4 (B + cK k) 1 = some (B + (cK k + 14)) := by rw [m_gr (sh_K k hk) (by decide) (by decide), (rf_K k hk).2]
theorem K_is (hk : k < 4) : h_is (HP B I J) 4 (B + cK k) = some () := m_is (sh_K k hk)
theorem K_len (hk : k < 4) : h_len (HP B I J) (B + (cK k + 14)) = some 4 := m_len4 (sh_RA k hk) (by decide)
theorem K_ar (hk : k < 4) (hs : s < 4) : h_ar (HP B I J) 4 (B + (cK k + 14)) (nI s) = some (B + cR k s) := by rw [m_arN (sh_RA k hk) hs (by decide), rf_RA k hk s hs]
theorem t_kbegin {N : Nat} (hN : 200 < N) (hk : k < 4) (h : ClK k I J x) (kd : Nat) : KP B k I J (oKb x kd 4) (F_X4_beginAnew N (B + cK k) (nI kd) (HP B I J)) := by
  obtain ⟨I1, J1, e1, c1, f1⟩ := t_jbegin (B := B) hN hk h kd
  obtain ⟨s', ⟨I2, J2, hs', q1, q2⟩, q3⟩ := e_loop_0 (body := fun (k : Nat × Int32 × eH → Option (Unit × eH)) s => F_X4_beginAnew_10b N (fun l0 l2 h => k (l0, l2, h)) s.1 s.2.1 s.2.2) (fun i st => ∃ I2 J2, st = (B + cK k, nI i, HP B I2 J2) ∧ ClK k I2 J2 (oKb x kd i) ∧ frK k I J I2 J2) 4 (N := N) ⟨I1, J1, rfl, c1, f1⟩ (fun i st hi hst => by
    obtain ⟨I2, J2, hst, c2, f2⟩ := hst
    subst hst
    obtain ⟨I3, J3, e3, c3, f3⟩ := t_rbegin (B := B) hN hk hi c2
    refine ⟨(B + cK k, nI (i + 1), HP B I3 J3), ⟨I3, J3, rfl, c3, frK_t f2 f3⟩, fun K => ?_⟩
    show F_X4_beginAnew_10b N _ (B + cK k) (nI i) (HP B I2 J2) = _
    unfold F_X4_beginAnew_10b
    simp only [K_gr1 hk, K_len hk, Option.bind_some, if_neg (k4_lt i hi), K_ar hk hi, R_is hk hi, e3, e_bind_some, nI_1]) (by omega)
  refine ⟨I2, J2, ?_, q1, q2⟩
  unfold F_X4_beginAnew L_X4_beginAnew_10
  simp only [K_gr0 hk, J_is hk, Option.bind_some, e1, e_bind_some]
  refine Eq.trans q3 ?_
  rw [hs']
  show F_X4_beginAnew_10b N _ (B + cK k) (nI 4) (HP B I2 J2) = _
  unfold F_X4_beginAnew_10b
  simp only [K_gr1 hk, K_len hk, Option.bind_some, if_pos k4_n]
end REP2
