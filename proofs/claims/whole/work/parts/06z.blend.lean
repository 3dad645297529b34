/-! BLEND: the values of the siblings by their stamps -/
def bl (x : eKS) (s kd r : Nat) : Nat → Nat × (Int64 × Bool)
  | 0 => (0, (mBeg kd r, false))
  | i + 1 => match bst (kS x (4 + s)) (kSt x) (bl x s kd r i).1 160 with
    | some b => (kSt x b, mAdd kd r (bl x s kd r i).2 (kV x b))
    | none => (0, mAdd kd r (bl x s kd r i).2 0)
section BLEND2
variable {B : Nat} {I : Nat → Nat → Int32} {J J2 : Nat → Nat → Int64} {k r s kd : Nat} {z : Int64 × Bool} {v : Int64} {w : Int32} {x : eKS}
theorem ClK_M {I2 : Nat → Nat → Int32} (hk : k < 4) (h : ClK k I J x) (hf : frM I J I2 J2) : ClK k I2 J2 x := ClK_fr hk h (fun c h1 _ z => (hf c (by omega) z).1) (fun c h1 _ z => (hf c (by omega) z).2)
theorem stampOf_m1 (hk : k < 4) : F_X3_stampOf (B + cJ k) (-1) (HP B I J) = some (0, HP B I J) := by
  unfold F_X3_stampOf F_X3_has
  simp only [J_is hk, Option.bind_some, isDot_m1, e_bind_some, if_true, h_z0]
theorem valueOf_m1 (hk : k < 4) : F_X3_valueOf (B + cJ k) (-1) (HP B I J) = some (0, HP B I J) := by
  unfold F_X3_valueOf F_X3_has
  simp only [J_is hk, Option.bind_some, isDot_m1, e_bind_some, if_true, h_z0]
theorem bl_lt (hk : k < 4) (h : ClK k I J x) (hc : ∀ j, j < 160 → kS x (4 + s) j = true → cov (kM x) j = true) : ∀ i, (bl x s kd r i).1 < 2 ^ 31
  | 0 => by show 0 < 2 ^ 31; decide
  | i + 1 => by
    unfold bl
    cases e : bst (kS x (4 + s)) (kSt x) (bl x s kd r i).1 160 with
    | none => show 0 < 2 ^ 31; decide
    | some b =>
      obtain ⟨b1, b2, _⟩ := bst_in e
      exact (h.2.2.2.2.2.2 b b1 (hc b b1 b2)).2.1
theorem t_blend {N : Nat} (hN : 1001 < N) (hk : k < 4) (hs : s < 4) (h : ClK k I J x) (hc : ∀ j, j < 160 → kS x (4 + s) j = true → cov (kM x) j = true) (hkd : kkd x < 2) (hr : r < 5) : ∃ I2 J2, F_X8_blend N (B + cR k s) (B + 10) (nI r) (HP B I J) = some ((), HP B I2 J2) ∧ MG I2 J2 (kkd x) r (mEnd (kkd x) r (bl x s (kkd x) r (ct (kS x (4 + s)) 160)).2) ∧ frM I J I2 J2 := by
  have hle := ct_le (kS x (4 + s)) 160
  obtain ⟨E, hE⟩ : ∃ E, E = ct (kS x (4 + s)) 160 := ⟨_, rfl⟩
  obtain ⟨I1, J1, e1, m1, f1⟩ := t_mbeg (B := B) (I := I) (J := J) hkd hr
  have c1 := ClK_M hk h f1
  obtain ⟨s', ⟨I2, J2, hs', q1, q2, q3⟩, q4⟩ := e_loop_0 (body := fun (k : Nat × Nat × Int32 × Int32 × eH → Option (Unit × eH)) s => F_X8_blend_23b N (fun l0 l1 l3 l4 h => k (l0, l1, l3, l4, h)) s.1 s.2.1 s.2.2.1 s.2.2.2.1 s.2.2.2.2) (fun i st => ∃ I2 J2, st = (B + cR k s, B + 10, nI (bl x s (kkd x) r i).1, nI (E - i), HP B I2 J2) ∧ ClK k I2 J2 x ∧ MG I2 J2 (kkd x) r (bl x s (kkd x) r i).2 ∧ frM I J I2 J2) E (N := N) ⟨I1, J1, rfl, c1, m1, f1⟩ (fun i st hi hst => by
    obtain ⟨I2, J2, hst, c2, m2, f2⟩ := hst
    subst hst
    have hn := t_nextByStamp (B := B) (show 200 < N by omega) hk (show 4 + s < 8 by omega) c2 hc (bl_lt (kd := kkd x) (r := r) hk h hc i)
    have hE1 : E - i = E - (i + 1) + 1 := by omega
    cases e : bst (kS x (4 + s)) (kSt x) (bl x s (kkd x) r i).1 160 with
    | none =>
      obtain ⟨I3, J3, e3, m3, f3⟩ := t_madd (B := B) (v := 0) hN m2 hkd hr
      have hb : bl x s (kkd x) r (i + 1) = (0, mAdd (kkd x) r (bl x s (kkd x) r i).2 0) := by
        show (match bst (kS x (4 + s)) (kSt x) (bl x s (kkd x) r i).1 160 with | some b => _ | none => _) = _
        rw [e]
      refine ⟨(B + cR k s, B + 10, nI 0, nI (E - (i + 1)), HP B I3 J3), ⟨I3, J3, by rw [hb], ClK_M hk c2 f3, by rw [hb]; exact m3, frM_t f2 f3⟩, fun K => ?_⟩
      show F_X8_blend_23b N _ (B + cR k s) (B + 10) (nI (bl x s (kkd x) r i).1) (nI (E - i)) (HP B I2 J2) = _
      unfold F_X8_blend_23b
      rw [hE1]
      simp only [if_neg (nI_nle (show 0 < E - (i + 1) + 1 by omega) (by omega)), R_gr1 hk hs, R_gr2 hk hs, J_is hk, Option.bind_some, hn, e, enc, e_bind_some, stampOf_m1 hk, valueOf_m1 hk, G_is, e3, pk_m1]
      rfl
    | some b =>
      obtain ⟨b1, b2, b3⟩ := bst_in e
      have b4 := hc b b1 b2
      obtain ⟨I3, J3, e3, m3, f3⟩ := t_madd (B := B) (v := kV x b) hN m2 hkd hr
      have hb : bl x s (kkd x) r (i + 1) = (kSt x b, mAdd (kkd x) r (bl x s (kkd x) r i).2 (kV x b)) := by
        show (match bst (kS x (4 + s)) (kSt x) (bl x s (kkd x) r i).1 160 with | some b => _ | none => _) = _
        rw [e]
      refine ⟨(B + cR k s, B + 10, nI (kSt x b), nI (E - (i + 1)), HP B I3 J3), ⟨I3, J3, by rw [hb], ClK_M hk c2 f3, by rw [hb]; exact m3, frM_t f2 f3⟩, fun K => ?_⟩
      show F_X8_blend_23b N _ (B + cR k s) (B + 10) (nI (bl x s (kkd x) r i).1) (nI (E - i)) (HP B I2 J2) = _
      unfold F_X8_blend_23b
      rw [hE1]
      simp only [if_neg (nI_nle (show 0 < E - (i + 1) + 1 by omega) (by omega)), R_gr1 hk hs, R_gr2 hk hs, J_is hk, Option.bind_some, hn, e, enc, e_bind_some, t_stampOf hk b1 c2 b4, t_valueOf hk b1 c2 b4, G_is, e3, pk_m1]) (by omega)
  obtain ⟨I4, J4, e4, m4, f4⟩ := t_mend (B := B) q2 hkd hr
  refine ⟨I4, J4, ?_, by rw [← hE]; exact m4, frM_t q3 f4⟩
  have g8 : h_gi (HP B I J) 3 (B + cJ k) 8 = some (nI (kkd x)) := (m_gi (sh_J k hk) (by decide) (by decide)).trans (congrArg some h.2.2.2.2.1)
  have gz : F_X1_size N (B + dF k (4 + s)) (HP B I1 J1) = some (nI E, HP B I1 J1) := by rw [hE]; exact t_size (by omega) (isD_F k hk (4 + s) (by omega)) (ClK_d c1 (by omega))
  unfold F_X8_blend L_X8_blend_23
  simp only [R_gr1 hk hs, g8, Option.bind_some, G_is, e1, e_bind_some, R_gr2 hk hs, F_is hk (show 4 + s < 8 by omega), gz]
  refine Eq.trans q4 ?_
  rw [hs', Nat.sub_self]
  show F_X8_blend_23b N _ (B + cR k s) (B + 10) _ (nI 0) (HP B I2 J2) = _
  unfold F_X8_blend_23b
  rw [if_pos (by decide)]
  simp only [G_is, Option.bind_some, e4, e_bind_some]
end BLEND2
