/-! SPREAD of the reference: the call; both are alike -/
section SPZ
variable {B N : Nat} {I I2 : Nat → Nat → Int32} {J J2 : Nat → Nat → Int64} {x : eST} {y : eKS} {n k s t o f l X Y i d m fr : Nat} {u v : Int32}
/-- only the search's rows change -/
def scq (I I2 : Nat → Nat → Int32) : Prop := ∀ d z, d ≠ 149 → d ≠ 150 → I2 d z = I d z
theorem y_fewest (hN : 70000 < N) (h2 : 2 ≤ n) (hn : n ≤ 4) (h0 : I 125 0 = nI n) (hL : LKM I y n) (hfr : good n fr) : ∃ I2 D0, F_X12_fewest N (B + 125) (nI fr) (HP B I J) = some (nI D0, HP B I2 J) ∧ Er y n D0 fr ∧ (∀ l, l < D0 → ¬ Er y n l fr) ∧ scq I I2 := by
  have hnn : n * n ≤ 16 := Nat.mul_le_mul hn hn
  have hex := Er_ex (y := y) (X := fr) h2 hn
  -- the rows are laid
  obtain ⟨I1, hI1⟩ : ∃ I1, I1 = w2 (w2 (wO I 149 0 65536 (fun _ => -1)) 149 fr (nI 0)) 150 0 (nI fr) := ⟨_, rfl⟩
  have f1 : scq I I1 := fun d z h1 h2 => by rw [hI1, w2_c _ _ h2, w2_c _ _ h1, wO_c _ _ _ _ h1]
  have start : ∀ r, L_X12_fewest_39 N (B + 125) (nI 1) (nI 0) (HP B I1 J) = r → F_X12_fewest N (B + 125) (nI fr) (HP B I J) = r := by
    intro r hr
    unfold F_X12_fewest L_X12_fewest_2
    have e1 := e_loop_f (body := fun (k : Nat × Int32 × Int32 × eH → Option (Int32 × eH)) s => F_X12_fewest_2b N (fun l0 l1 l2 h => k (l0, l1, l2, h)) s.1 s.2.1 s.2.2.1 s.2.2.2) (fun i => (B + 125, nI fr, nI i, HP B (wO I 149 0 i (fun _ => -1)) J)) 65536 (N := N) (fun i hi k0 => by
      show F_X12_fewest_2b N _ (B + 125) (nI fr) (nI i) (HP B (wO I 149 0 i (fun _ => -1)) J) = k0 _
      unfold F_X12_fewest_2b
      have ws := wO_s0 I 149 i (fun _ => (-1 : Int32))
      rw [if_neg (show ¬ (65536 : Int32) ≤ nI i from nI_ge hi (by decide))]
      simp only [M_gr39, Option.bind_some, R_si149 hi, ws, nI_1]) (by omega)
    simp only [wO_0] at e1
    refine Eq.trans e1 ?_
    show F_X12_fewest_2b N _ (B + 125) (nI fr) (nI 65536) (HP B (wO I 149 0 65536 (fun _ => -1)) J) = _
    unfold F_X12_fewest_2b
    have s0 : ∀ v, h_si (HP B (w2 (wO I 149 0 65536 (fun _ => -1)) 149 fr 0) J) 0 (B + 150) 0 v = some (HP B (w2 (w2 (wO I 149 0 65536 (fun _ => -1)) 149 fr 0) 150 0 v) J) := fun v => R_si150 (i := 0) (by decide)
    rw [if_pos (show (65536 : Int32) ≤ nI 65536 from Int32.le_refl _)]
    simp only [M_gr39, M_gr40, Option.bind_some, R_si149 hfr.1, s0]
    rw [show (0 : Int32) = nI 0 from rfl, ← hI1]
    exact hr
  -- one state after the other
  have hfin := e_loop_x (body := fun (k : Nat × Int32 × Int32 × eH → Option (Int32 × eH)) s => F_X12_fewest_39b N (fun l0 l2 l3 h => k (l0, l2, l3, h)) s.1 s.2.1 s.2.2.1 s.2.2.2) (fun kk st => ∃ many V D Q I2, st = (B + 125, nI many, nI kk, HP B I2 J) ∧ kk ≤ many ∧ BI y n fr kk many V D Q ∧ BM I I2 many V D Q) (fun r => ∃ I2 D0, r = some (nI D0, HP B I2 J) ∧ Er y n D0 fr ∧ (∀ l, l < D0 → ¬ Er y n l fr) ∧ scq I I2) 65536 (fun kk st hkk hst => by
    obtain ⟨many, V, D, Q, I2, hst, hle, hB, hM⟩ := hst
    subst hst
    have hmany : many ≤ 65536 := by rw [← hB.2.2.1]; exact ct_le V 65536
    have hkm : kk < many := by
      rcases Nat.lt_or_ge kk many with g | g
      · exact g
      · have e : kk = many := by omega
        subst e
        have := BI_all hB (2 * (n - 1)) 0 hB.2.2.2.2.1.2.2
        rw [hB.2.2.2.2.1.1] at this
        exact absurd hex this
    obtain ⟨a1, a2, a3, a4⟩ := hB.1 kk hkm
    have g0 : I2 125 0 = nI n := (hM.2.2 _ _ (by decide) (by decide)).trans h0
    have gL : LKM I2 y n := fun A q1 q2 => (hM.2.2 _ _ (by decide) (by decide)).trans (hL A q1 q2)
    have hall := y_isAll (B := B) (J := J) (N := N) (by omega) h2 hn g0 gL a2
    have pop : ∀ K : Nat × Int32 × Int32 × eH → Option (Int32 × eH), F_X12_fewest_39b N (fun l0 l2 l3 h => K (l0, l2, l3, h)) (B + 125) (nI many) (nI kk) (HP B I2 J) = if dnB y n (Q kk) = true then some (nI (D (Q kk)), HP B I2 J) else L_X12_fewest_72 N (fun l0 l2 l3 h => K (l0, l2, l3, h)) (B + 125) (nI many) (nI kk) (nI (Q kk)) 0 (HP B I2 J) := by
      intro K
      have gD : I2 149 (Q kk) = nI (D (Q kk)) := by rw [hM.1 _ a2.1, a1, if_pos rfl]
      unfold F_X12_fewest_39b
      rw [if_neg (nI_ge hkm (by omega))]
      simp only [M_gr40, Option.bind_some, R_ai150 (show kk < 65536 by omega), hM.2.1 kk hkm, M_is, hall, e_bind_some, b2_0, M_gr39, R_ai149 a2.1, gD]
      cases dnB y n (Q kk) <;> rfl
    cases hd : dnB y n (Q kk)
    · refine Or.inl ?_
      -- all moves from it
      have s0 : bOK y n fr kk (Q kk) 0 I (many, V, D, Q, I2) := ⟨hB, hkm, rfl, fun m' hm' => absurd hm' (Nat.not_lt_zero m'), hM⟩
      obtain ⟨g, g1, g2⟩ := steps (fun m a => bOK y n fr kk (Q kk) m I a) (fun m (a b : bS) => ∀ (K39 : Nat → Int32 → Int32 → eH → Option (Int32 × eH)) (K72 : Nat → Int32 → Int32 → Int32 → Int32 → eH → Option (Int32 × eH)), F_X12_fewest_72b N K39 K72 (B + 125) (nI a.1) (nI kk) (nI (Q kk)) (nI m) (HP B a.2.2.2.2 J) = K72 (B + 125) (nI b.1) (nI kk) (nI (Q kk)) (nI (m + 1)) (HP B b.2.2.2.2 J)) (n * n) s0 (fun m a hm ha => b_step (B := B) (N := N) (J := J) h2 hn h0 hm a ha)
      obtain ⟨b1, b2', b3, b4, b5⟩ := (g2 (n * n) (Nat.le_refl _)).1
      refine ⟨(B + 125, nI (g (n * n)).1, nI (kk + 1), HP B (g (n * n)).2.2.2.2 J), ⟨(g (n * n)).1, (g (n * n)).2.1, (g (n * n)).2.2.1, (g (n * n)).2.2.2.1, (g (n * n)).2.2.2.2, rfl, by omega, ?_, b5⟩, fun K => ?_⟩
      · obtain ⟨c1, c2, c3, c4, c5, c6, c7⟩ := b1
        refine ⟨c1, c2, c3, c4, c5, fun q i hi => Nat.le_trans (c6 b2' i hi) (Nat.succ_le_succ (c4 kk (kk + 1) (by omega) q)), fun i hi => ?_⟩
        by_cases e : i = kk
        · subst e
          refine ⟨b2', ?_, fun f t hf ht => ?_⟩
          · rw [b3]
            intro q
            rw [(dnB_iff h2 hn a2).mpr q] at hd
            cases hd
          · have hfn : f * n + t < n * n := by
              have : f * n + n ≤ n * n := by
                have := Nat.mul_le_mul_right n (show f + 1 ≤ n from hf)
                rwa [Nat.add_mul, Nat.one_mul] at this
              omega
            have := b4 (f * n + t) hfn
            rw [show (f * n + t) / n = f by rw [Nat.add_comm, Nat.add_mul_div_right _ _ (by omega), Nat.div_eq_of_lt ht, Nat.zero_add], show (f * n + t) % n = t by rw [Nat.add_comm, Nat.add_mul_mod_self_right, Nat.mod_eq_of_lt ht]] at this
            exact this
        · exact c7 i (by omega)
      · show F_X12_fewest_39b N (fun l0 l2 l3 h => K (l0, l2, l3, h)) (B + 125) (nI many) (nI kk) (HP B I2 J) = _
        rw [pop, hd, if_neg (by decide)]
        unfold L_X12_fewest_72
        have e1 := e_loop_f (body := fun (k : Nat × Int32 × Int32 × Int32 × Int32 × eH → Option (Int32 × eH)) s => F_X12_fewest_72b N (fun l0 l2 l3 h => K (l0, l2, l3, h)) (fun l0 l2 l3 l4 l5 h => k (l0, l2, l3, l4, l5, h)) s.1 s.2.1 s.2.2.1 s.2.2.2.1 s.2.2.2.2.1 s.2.2.2.2.2) (fun i => (B + 125, nI (g i).1, nI kk, nI (Q kk), nI i, HP B (g i).2.2.2.2 J)) (n * n) (N := N) (fun i hi k0 => (g2 i (by omega)).2 hi (fun l0 l2 l3 h => K (l0, l2, l3, h)) (fun l0 l2 l3 l4 l5 h => k0 (l0, l2, l3, l4, l5, h))) (by omega)
        rw [g1] at e1
        refine Eq.trans e1 ?_
        show F_X12_fewest_72b N (fun l0 l2 l3 h => K (l0, l2, l3, h)) _ (B + 125) (nI (g (n * n)).1) (nI kk) (nI (Q kk)) (nI (n * n)) (HP B (g (n * n)).2.2.2.2 J) = _
        have g0' : (g (n * n)).2.2.2.2 125 0 = nI n := (b5.2.2 _ _ (by decide) (by decide)).trans h0
        unfold F_X12_fewest_72b
        simp only [M_gi0, g0', Option.bind_some, pk_mul, if_pos (nI_le (Nat.le_refl (n * n)) (show n * n < 2 ^ 31 by omega)), nI_1]
    · refine Or.inr (fun K => ?_)
      show ∃ I3 D0, F_X12_fewest_39b N (fun l0 l2 l3 h => K (l0, l2, l3, h)) (B + 125) (nI many) (nI kk) (HP B I2 J) = some (nI D0, HP B I3 J) ∧ _
      rw [pop, hd, if_pos rfl]
      refine ⟨I2, D (Q kk), rfl, ?_, fun l hl q => ?_, hM.2.2⟩
      · have := Rc_Er (y := y) (D (Q kk)) 0 (Q kk) a3 ((dnB_iff h2 hn a2).mp hd)
        rwa [Nat.add_zero] at this
      · have h5 := hB.2.2.2.2.1
        have hk0 : 0 < kk := by
          rcases Nat.eq_zero_or_pos kk with e | e
          · rw [e, h5.1, h5.2.1] at hl; omega
          · exact e
        refine BI_min hB hkm l 0 hk0 ?_ (by rw [h5.1]; exact q)
        rw [h5.1, h5.2.1, Nat.zero_add]; exact hl) (fun st hst => by
    exfalso
    obtain ⟨many, V, D, Q, I2, hst, hle, hB, hM⟩ := hst
    have hmany : many ≤ 65536 := by rw [← hB.2.2.1]; exact ct_le V 65536
    have e : many = 65536 := by omega
    subst e
    have := BI_all hB (2 * (n - 1)) 0 hB.2.2.2.2.1.2.2
    rw [hB.2.2.2.2.1.1] at this
    exact this hex) 65536 N (B + 125, nI 1, nI 0, HP B I1 J) (Nat.le_refl _) (by
    rw [Nat.sub_self]
    refine ⟨1, fun X => decide (X = fr), fun _ => 0, fun _ => fr, I1, rfl, by omega, ⟨fun i hi => ⟨by simp, hfr, rfl, Nat.zero_le _⟩, fun X hX => ⟨0, by omega, (of_decide_eq_true hX).symm⟩, ct_one 65536 hfr.1, fun i j _ _ => Nat.le_refl _, ⟨rfl, rfl, by omega⟩, fun _ i _ => Nat.zero_le _, fun i hi => absurd hi (Nat.not_lt_zero i)⟩, ⟨fun X hX => ?_, fun i hi => ?_, f1⟩⟩
    · rw [hI1, w2_c _ _ (by decide)]
      by_cases e : X = fr
      · rw [e, w2_s, if_pos (decide_eq_true rfl)]
      · rw [w2_k _ _ e, wO_in0 _ _ _ _ hX, if_neg (by simp [e])]
    · rw [hI1, show i = 0 by omega, w2_s]) (by omega)
  obtain ⟨I2, D0, e1, e2, e3, e4⟩ := hfin
  exact ⟨I2, D0, start _ e1, e2, e3, e4⟩
/-- the fewest is the same -/
theorem fwN_eq (h2 : 2 ≤ n) (hn : n ≤ 4) {D0 : Nat} (h1 : Er y n D0 (x0 n)) (h3 : ∀ l, l < D0 → ¬ Er y n l (x0 n)) : fwN y n (phi y n (x0 n)) = D0 := by
  have hg := good_x0 n (by omega)
  have hE := fun l => sim (y := y) hn (show 0 < n by omega) l (x0 n) hg
  have hle : D0 ≤ 2 * (n - 1) := Nat.le_of_not_lt (fun q => h3 _ q (Er_ex h2 hn))
  have nE : ∀ l, l < D0 → (!Ecb y n l (phi y n (x0 n))) = true := fun l hl => by
    cases e : Ecb y n l (phi y n (x0 n))
    · rfl
    · exact absurd ((hE l).mp e) (h3 l hl)
  unfold fwN
  rcases Nat.lt_or_ge D0 (2 * (n - 1)) with q | q
  · exact ex_at (Nat.zero_le _) (by omega) (fun l _ hl => nE l hl) (by rw [(hE D0).mpr h1]; rfl)
  · rw [show D0 = 2 * (n - 1) by omega]
    exact ex_all (fun l _ hl => nE l (by omega))
def bg0 : Nat → Nat
  | 0 => 0
  | s + 1 => bg0 s ||| ((2 ^ s) <<< (4 * s))
theorem bg0_x : ∀ n, n < 5 → bg0 n = x0 n := by
  have key : bg0 0 = x0 0 ∧ bg0 1 = x0 1 ∧ bg0 2 = x0 2 ∧ bg0 3 = x0 3 ∧ bg0 4 = x0 4 := by
    unfold x0 en4
    simp only [bg0]
    decide +kernel
  intro n hn
  have hc : n = 0 ∨ n = 1 ∨ n = 2 ∨ n = 3 ∨ n = 4 := by omega
  rcases hc with rfl | rfl | rfl | rfl | rfl
  · exact key.1
  · exact key.2.1
  · exact key.2.2.1
  · exact key.2.2.2.1
  · exact key.2.2.2.2
theorem snt_self (hX : X < 65536) (hf : f < 4) : snt X f f = X := by
  refine extX (snt_lt hf hX) hX (fun s hs => ?_)
  rw [sg_snt hf hs]
  by_cases e : s = f
  · rw [if_pos e, e, Nat.or_self]
  · rw [if_neg e]
theorem m_spread_no1 (h : Mo I J x) (w : WF x) (hv : nix v (zK x)) : F_X12_spread N (B + 125) v u (HP B I J) = some (-1, HP B I J) := by
  unfold F_X12_spread
  simp only [M_is, Option.bind_some, X_key_no h w hv, e_bind_some, if_true]
theorem m_spread_no2 (h : Mo I J x) (w : WF x) (hk : k < zK x) (hv : nix v 2) : F_X12_spread N (B + 125) (nI k) v (HP B I J) = some (-1, HP B I J) := by
  unfold F_X12_spread
  simp only [M_is, Option.bind_some, X_key_ok h w hk, e_bind_some, if_neg (show ¬ (1 : Int32) = 0 by decide), X_in_no (m := 2) l1' hv (by decide), if_true]
theorem mv_iff (h2 : 2 ≤ n) (hn : n ≤ 4) {D0 D1 : Nat} (hf : f < n) (ht : t < n) (h1 : Er y n (D0 + 1) (x0 n)) (h3 : ∀ l, l < D0 + 1 → ¬ Er y n l (x0 n)) (k1 : Er y n D1 (snt (x0 n) f t)) (k3 : ∀ l, l < D1 → ¬ Er y n l (snt (x0 n) f t)) : mvs y n D0 (phi y n (x0 n)) f t = decide (D1 = D0) := by
  have hg := good_x0 n (by omega)
  have hg2 := good_snt hn hf ht hg
  unfold mvs
  rw [aft_phi hn hf ht hg]
  have s1 := sim (y := y) hn (show 0 < n by omega) D0 _ hg2
  have s2 := sim (y := y) hn (show 0 < n by omega) D0 _ hg
  apply Bool.eq_iff_iff.mpr
  rw [Bool.and_eq_true, decide_eq_true_eq, decide_eq_true_eq]
  constructor
  · intro ⟨_, q⟩
    have q1 := s1.mp q
    have q2 : D1 ≤ D0 := Nat.le_of_not_lt (fun g => k3 _ g q1)
    have q3 : D0 + 1 ≤ D1 + 1 := Nat.le_of_not_lt (fun g => h3 _ g (Er_s hf ht k1))
    omega
  · intro e
    have q : Ecb y n D0 (phi y n (snt (x0 n) f t)) = true := s1.mpr (by rw [← e]; exact k1)
    refine ⟨fun g => ?_, q⟩
    rw [g] at q
    exact h3 D0 (by omega) (s2.mp q)
theorem m_spread_ok (hN : 70000 < N) (h : Mo I J x) (w : WF x) (hk : k < zK x) (hi : i < 2) : ∃ I2 J2, F_X12_spread N (B + 125) (nI k) (nI i) (HP B I J) = some (aSp (zS x k) (zN x) i, HP B I2 J2) ∧ Mo I2 J2 x ∧ frR I J I2 J2 := by
  have h4 : k < 4 := Nat.lt_of_lt_of_le hk w.2.2.2.1
  have hW := WF_k w h4
  obtain ⟨n, hnd⟩ : ∃ n, n = zN x := ⟨_, rfl⟩
  obtain ⟨y, hyd⟩ : ∃ y, y = zS x k := ⟨_, rfl⟩
  have hK := Mo_k h h4
  have h2 := w.1.1
  have hn := w.1.2
  have h0 := h.1.1
  rw [← hnd] at h2 hn h0
  rw [← hnd, ← hyd] at hW ⊢
  rw [← hyd] at hK
  have hnn : n * n ≤ 16 := Nat.mul_le_mul hn hn
  have hg := good_x0 n (by omega)
  obtain ⟨I1, J1, la, l2, l3, l4⟩ := y_lays (B := B) (N := N) (by omega) h4 h2 hn hK hW h0
  have g0 : I1 125 0 = nI n := (l3 _ _ (by decide) (by decide)).trans h0
  have fin : ∀ I2, scq I1 I2 → Mo I2 J1 x ∧ frR I J I2 J1 := fun I2 hq => ⟨Mo_fr h (fun z _ => (hq _ _ (by decide) (by decide)).trans (l3 _ _ (by decide) (by decide))) (fun c h1 h2 z => (hq _ _ (by omega) (by omega)).trans (l3 _ _ (by omega) (by omega))) (fun z => l4 _ _ (by decide)), fun c hc z => ⟨(hq _ _ (by omega) (by omega)).trans (l3 _ _ (by omega) (by omega)), l4 _ _ (by omega)⟩⟩
  obtain ⟨I2, D0, d1, d2, d3, d4⟩ := y_fewest (B := B) (J := J1) hN h2 hn g0 l2 hg
  have hD : D0 ≤ 2 * (n - 1) := Nat.le_of_not_lt (fun q => d3 _ q (Er_ex h2 hn))
  have hfw := fwN_eq h2 hn d2 d3
  -- the moves
  have moves : ∃ I3, L_X12_spread_74 N (B + 125) (nI (x0 n)) (nI D0) 0 (HP B I2 J1) = some (aSp y n 1, HP B I3 J1) ∧ scq I1 I3 := by
    have eA : aSp y n 1 = if D0 = 0 then -9 else frs (mvs y n (D0 - 1) (phi y n (x0 n))) n := by
      unfold aSp
      rw [hfw, if_neg (show ¬ (1 : Nat) = 0 by decide)]
    refine e_loop_x (body := fun (k : Nat × Int32 × Int32 × Int32 × eH → Option (Int32 × eH)) s => F_X12_spread_74b N (fun l0 l3 l4 l5 h => k (l0, l3, l4, l5, h)) s.1 s.2.1 s.2.2.1 s.2.2.2.1 s.2.2.2.2) (fun m st => ∃ I', st = (B + 125, nI (x0 n), nI D0, nI m, HP B I' J1) ∧ scq I1 I' ∧ ∀ m', m' < m → D0 ≠ 0 ∧ mvs y n (D0 - 1) (phi y n (x0 n)) (m' / n) (m' % n) = false) (fun r => ∃ I3, r = some (aSp y n 1, HP B I3 J1) ∧ scq I1 I3) (n * n) (fun m st hm hst => ?_) (fun st hst K => ?_) (n * n) N (B + 125, nI (x0 n), nI D0, 0, HP B I2 J1) (Nat.le_refl _) ?_ (by omega)
    · obtain ⟨I', hst, hq, hP⟩ := hst
      subst hst
      have g0' : I' 125 0 = nI n := (hq _ _ (by decide) (by decide)).trans g0
      have gL' : LKM I' y n := fun A q1 q2 => (hq _ _ (by decide) (by decide)).trans (l2 A q1 q2)
      have hf : m / n < n := by rw [Nat.div_lt_iff_lt_mul (by omega)]; exact hm
      have ht : m % n < n := Nat.mod_lt _ (by omega)
      have ed : nI m / nI n = nI (m / n) := pk_div (by omega) (by omega) (by omega)
      have er : nI m - nI (m / n) * nI n = nI (m % n) := by rw [← ed]; exact pk_rem (by omega) (by omega) (by omega)
      have hn0 : ¬ nI n = 0 := nI_ne0 (by omega) (by omega)
      by_cases hD0 : D0 = 0
      · refine Or.inr (fun K => ?_)
        show ∃ I3, F_X12_spread_74b N (fun l0 l3 l4 l5 h => K (l0, l3, l4, l5, h)) (B + 125) (nI (x0 n)) (nI D0) (nI m) (HP B I' J1) = some (aSp y n 1, HP B I3 J1) ∧ scq I1 I3
        refine ⟨I', ?_, hq⟩
        rw [eA, if_pos hD0]
        unfold F_X12_spread_74b
        simp only [M_gi0, g0', Option.bind_some, pk_mul, if_neg (nI_ge hm (show n * n < 2 ^ 31 by omega)), hD0]
        rfl
      · have hDle : ¬ nI D0 ≤ 0 := nI_nle (by omega) (by omega)
        obtain ⟨E, hE⟩ : ∃ E, D0 = E + 1 := ⟨D0 - 1, by omega⟩
        have body : ∀ K : Nat × Int32 × Int32 × Int32 × eH → Option (Int32 × eH), F_X12_spread_74b N (fun l0 l3 l4 l5 h => K (l0, l3, l4, l5, h)) (B + 125) (nI (x0 n)) (nI D0) (nI m) (HP B I' J1) = if nI (m / n) = nI (m % n) then K (B + 125, nI (x0 n), nI D0, nI (m + 1), HP B I' J1) else (e_bind (F_X12_fewest N (B + 125) (nI (snt (x0 n) (m / n) (m % n))) (HP B I' J1)) fun v9 h10 => if v9 = nI E then some (nI (10 * (m / n) + m % n), h10) else K (B + 125, nI (x0 n), nI D0, nI (m + 1), h10)) := by
          intro K
          have e10 : (10 : Int32) * nI (m / n) + nI (m % n) = nI (10 * (m / n) + m % n) := by rw [show (10 : Int32) * nI (m / n) = nI (10 * (m / n)) from pk_mul 10 _, nI_add]
          have eE : nI D0 - 1 = nI E := by rw [hE, nI_pred]
          unfold F_X12_spread_74b F_X12_spread_146
          simp only [M_gi0, g0', Option.bind_some, pk_mul, if_neg (nI_ge hm (show n * n < 2 ^ 31 by omega)), if_neg hDle, if_neg hn0, e_let, ed]
          simp only [← pk_mul (m / n) n, er, s_sent hg.1 (show m / n < 4 by omega) (show m % n < 4 by omega), e_bind_some, M_is, Option.bind_some, e10, eE, nI_1]
        by_cases hft : m / n = m % n
        · refine Or.inl ⟨(B + 125, nI (x0 n), nI D0, nI (m + 1), HP B I' J1), ⟨I', rfl, hq, fun m' hm' => ?_⟩, fun K => ?_⟩
          · by_cases e : m' = m
            · subst e
              refine ⟨hD0, ?_⟩
              unfold mvs
              rw [← hft, aft_phi hn hf hf hg, snt_self hg.1 (by omega)]
              simp
            · exact hP m' (by omega)
          · show F_X12_spread_74b N (fun l0 l3 l4 l5 h => K (l0, l3, l4, l5, h)) (B + 125) (nI (x0 n)) (nI D0) (nI m) (HP B I' J1) = _
            rw [body, if_pos (by rw [hft])]
        · have hne : ¬ nI (m / n) = nI (m % n) := fun e => hft ((nI_eq (by omega) (by omega)).mp e)
          obtain ⟨I3, D1, k1, k2, k3, k4⟩ := y_fewest (B := B) (J := J1) (N := N) hN h2 hn g0' gL' (good_snt hn hf ht hg)
          have hD1 : D1 ≤ 2 * (n - 1) := Nat.le_of_not_lt (fun q => k3 _ q (Er_ex h2 hn))
          have q3 : scq I1 I3 := fun d z h1 h2 => (k4 d z h1 h2).trans (hq d z h1 h2)
          have hmv := mv_iff h2 hn hf ht (by rw [← hE]; exact d2) (by rw [← hE]; exact d3) k2 k3
          have hPm : mvs y n (D0 - 1) (phi y n (x0 n)) (m / n) (m % n) = decide (D1 = E) := by
            rw [show D0 - 1 = E by omega]; exact hmv
          by_cases hD1E : D1 = E
          · refine Or.inr (fun K => ?_)
            show ∃ I3, F_X12_spread_74b N (fun l0 l3 l4 l5 h => K (l0, l3, l4, l5, h)) (B + 125) (nI (x0 n)) (nI D0) (nI m) (HP B I' J1) = some (aSp y n 1, HP B I3 J1) ∧ scq I1 I3
            refine ⟨I3, ?_, q3⟩
            rw [body, if_neg hne, k1, e_bind_some, if_pos (by rw [hD1E]), eA, if_neg hD0]
            unfold frs
            rw [ex_at (g := fun q => !mvs y n (D0 - 1) (phi y n (x0 n)) (q / n) (q % n)) (j := m) (Nat.zero_le _) (by omega) (fun l _ hl => by rw [(hP l hl).2]; rfl) (by rw [hPm, decide_eq_true hD1E]; rfl)]
          · refine Or.inl ⟨(B + 125, nI (x0 n), nI D0, nI (m + 1), HP B I3 J1), ⟨I3, rfl, q3, fun m' hm' => ?_⟩, fun K => ?_⟩
            · by_cases e : m' = m
              · subst e
                exact ⟨hD0, by rw [hPm]; exact decide_eq_false hD1E⟩
              · exact hP m' (by omega)
            · show F_X12_spread_74b N (fun l0 l3 l4 l5 h => K (l0, l3, l4, l5, h)) (B + 125) (nI (x0 n)) (nI D0) (nI m) (HP B I' J1) = _
              rw [body, if_neg hne, k1, e_bind_some, if_neg (fun e => hD1E ((nI_eq (by omega) (by omega)).mp e))]
    · obtain ⟨I', hst, hq, hP⟩ := hst
      subst hst
      show ∃ I3, F_X12_spread_74b N (fun l0 l3 l4 l5 h => K (l0, l3, l4, l5, h)) (B + 125) (nI (x0 n)) (nI D0) (nI (n * n)) (HP B I' J1) = some (aSp y n 1, HP B I3 J1) ∧ scq I1 I3
      have g0' : I' 125 0 = nI n := (hq _ _ (by decide) (by decide)).trans g0
      refine ⟨I', ?_, hq⟩
      have hD0 := (hP 0 (Nat.mul_pos (by omega) (by omega))).1
      rw [eA, if_neg hD0]
      unfold frs
      rw [ex_all (fun l _ hl => by rw [(hP l (by omega)).2]; rfl)]
      unfold F_X12_spread_74b
      simp only [M_gi0, g0', Option.bind_some, pk_mul, if_pos (nI_le (Nat.le_refl (n * n)) (show n * n < 2 ^ 31 by omega))]
    · rw [Nat.sub_self]
      exact ⟨I2, rfl, d4, fun m' hm' => absurd hm' (Nat.not_lt_zero m')⟩
  obtain ⟨I3, m1, m2⟩ := moves
  have run : ∃ I4, L_X12_spread_30 N (B + 125) (nI i) 0 0 (HP B I1 J1) = some (aSp y n i, HP B I4 J1) ∧ scq I1 I4 := by
    have hrun : L_X12_spread_30 N (B + 125) (nI i) 0 0 (HP B I1 J1) = if nI i = 0 then some (nI D0, HP B I2 J1) else some (aSp y n 1, HP B I3 J1) := by
      unfold L_X12_spread_30
      have e1 := e_loop_f (body := fun (k : Nat × Int32 × Int32 × Int32 × eH → Option (Int32 × eH)) s => F_X12_spread_30b N (fun l0 l2 l3 l4 h => k (l0, l2, l3, l4, h)) s.1 s.2.1 s.2.2.1 s.2.2.2.1 s.2.2.2.2) (fun i2 => (B + 125, nI i, nI (bg0 i2), nI i2, HP B I1 J1)) (n) (N := N) (fun i2 hi2 k0 => by
        show F_X12_spread_30b N _ (B + 125) (nI i) (nI (bg0 i2)) (nI i2) (HP B I1 J1) = k0 _
        unfold F_X12_spread_30b
        simp only [M_gi0, g0, Option.bind_some, if_neg (nI_ge hi2 (show n < 2 ^ 31 by omega)), one_shl (show i2 < 5 by omega), nI_shl4 _ (show i2 < 4 by omega), nI_or, e_let, nI_1]
        rfl) (by omega)
      refine Eq.trans e1 ?_
      show F_X12_spread_30b N _ (B + 125) (nI i) (nI (bg0 n)) (nI n) (HP B I1 J1) = _
      unfold F_X12_spread_30b
      simp only [M_gi0, g0, Option.bind_some, if_pos (nI_le (Nat.le_refl n) (show n < 2 ^ 31 by omega)), M_is, bg0_x n (show n < 5 by omega), d1, e_bind_some, m1]
    have hc : i = 0 ∨ i = 1 := by omega
    rcases hc with rfl | rfl
    · rw [if_pos nI_0] at hrun
      refine ⟨I2, ?_, d4⟩
      rw [hrun]
      unfold aSp
      rw [if_pos rfl, hfw]
    · rw [if_neg (show ¬ nI 1 = 0 by decide)] at hrun
      exact ⟨I3, hrun, m2⟩
  obtain ⟨I4, r1, r2⟩ := run
  refine ⟨I4, J1, ?_, (fin I4 r2).1, (fin I4 r2).2⟩
  unfold F_X12_spread
  simp only [M_is, Option.bind_some, X_key_ok h w hk, e_bind_some, if_neg (show ¬ (1 : Int32) = 0 by decide), X_in_ok l1 (show i ≤ 1 by omega) (show 1 < 2 ^ 31 by decide), la]
  exact r1
theorem B_spread (hN : 70000 < N) (h : rLB I J x) : Both B (F_X11_spread N B u v) (F_X12_spread N (B + 125) u v) I J x := by
  obtain ⟨h1, h2, w⟩ := h
  have w2 := w.2.2.2.1
  rcases nix_c u (show zK x < 2 ^ 31 by omega) with e | ⟨k, hk, rfl⟩
  · exact both_p ⟨h1, h2, w⟩ (c_spread_no1 h1 w e) (m_spread_no1 h2 w e)
  · rcases nix_c v (show 2 < 2 ^ 31 by decide) with e | ⟨j, hj, rfl⟩
    · exact both_p ⟨h1, h2, w⟩ (c_spread_no2 h1 w hk e) (m_spread_no2 h2 w hk e)
    · exact both_u (x2 := x) ⟨h1, h2, w⟩ (c_spread_ok (by omega) h1 w hk hj) (fun I J h2 => m_spread_ok hN h2 w hk hj) w (by omega)
end SPZ
