/-! SPREAD of the class: the call -/
theorem ex_al {α : Type} {g : Nat → Bool} {r : Nat → α} {e e2 : α} : ∀ {n i : Nat}, ex g r e n i = if al g n i = true then e else ex g r e2 n i
  | 0, _ => rfl
  | n + 1, i => by
    unfold ex al
    by_cases h : g i = true
    · rw [if_pos h, if_pos h, h, Bool.true_and]
      exact ex_al
    · rw [if_neg h, if_neg h, if_neg]
      rw [Bool.and_eq_true]
      exact fun q => h q.1
/-- the lowest move for which it holds -/
def frs (P : Nat → Nat → Bool) (n : Nat) : Int32 := ex (fun m => !P (m / n) (m % n)) (fun m => nI (10 * (m / n) + m % n)) (-9) (n * n) 0
theorem flat {α : Type} {P : Nat → Nat → Bool} {R : Nat → Nat → α} {E D : α} {n : Nat} (h0 : 0 < n) : ∀ a i, ex (fun f => al (fun t => !P f t) n 0) (fun f => ex (fun t => !P f t) (fun t => R f t) D n 0) E a i = ex (fun m => !P (m / n) (m % n)) (fun m => R (m / n) (m % n)) E (a * n) (i * n)
  | 0, i => by rw [Nat.zero_mul]; rfl
  | a + 1, i => by
    rw [show (a + 1) * n = n + a * n by rw [Nat.add_mul, Nat.one_mul, Nat.add_comm], ex_add (g := fun m => !P (m / n) (m % n)) (r := fun m => R (m / n) (m % n)) (e := E) (a * n) n (i * n), show i * n + n = (i + 1) * n by rw [Nat.add_mul, Nat.one_mul], ← flat h0 a (i + 1)]
    have hs := ex_cong (g := fun t => !P i t) (r := fun t => R i t) (g2 := fun m => !P (m / n) (m % n)) (r2 := fun m => R (m / n) (m % n)) (e := ex (fun f => al (fun t => !P f t) n 0) (fun f => ex (fun t => !P f t) (fun t => R f t) D n 0) E a (i + 1)) (d := i * n) (n := n) (i := 0) (fun j _ hj => by
      have e1 : (j + i * n) / n = i := by rw [Nat.add_mul_div_right _ _ h0, Nat.div_eq_of_lt (by omega), Nat.zero_add]
      have e2 : (j + i * n) % n = j := by rw [Nat.add_mul_mod_self_right, Nat.mod_eq_of_lt (by omega)]
      rw [e1, e2]
      exact ⟨rfl, rfl⟩)
    rw [Nat.zero_add] at hs
    rw [hs]
    exact (ex_al (g := fun t => !P i t) (r := fun t => R i t) (e2 := D) (n := n) (i := 0)).symm
/-- the fewest -/
def fwN (y : eKS) (n Y : Nat) : Nat := ex (fun l => !Ecb y n l Y) (fun l => l) (2 * (n - 1)) (2 * (n - 1)) 0
theorem ex_le {g : Nat → Bool} {M : Nat} : ∀ {n i : Nat}, i + n ≤ M → ex g (fun l => l) M n i ≤ M
  | 0, _, _ => Nat.le_refl _
  | n + 1, i, h => by
    unfold ex
    split
    · exact ex_le (by omega)
    · omega
section SPY
variable {B N : Nat} {I I2 : Nat → Nat → Int32} {J J2 : Nat → Nat → Int64} {x : eST} {y : eKS} {n A k s t o f l X Y i d T : Nat} {u v : Int32}
theorem fwN_le : fwN y n Y ≤ 2 * (n - 1) := ex_le (by omega)
theorem s_fewest (hN : 200 < N) (hG : GoM I y n) (h2 : 2 ≤ n) (hn : n ≤ 4) : F_X2_fewest N (B + 11) (HP B I J) = some (nI (fwN y n (phi y n (x0 n))), HP B I J) := by
  have e1 : nI n - 1 = nI (n - 1) := by
    obtain ⟨m, rfl⟩ : ∃ m, n = m + 1 := ⟨n - 1, by omega⟩
    rw [nI_pred]; rfl
  have e2 : (2 : Int32) * nI (n - 1) = nI (2 * (n - 1)) := pk_mul 2 (n - 1)
  have e0 : L_X2_fewest_11 N (B + 11) (nI (2 * (n - 1))) 0 (HP B I J) = ex (fun l => !Ecb y n l (phi y n (x0 n))) (fun l => some (nI l, HP B I J)) (some (nI (2 * (n - 1)), HP B I J)) (2 * (n - 1)) 0 := by
    unfold L_X2_fewest_11
    have e1 := e_loop_e (body := fun (k : Nat × Int32 × Int32 × eH → Option (Int32 × eH)) s => F_X2_fewest_11b N (fun l0 l1 l2 h => k (l0, l1, l2, h)) s.1 s.2.1 s.2.2.1 s.2.2.2) (fun i => (B + 11, nI (2 * (n - 1)), nI i, HP B I J)) (fun i => !Ecb y n i (phi y n (x0 n))) (fun i => some (nI i, HP B I J)) (some (nI (2 * (n - 1)), HP B I J)) (2 * (n - 1)) (N := N) (fun i hi k0 => by
      show F_X2_fewest_11b N _ (B + 11) (nI (2 * (n - 1))) (nI i) (HP B I J) = if _ = true then k0 _ else _
      unfold F_X2_fewest_11b
      unfold F_X2_isEnough8
      simp only [if_neg (nI_ge hi (show 2 * (n - 1) < 2 ^ 31 by omega)), Z_gi2, hG.2.2, Option.bind_some, s_enough hN hG hn 8 i _ (show i < 8 by omega) (show i < 2 ^ 31 by omega) dgs_phi, e_bind_some, b2_0, nI_1]
      cases Ecb y n i (phi y n (x0 n)) <;> rfl) (fun k0 => by
      show F_X2_fewest_11b N _ (B + 11) (nI (2 * (n - 1))) (nI (2 * (n - 1))) (HP B I J) = _
      unfold F_X2_fewest_11b
      rw [if_pos (Int32.le_refl _)]) (by omega)
    exact e1
  unfold F_X2_fewest
  simp only [Z_gi1, hG.1, Option.bind_some, e_let, e1, e2]
  rw [e0]
  exact (ex_map (fun l => some (nI l, HP B I J)) (g := fun l => !Ecb y n l (phi y n (x0 n))) (r := fun l => l) (e := 2 * (n - 1)) (2 * (n - 1)) 0).symm
theorem s_first (hN : 200 < N) (hG : GoM I y n) (h2 : 2 ≤ n) (hn : n ≤ 4) : F_X2_firstOfFewest N (B + 11) (HP B I J) = some (if fwN y n (phi y n (x0 n)) = 0 then -9 else frs (mvs y n (fwN y n (phi y n (x0 n)) - 1) (phi y n (x0 n))) n, HP B I J) := by
  obtain ⟨T, hT⟩ : ∃ T, T = fwN y n (phi y n (x0 n)) := ⟨_, rfl⟩
  obtain ⟨Y, hY⟩ : ∃ Y, Y = phi y n (x0 n) := ⟨_, rfl⟩
  have hTle : T ≤ 2 * (n - 1) := by rw [hT]; exact fwN_le
  have hYd : dgs n Y := by rw [hY]; exact dgs_phi
  have hY0 : I 11 2 = nI Y := by rw [hY]; exact hG.2.2
  unfold F_X2_firstOfFewest
  simp only [Z_is, Option.bind_some, s_fewest hN hG h2 hn, e_bind_some]
  rw [← hT, ← hY]
  by_cases h0 : T = 0
  · rw [if_pos (by rw [h0]; rfl), if_pos h0]
  · rw [if_neg (nI_ne0 (by omega) (by omega)), if_neg h0]
    obtain ⟨m, hm⟩ : ∃ m, T = m + 1 := ⟨T - 1, by omega⟩
    rw [hm, Nat.add_sub_cancel]
    have inner : ∀ (K14 : Nat → Int32 → Int32 → eH → Option (Int32 × eH)) (f : Nat), f < n → L_X2_firstOfFewest_24 N K14 (B + 11) (nI (m + 1)) (nI f) 0 (HP B I J) = ex (fun t => !mvs y n m Y f t) (fun t => some (nI (10 * f + t), HP B I J)) (K14 (B + 11) (nI (m + 1)) (nI (f + 1)) (HP B I J)) n 0 := by
      intro K14 f hf
      unfold L_X2_firstOfFewest_24
      have e1 := e_loop_e (body := fun (k : Nat × Int32 × Int32 × Int32 × eH → Option (Int32 × eH)) s => F_X2_firstOfFewest_24b N K14 (fun l0 l1 l2 l3 h => k (l0, l1, l2, l3, h)) s.1 s.2.1 s.2.2.1 s.2.2.2.1 s.2.2.2.2) (fun i => (B + 11, nI (m + 1), nI f, nI i, HP B I J)) (fun i => !mvs y n m Y f i) (fun i => some (nI (10 * f + i), HP B I J)) (K14 (B + 11) (nI (m + 1)) (nI (f + 1)) (HP B I J)) (n) (N := N) (fun i hi k0 => by
        show F_X2_firstOfFewest_24b N K14 _ (B + 11) (nI (m + 1)) (nI f) (nI i) (HP B I J) = if _ = true then k0 _ else _
        unfold F_X2_firstOfFewest_24b
        unfold F_X2_isEnough8
        have e10 : (10 : Int32) * nI f + nI i = nI (10 * f + i) := by rw [show (10 : Int32) * nI f = nI (10 * f) from pk_mul 10 f, nI_add]
        simp only [Z_gi1, hG.1, Option.bind_some, if_neg (nI_ge hi (show n < 2 ^ 31 by omega)), Z_gi2, hY0, Z_is, s_after hG hn hYd (show f < 4 by omega) (show i < 4 by omega), e_bind_some, nI_pred, s_enough hN hG hn 8 m (aft y n Y f i) (show m < 8 by omega) (show m < 2 ^ 31 by omega) (dgs_aft hYd), b2_0, F_X2_firstOfFewest_72, nI_1, e10]
        unfold mvs
        have ha := (dgs_aft (y := y) (f := f) (t := i) hYd).1
        have hY1 := hYd.1
        by_cases q : aft y n Y f i = Y
        · rw [if_pos (by rw [q]), decide_eq_false (fun g => g q)]; rfl
        · rw [if_neg (fun e => q ((nI_eq (by omega) (by omega)).mp e)), decide_eq_true q, Bool.true_and]
          cases Ecb y n m (aft y n Y f i) <;> rfl) (fun k0 => by
        show F_X2_firstOfFewest_24b N K14 _ (B + 11) (nI (m + 1)) (nI f) (nI n) (HP B I J) = _
        unfold F_X2_firstOfFewest_24b
        simp only [Z_gi1, hG.1, Option.bind_some, if_pos (nI_le (Nat.le_refl n) (show n < 2 ^ 31 by omega)), nI_1]) (by omega)
      exact e1
    have e1 : L_X2_firstOfFewest_14 N (B + 11) (nI (m + 1)) 0 (HP B I J) = ex (fun f => al (fun t => !mvs y n m Y f t) n 0) (fun f => ex (fun t => !mvs y n m Y f t) (fun t => some (nI (10 * f + t), HP B I J)) none n 0) (some (-9, HP B I J)) n 0 := by
      unfold L_X2_firstOfFewest_14
      have e1 := e_loop_e (body := fun (k : Nat × Int32 × Int32 × eH → Option (Int32 × eH)) s => F_X2_firstOfFewest_14b N (fun l0 l1 l2 h => k (l0, l1, l2, h)) s.1 s.2.1 s.2.2.1 s.2.2.2) (fun i => (B + 11, nI (m + 1), nI i, HP B I J)) (fun i => al (fun t => !mvs y n m Y i t) n 0) (fun i => ex (fun t => !mvs y n m Y i t) (fun t => some (nI (10 * i + t), HP B I J)) none n 0) (some (-9, HP B I J)) (n) (N := N) (fun i hi k0 => by
        show F_X2_firstOfFewest_14b N _ (B + 11) (nI (m + 1)) (nI i) (HP B I J) = if _ = true then k0 _ else _
        unfold F_X2_firstOfFewest_14b
        simp only [Z_gi1, hG.1, Option.bind_some, if_neg (nI_ge hi (show n < 2 ^ 31 by omega))]
        rw [inner _ i hi]
        exact ex_al) (fun k0 => by
        show F_X2_firstOfFewest_14b N _ (B + 11) (nI (m + 1)) (nI n) (HP B I J) = _
        unfold F_X2_firstOfFewest_14b
        simp only [Z_gi1, hG.1, Option.bind_some, if_pos (nI_le (Nat.le_refl n) (show n < 2 ^ 31 by omega))]) (by omega)
      exact e1
    rw [e1, flat (R := fun f t => some (nI (10 * f + t), HP B I J)) (by omega) n 0, Nat.zero_mul]
    exact (ex_map (fun v => some (v, HP B I J)) (g := fun q => !mvs y n m Y (q / n) (q % n)) (r := fun q => nI (10 * (q / n) + q % n)) (e := -9) (n * n) 0).symm
/-- what spread answers -/
def aSp (y : eKS) (n w : Nat) : Int32 := if w = 0 then nI (fwN y n (phi y n (x0 n))) else if fwN y n (phi y n (x0 n)) = 0 then -9 else frs (mvs y n (fwN y n (phi y n (x0 n)) - 1) (phi y n (x0 n))) n
theorem c_spread_no1 (h : Cl I J x) (w : WF x) (hv : nix v (zK x)) : F_X11_spread N B v u (HP B I J) = some (-1, HP B I J) := by
  unfold F_X11_spread
  simp only [V_is, Option.bind_some, keyAt_no h w hv, e_bind_some, Option.elim_none]
theorem c_spread_no2 (h : Cl I J x) (w : WF x) (hk : k < zK x) (hv : nix v 2) : F_X11_spread N B (nI k) v (HP B I J) = some (-1, HP B I J) := by
  unfold F_X11_spread
  simp only [V_is, Option.bind_some, keyAt_ok h w hk, e_bind_some, Option.elim_some]
  by_cases e : v < 0
  · rw [if_pos e]
  · rw [if_neg e, if_neg (nix_le hv (by decide) (by decide) e)]
theorem c_spread_ok (hN : 200 < N) (h : Cl I J x) (w : WF x) (hk : k < zK x) (hj : i < 2) : ∃ I2 J2, F_X11_spread N B (nI k) (nI i) (HP B I J) = some (aSp (zS x k) (zN x) i, HP B I2 J2) ∧ Cl I2 J2 x ∧ frC I J I2 J2 := by
  have h4 : k < 4 := Nat.lt_of_lt_of_le hk w.2.2.2.1
  obtain ⟨I2, e1, hG, hf⟩ := s_lookAt (B := B) (N := N) hN (Cl_k h h4) h4 w.1.1 w.1.2
  have hCl : Cl I2 J x := by
    obtain ⟨⟨a1, a2, a3, a4, a5⟩, ⟨b1, b2⟩, ⟨c1, c2⟩, d, e⟩ := h
    have f0 : ∀ c z, c ≠ 11 → c ≠ 12 → I2 c z = I c z := hf
    exact Cl_mk (x := x) ⟨⟨a1, a2, a3, a4, a5⟩, ⟨b1, b2⟩, ⟨c1, c2⟩, d, e⟩ rfl (fun c h1 _ z => hf c z (by omega) (by omega)) (fun _ _ _ _ => rfl) ⟨(f0 0 _ (by decide) (by decide)).trans a1, (f0 0 _ (by decide) (by decide)).trans a2, (f0 0 _ (by decide) (by decide)).trans a3, (f0 0 _ (by decide) (by decide)).trans a4, (f0 0 _ (by decide) (by decide)).trans a5⟩ ⟨(f0 1 _ (by decide) (by decide)).trans b1, fun i hi => (f0 2 _ (by decide) (by decide)).trans (b2 i hi)⟩ ⟨(f0 7 _ (by decide) (by decide)).trans c1, fun i hi => ⟨(f0 8 _ (by decide) (by decide)).trans (c2 i hi).1, (f0 9 _ (by decide) (by decide)).trans (c2 i hi).2⟩⟩ (ClC_fr d (fun c hc z => hf _ _ (by unfold cC; omega) (by unfold cC; omega)) rfl rfl rfl)
  refine ⟨I2, J, ?_, hCl, fun d hd z => ⟨hf d z (by omega) (by omega), rfl⟩⟩
  unfold F_X11_spread aSp
  simp only [V_is, Option.bind_some, keyAt_ok h w hk, e_bind_some, Option.elim_some, if_neg (nI_pos (show i < 2 ^ 31 by omega)), if_pos (show nI i ≤ 1 from nI_le (show i ≤ 1 by omega) (by decide)), V_gr6, V_gi (show 7 ≤ 7 ∧ 7 < 12 by decide), h.1.1, Z_is, e1, s_fewest hN hG w.1.1 w.1.2, s_first hN hG w.1.1 w.1.2]
  have hc : i = 0 ∨ i = 1 := by omega
  rcases hc with rfl | rfl
  · rw [if_pos nI_0, if_pos rfl]
  · rw [if_neg (show ¬ nI 1 = 0 by decide), if_neg (show ¬ (1 : Nat) = 0 by decide)]
end SPY
