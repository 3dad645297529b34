/-! READINGS of a key: greatest row, holders, what is lost, the pruned row -/
def gmx (R : Nat → Nat → Nat) : Nat → Nat → Nat
  | 0, _ => 0
  | i + 1, t => max (gmx R i t) (R i t)
def hb (p : Nat → Bool) : Nat → Int32
  | 0 => 0
  | i + 1 => hb p i ||| (b2 (p i) <<< (nI i &&& 31))
def los (x : eKS) (j : Nat) : Bool := cov (kM x) j && !kS x 0 j && decide (hb (fun s => kS x (4 + s) j) 4 = 0)
def osv (r St : Nat → Nat) (i : Nat) : Nat := if r i = 0 then 0 else St (40 * i + (r i - 1))
def os1 (a : Nat × Nat) (i v : Nat) : Nat × Nat := if v = 0 then a else if a.2 = 0 then (i, v) else if a.2 ≤ v then a else (i, v)
def ost (r St : Nat → Nat) : Nat → Nat × Nat
  | 0 => (0, 0)
  | i + 1 => os1 (ost r St i) i (osv r St i)
def prn (r St : Nat → Nat) : Nat → Nat → Nat
  | 0 => r
  | e + 1 => fun t => if t = (ost (prn r St e) St 4).1 then 0 else prn r St e t
theorem ost_1 (r St : Nat → Nat) : ∀ i, i ≤ 4 → (ost r St i).1 < 4
  | 0, _ => by show 0 < 4; decide
  | i + 1, h => by
    have := ost_1 r St i (by omega)
    show (os1 _ _ _).1 < 4
    unfold os1
    split
    · exact this
    · split
      · show i < 4; omega
      · split
        · exact this
        · show i < 4; omega
theorem ost_2 {r St : Nat → Nat} : ∀ i, (∀ t, t < i → osv r St t < 2 ^ 31) → (ost r St i).2 < 2 ^ 31
  | 0, _ => by show 0 < 2 ^ 31; decide
  | i + 1, h => by
    have := ost_2 i (fun t ht => h t (by omega))
    have h2 := h i (by omega)
    show (os1 _ _ _).2 < 2 ^ 31
    unfold os1
    split
    · exact this
    · split
      · exact h2
      · split
        · exact this
        · exact h2
theorem prn_le (r St : Nat → Nat) : ∀ e t, prn r St e t ≤ r t
  | 0, _ => Nat.le_refl _
  | e + 1, t => by
    show (if _ then 0 else prn r St e t) ≤ r t
    split
    · exact Nat.zero_le _
    · exact prn_le r St e t
section READ
variable {B : Nat} {I : Nat → Nat → Int32} {J J2 : Nat → Nat → Int64} {d e t n i j k s f g u : Nat} {x : eKS} {m : Nat → Nat} {p : Nat → Bool}
theorem t_greatestRow {N : Nat} (hN : 200 < N) (hk : k < 4) (h : ClK k I J x) : ∃ y, F_X4_greatestRow N (B + cK k) (HP B I J) = some (y, HP B I J) ∧ rwN y (gmx (kR x) 4) := by
  obtain ⟨s', ⟨y, hs', q1⟩, q3⟩ := e_loop_0 (body := fun (k : Nat × Int32 × Int32 × eH → Option (Int32 × eH)) s => F_X4_greatestRow_4b N (fun l0 l1 l2 h => k (l0, l1, l2, h)) s.1 s.2.1 s.2.2.1 s.2.2.2) (fun i st => ∃ y, st = (B + cK k, y, nI i, HP B I J) ∧ rwN y (gmx (kR x) i)) 4 (N := N) ⟨0, rfl, rwN_0⟩ (fun i st hi hst => by
    obtain ⟨y, hst, c2⟩ := hst
    subst hst
    refine ⟨(B + cK k, rgr y (I (cR k i) 3) 4, nI (i + 1), HP B I J), ⟨_, rfl, rwN_gr c2 (h.2.1 i hi)⟩, fun K => ?_⟩
    show F_X4_greatestRow_4b N _ (B + cK k) y (nI i) (HP B I J) = _
    unfold F_X4_greatestRow_4b
    simp only [K_gr1 hk, K_len hk, Option.bind_some, if_neg (k4_lt i hi), K_ar hk hi, R_gi3 hk hi, s_greater (show 5 < N by omega), e_bind_some, nI_1]) (by omega)
  refine ⟨y, ?_, q1⟩
  unfold F_X4_greatestRow L_X4_greatestRow_4
  refine Eq.trans q3 ?_
  rw [hs']
  show F_X4_greatestRow_4b N _ (B + cK k) y (nI 4) (HP B I J) = _
  unfold F_X4_greatestRow_4b
  simp only [K_gr1 hk, K_len hk, Option.bind_some, if_pos k4_n]
theorem t_has (hk : k < 4) (hf : f < 8) (hj : j < 160) (h : ClK k I J x) : F_X1_has (B + dF k f) (nI j) (HP B I J) = some (b2 (kS x f j), HP B I J) := by
  rw [s_hasJ (isD_F k hk f hf) hj, pd_of (ClK_d h hf) hj]
theorem s_bit (b : Bool) (h : eH) : F_X11_bit (b2 b) h = some (b2 b, h) := by cases b <;> rfl
theorem t_holders {N : Nat} (hN : 200 < N) (hk : k < 4) (hj : j < 160) (h : ClK k I J x) : F_X4_holders N (B + cK k) (nI j) (HP B I J) = some (hb (fun s => kS x (4 + s) j) 4, HP B I J) := by
  unfold F_X4_holders L_X4_holders_4
  have e1 := e_loop_f (body := fun (k : Nat × Int32 × Int32 × Int32 × eH → Option (Int32 × eH)) s => F_X4_holders_4b N (fun l0 l1 l2 l3 h => k (l0, l1, l2, l3, h)) s.1 s.2.1 s.2.2.1 s.2.2.2.1 s.2.2.2.2) (fun i => (B + cK k, nI j, hb (fun s => kS x (4 + s) j) i, nI i, HP B I J)) 4 (N := N) (fun i hi k0 => by
    show F_X4_holders_4b N _ (B + cK k) (nI j) (hb (fun s => kS x (4 + s) j) i) (nI i) (HP B I J) = k0 _
    unfold F_X4_holders_4b
    simp only [K_gr1 hk, K_len hk, Option.bind_some, if_neg (k4_lt i hi), K_ar hk hi, R_gr2 hk hi, F_is hk (show 4 + i < 8 by omega), t_has hk (show 4 + i < 8 by omega) hj h, s_bit, e_bind_some, e_let, nI_1]
    rfl) (by omega)
  refine Eq.trans e1 ?_
  show F_X4_holders_4b N _ (B + cK k) (nI j) (hb (fun s => kS x (4 + s) j) 4) (nI 4) (HP B I J) = _
  unfold F_X4_holders_4b
  simp only [K_gr1 hk, K_len hk, Option.bind_some, if_pos k4_n]
theorem t_jhas (hk : k < 4) (hj : j < 160) (h : ClK k I J x) : F_X3_has (B + cJ k) (nI j) (HP B I J) = some (b2 (cov (kM x) j), HP B I J) := s_jhas hk hj h.2.2.1
theorem t_isLost {N : Nat} (hN : 200 < N) (hk : k < 4) (hj : j < 160) (h : ClK k I J x) : F_X4_isLost N (B + cK k) (nI j) (HP B I J) = some (b2 (los x j), HP B I J) := by
  unfold F_X4_isLost los
  simp only [K_gr0 hk, J_is hk, Option.bind_some, t_jhas hk hj h, e_bind_some, J_gr4 hk, F_is hk (show 0 < 8 by decide), t_has hk (show 0 < 8 by decide) hj h, K_is hk, t_holders hN hk hj h, h_z0, h_z1]
  cases cov (kM x) j
  · rfl
  · cases kS x 0 j
    · by_cases e : hb (fun s => kS x (4 + s) j) 4 = 0
      · simp [e, b2]
      · simp [e, b2]
    · rfl
theorem nI_b2 (b : Bool) (n : Nat) : nI n + b2 b = nI (n + if b = true then 1 else 0) := by
  rw [← nI_add]; cases b <;> rfl
theorem t_lostTotal {N : Nat} (hN : 200 < N) (hk : k < 4) (h : ClK k I J x) : F_X4_lostTotal N (B + cK k) (HP B I J) = some (nI (ct (los x) 160), HP B I J) := by
  unfold F_X4_lostTotal L_X4_lostTotal_4
  have e1 := e_loop_f (body := fun (k : Nat × Int32 × Int32 × eH → Option (Int32 × eH)) s => F_X4_lostTotal_4b N (fun l0 l1 l2 h => k (l0, l1, l2, h)) s.1 s.2.1 s.2.2.1 s.2.2.2) (fun i => (B + cK k, nI (ct (los x) i), nI i, HP B I J)) 160 (N := N) (fun i hi k0 => by
    show F_X4_lostTotal_4b N _ (B + cK k) (nI (ct (los x) i)) (nI i) (HP B I J) = k0 _
    unfold F_X4_lostTotal_4b
    rw [if_neg (k160_lt hi)]
    simp only [K_is hk, Option.bind_some, t_isLost hN hk hi h, s_bit, e_bind_some, e_let, nI_b2, nI_1]
    rfl) (by omega)
  refine Eq.trans e1 ?_
  show F_X4_lostTotal_4b N _ (B + cK k) (nI (ct (los x) 160)) (nI 160) (HP B I J) = _
  unfold F_X4_lostTotal_4b
  rw [if_pos k160_n]
theorem t_stampOf (hk : k < 4) (hj : j < 160) (h : ClK k I J x) (hc : cov (kM x) j = true) : F_X3_stampOf (B + cJ k) (nI j) (HP B I J) = some (nI (kSt x j), HP B I J) := by
  rw [s_stampOf hk hj h.2.2.1, if_pos (of_decide_eq_true hc), (h.2.2.2.2.2.2 j hj hc).1]
theorem t_valueOf (hk : k < 4) (hj : j < 160) (h : ClK k I J x) (hc : cov (kM x) j = true) : F_X3_valueOf (B + cJ k) (nI j) (HP B I J) = some (kV x j, HP B I J) := by
  rw [s_valueOf hk hj h.2.2.1, if_pos (of_decide_eq_true hc), (h.2.2.2.2.2.2 j hj hc).2.2.1]
theorem s_old41 {N : Nat} (K : Nat × Int32 × Int32 × Int32 × Int32 × eH → Option (Int32 × eH)) (l0 : Nat) (y : Int32) (a : Nat × Nat) (i v : Nat) (h : eH) (ha : a.2 < 2 ^ 31) (hv : v < 2 ^ 31) : F_X3_oldestSite_41 N (fun l0 l1 l2 l3 l4 h => K (l0, l1, l2, l3, l4, h)) l0 y (nI a.1) (nI a.2) (nI i) (nI v) h = K (l0, y, nI (os1 a i v).1, nI (os1 a i v).2, nI (i + 1), h) := by
  unfold F_X3_oldestSite_41 F_X3_oldestSite_58 F_X3_oldestSite_64 os1
  by_cases e : v = 0
  · subst e; rw [if_pos (by decide), if_pos rfl, nI_1]
  · rw [if_neg (nI_nle (by omega) hv), if_neg e]
    by_cases e2 : a.2 = 0
    · rw [e2, if_pos nI_0, if_pos rfl, nI_1]
    · rw [if_neg (nI_ne0 (by omega) ha), if_neg e2]
      by_cases e3 : a.2 ≤ v
      · rw [if_pos (nI_le e3 hv), if_pos e3, nI_1]
      · rw [if_neg (nI_ge (by omega) ha), if_neg e3, nI_1]
theorem t_osv (hk : k < 4) (h : ClK k I J x) {r : Nat → Nat} (hr : ∀ t, t < 4 → r t ≤ kM x t) (hi : i < 4) : r i ≠ 0 → 40 * i + (r i - 1) < 160 ∧ cov (kM x) (40 * i + (r i - 1)) = true := by
  intro h0
  have a1 := hr i hi
  have a2 := (h.2.2.1 i hi).2
  refine ⟨by omega, ?_⟩
  rw [cov_ti _ (by omega), decide_eq_true_eq]
  omega
theorem t_osb (hk : k < 4) (h : ClK k I J x) {r : Nat → Nat} (hr : ∀ t, t < 4 → r t ≤ kM x t) (hi : i < 4) : osv r (kSt x) i < 2 ^ 31 := by
  unfold osv
  by_cases e : r i = 0
  · rw [if_pos e]; decide
  · rw [if_neg e]
    obtain ⟨a1, a2⟩ := t_osv hk h hr hi e
    exact (h.2.2.2.2.2.2 _ a1 a2).2.1
theorem t_oldestSite {N : Nat} (hN : 200 < N) (hk : k < 4) (h : ClK k I J x) {y : Int32} {r : Nat → Nat} (hy : rwN y r) (hr : ∀ t, t < 4 → r t ≤ kM x t) : F_X3_oldestSite N (B + cJ k) y (HP B I J) = some (nI (ost r (kSt x) 4).1, HP B I J) := by
  unfold F_X3_oldestSite L_X3_oldestSite_7
  have e1 := e_loop_f (body := fun (k : Nat × Int32 × Int32 × Int32 × Int32 × eH → Option (Int32 × eH)) s => F_X3_oldestSite_7b N (fun l0 l1 l2 l3 l4 h => k (l0, l1, l2, l3, l4, h)) s.1 s.2.1 s.2.2.1 s.2.2.2.1 s.2.2.2.2.1 s.2.2.2.2.2) (fun i => (B + cJ k, y, nI (ost r (kSt x) i).1, nI (ost r (kSt x) i).2, nI i, HP B I J)) 4 (N := N) (fun i hi k0 => by
    show F_X3_oldestSite_7b N _ (B + cJ k) (y) (nI (ost r (kSt x) i).1) (nI (ost r (kSt x) i).2) (nI i) (HP B I J) = k0 _
    unfold F_X3_oldestSite_7b
    rw [if_neg (k4_lt i hi)]
    have hb := t_osb hk h hr hi
    have ha := ost_2 (r := r) (St := kSt x) i (fun t ht => t_osb hk h hr (by omega))
    obtain ⟨b1, b2⟩ := hy i hi
    have hfin := s_old41 (N := N) k0 (B + cJ k) y (ost r (kSt x) i) i (osv r (kSt x) i) (HP B I J) ha hb
    simp only [s_number, e_bind_some, b1]
    by_cases e : r i = 0
    · rw [e, if_pos (by decide)]
      have z : osv r (kSt x) i = 0 := by unfold osv; rw [if_pos e]
      rw [z] at hfin
      refine Eq.trans hfin ?_
      show _ = k0 (_, _, nI (os1 _ _ (osv r (kSt x) i)).1, nI (os1 _ _ (osv r (kSt x) i)).2, _, _)
      rw [z]
    · rw [if_neg (nI_nle (by omega) (by omega))]
      obtain ⟨a1, a2⟩ := t_osv hk h hr hi e
      have z : osv r (kSt x) i = kSt x (40 * i + (r i - 1)) := by unfold osv; rw [if_neg e]
      simp only [s_of (show 1 ≤ r i by omega), e_bind_some, J_is hk, Option.bind_some, dt, t_stampOf hk a1 h a2]
      rw [← z]
      exact hfin) (by omega)
  refine Eq.trans e1 ?_
  show F_X3_oldestSite_7b N _ (B + cJ k) (y) (nI (ost r (kSt x) 4).1) (nI (ost r (kSt x) 4).2) (nI 4) (HP B I J) = _
  unfold F_X3_oldestSite_7b
  rw [if_pos k4_n]
theorem t_pruned {N : Nat} (hN : 200 < N) (hk : k < 4) (h : ClK k I J x) {y : Int32} {r : Nat → Nat} (hy : rwN y r) (hr : ∀ t, t < 4 → r t ≤ kM x t) {b : Nat} (hb : b < 2 ^ 30) : ∃ z, F_X3_pruned N (B + cJ k) y (nI b) (HP B I J) = some (z, HP B I J) ∧ rwN z (prn r (kSt x) (ct (fun t => decide (0 < r t)) 4 - b)) := by
  have hle := ct_le (fun t => decide (0 < r t)) 4
  obtain ⟨E, hE⟩ : ∃ E, E = ct (fun t => decide (0 < r t)) 4 - b := ⟨_, rfl⟩
  rw [← hE]
  unfold F_X3_pruned
  simp only [s_above (show 5 < N by omega), e_bind_some, e_let, rab_nI hy 4 (Nat.le_refl _)]
  rcases Nat.lt_or_ge (ct (fun t => decide (0 < r t)) 4) b with hl | hl
  · refine ⟨y, ?_, ?_⟩
    · unfold L_X3_pruned_10
      rw [e_loop_S (by omega)]
      show F_X3_pruned_10b N _ (B + cJ k) y (nI (ct (fun t => decide (0 < r t)) 4) - nI b) (HP B I J) = _
      unfold F_X3_pruned_10b
      rw [if_pos (Int32.le_of_lt (pk_sneg (by omega) hl))]
    · rw [show E = 0 by omega]; exact hy
  · rw [pk_sub hl, ← hE]
    unfold L_X3_pruned_10
    obtain ⟨s', ⟨z, hs', q1⟩, q3⟩ := e_loop_0 (body := fun (k : Nat × Int32 × Int32 × eH → Option (Int32 × eH)) s => F_X3_pruned_10b N (fun l0 l3 l4 h => k (l0, l3, l4, h)) s.1 s.2.1 s.2.2.1 s.2.2.2) (fun i st => ∃ z, st = (B + cJ k, z, nI (E - i), HP B I J) ∧ rwN z (prn r (kSt x) i)) E (N := N) ⟨y, rfl, hy⟩ (fun i st hi hst => by
      obtain ⟨z, hst, c2⟩ := hst
      subst hst
      have o1 := ost_1 (prn r (kSt x) i) (kSt x) 4 (Nat.le_refl _)
      refine ⟨(B + cJ k, rw_ z (ost (prn r (kSt x) i) (kSt x) 4).1 (nI 0), nI (E - (i + 1)), HP B I J), ⟨_, rfl, rwN_w c2 o1 (by omega)⟩, fun K => ?_⟩
      show F_X3_pruned_10b N _ (B + cJ k) z (nI (E - i)) (HP B I J) = _
      unfold F_X3_pruned_10b
      rw [show E - i = E - (i + 1) + 1 by omega]
      simp only [if_neg (nI_nle (show 0 < E - (i + 1) + 1 by omega) (by omega)), J_is hk, Option.bind_some, t_oldestSite hN hk h c2 (fun t ht => Nat.le_trans (prn_le _ _ _ _) (hr t ht)), e_bind_some, s_with, pk_m1]
      rfl) (by omega)
    refine ⟨z, ?_, q1⟩
    refine Eq.trans q3 ?_
    rw [hs', Nat.sub_self]
    show F_X3_pruned_10b N _ (B + cJ k) z (nI 0) (HP B I J) = _
    unfold F_X3_pruned_10b
    rw [if_pos (by decide)]
end READ
