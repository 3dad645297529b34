/-! loops with a way out; JOURNAL -/
def ex {α : Type} (g : Nat → Bool) (r : Nat → α) (e : α) : Nat → Nat → α
  | 0, _ => e
  | n + 1, i => if g i = true then ex g r e n (i + 1) else r i
theorem e_loop_e {σ α : Type} {body : (σ → Option α) → σ → Option α} (f : Nat → σ) (g : Nat → Bool) (r : Nat → Option α) (e : Option α) (n : Nat) {N : Nat} (hs : ∀ i, i < n → ∀ k, body k (f i) = if g i = true then k (f (i + 1)) else r i) (he : ∀ k, body k (f n) = e) (hN : n < N) : e_loop body N (f 0) = ex g r e n 0 := by
  have key : ∀ m N i, i + m = n → m < N → e_loop body N (f i) = ex g r e m i := by
    intro m
    induction m with
    | zero => intro N i h1 h2; rw [e_loop_S (by omega), show i = n by omega, he]; rfl
    | succ m ih =>
      intro N i h1 h2
      rw [e_loop_S (by omega), hs i (by omega), ih (N - 1) (i + 1) (by omega) (by omega)]
      rfl
  exact key n N 0 (by omega) hN
theorem ex_all {α : Type} {g : Nat → Bool} {r : Nat → α} {e : α} : ∀ {n i : Nat}, (∀ j, i ≤ j → j < i + n → g j = true) → ex g r e n i = e
  | 0, _, _ => rfl
  | n + 1, i, h => by
    unfold ex
    rw [if_pos (h i (Nat.le_refl _) (by omega)), ex_all (fun j h1 h2 => h j (by omega) (by omega))]
def al (g : Nat → Bool) : Nat → Nat → Bool
  | 0, _ => true
  | n + 1, i => g i && al g n (i + 1)
theorem al_iff {g : Nat → Bool} : ∀ {n i : Nat}, al g n i = true ↔ ∀ j, i ≤ j → j < i + n → g j = true
  | 0, i => ⟨fun _ j h1 h2 => by omega, fun _ => rfl⟩
  | n + 1, i => by
    unfold al
    rw [Bool.and_eq_true, al_iff]
    constructor
    · intro h j h1 h2
      rcases Nat.lt_or_ge i j with h5 | h5
      · exact h.2 j h5 (by omega)
      · rw [show j = i by omega]; exact h.1
    · intro h
      exact ⟨h i (Nat.le_refl _) (by omega), fun j h1 h2 => h j (by omega) (by omega)⟩
theorem ex_const {α : Type} {g : Nat → Bool} {c e : α} : ∀ {n i : Nat}, ex g (fun _ => c) e n i = if al g n i = true then e else c
  | 0, _ => rfl
  | n + 1, i => by
    unfold ex al
    by_cases h : g i = true
    · rw [if_pos h, ex_const, h, Bool.true_and]
    · rw [if_neg h, if_neg]
      rw [Bool.and_eq_true]
      exact fun h2 => h h2.1
theorem ex_add {α : Type} {g : Nat → Bool} {r : Nat → α} {e : α} (n : Nat) : ∀ m i, ex g r e (m + n) i = ex g r (ex g r e n (i + m)) m i
  | 0, i => by rw [Nat.zero_add]; rfl
  | m + 1, i => by
    rw [show m + 1 + n = (m + n) + 1 by omega]
    unfold ex
    rw [ex_add n m (i + 1), show i + 1 + m = i + (m + 1) by omega]
theorem ex_map {α β : Type} (φ : α → β) {g : Nat → Bool} {r : Nat → α} {e : α} : ∀ n i, φ (ex g r e n i) = ex g (fun j => φ (r j)) (φ e) n i
  | 0, _ => rfl
  | n + 1, i => by
    unfold ex
    by_cases h : g i = true
    · rw [if_pos h, if_pos h, ex_map φ n]
    · rw [if_neg h, if_neg h]
theorem ex_cong {α : Type} {g g2 : Nat → Bool} {r r2 : Nat → α} {e : α} {d : Nat} : ∀ {n i : Nat}, (∀ j, i ≤ j → j < i + n → g2 (j + d) = g j ∧ r2 (j + d) = r j) → ex g2 r2 e n (i + d) = ex g r e n i
  | 0, _, _ => rfl
  | n + 1, i, h => by
    unfold ex
    rw [(h i (Nat.le_refl _) (by omega)).1, (h i (Nat.le_refl _) (by omega)).2, show i + d + 1 = i + 1 + d by omega, ex_cong (fun j h1 h2 => h j (by omega) (by omega))]
/-- dot j is in the set -/
def pd (J : Nat → Nat → Int64) (d j : Nat) : Bool := g64 (J (d + 1) (j / 40)) (j % 40)
/-- the row x is the numbers m -/
def rwN (x : Int32) (m : Nat → Nat) : Prop := ∀ t, t < 4 → rn x t = nI (m t) ∧ m t ≤ 40
theorem dt_j (j : Nat) : dt (j / 40) (j % 40 + 1) = nI j := by unfold dt; congr 1; omega
theorem k160_lt {i : Nat} (h : i < 160) : ¬ (160 : Int32) ≤ nI i := nI_ge h (by decide)
theorem k160_n : (160 : Int32) ≤ nI 160 := by decide
section JOUR
variable {B : Nat} {I : Nat → Nat → Int32} {J : Nat → Nat → Int64} {d e t n i j k : Nat} {m : Nat → Nat}
theorem s_hasJ (hd : isD d) (hj : j < 160) : F_X1_has (B + d) (nI j) (HP B I J) = some (b2 (pd J d j), HP B I J) := by
  have := s_has (B := B) (I := I) (J := J) hd (show j / 40 < 4 by omega) (show j % 40 + 1 < 41 by omega) (by omega)
  rwa [dt_j, Nat.add_sub_cancel] at this
theorem s_addJ (hd : isD d) (hj : j < 160) : F_X1_add (B + d) (nI j) (HP B I J) = some ((), HP B I (w2 J (d + 1) (j / 40) (J (d + 1) (j / 40) ||| cb (j % 40 + 1)))) := by
  have := s_add (B := B) (I := I) (J := J) hd (show j / 40 < 4 by omega) (show j % 40 + 1 < 41 by omega) (by omega)
  rwa [dt_j] at this
theorem s_removeJ (hd : isD d) (hj : j < 160) : F_X1_remove (B + d) (nI j) (HP B I J) = some ((), HP B I (w2 J (d + 1) (j / 40) (J (d + 1) (j / 40) &&& (cb (j % 40 + 1) ^^^ (-1))))) := by
  have := s_remove (B := B) (I := I) (J := J) hd (show j / 40 < 4 by omega) (show j % 40 + 1 < 41 by omega) (by omega)
  rwa [dt_j] at this
theorem s_siteOfJ (hj : j < 160) (h : eH) : F_X1_siteOf (nI j) h = some (nI (j / 40), h) := by
  have := s_siteOf (show j / 40 < 4 by omega) (show j % 40 + 1 < 41 by omega) (by omega) h
  rwa [dt_j] at this
theorem s_numberOfJ (hj : j < 160) (h : eH) : F_X1_numberOf (nI j) h = some (nI (j % 40 + 1), h) := by
  have := s_numberOf (show j / 40 < 4 by omega) (show j % 40 + 1 < 41 by omega) (by omega) h
  rwa [dt_j] at this
theorem s_isDotJ (hj : j < 160) (h : eH) : F_X1_isDot (nI j) h = some (1, h) := by
  have := s_isDot (show j / 40 < 4 by omega) (show j % 40 + 1 < 41 by omega) (by omega) h
  rwa [dt_j] at this
theorem J_is (hk : k < 4) : h_is (HP B I J) 3 (B + cJ k) = some () := m_is (sh_J k hk)
theorem s_isSame {N : Nat} (hN : 5 < N) (hd : isD d) (he : isD e) : F_X1_isSame N (B + d) (B + e) (HP B I J) = some (b2 (al (fun t => decide (J (d + 1) t = J (e + 1) t)) 4 0), HP B I J) := by
  have e0 : F_X1_isSame N (B + d) (B + e) (HP B I J) = ex (fun i => decide (J (d + 1) i = J (e + 1) i)) (fun _ => some (0, HP B I J)) (some (1, HP B I J)) 4 0 := by
    unfold F_X1_isSame L_X1_isSame_2
    have e1 := e_loop_e (body := fun (k : Nat × Nat × Int32 × eH → Option (Int32 × eH)) s => F_X1_isSame_2b N (fun l0 l1 l2 h => k (l0, l1, l2, h)) s.1 s.2.1 s.2.2.1 s.2.2.2) (fun i => (B + d, B + e, nI i, HP B I J)) (fun i => decide (J (d + 1) i = J (e + 1) i)) (fun i => some (0, HP B I J)) (some (1, HP B I J)) (4) (N := N) (fun i hi k0 => by
      show F_X1_isSame_2b N _ (B + d) (B + e) (nI i) (HP B I J) = if _ = true then k0 _ else _
      unfold F_X1_isSame_2b
      rw [if_neg (k4_lt i hi)]
      simp only [d_gr hd, d_gr he, d_al hd hi, d_al he hi, Option.bind_some, lg_cmp0, nI_1, h_z0, decide_eq_true_eq]) (fun k0 => by
      show F_X1_isSame_2b N _ (B + d) (B + e) (nI 4) (HP B I J) = _
      unfold F_X1_isSame_2b
      rw [if_pos k4_n]
      rfl) (by omega)
    exact e1
  rw [e0, ex_const]
  cases al (fun t => decide (J (d + 1) t = J (e + 1) t)) 4 0 <;> rfl
theorem s_at {N : Nat} (hN : 200 < N) (hd : isD d) (x : Int32) : F_X1_at N (B + d) x (HP B I J) = ex (fun i => !(pd J d i && decide (nI (ct (pd J d) i) = x))) (fun i => some (nI i, HP B I J)) (some (-1, HP B I J)) 160 0 := by
  unfold F_X1_at L_X1_at_4
  have e1 := e_loop_e (body := fun (k : Nat × Int32 × Int32 × Int32 × eH → Option (Int32 × eH)) s => F_X1_at_4b N (fun l0 l1 l2 l3 h => k (l0, l1, l2, l3, h)) s.1 s.2.1 s.2.2.1 s.2.2.2.1 s.2.2.2.2) (fun i => (B + d, x, nI (ct (pd J d) i), nI i, HP B I J)) (fun i => !(pd J d i && decide (nI (ct (pd J d) i) = x))) (fun i => some (nI i, HP B I J)) (some (-1, HP B I J)) (160) (N := N) (fun i hi k0 => by
    show F_X1_at_4b N _ (B + d) (x) (nI (ct (pd J d) i)) (nI i) (HP B I J) = if _ = true then k0 _ else _
    unfold F_X1_at_4b
    rw [if_neg (k160_lt hi)]
    simp only [d_is hd, Option.bind_some, s_hasJ hd hi, e_bind_some, F_X1_at_29, nI_1]
    cases h1 : pd J d i
    · simp [b2, ct, h1]
    · by_cases h2 : nI (ct (pd J d) i) = x
      · simp [b2, h2]
      · simp [b2, h2, ct, h1]) (fun k0 => by
    show F_X1_at_4b N _ (B + d) (x) (nI (ct (pd J d) 160)) (nI 160) (HP B I J) = _
    unfold F_X1_at_4b
    rw [if_pos k160_n]) (by omega)
  exact e1
theorem s_jhas (hk : k < 4) (hj : j < 160) (hm : rwN (I (cJ k) 9) m) : F_X3_has (B + cJ k) (nI j) (HP B I J) = some (b2 (decide (j % 40 < m (j / 40))), HP B I J) := by
  obtain ⟨h1, h2⟩ := hm (j / 40) (by omega)
  unfold F_X3_has
  simp only [s_isDotJ hj, e_bind_some, m_gi (sh_J k hk) (show 9 < 11 by decide) (show m_fk 3 9 = 0 by decide), Option.bind_some, s_siteOfJ hj, s_number, s_numberOfJ hj, h1, if_neg (show ¬ ((1 : Int32) = 0) by decide), h_z0, h_z1, nI_ltI (show m (j / 40) < 2 ^ 31 by omega) (show j % 40 + 1 < 2 ^ 31 by omega)]
  by_cases h : j % 40 < m (j / 40)
  · rw [if_neg (by omega), decide_eq_true h]; rfl
  · rw [if_pos (by omega), decide_eq_false h]; rfl
theorem s_stampOf (hk : k < 4) (hj : j < 160) (hm : rwN (I (cJ k) 9) m) : F_X3_stampOf (B + cJ k) (nI j) (HP B I J) = some (if j % 40 < m (j / 40) then I (cJ k + 2) j else 0, HP B I J) := by
  unfold F_X3_stampOf
  simp only [J_is hk, s_jhas hk hj hm, e_bind_some, Option.bind_some]
  by_cases h : j % 40 < m (j / 40)
  · simp only [decide_eq_true h, b2, if_pos h, if_neg (show ¬ ((1 : Int32) = 0) by decide), if_true, m_gr (sh_J k hk) (show 1 < 11 by decide) (show m_fk 3 1 = 2 by decide), (rf_J k hk).2.1, Option.bind_some, m_aiN (sh_J1 k hk).2.1 hj (by decide)]
  · simp [decide_eq_false h, b2, if_neg h]
theorem s_toldOf (hk : k < 4) (hj : j < 160) (hm : rwN (I (cJ k) 9) m) : F_X3_toldOf (B + cJ k) (nI j) (HP B I J) = some (if j % 40 < m (j / 40) then I (cJ k + 3) j else 0, HP B I J) := by
  unfold F_X3_toldOf
  simp only [J_is hk, s_jhas hk hj hm, e_bind_some, Option.bind_some]
  by_cases h : j % 40 < m (j / 40)
  · simp only [decide_eq_true h, b2, if_pos h, if_neg (show ¬ ((1 : Int32) = 0) by decide), if_true, m_gr (sh_J k hk) (show 2 < 11 by decide) (show m_fk 3 2 = 2 by decide), (rf_J k hk).2.2.1, Option.bind_some, m_aiN (sh_J1 k hk).2.2.1 hj (by decide)]
  · simp [decide_eq_false h, b2, if_neg h]
theorem s_knownOf (hk : k < 4) (hj : j < 160) (hm : rwN (I (cJ k) 9) m) : F_X3_knownOf (B + cJ k) (nI j) (HP B I J) = some (if j % 40 < m (j / 40) then I (cJ k + 4) j else 0, HP B I J) := by
  unfold F_X3_knownOf
  simp only [J_is hk, s_jhas hk hj hm, e_bind_some, Option.bind_some]
  by_cases h : j % 40 < m (j / 40)
  · simp only [decide_eq_true h, b2, if_pos h, if_neg (show ¬ ((1 : Int32) = 0) by decide), if_true, m_gr (sh_J k hk) (show 3 < 11 by decide) (show m_fk 3 3 = 2 by decide), (rf_J k hk).2.2.2.1, Option.bind_some, m_aiN (sh_J1 k hk).2.2.2 hj (by decide)]
  · simp [decide_eq_false h, b2, if_neg h]
theorem s_valueOf (hk : k < 4) (hj : j < 160) (hm : rwN (I (cJ k) 9) m) : F_X3_valueOf (B + cJ k) (nI j) (HP B I J) = some (if j % 40 < m (j / 40) then J (cJ k + 1) j else 0, HP B I J) := by
  unfold F_X3_valueOf
  simp only [J_is hk, s_jhas hk hj hm, e_bind_some, Option.bind_some]
  by_cases h : j % 40 < m (j / 40)
  · simp only [decide_eq_true h, b2, if_pos h, if_neg (show ¬ ((1 : Int32) = 0) by decide), if_true, m_gr (sh_J k hk) (show 0 < 11 by decide) (show m_fk 3 0 = 2 by decide), (rf_J k hk).1, Option.bind_some, m_alN (sh_J1 k hk).1 hj (by decide)]
  · simp [decide_eq_false h, b2, if_neg h]
/-- the member with the lowest stamp above a stamp -/
def bst (p : Nat → Bool) (s : Nat → Nat) (lo : Nat) : Nat → Option Nat
  | 0 => none
  | i + 1 => if p i = true ∧ lo < s i then (match bst p s lo i with | none => some i | some b => if s i < s b then some i else some b) else bst p s lo i
def enc (o : Option Nat) : Int32 := match o with | none => -1 | some b => nI b
theorem bst_in {p : Nat → Bool} {s : Nat → Nat} {lo : Nat} : ∀ {n b : Nat}, bst p s lo n = some b → b < n ∧ p b = true ∧ lo < s b
  | 0, _, h => by cases h
  | n + 1, b, h => by
    unfold bst at h
    by_cases h1 : p n = true ∧ lo < s n
    · rw [if_pos h1] at h
      cases h2 : bst p s lo n with
      | none => rw [h2] at h; cases h; exact ⟨Nat.lt_succ_self _, h1⟩
      | some c =>
        rw [h2] at h
        by_cases h3 : s n < s c
        · simp [h3] at h; subst h; exact ⟨Nat.lt_succ_self _, h1⟩
        · simp [h3] at h; subst h
          obtain ⟨a1, a2⟩ := bst_in h2
          exact ⟨by omega, a2⟩
    · rw [if_neg h1] at h
      obtain ⟨a1, a2⟩ := bst_in h
      exact ⟨by omega, a2⟩
theorem s_nextByStamp {N : Nat} (hN : 200 < N) (hk : k < 4) (hd : isD d) (hm : rwN (I (cJ k) 9) m) {s : Nat → Nat} (hp : ∀ j, j < 160 → pd J d j = true → j % 40 < m (j / 40) ∧ I (cJ k + 2) j = nI (s j) ∧ s j < 2 ^ 31) {lo : Nat} (hlo : lo < 2 ^ 31) : F_X3_nextByStamp N (B + cJ k) (B + d) (nI lo) (HP B I J) = some (enc (bst (pd J d) s lo 160), HP B I J) := by
  unfold F_X3_nextByStamp L_X3_nextByStamp_5
  have e1 := e_loop_f (body := fun (k : Nat × Nat × Int32 × Int32 × Int32 × eH → Option (Int32 × eH)) s => F_X3_nextByStamp_5b N (fun l0 l1 l2 l3 l4 h => k (l0, l1, l2, l3, l4, h)) s.1 s.2.1 s.2.2.1 s.2.2.2.1 s.2.2.2.2.1 s.2.2.2.2.2) (fun i => (B + cJ k, B + d, nI lo, enc (bst (pd J d) s lo i), nI i, HP B I J)) 160 (N := N) (fun i hi k0 => by
    show F_X3_nextByStamp_5b N _ (B + cJ k) (B + d) (nI lo) (enc (bst (pd J d) s lo i)) (nI i) (HP B I J) = k0 _
    unfold F_X3_nextByStamp_5b
    rw [if_neg (k160_lt hi)]
    simp only [d_is hd, J_is hk, Option.bind_some, s_hasJ hd hi, e_bind_some, F_X3_nextByStamp_54, F_X3_nextByStamp_51, nI_1, s_stampOf hk hi hm]
    cases h1 : pd J d i
    · simp [b2, bst, h1]
    · obtain ⟨a1, a2, a3⟩ := hp i hi h1
      simp only [b2, if_true, if_neg (show ¬ ((1 : Int32) = 0) by decide), if_pos a1, a2, nI_leI a3 hlo]
      by_cases h2 : s i ≤ lo
      · rw [if_pos h2]; simp [bst, h1, Nat.not_lt.mpr h2]
      · rw [if_neg h2]
        cases h3 : bst (pd J d) s lo i with
        | none => simp [enc, bst, h1, h3, Nat.lt_of_not_le h2]
        | some b =>
          obtain ⟨c1, c2, c3⟩ := bst_in h3
          obtain ⟨b1, b2', b3⟩ := hp b (by omega) c2
          have hb : ¬ nI b = -1 := by
            intro hc
            have := nI_pos (n := b) (by omega)
            rw [hc] at this
            exact this (by decide)
          simp only [enc, if_neg hb, s_stampOf hk (show b < 160 by omega) hm, e_bind_some, if_pos b1, b2', nI_leI b3 a3]
          by_cases h4 : s b ≤ s i
          · rw [if_pos h4]; simp [bst, h1, h3, Nat.lt_of_not_le h2, Nat.not_lt.mpr h4]
          · rw [if_neg h4]; simp [bst, h1, h3, Nat.lt_of_not_le h2, Nat.lt_of_not_le h4]) (by omega)
  refine Eq.trans e1 ?_
  show F_X3_nextByStamp_5b N _ (B + cJ k) (B + d) (nI lo) (enc (bst (pd J d) s lo 160)) (nI 160) (HP B I J) = _
  unfold F_X3_nextByStamp_5b
  rw [if_pos k160_n]
end JOUR
