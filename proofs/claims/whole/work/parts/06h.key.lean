/-! KEYS: what one key holds, and how the class holds it -/
def eKS : Type := (Nat → Nat) × (Nat → Nat → Nat) × (Nat → Nat → Bool) × (Nat → Nat) × (Nat → Int64) × (Nat → Nat → Nat) × (Nat → Nat → Nat) × (Int32) × (Nat)
def kM (x : eKS) : Nat → Nat := x.1
def kR (x : eKS) : Nat → Nat → Nat := x.2.1
def kS (x : eKS) : Nat → Nat → Bool := x.2.2.1
def kSt (x : eKS) : Nat → Nat := x.2.2.2.1
def kV (x : eKS) : Nat → Int64 := x.2.2.2.2.1
def kTo (x : eKS) : Nat → Nat → Nat := x.2.2.2.2.2.1
def kKn (x : eKS) : Nat → Nat → Nat := x.2.2.2.2.2.2.1
def kF (x : eKS) : Int32 := x.2.2.2.2.2.2.2.1
def kkd (x : eKS) : Nat := x.2.2.2.2.2.2.2.2
def uM (x : eKS) (v : Nat → Nat) : eKS := (v, x.2.1, x.2.2.1, x.2.2.2.1, x.2.2.2.2.1, x.2.2.2.2.2.1, x.2.2.2.2.2.2.1, x.2.2.2.2.2.2.2.1, x.2.2.2.2.2.2.2.2)
def uR (x : eKS) (v : Nat → Nat → Nat) : eKS := (x.1, v, x.2.2.1, x.2.2.2.1, x.2.2.2.2.1, x.2.2.2.2.2.1, x.2.2.2.2.2.2.1, x.2.2.2.2.2.2.2.1, x.2.2.2.2.2.2.2.2)
def uS (x : eKS) (v : Nat → Nat → Bool) : eKS := (x.1, x.2.1, v, x.2.2.2.1, x.2.2.2.2.1, x.2.2.2.2.2.1, x.2.2.2.2.2.2.1, x.2.2.2.2.2.2.2.1, x.2.2.2.2.2.2.2.2)
def uSt (x : eKS) (v : Nat → Nat) : eKS := (x.1, x.2.1, x.2.2.1, v, x.2.2.2.2.1, x.2.2.2.2.2.1, x.2.2.2.2.2.2.1, x.2.2.2.2.2.2.2.1, x.2.2.2.2.2.2.2.2)
def uV (x : eKS) (v : Nat → Int64) : eKS := (x.1, x.2.1, x.2.2.1, x.2.2.2.1, v, x.2.2.2.2.2.1, x.2.2.2.2.2.2.1, x.2.2.2.2.2.2.2.1, x.2.2.2.2.2.2.2.2)
def uTo (x : eKS) (v : Nat → Nat → Nat) : eKS := (x.1, x.2.1, x.2.2.1, x.2.2.2.1, x.2.2.2.2.1, v, x.2.2.2.2.2.2.1, x.2.2.2.2.2.2.2.1, x.2.2.2.2.2.2.2.2)
def uKn (x : eKS) (v : Nat → Nat → Nat) : eKS := (x.1, x.2.1, x.2.2.1, x.2.2.2.1, x.2.2.2.2.1, x.2.2.2.2.2.1, v, x.2.2.2.2.2.2.2.1, x.2.2.2.2.2.2.2.2)
def uF (x : eKS) (v : Int32) : eKS := (x.1, x.2.1, x.2.2.1, x.2.2.2.1, x.2.2.2.2.1, x.2.2.2.2.2.1, x.2.2.2.2.2.2.1, v, x.2.2.2.2.2.2.2.2)
def ukd (x : eKS) (v : Nat) : eKS := (x.1, x.2.1, x.2.2.1, x.2.2.2.1, x.2.2.2.2.1, x.2.2.2.2.2.1, x.2.2.2.2.2.2.1, x.2.2.2.2.2.2.2.1, v)
/-- the sets of a key: 0 seen, 1 dropped, 2 replaced, 3 merged, 4 + s the siblings at s -/
def dF (k f : Nat) : Nat := if f < 4 then cJ k + 5 + 2 * f else cD k (f - 4)
theorem isD_F : ∀ k, k < 4 → ∀ f, f < 8 → isD (dF k f) := by unfold isD; decide
theorem dF_inj : ∀ k, k < 4 → ∀ f, f < 8 → ∀ l, l < 4 → ∀ g, g < 8 → dF k f + 1 = dF l g + 1 → k = l ∧ f = g := by
  intro k hk f hf l hl g hg h
  unfold dF cJ cD at h
  split at h <;> split at h <;> omega
theorem dF_V : ∀ k, k < 4 → ∀ f, f < 8 → ∀ l, l < 4 → cJ l + 1 ≠ dF k f + 1 := by decide
theorem dF_hi : ∀ k, k < 4 → ∀ f, f < 8 → 13 + 27 * k ≤ dF k f + 1 ∧ dF k f + 1 < 40 + 27 * k := by decide
def ClK (k : Nat) (I : Nat → Nat → Int32) (J : Nat → Nat → Int64) (x : eKS) : Prop :=
  (∀ s, s < 4 → I (cR k s) 0 = nI s) ∧ (∀ s, s < 4 → rwN (I (cR k s) 3) (kR x s)) ∧ rwN (I (cJ k) 9) (kM x) ∧ I (cJ k) 10 = kF x ∧ I (cJ k) 8 = nI (kkd x) ∧ (∀ f, f < 8 → dSet J (dF k f) (kS x f)) ∧ (∀ j, j < 160 → cov (kM x) j = true → I (cJ k + 2) j = nI (kSt x j) ∧ kSt x j < 2 ^ 31 ∧ J (cJ k + 1) j = kV x j ∧ rwN (I (cJ k + 3) j) (kTo x j) ∧ rwN (I (cJ k + 4) j) (kKn x j))
/-- it rests on the cells of the key alone -/
theorem ClK_fr {k : Nat} {I I2 : Nat → Nat → Int32} {J J2 : Nat → Nat → Int64} {x : eKS} (hk : k < 4) (h : ClK k I J x) (hI : ∀ c, 13 + 27 * k ≤ c → c < 40 + 27 * k → ∀ z, I2 c z = I c z) (hJ : ∀ c, 13 + 27 * k ≤ c → c < 40 + 27 * k → ∀ z, J2 c z = J c z) : ClK k I2 J2 x := by
  obtain ⟨h1, h2, h3, h4, h5, h6, h7⟩ := h
  have a : ∀ s, s < 4 → 13 + 27 * k ≤ cR k s ∧ cR k s < 40 + 27 * k := by intro s hs; unfold cR; omega
  have b0 : 13 + 27 * k ≤ cJ k ∧ cJ k < 40 + 27 * k := by unfold cJ; omega
  have b : ∀ u, u < 13 → 13 + 27 * k ≤ cJ k + u ∧ cJ k + u < 40 + 27 * k := by intro s hs; unfold cJ; omega
  refine ⟨fun s hs => ?_, fun s hs => ?_, ?_, ?_, ?_, fun f hf => ?_, fun j hj hc => ?_⟩
  · rw [hI _ (a s hs).1 (a s hs).2]; exact h1 s hs
  · rw [hI _ (a s hs).1 (a s hs).2]; exact h2 s hs
  · rw [hI _ b0.1 b0.2]; exact h3
  · rw [hI _ b0.1 b0.2]; exact h4
  · rw [hI _ b0.1 b0.2]; exact h5
  · have := dF_hi k hk f hf
    exact dSet_fr (h6 f hf) (fun t => hJ _ this.1 this.2 t)
  · rw [hI _ (b 2 (by decide)).1 (b 2 (by decide)).2, hJ _ (b 1 (by decide)).1 (b 1 (by decide)).2, hI _ (b 3 (by decide)).1 (b 3 (by decide)).2, hI _ (b 4 (by decide)).1 (b 4 (by decide)).2]
    exact h7 j hj hc
/-- other sets, all else the same -/
theorem ClK_S {k : Nat} {I : Nat → Nat → Int32} {J J2 : Nat → Nat → Int64} {x : eKS} {S : Nat → Nat → Bool} (hk : k < 4) (h : ClK k I J x) (hJ : ∀ z, J2 (cJ k + 1) z = J (cJ k + 1) z) (hS : ∀ f, f < 8 → dSet J2 (dF k f) (S f)) : ClK k I J2 (uS x S) := by
  obtain ⟨h1, h2, h3, h4, h5, h6, h7⟩ := h
  refine ⟨h1, h2, h3, h4, h5, hS, fun j hj hc => ?_⟩
  rw [hJ]; exact h7 j hj hc
section KEYS
variable {B : Nat} {I : Nat → Nat → Int32} {J J2 : Nat → Nat → Int64} {d e t n i j k s f : Nat} {x : eKS}
theorem R_gi0 (hk : k < 4) (hs : s < 4) : h_gi (HP B I J) 8 (B + cR k s) 0 = some (I (cR k s) 0) := m_gi (sh_R k hk s hs) (by decide) (by decide)
theorem R_gi3 (hk : k < 4) (hs : s < 4) : h_gi (HP B I J) 8 (B + cR k s) 3 = some (I (cR k s) 3) := m_gi (sh_R k hk s hs) (by decide) (by decide)
theorem R_gr1 (hk : k < 4) (hs : s < 4) : h_gr (HP B I J) 8 (B + cR k s) 1 = some (B + cJ k) := by rw [m_gr (sh_R k hk s hs) (by decide) (by decide), (rf_R k hk s hs).1]
theorem dF_s (k s : Nat) : dF k (4 + s) = cD k s := by unfold dF; rw [if_neg (by omega), Nat.add_sub_cancel_left]
theorem R_gr2 (hk : k < 4) (hs : s < 4) : h_gr (HP B I J) 8 (B + cR k s) 2 = some (B + dF k (4 + s)) := by rw [m_gr (sh_R k hk s hs) (by decide) (by decide), (rf_R k hk s hs).2, dF_s]
theorem R_is (hk : k < 4) (hs : s < 4) : h_is (HP B I J) 8 (B + cR k s) = some () := m_is (sh_R k hk s hs)
theorem J_gr (hk : k < 4) (hf : f < 4) : h_gr (HP B I J) 3 (B + cJ k) (4 + f) = some (B + dF k f) := by
  rw [m_gr (sh_J k hk) (by omega) ((by decide : ∀ f, f < 4 → m_fk 3 (4 + f) = 2) f hf)]
  congr 2
  exact (by decide : ∀ k, k < 4 → ∀ f, f < 4 → m_rf (cJ k) (4 + f) = dF k f) k hk f hf
theorem J_gr4 (hk : k < 4) : h_gr (HP B I J) 3 (B + cJ k) 4 = some (B + dF k 0) := J_gr (f := 0) hk (by decide)
theorem J_gr5 (hk : k < 4) : h_gr (HP B I J) 3 (B + cJ k) 5 = some (B + dF k 1) := J_gr (f := 1) hk (by decide)
theorem J_gr6 (hk : k < 4) : h_gr (HP B I J) 3 (B + cJ k) 6 = some (B + dF k 2) := J_gr (f := 2) hk (by decide)
theorem J_gr7 (hk : k < 4) : h_gr (HP B I J) 3 (B + cJ k) 7 = some (B + dF k 3) := J_gr (f := 3) hk (by decide)
theorem F_is (hk : k < 4) (hf : f < 8) : h_is (HP B I J) 1 (B + dF k f) = some () := d_is (isD_F k hk f hf)
theorem s_nextNumber (hk : k < 4) (hs : s < 4) (h : ClK k I J x) : F_X8_nextNumber (B + cR k s) (HP B I J) = some (nI (kR x s s + 1), HP B I J) := by
  unfold F_X8_nextNumber
  simp only [R_gi0 hk hs, R_gi3 hk hs, Option.bind_some, h.1 s hs, s_number, e_bind_some, ((h.2.1 s hs) s hs).1, nI_1]
theorem bst_cong {p q : Nat → Bool} {u v : Nat → Nat} {lo : Nat} : ∀ {n : Nat}, (∀ j, j < n → p j = q j) → (∀ j, j < n → q j = true → u j = v j) → bst p u lo n = bst q v lo n
  | 0, _, _ => rfl
  | n + 1, h, h2 => by
    have ih := bst_cong (lo := lo) (n := n) (fun j hj => h j (by omega)) (fun j hj => h2 j (by omega))
    unfold bst
    rw [h n (by omega), ih]
    by_cases e : q n = true
    · rw [h2 n (by omega) e]
      cases e2 : bst q v lo n with
      | none => rfl
      | some b =>
        obtain ⟨a1, a2, a3⟩ := bst_in e2
        simp only [h2 b (by omega) a2]
    · simp [e]
theorem t_nextByStamp {N : Nat} (hN : 200 < N) (hk : k < 4) (hf : f < 8) (h : ClK k I J x) (hc : ∀ j, j < 160 → kS x f j = true → cov (kM x) j = true) {lo : Nat} (hlo : lo < 2 ^ 31) : F_X3_nextByStamp N (B + cJ k) (B + dF k f) (nI lo) (HP B I J) = some (enc (bst (kS x f) (kSt x) lo 160), HP B I J) := by
  obtain ⟨h1, h2, h3, h4, h5, h6, h7⟩ := h
  rw [s_nextByStamp hN hk (isD_F k hk f hf) h3 (s := kSt x) (fun j hj hp => ?_) hlo]
  · rw [bst_cong (fun j hj => pd_of (h6 f hf) hj) (fun _ _ _ => rfl)]
  · rw [pd_of (h6 f hf) hj] at hp
    have := hc j hj hp
    obtain ⟨a1, a2, _⟩ := h7 j hj this
    exact ⟨of_decide_eq_true this, a1, a2⟩
def dr1 (St : Nat → Nat) (s : Nat) (S : Nat → Nat → Bool) : Nat → Nat → Bool :=
  match bst (S (4 + s)) St 0 160 with
  | none => S
  | some b => fun f j => if f = 4 + s then S f j && !decide (j = b) else if f = 1 then S f j || decide (j = b) else S f j
def drn (St : Nat → Nat) (s : Nat) (S : Nat → Nat → Bool) : Nat → Nat → Nat → Bool
  | 0 => S
  | e + 1 => dr1 St s (drn St s S e)
theorem dr1_sub {St : Nat → Nat} {S : Nat → Nat → Bool} (h : dr1 St s S (4 + s) j = true) : S (4 + s) j = true := by
  unfold dr1 at h
  cases e : bst (S (4 + s)) St 0 160 with
  | none => rw [e] at h; exact h
  | some b => rw [e] at h; simp at h; exact h.1
theorem drn_sub {St : Nat → Nat} {S : Nat → Nat → Bool} : ∀ e, drn St s S e (4 + s) j = true → S (4 + s) j = true
  | 0, h => h
  | e + 1, h => drn_sub e (dr1_sub h)
theorem isDot_m1 (h : eH) : F_X1_isDot (-1) h = some (0, h) := by unfold F_X1_isDot; simp only [h_z0]; rfl
theorem s_remove_m1 (a : Nat) (h : eH) : F_X1_remove a (-1) h = some ((), h) := by unfold F_X1_remove; simp only [isDot_m1, e_bind_some, if_true]
theorem s_add_m1 (a : Nat) (h : eH) : F_X1_add a (-1) h = some ((), h) := by unfold F_X1_add; simp only [isDot_m1, e_bind_some, if_true]
theorem dF_ne (hk : k < 4) (hf : f < 8) {g : Nat} (hg : g < 8) (h : f ≠ g) : dF k f + 1 ≠ dF k g + 1 := fun e => h (dF_inj k hk f hf k hk g hg e).2
theorem s_drop1 {N : Nat} (hN : 200 < N) (hk : k < 4) (hs : s < 4) (h : ClK k I J x) (hc : ∀ j, j < 160 → kS x (4 + s) j = true → cov (kM x) j = true) (e : Nat) (he : e + 1 < 2 ^ 31) : ∃ J2, ClK k I J2 (uS x (dr1 (kSt x) s (kS x))) ∧ (∀ c, c ≠ dF k 1 + 1 → c ≠ dF k (4 + s) + 1 → ∀ z, J2 c z = J c z) ∧ ∀ K, F_X8_dropBeyond_10b N K (B + cR k s) (nI (e + 1)) (HP B I J) = K (B + cR k s) (nI e) (HP B I J2) := by
  have hz : F_X3_nextByStamp N (B + cJ k) (B + dF k (4 + s)) 0 (HP B I J) = _ := t_nextByStamp hN hk (show 4 + s < 8 by omega) h hc (lo := 0) (by decide)
  have f1 := isD_F k hk 1 (by decide)
  have f4 := isD_F k hk (4 + s) (by omega)
  have hne := dF_ne hk (show 1 < 8 by decide) (show 4 + s < 8 by omega) (by omega)
  cases hb : bst (kS x (4 + s)) (kSt x) 0 160 with
  | none =>
    refine ⟨J, ?_, fun _ _ _ _ => rfl, fun K => ?_⟩
    · have : dr1 (kSt x) s (kS x) = kS x := by unfold dr1; rw [hb]
      rw [this]; exact h
    · unfold F_X8_dropBeyond_10b
      rw [hb] at hz
      simp only [enc] at hz
      simp only [if_neg (nI_nle (show 0 < e + 1 by omega) he), R_gr1 hk hs, R_gr2 hk hs, J_is hk, Option.bind_some, hz, e_bind_some, F_is hk (show 4 + s < 8 by omega), s_remove_m1, J_gr5 hk, F_is hk (show 1 < 8 by decide), s_add_m1, pk_m1]
  | some b =>
    obtain ⟨b1, b2, b3⟩ := bst_in hb
    let J1 := w2 J (dF k (4 + s) + 1) (b / 40) (J (dF k (4 + s) + 1) (b / 40) &&& (cb (b % 40 + 1) ^^^ (-1)))
    refine ⟨w2 J1 (dF k 1 + 1) (b / 40) (J1 (dF k 1 + 1) (b / 40) ||| cb (b % 40 + 1)), ?_, ?_, fun K => ?_⟩
    · refine ClK_S hk h (fun z => ?_) (fun f hf => ?_)
      · exact (w2_c _ _ (dF_V k hk 1 (by decide) k hk)).trans (w2_c _ _ (dF_V k hk (4 + s) (by omega) k hk))
      · have hx : dr1 (kSt x) s (kS x) = fun f j => if f = 4 + s then kS x f j && !decide (j = b) else if f = 1 then kS x f j || decide (j = b) else kS x f j := by unfold dr1; rw [hb]
        have hf0 := h.2.2.2.2.2.1 f hf
        rw [hx]
        by_cases e4 : f = 4 + s
        · subst e4
          simp only [if_true]
          exact dSet_fr (dSet_remove hf0 b1) (fun t => w2_c _ _ (dF_ne hk hf (by decide) (by omega)))
        · simp only [if_neg e4]
          by_cases e1 : f = 1
          · subst e1
            simp only [if_true]
            exact dSet_add (dSet_fr hf0 (fun t => w2_c _ _ hne)) b1
          · simp only [if_neg e1]
            exact dSet_fr hf0 (fun t => (w2_c _ _ (dF_ne hk hf (by decide) e1)).trans (w2_c _ _ (dF_ne hk hf (by omega) e4)))
    · intro c hc1 hc2 z
      exact (w2_c _ _ hc1).trans (w2_c _ _ hc2)
    · unfold F_X8_dropBeyond_10b
      rw [hb] at hz
      simp only [enc] at hz
      simp only [if_neg (nI_nle (show 0 < e + 1 by omega) he), R_gr1 hk hs, R_gr2 hk hs, J_is hk, Option.bind_some, hz, e_bind_some, F_is hk (show 4 + s < 8 by omega), s_removeJ f4 b1, J_gr5 hk, F_is hk (show 1 < 8 by decide), s_addJ f1 b1, pk_m1]
      rfl
theorem t_dropBeyond {N : Nat} (hN : 200 < N) (hk : k < 4) (hs : s < 4) (h : ClK k I J x) (hc : ∀ j, j < 160 → kS x (4 + s) j = true → cov (kM x) j = true) {b : Nat} (hb : b < 2 ^ 30) : ∃ J2, ClK k I J2 (uS x (drn (kSt x) s (kS x) (ct (kS x (4 + s)) 160 - b))) ∧ (∀ c, c ≠ dF k 1 + 1 → c ≠ dF k (4 + s) + 1 → ∀ z, J2 c z = J c z) ∧ F_X8_dropBeyond N (B + cR k s) (nI b) (HP B I J) = some ((), HP B I J2) := by
  have hle := ct_le (kS x (4 + s)) 160
  obtain ⟨E, hE⟩ : ∃ E, E = ct (kS x (4 + s)) 160 - b := ⟨_, rfl⟩
  have hlp : ∃ J2, ClK k I J2 (uS x (drn (kSt x) s (kS x) E)) ∧ (∀ c, c ≠ dF k 1 + 1 → c ≠ dF k (4 + s) + 1 → ∀ z, J2 c z = J c z) ∧ L_X8_dropBeyond_10 N (B + cR k s) (nI (ct (kS x (4 + s)) 160) - nI b) (HP B I J) = some ((), HP B I J2) := by
    rcases Nat.lt_or_ge (ct (kS x (4 + s)) 160) b with hl | hl
    · refine ⟨J, ?_, fun _ _ _ _ => rfl, ?_⟩
      · rw [show E = 0 by omega]; exact h
      · unfold L_X8_dropBeyond_10
        rw [e_loop_S (by omega)]
        show F_X8_dropBeyond_10b N _ (B + cR k s) (nI (ct (kS x (4 + s)) 160) - nI b) (HP B I J) = _
        unfold F_X8_dropBeyond_10b
        rw [if_pos (Int32.le_of_lt (pk_sneg (by omega) hl))]
    · rw [pk_sub hl, ← hE]
      unfold L_X8_dropBeyond_10
      obtain ⟨s', ⟨J2, hs', q1, q2⟩, q3⟩ := e_loop_0 (body := fun (k : Nat × Int32 × eH → Option (Unit × eH)) s => F_X8_dropBeyond_10b N (fun l0 l2 h => k (l0, l2, h)) s.1 s.2.1 s.2.2) (fun i st => ∃ J2, st = (B + cR k s, nI (E - i), HP B I J2) ∧ ClK k I J2 (uS x (drn (kSt x) s (kS x) i)) ∧ (∀ c, c ≠ dF k 1 + 1 → c ≠ dF k (4 + s) + 1 → ∀ z, J2 c z = J c z)) E (N := N) ⟨J, rfl, h, fun _ _ _ _ => rfl⟩ (fun i st hi hst => by
        obtain ⟨J2, hst, c1, c2⟩ := hst
        subst hst
        obtain ⟨J3, d1, d2, d3⟩ := s_drop1 (B := B) hN hk hs c1 (fun j hj hp => hc j hj (drn_sub i hp)) (E - (i + 1)) (by omega)
        refine ⟨(B + cR k s, nI (E - (i + 1)), HP B I J3), ⟨J3, rfl, d1, fun c e1 e2 z => (d2 c e1 e2 z).trans (c2 c e1 e2 z)⟩, fun K => ?_⟩
        show F_X8_dropBeyond_10b N _ (B + cR k s) (nI (E - i)) (HP B I J2) = _
        rw [show E - i = E - (i + 1) + 1 by omega, d3]) (by omega)
      refine ⟨J2, q1, q2, ?_⟩
      refine Eq.trans q3 ?_
      rw [hs', Nat.sub_self]
      show F_X8_dropBeyond_10b N _ (B + cR k s) (nI 0) (HP B I J2) = _
      unfold F_X8_dropBeyond_10b
      rw [if_pos (by decide)]
  obtain ⟨J2, a1, a2, a3⟩ := hlp
  refine ⟨J2, by rw [← hE]; exact a1, a2, ?_⟩
  unfold F_X8_dropBeyond
  simp only [R_gr2 hk hs, F_is hk (show 4 + s < 8 by omega), Option.bind_some, t_size (show 5 < N by omega) (isD_F k hk (4 + s) (by omega)) (h.2.2.2.2.2.1 (4 + s) (by omega)), e_bind_some, e_let]
  exact a3
end KEYS
