/-! REFERENCE: its memory -/
theorem lg_lt0 (x y : Int64) : lg_cmp x y < 0 ↔ x < y := by
  unfold lg_cmp
  by_cases h1 : y < x
  · rw [if_pos h1]
    exact ⟨fun h => absurd h (by decide), fun h => absurd (Int64.lt_trans h h1) Int64.lt_irrefl⟩
  · rw [if_neg h1]
    by_cases h2 : x = y
    · rw [if_pos h2]
      exact ⟨fun h => absurd h (by decide), fun h => absurd (h2 ▸ h) Int64.lt_irrefl⟩
    · rw [if_neg h2]
      exact ⟨fun _ => Int64.lt_of_le_of_ne (Int64.not_lt.mp h1) h2, fun _ => by decide⟩
theorem lg_gt0 (x y : Int64) : 0 < lg_cmp x y ↔ y < x := by
  unfold lg_cmp
  by_cases h1 : y < x
  · rw [if_pos h1]
    exact ⟨fun _ => h1, fun _ => by decide⟩
  · rw [if_neg h1]
    by_cases h2 : x = y
    · rw [if_pos h2]
      exact ⟨fun h => absurd h (by decide), fun h => absurd h h1⟩
    · rw [if_neg h2]
      exact ⟨fun h => absurd h (by decide), fun h => absurd h h1⟩
theorem lg_le0 (x y : Int64) : lg_cmp x y ≤ 0 ↔ x ≤ y := by
  rw [← Int32.not_lt, lg_gt0, Int64.not_lt]
theorem lg_ge0 (x y : Int64) : 0 ≤ lg_cmp x y ↔ y ≤ x := by
  rw [← Int32.not_lt, lg_lt0, Int64.not_lt]
theorem w_lt (a b : Int32) : a.toInt64 < b.toInt64 ↔ a < b := by
  rw [Int64.lt_iff_toInt_lt, Int32.lt_iff_toInt_lt, Int32.toInt_toInt64, Int32.toInt_toInt64]
theorem in_w (a b c : Int32) (h : eH) : F_X12_in a.toInt64 b.toInt64 c.toInt64 h = some (b2 (!decide (a < b) && !decide (c < a)), h) := by
  unfold F_X12_in
  simp only [lg_lt0, lg_gt0, w_lt, h_z0, h_z1, Option.bind_some]
  by_cases h1 : a < b
  · simp [h1, b2]
  · by_cases h2 : c < a
    · simp [h1, h2, b2]
    · simp [h1, h2, b2]
theorem in_ok {v : Int32} {n m : Nat} {x y z : Int64} (hx : x = v.toInt64) (hy : y = (nI m).toInt64) (hz : z = (nI n).toInt64) (h : eH) {i : Nat} (hv : v = nI i) (h1 : m ≤ i) (h2 : i ≤ n) (h3 : n < 2 ^ 31) : F_X12_in x y z h = some (1, h) := by
  rw [hx, hy, hz, in_w, hv, decide_eq_false (nI_nlt h1 (by omega)), decide_eq_false (nI_nlt h2 h3)]
  rfl
theorem in_no {v : Int32} {n : Nat} {x z : Int64} (hx : x = v.toInt64) (hz : z = (nI n - 1).toInt64) (h : eH) (hv : nix v n) (h3 : n < 2 ^ 31) : F_X12_in x 0 z h = some (0, h) := by
  have h0 : (0 : Int64) = (0 : Int32).toInt64 := by decide +kernel
  rw [hx, hz, h0, in_w]
  by_cases e : v < 0
  · rw [decide_eq_true e]; rfl
  · obtain ⟨j, hj, rfl⟩ := nI_of e
    have hle : n ≤ j := by
      have := hv.resolve_left e
      exact (nI_leI h3 hj).mp this
    have : nI n - 1 < nI j := by
      cases n with
      | zero => exact Int32.lt_of_lt_of_le (show nI 0 - 1 < 0 by decide) (nI_pos' hj)
      | succ n => rw [nI_pred]; exact nI_lt (by omega) hj
    rw [decide_eq_true this, Bool.not_true, Bool.and_false]
    rfl
theorem n_4 (a : Nat) : (4 : Int32) * nI a = nI (4 * a) := pk_mul 4 a
theorem n_16 (a : Nat) : (16 : Int32) * nI a = nI (16 * a) := pk_mul 16 a
theorem n_41 (a : Nat) : (41 : Int32) * nI a = nI (41 * a) := pk_mul 41 a
theorem n_164 (a : Nat) : (164 : Int32) * nI a = nI (164 * a) := pk_mul 164 a
theorem n_p164 (a : Nat) : nI a + 164 = nI (a + 164) := nI_add a 164
theorem nar_0 : vp_nar .boolean 0 = 0 := by decide +kernel
theorem nar_1 : vp_nar .boolean 1 = 1 := by decide +kernel
theorem nar_b (b : Bool) : vp_nar .boolean (b2 b) = b2 b := by cases b <;> decide +kernel
theorem b2_0 (b : Bool) : (b2 b = 0) = (b = false) := by cases b <;> simp [b2]
theorem b2_1 (b : Bool) : (b2 b = 1) = (b = true) := by cases b <;> simp [b2]
theorem b2_t : b2 true = 1 := rfl
theorem b2_f : b2 false = 0 := rfl
theorem hz_b (b : Bool) : h_z (b2 b) = some (b2 b) := by cases b <;> rfl
theorem b2_inj {a b : Bool} : (b2 a = b2 b) = (a = b) := by cases a <;> cases b <;> simp [b2]
/-! the bit sets of sites -/
def hb4 (a b c d : Bool) : Int32 := (((0 ||| (b2 a <<< (nI 0 &&& 31))) ||| (b2 b <<< (nI 1 &&& 31))) ||| (b2 c <<< (nI 2 &&& 31))) ||| (b2 d <<< (nI 3 &&& 31))
theorem hb_4 (p : Nat → Bool) : hb p 4 = hb4 (p 0) (p 1) (p 2) (p 3) := rfl
theorem hb_cong {p q : Nat → Bool} (h : ∀ s, s < 4 → p s = q s) : hb p 4 = hb q 4 := by
  rw [hb_4, hb_4, h 0 (by decide), h 1 (by decide), h 2 (by decide), h 3 (by decide)]
theorem hb_none : hb (fun _ => false) 4 = 0 := by decide +kernel
theorem s4_c {s : Nat} (h : s < 4) : s = 0 ∨ s = 1 ∨ s = 2 ∨ s = 3 := by omega
theorem hb_has (p : Nat → Bool) {s : Nat} (hs : s < 4) (h : eH) : F_X12_has (hb p 4) (nI s) h = some (b2 (p s), h) := by
  have key : ∀ a b c d : Bool, ((((hb4 a b c d >>> (nI 0 &&& 31)) &&& 1) = 1) ↔ a = true) ∧ ((((hb4 a b c d >>> (nI 1 &&& 31)) &&& 1) = 1) ↔ b = true) ∧ ((((hb4 a b c d >>> (nI 2 &&& 31)) &&& 1) = 1) ↔ c = true) ∧ ((((hb4 a b c d >>> (nI 3 &&& 31)) &&& 1) = 1) ↔ d = true) := by decide +kernel
  obtain ⟨k0, k1, k2, k3⟩ := key (p 0) (p 1) (p 2) (p 3)
  unfold F_X12_has
  rw [hb_4]
  rcases s4_c hs with rfl | rfl | rfl | rfl
  · simp only [k0, h_z0, h_z1, Option.bind_some]; cases p 0 <;> rfl
  · simp only [k1, h_z0, h_z1, Option.bind_some]; cases p 1 <;> rfl
  · simp only [k2, h_z0, h_z1, Option.bind_some]; cases p 2 <;> rfl
  · simp only [k3, h_z0, h_z1, Option.bind_some]; cases p 3 <;> rfl
theorem hb_add (p : Nat → Bool) {s : Nat} (hs : s < 4) : hb p 4 ||| (1 <<< (nI s &&& 31)) = hb (fun u => p u || decide (u = s)) 4 := by
  have key : ∀ a b c d : Bool, hb4 a b c d ||| (1 <<< (nI 0 &&& 31)) = hb4 true b c d ∧ hb4 a b c d ||| (1 <<< (nI 1 &&& 31)) = hb4 a true c d ∧ hb4 a b c d ||| (1 <<< (nI 2 &&& 31)) = hb4 a b true d ∧ hb4 a b c d ||| (1 <<< (nI 3 &&& 31)) = hb4 a b c true := by decide +kernel
  obtain ⟨k0, k1, k2, k3⟩ := key (p 0) (p 1) (p 2) (p 3)
  rw [hb_4, hb_4]
  rcases s4_c hs with rfl | rfl | rfl | rfl
  · rw [k0]; simp
  · rw [k1]; simp
  · rw [k2]; simp
  · rw [k3]; simp
theorem hb_rem (p : Nat → Bool) {s : Nat} (hs : s < 4) : hb p 4 &&& ((1 <<< (nI s &&& 31)) ^^^ (-1)) = hb (fun u => p u && !decide (u = s)) 4 := by
  have key : ∀ a b c d : Bool, hb4 a b c d &&& ((1 <<< (nI 0 &&& 31)) ^^^ (-1)) = hb4 false b c d ∧ hb4 a b c d &&& ((1 <<< (nI 1 &&& 31)) ^^^ (-1)) = hb4 a false c d ∧ hb4 a b c d &&& ((1 <<< (nI 2 &&& 31)) ^^^ (-1)) = hb4 a b false d ∧ hb4 a b c d &&& ((1 <<< (nI 3 &&& 31)) ^^^ (-1)) = hb4 a b c false := by decide +kernel
  obtain ⟨k0, k1, k2, k3⟩ := key (p 0) (p 1) (p 2) (p 3)
  rw [hb_4, hb_4]
  rcases s4_c hs with rfl | rfl | rfl | rfl
  · rw [k0]; simp
  · rw [k1]; simp
  · rw [k2]; simp
  · rw [k3]; simp
theorem hb_one {s : Nat} (hs : s < 4) : (1 : Int32) <<< (nI s &&& 31) = hb (fun u => decide (u = s)) 4 := by
  have := hb_add (fun _ => false) hs
  rw [hb_none, Int32.zero_or] at this
  rw [this]
  exact hb_cong (fun s _ => Bool.false_or _)
theorem hb_eq0 (p : Nat → Bool) : (hb p 4 = 0) ↔ (∀ s, s < 4 → p s = false) := by
  have key : ∀ a b c d : Bool, hb4 a b c d = 0 ↔ (a = false ∧ b = false ∧ c = false ∧ d = false) := by decide +kernel
  rw [hb_4, key]
  constructor
  · intro h s hs
    rcases s4_c hs with rfl | rfl | rfl | rfl
    · exact h.1
    · exact h.2.1
    · exact h.2.2.1
    · exact h.2.2.2
  · intro h
    exact ⟨h 0 (by decide), h 1 (by decide), h 2 (by decide), h 3 (by decide)⟩
/-! places: a place of the reference is a site and a number from 0 on; number 0 is never a write -/
def plj (p : Nat) : Nat := 40 * (p / 41) + (p % 41 - 1)
def plp (j : Nat) : Nat := 41 * (j / 40) + (j % 40 + 1)
def plc (q : Nat → Bool) (p : Nat) : Bool := decide (p % 41 ≠ 0) && q (plj p)
theorem plj_0 {m : Nat} (h : m % 41 = 0) : plj (m + 1) = plj m := by unfold plj; omega
theorem plj_1 {m : Nat} (h : m % 41 ≠ 0) : plj (m + 1) = plj m + 1 := by unfold plj; omega
theorem plj_lt {m : Nat} (h : m < 164) : plj m < 160 := by unfold plj; omega
theorem plj_164 : plj 164 = 160 := by decide
theorem plj_p {j : Nat} : plj (plp j) = j := by unfold plj plp; omega
theorem plp_j {p : Nat} (h : p % 41 ≠ 0) : plp (plj p) = p := by unfold plj plp; omega
theorem plp_lt {j : Nat} (h : j < 160) : plp j < 164 := by unfold plp; omega
theorem plp_m (j : Nat) : plp j % 41 ≠ 0 := by unfold plp; omega
theorem plp_i {i j : Nat} : plp i = plp j ↔ i = j := ⟨fun h => by rw [← plj_p (j := i), h, plj_p], fun h => by rw [h]⟩
theorem plc_0 (q : Nat → Bool) {p : Nat} (h : p % 41 = 0) : plc q p = false := by unfold plc; simp [h]
theorem plc_1 (q : Nat → Bool) {p : Nat} (h : p % 41 ≠ 0) : plc q p = q (plj p) := by unfold plc; simp [h]
theorem plc_p (q : Nat → Bool) (j : Nat) : plc q (plp j) = q j := by rw [plc_1 q (plp_m j), plj_p]
theorem plc_cong {p q : Nat → Bool} (h : ∀ j, j < 160 → p j = q j) {m : Nat} (hm : m < 164) : plc p m = plc q m := by
  unfold plc; rw [h _ (plj_lt hm)]
theorem ct_pl (q : Nat → Bool) : ∀ m, ct (plc q) m = ct q (plj m)
  | 0 => rfl
  | m + 1 => by
    show ct (plc q) m + _ = _
    rw [ct_pl q m]
    by_cases h : m % 41 = 0
    · rw [plj_0 h, plc_0 q h]; rfl
    · rw [plj_1 h, plc_1 q h]; rfl
theorem ct_164 (q : Nat → Bool) : ct (plc q) 164 = ct q 160 := ct_pl q 164
theorem bst_pl (q : Nat → Bool) (St : Nat → Nat) (lo : Nat) {S : Nat → Nat} (hS : ∀ m, m % 41 ≠ 0 → S m = St (plj m)) : ∀ m, bst (plc q) S lo m = (bst q St lo (plj m)).map plp
  | 0 => rfl
  | m + 1 => by
    have ih := bst_pl q St lo hS m
    by_cases h : m % 41 = 0
    · rw [plj_0 h, ← ih]
      show (if plc q m = true ∧ lo < S m then _ else _) = _
      rw [plc_0 q h, if_neg (by simp)]
    · rw [plj_1 h]
      show (if plc q m = true ∧ lo < S m then _ else _) = Option.map plp (if q (plj m) = true ∧ lo < St (plj m) then _ else _)
      rw [plc_1 q h, hS m h, ih]
      by_cases h2 : q (plj m) = true ∧ lo < St (plj m)
      · rw [if_pos h2, if_pos h2]
        cases h3 : bst q St lo (plj m) with
        | none => simp [plp_j h]
        | some b =>
          have hb : S (plp b) = St b := by rw [hS _ (plp_m b), plj_p]
          simp only [Option.map_some, hb]
          by_cases h4 : St (plj m) < St b
          · simp [h4, plp_j h]
          · simp [h4]
      · rw [if_neg h2, if_neg h2]
theorem ex_pl {α : Type} {gP g : Nat → Bool} {rP r : Nat → α} {e : α} (h0 : ∀ m, m < 164 → m % 41 = 0 → gP m = true) (h1 : ∀ m, m < 164 → m % 41 ≠ 0 → gP m = g (plj m) ∧ rP m = r (plj m)) : ∀ d m, m + d = 164 → ex gP rP e d m = ex g r e (160 - plj m) (plj m)
  | 0, m, h => by
    have : m = 164 := by omega
    subst this
    rw [plj_164]; rfl
  | d + 1, m, h => by
    have ih := ex_pl (e := e) h0 h1 d (m + 1) (by omega)
    show (if gP m = true then ex gP rP e d (m + 1) else rP m) = _
    by_cases q : m % 41 = 0
    · rw [if_pos (h0 m (by omega) q), ih, plj_0 q]
    · obtain ⟨a, b⟩ := h1 m (by omega) q
      have hl := plj_lt (show m < 164 by omega)
      rw [a, b, ih, plj_1 q, show 160 - plj m = (160 - (plj m + 1)) + 1 by omega]
      rfl
section RMEM
variable {B : Nat} {I : Nat → Nat → Int32} {J : Nat → Nat → Int64} {c i k n : Nat} {v : Int32} {u : Int64}
theorem M_is : h_is (HP B I J) 11 (B + 125) = some () := m_is (c := 125) (n := 41) (by decide)
theorem M_gi0 : h_gi (HP B I J) 11 (B + 125) 0 = some (I 125 0) := m_gi (c := 125) (n := 41) (by decide) (by decide) (by decide)
theorem M_p0 : h_p (HP B I J) 11 (B + 125) 0 (.int v) = some (HP B (w2 I 125 0 v) J) := m_pi (c := 125) (n := 41) (by decide) (by decide) (by decide)
theorem M_gi1 : h_gi (HP B I J) 11 (B + 125) 1 = some (I 125 1) := m_gi (c := 125) (n := 41) (by decide) (by decide) (by decide)
theorem M_p1 : h_p (HP B I J) 11 (B + 125) 1 (.int v) = some (HP B (w2 I 125 1 v) J) := m_pi (c := 125) (n := 41) (by decide) (by decide) (by decide)
theorem M_gi2 : h_gi (HP B I J) 11 (B + 125) 2 = some (I 125 2) := m_gi (c := 125) (n := 41) (by decide) (by decide) (by decide)
theorem M_p2 : h_p (HP B I J) 11 (B + 125) 2 (.int v) = some (HP B (w2 I 125 2 v) J) := m_pi (c := 125) (n := 41) (by decide) (by decide) (by decide)
theorem M_gi3 : h_gi (HP B I J) 11 (B + 125) 3 = some (I 125 3) := m_gi (c := 125) (n := 41) (by decide) (by decide) (by decide)
theorem M_p3 : h_p (HP B I J) 11 (B + 125) 3 (.int v) = some (HP B (w2 I 125 3 v) J) := m_pi (c := 125) (n := 41) (by decide) (by decide) (by decide)
theorem M_gi5 : h_gi (HP B I J) 11 (B + 125) 5 = some (I 125 5) := m_gi (c := 125) (n := 41) (by decide) (by decide) (by decide)
theorem M_p5 : h_p (HP B I J) 11 (B + 125) 5 (.int v) = some (HP B (w2 I 125 5 v) J) := m_pi (c := 125) (n := 41) (by decide) (by decide) (by decide)
theorem M_gi21 : h_gi (HP B I J) 11 (B + 125) 21 = some (I 125 21) := m_gi (c := 125) (n := 41) (by decide) (by decide) (by decide)
theorem M_p21 : h_p (HP B I J) 11 (B + 125) 21 (.int v) = some (HP B (w2 I 125 21 v) J) := m_pi (c := 125) (n := 41) (by decide) (by decide) (by decide)
theorem M_gi24 : h_gi (HP B I J) 11 (B + 125) 24 = some (I 125 24) := m_gi (c := 125) (n := 41) (by decide) (by decide) (by decide)
theorem M_p24 : h_p (HP B I J) 11 (B + 125) 24 (.int v) = some (HP B (w2 I 125 24 v) J) := m_pi (c := 125) (n := 41) (by decide) (by decide) (by decide)
theorem M_gi26 : h_gi (HP B I J) 11 (B + 125) 26 = some (I 125 26) := m_gi (c := 125) (n := 41) (by decide) (by decide) (by decide)
theorem M_p26 : h_p (HP B I J) 11 (B + 125) 26 (.int v) = some (HP B (w2 I 125 26 v) J) := m_pi (c := 125) (n := 41) (by decide) (by decide) (by decide)
theorem M_gi27 : h_gi (HP B I J) 11 (B + 125) 27 = some (I 125 27) := m_gi (c := 125) (n := 41) (by decide) (by decide) (by decide)
theorem M_p27 : h_p (HP B I J) 11 (B + 125) 27 (.int v) = some (HP B (w2 I 125 27 v) J) := m_pi (c := 125) (n := 41) (by decide) (by decide) (by decide)
theorem M_gi28 : h_gi (HP B I J) 11 (B + 125) 28 = some (I 125 28) := m_gi (c := 125) (n := 41) (by decide) (by decide) (by decide)
theorem M_p28 : h_p (HP B I J) 11 (B + 125) 28 (.int v) = some (HP B (w2 I 125 28 v) J) := m_pi (c := 125) (n := 41) (by decide) (by decide) (by decide)
theorem M_gi30 : h_gi (HP B I J) 11 (B + 125) 30 = some (I 125 30) := m_gi (c := 125) (n := 41) (by decide) (by decide) (by decide)
theorem M_p30 : h_p (HP B I J) 11 (B + 125) 30 (.int v) = some (HP B (w2 I 125 30 v) J) := m_pi (c := 125) (n := 41) (by decide) (by decide) (by decide)
theorem M_gi31 : h_gi (HP B I J) 11 (B + 125) 31 = some (I 125 31) := m_gi (c := 125) (n := 41) (by decide) (by decide) (by decide)
theorem M_p31 : h_p (HP B I J) 11 (B + 125) 31 (.int v) = some (HP B (w2 I 125 31 v) J) := m_pi (c := 125) (n := 41) (by decide) (by decide) (by decide)
theorem M_gi32 : h_gi (HP B I J) 11 (B + 125) 32 = some (I 125 32) := m_gi (c := 125) (n := 41) (by decide) (by decide) (by decide)
theorem M_p32 : h_p (HP B I J) 11 (B + 125) 32 (.int v) = some (HP B (w2 I 125 32 v) J) := m_pi (c := 125) (n := 41) (by decide) (by decide) (by decide)
theorem M_gi33 : h_gi (HP B I J) 11 (B + 125) 33 = some (I 125 33) := m_gi (c := 125) (n := 41) (by decide) (by decide) (by decide)
theorem M_p33 : h_p (HP B I J) 11 (B + 125) 33 (.int v) = some (HP B (w2 I 125 33 v) J) := m_pi (c := 125) (n := 41) (by decide) (by decide) (by decide)
theorem M_gi35 : h_gi (HP B I J) 11 (B + 125) 35 = some (I 125 35) := m_gi (c := 125) (n := 41) (by decide) (by decide) (by decide)
theorem M_pz35 (hv : v = 0 ∨ v = 1) : h_pz (HP B I J) 11 (B + 125) 35 v = some (HP B (w2 I 125 35 v) J) := m_pz (c := 125) (n := 41) (by decide) (by decide) (by decide) hv
theorem M_gl29 : h_gl (HP B I J) 11 (B + 125) 29 = some (J 125 29) := m_gl (c := 125) (n := 41) (by decide) (by decide) (by decide)
theorem M_pl29 : h_p (HP B I J) 11 (B + 125) 29 (.long u) = some (HP B I (w2 J 125 29 u)) := m_pl (c := 125) (n := 41) (by decide) (by decide) (by decide)
theorem M_gr4 : h_gr (HP B I J) 11 (B + 125) 4 = some (B + 126) := m_gr (c := 125) (n := 41) (by decide) (by decide) (by decide)
theorem M_gr6 : h_gr (HP B I J) 11 (B + 125) 6 = some (B + 127) := m_gr (c := 125) (n := 41) (by decide) (by decide) (by decide)
theorem M_gr7 : h_gr (HP B I J) 11 (B + 125) 7 = some (B + 128) := m_gr (c := 125) (n := 41) (by decide) (by decide) (by decide)
theorem M_gr8 : h_gr (HP B I J) 11 (B + 125) 8 = some (B + 129) := m_gr (c := 125) (n := 41) (by decide) (by decide) (by decide)
theorem M_gr9 : h_gr (HP B I J) 11 (B + 125) 9 = some (B + 130) := m_gr (c := 125) (n := 41) (by decide) (by decide) (by decide)
theorem M_gr10 : h_gr (HP B I J) 11 (B + 125) 10 = some (B + 131) := m_gr (c := 125) (n := 41) (by decide) (by decide) (by decide)
theorem M_gr11 : h_gr (HP B I J) 11 (B + 125) 11 = some (B + 132) := m_gr (c := 125) (n := 41) (by decide) (by decide) (by decide)
theorem M_gr12 : h_gr (HP B I J) 11 (B + 125) 12 = some (B + 133) := m_gr (c := 125) (n := 41) (by decide) (by decide) (by decide)
theorem M_gr13 : h_gr (HP B I J) 11 (B + 125) 13 = some (B + 134) := m_gr (c := 125) (n := 41) (by decide) (by decide) (by decide)
theorem M_gr14 : h_gr (HP B I J) 11 (B + 125) 14 = some (B + 135) := m_gr (c := 125) (n := 41) (by decide) (by decide) (by decide)
theorem M_gr15 : h_gr (HP B I J) 11 (B + 125) 15 = some (B + 136) := m_gr (c := 125) (n := 41) (by decide) (by decide) (by decide)
theorem M_gr16 : h_gr (HP B I J) 11 (B + 125) 16 = some (B + 137) := m_gr (c := 125) (n := 41) (by decide) (by decide) (by decide)
theorem M_gr17 : h_gr (HP B I J) 11 (B + 125) 17 = some (B + 138) := m_gr (c := 125) (n := 41) (by decide) (by decide) (by decide)
theorem M_gr18 : h_gr (HP B I J) 11 (B + 125) 18 = some (B + 139) := m_gr (c := 125) (n := 41) (by decide) (by decide) (by decide)
theorem M_gr19 : h_gr (HP B I J) 11 (B + 125) 19 = some (B + 140) := m_gr (c := 125) (n := 41) (by decide) (by decide) (by decide)
theorem M_gr20 : h_gr (HP B I J) 11 (B + 125) 20 = some (B + 141) := m_gr (c := 125) (n := 41) (by decide) (by decide) (by decide)
theorem M_gr22 : h_gr (HP B I J) 11 (B + 125) 22 = some (B + 142) := m_gr (c := 125) (n := 41) (by decide) (by decide) (by decide)
theorem M_gr23 : h_gr (HP B I J) 11 (B + 125) 23 = some (B + 143) := m_gr (c := 125) (n := 41) (by decide) (by decide) (by decide)
theorem M_gr25 : h_gr (HP B I J) 11 (B + 125) 25 = some (B + 144) := m_gr (c := 125) (n := 41) (by decide) (by decide) (by decide)
theorem M_gr34 : h_gr (HP B I J) 11 (B + 125) 34 = some (B + 145) := m_gr (c := 125) (n := 41) (by decide) (by decide) (by decide)
theorem M_gr36 : h_gr (HP B I J) 11 (B + 125) 36 = some (B + 146) := m_gr (c := 125) (n := 41) (by decide) (by decide) (by decide)
theorem M_gr37 : h_gr (HP B I J) 11 (B + 125) 37 = some (B + 147) := m_gr (c := 125) (n := 41) (by decide) (by decide) (by decide)
theorem M_gr38 : h_gr (HP B I J) 11 (B + 125) 38 = some (B + 148) := m_gr (c := 125) (n := 41) (by decide) (by decide) (by decide)
theorem M_gr39 : h_gr (HP B I J) 11 (B + 125) 39 = some (B + 149) := m_gr (c := 125) (n := 41) (by decide) (by decide) (by decide)
theorem M_gr40 : h_gr (HP B I J) 11 (B + 125) 40 = some (B + 150) := m_gr (c := 125) (n := 41) (by decide) (by decide) (by decide)
theorem R_ai126 (hi : i < 4) : h_ai (HP B I J) 0 (B + 126) (nI i) = some (I 126 i) := m_aiN (c := 126) (n := 4) (by decide) hi (by decide)
theorem R_si126 (hi : i < 4) : h_si (HP B I J) 0 (B + 126) (nI i) v = some (HP B (w2 I 126 i v) J) := m_siN (c := 126) (n := 4) (by decide) hi (by decide)
theorem R_ai128 (hi : i < 656) : h_ai (HP B I J) 0 (B + 128) (nI i) = some (I 128 i) := m_aiN (c := 128) (n := 656) (by decide) hi (by decide)
theorem R_si128 (hi : i < 656) : h_si (HP B I J) 0 (B + 128) (nI i) v = some (HP B (w2 I 128 i v) J) := m_siN (c := 128) (n := 656) (by decide) hi (by decide)
theorem R_ai129 (hi : i < 2624) : h_ai (HP B I J) 0 (B + 129) (nI i) = some (I 129 i) := m_aiN (c := 129) (n := 2624) (by decide) hi (by decide)
theorem R_si129 (hi : i < 2624) : h_si (HP B I J) 0 (B + 129) (nI i) v = some (HP B (w2 I 129 i v) J) := m_siN (c := 129) (n := 2624) (by decide) hi (by decide)
theorem R_ai130 (hi : i < 2624) : h_ai (HP B I J) 0 (B + 130) (nI i) = some (I 130 i) := m_aiN (c := 130) (n := 2624) (by decide) hi (by decide)
theorem R_si130 (hi : i < 2624) : h_si (HP B I J) 0 (B + 130) (nI i) v = some (HP B (w2 I 130 i v) J) := m_siN (c := 130) (n := 2624) (by decide) hi (by decide)
theorem R_ai131 (hi : i < 656) : h_ai (HP B I J) 2 (B + 131) (nI i) = some (I 131 i) := m_aiN (c := 131) (n := 656) (by decide) hi (by decide)
theorem R_si131 (hi : i < 656) : h_si (HP B I J) 2 (B + 131) (nI i) v = some (HP B (w2 I 131 i v) J) := m_siN (c := 131) (n := 656) (by decide) hi (by decide)
theorem R_ai132 (hi : i < 656) : h_ai (HP B I J) 2 (B + 132) (nI i) = some (I 132 i) := m_aiN (c := 132) (n := 656) (by decide) hi (by decide)
theorem R_si132 (hi : i < 656) : h_si (HP B I J) 2 (B + 132) (nI i) v = some (HP B (w2 I 132 i v) J) := m_siN (c := 132) (n := 656) (by decide) hi (by decide)
theorem R_ai133 (hi : i < 656) : h_ai (HP B I J) 2 (B + 133) (nI i) = some (I 133 i) := m_aiN (c := 133) (n := 656) (by decide) hi (by decide)
theorem R_si133 (hi : i < 656) : h_si (HP B I J) 2 (B + 133) (nI i) v = some (HP B (w2 I 133 i v) J) := m_siN (c := 133) (n := 656) (by decide) hi (by decide)
theorem R_ai134 (hi : i < 656) : h_ai (HP B I J) 2 (B + 134) (nI i) = some (I 134 i) := m_aiN (c := 134) (n := 656) (by decide) hi (by decide)
theorem R_si134 (hi : i < 656) : h_si (HP B I J) 2 (B + 134) (nI i) v = some (HP B (w2 I 134 i v) J) := m_siN (c := 134) (n := 656) (by decide) hi (by decide)
theorem R_ai135 (hi : i < 656) : h_ai (HP B I J) 0 (B + 135) (nI i) = some (I 135 i) := m_aiN (c := 135) (n := 656) (by decide) hi (by decide)
theorem R_si135 (hi : i < 656) : h_si (HP B I J) 0 (B + 135) (nI i) v = some (HP B (w2 I 135 i v) J) := m_siN (c := 135) (n := 656) (by decide) hi (by decide)
theorem R_ai136 (hi : i < 16) : h_ai (HP B I J) 0 (B + 136) (nI i) = some (I 136 i) := m_aiN (c := 136) (n := 16) (by decide) hi (by decide)
theorem R_si136 (hi : i < 16) : h_si (HP B I J) 0 (B + 136) (nI i) v = some (HP B (w2 I 136 i v) J) := m_siN (c := 136) (n := 16) (by decide) hi (by decide)
theorem R_ai137 (hi : i < 64) : h_ai (HP B I J) 0 (B + 137) (nI i) = some (I 137 i) := m_aiN (c := 137) (n := 64) (by decide) hi (by decide)
theorem R_si137 (hi : i < 64) : h_si (HP B I J) 0 (B + 137) (nI i) v = some (HP B (w2 I 137 i v) J) := m_siN (c := 137) (n := 64) (by decide) hi (by decide)
theorem R_ai138 (hi : i < 4) : h_ai (HP B I J) 0 (B + 138) (nI i) = some (I 138 i) := m_aiN (c := 138) (n := 4) (by decide) hi (by decide)
theorem R_si138 (hi : i < 4) : h_si (HP B I J) 0 (B + 138) (nI i) v = some (HP B (w2 I 138 i v) J) := m_siN (c := 138) (n := 4) (by decide) hi (by decide)
theorem R_ai139 (hi : i < 4) : h_ai (HP B I J) 0 (B + 139) (nI i) = some (I 139 i) := m_aiN (c := 139) (n := 4) (by decide) hi (by decide)
theorem R_si139 (hi : i < 4) : h_si (HP B I J) 0 (B + 139) (nI i) v = some (HP B (w2 I 139 i v) J) := m_siN (c := 139) (n := 4) (by decide) hi (by decide)
theorem R_ai140 (hi : i < 16) : h_ai (HP B I J) 0 (B + 140) (nI i) = some (I 140 i) := m_aiN (c := 140) (n := 16) (by decide) hi (by decide)
theorem R_si140 (hi : i < 16) : h_si (HP B I J) 0 (B + 140) (nI i) v = some (HP B (w2 I 140 i v) J) := m_siN (c := 140) (n := 16) (by decide) hi (by decide)
theorem R_ai141 (hi : i < 16) : h_ai (HP B I J) 0 (B + 141) (nI i) = some (I 141 i) := m_aiN (c := 141) (n := 16) (by decide) hi (by decide)
theorem R_si141 (hi : i < 16) : h_si (HP B I J) 0 (B + 141) (nI i) v = some (HP B (w2 I 141 i v) J) := m_siN (c := 141) (n := 16) (by decide) hi (by decide)
theorem R_ai142 (hi : i < 2) : h_ai (HP B I J) 0 (B + 142) (nI i) = some (I 142 i) := m_aiN (c := 142) (n := 2) (by decide) hi (by decide)
theorem R_si142 (hi : i < 2) : h_si (HP B I J) 0 (B + 142) (nI i) v = some (HP B (w2 I 142 i v) J) := m_siN (c := 142) (n := 2) (by decide) hi (by decide)
theorem R_ai143 (hi : i < 2) : h_ai (HP B I J) 0 (B + 143) (nI i) = some (I 143 i) := m_aiN (c := 143) (n := 2) (by decide) hi (by decide)
theorem R_si143 (hi : i < 2) : h_si (HP B I J) 0 (B + 143) (nI i) v = some (HP B (w2 I 143 i v) J) := m_siN (c := 143) (n := 2) (by decide) hi (by decide)
theorem R_ai144 (hi : i < 100) : h_ai (HP B I J) 0 (B + 144) (nI i) = some (I 144 i) := m_aiN (c := 144) (n := 100) (by decide) hi (by decide)
theorem R_si144 (hi : i < 100) : h_si (HP B I J) 0 (B + 144) (nI i) v = some (HP B (w2 I 144 i v) J) := m_siN (c := 144) (n := 100) (by decide) hi (by decide)
theorem R_ai145 (hi : i < 4) : h_ai (HP B I J) 0 (B + 145) (nI i) = some (I 145 i) := m_aiN (c := 145) (n := 4) (by decide) hi (by decide)
theorem R_si145 (hi : i < 4) : h_si (HP B I J) 0 (B + 145) (nI i) v = some (HP B (w2 I 145 i v) J) := m_siN (c := 145) (n := 4) (by decide) hi (by decide)
theorem R_ai146 (hi : i < 64) : h_ai (HP B I J) 0 (B + 146) (nI i) = some (I 146 i) := m_aiN (c := 146) (n := 64) (by decide) hi (by decide)
theorem R_si146 (hi : i < 64) : h_si (HP B I J) 0 (B + 146) (nI i) v = some (HP B (w2 I 146 i v) J) := m_siN (c := 146) (n := 64) (by decide) hi (by decide)
theorem R_ai148 (hi : i < 16) : h_ai (HP B I J) 0 (B + 148) (nI i) = some (I 148 i) := m_aiN (c := 148) (n := 16) (by decide) hi (by decide)
theorem R_si148 (hi : i < 16) : h_si (HP B I J) 0 (B + 148) (nI i) v = some (HP B (w2 I 148 i v) J) := m_siN (c := 148) (n := 16) (by decide) hi (by decide)
theorem R_ai149 (hi : i < 65536) : h_ai (HP B I J) 0 (B + 149) (nI i) = some (I 149 i) := m_aiN (c := 149) (n := 65536) (by decide) hi (by decide)
theorem R_si149 (hi : i < 65536) : h_si (HP B I J) 0 (B + 149) (nI i) v = some (HP B (w2 I 149 i v) J) := m_siN (c := 149) (n := 65536) (by decide) hi (by decide)
theorem R_ai150 (hi : i < 65536) : h_ai (HP B I J) 0 (B + 150) (nI i) = some (I 150 i) := m_aiN (c := 150) (n := 65536) (by decide) hi (by decide)
theorem R_si150 (hi : i < 65536) : h_si (HP B I J) 0 (B + 150) (nI i) v = some (HP B (w2 I 150 i v) J) := m_siN (c := 150) (n := 65536) (by decide) hi (by decide)
theorem R_al127 (hi : i < 656) : h_al64 (HP B I J) (B + 127) (nI i) = some (J 127 i) := m_alN (c := 127) (t := 1) (n := 656) (by decide) hi (by decide)
theorem R_sl127 (hi : i < 656) : h_sl (HP B I J) (B + 127) (nI i) u = some (HP B I (w2 J 127 i u)) := m_slN (c := 127) (t := 1) (n := 656) (by decide) hi (by decide)
theorem R_al147 (hi : i < 64) : h_al64 (HP B I J) (B + 147) (nI i) = some (J 147 i) := m_alN (c := 147) (t := 1) (n := 64) (by decide) hi (by decide)
theorem R_sl147 (hi : i < 64) : h_sl (HP B I J) (B + 147) (nI i) u = some (HP B I (w2 J 147 i u)) := m_slN (c := 147) (t := 1) (n := 64) (by decide) hi (by decide)
theorem X_at (a b d : Nat) (h : eH) : F_X12_at (nI a) (nI b) (nI d) h = some (nI (164 * a + 41 * b + d), h) := by
  unfold F_X12_at; rw [n_164, n_41, nI_add, nI_add]
theorem X_rowAt (a b : Nat) (h : eH) : F_X12_rowAt (nI a) (nI b) h = some (nI (16 * a + 4 * b), h) := by
  unfold F_X12_rowAt; rw [n_16, n_4, nI_add]
end RMEM
/-! how the reference holds a key, and the state -/
def MoK (k : Nat) (I : Nat → Nat → Int32) (J : Nat → Nat → Int64) (x : eKS) : Prop :=
  (∀ t, t < 4 → I 136 (4 * k + t) = nI (kM x t)) ∧ (∀ s, s < 4 → ∀ t, t < 4 → I 137 (16 * k + 4 * s + t) = nI (kR x s t)) ∧ I 138 k = kF x ∧ (∀ p, p < 164 → I 135 (164 * k + p) = hb (fun s => plc (kS x (4 + s)) p) 4) ∧ (∀ f, f < 4 → ∀ p, p < 164 → I (131 + f) (164 * k + p) = b2 (plc (kS x f) p)) ∧ (∀ j, j < 160 → cov (kM x) j = true → I 128 (164 * k + plp j) = nI (kSt x j) ∧ J 127 (164 * k + plp j) = kV x j ∧ ∀ t, t < 4 → I 129 (4 * (164 * k + plp j) + t) = nI (kTo x j t) ∧ I 130 (4 * (164 * k + plp j) + t) = nI (kKn x j t))
def dvR (c : Nat) : Nat := if c = 129 ∨ c = 130 then 656 else if c = 136 then 4 else if c = 137 then 16 else if c = 138 then 1 else 164
/-- a cell and a place of the key -/
def inK (k c z : Nat) : Prop := 127 ≤ c ∧ c ≤ 138 ∧ z / dvR c = k
def frQ (k : Nat) (I : Nat → Nat → Int32) (J : Nat → Nat → Int64) (I2 : Nat → Nat → Int32) (J2 : Nat → Nat → Int64) : Prop := ∀ c z, ¬ inK k c z → I2 c z = I c z ∧ J2 c z = J c z
theorem frQ_r {k : Nat} {I : Nat → Nat → Int32} {J : Nat → Nat → Int64} : frQ k I J I J := fun _ _ _ => ⟨rfl, rfl⟩
theorem frQ_t {k : Nat} {I I2 I3 : Nat → Nat → Int32} {J J2 J3 : Nat → Nat → Int64} (h : frQ k I J I2 J2) (h2 : frQ k I2 J2 I3 J3) : frQ k I J I3 J3 := fun c z hc => ⟨((h2 c z hc).1).trans (h c z hc).1, ((h2 c z hc).2).trans (h c z hc).2⟩
theorem frQ_w {k c z : Nat} {I : Nat → Nat → Int32} {J : Nat → Nat → Int64} {v : Int32} (h : inK k c z) : frQ k I J (w2 I c z v) J := by
  intro c2 z2 h2
  refine ⟨?_, rfl⟩
  by_cases e : c2 = c
  · subst e
    exact w2_k _ _ (fun q => h2 (q ▸ h))
  · exact w2_c _ _ e
theorem frQ_wJ {k c z : Nat} {I : Nat → Nat → Int32} {J : Nat → Nat → Int64} {v : Int64} (h : inK k c z) : frQ k I J I (w2 J c z v) := by
  intro c2 z2 h2
  refine ⟨rfl, ?_⟩
  by_cases e : c2 = c
  · subst e
    exact w2_k _ _ (fun q => h2 (q ▸ h))
  · exact w2_c _ _ e
theorem inK_a {k c p : Nat} (h1 : c = 127 ∨ c = 128 ∨ c = 131 ∨ c = 132 ∨ c = 133 ∨ c = 134 ∨ c = 135) (hp : p < 164) : inK k c (164 * k + p) := by
  refine ⟨by omega, by omega, ?_⟩
  have : dvR c = 164 := by unfold dvR; rw [if_neg (by omega), if_neg (by omega), if_neg (by omega), if_neg (by omega)]
  rw [this]; omega
theorem MoK_fr {k l : Nat} {I I2 : Nat → Nat → Int32} {J J2 : Nat → Nat → Int64} {x : eKS} (hl : l < 4) (hkl : l ≠ k) (h : MoK l I J x) (hf : frQ k I J I2 J2) : MoK l I2 J2 x := by
  obtain ⟨h1, h2, h3, h4, h5, h6⟩ := h
  have a : ∀ c p, c ≠ 129 → c ≠ 130 → c ≠ 136 → c ≠ 137 → c ≠ 138 → p < 164 → I2 c (164 * l + p) = I c (164 * l + p) ∧ J2 c (164 * l + p) = J c (164 * l + p) := by
    intro c p c1 c2 c3 c4 c5 hp
    refine hf _ _ (fun q => ?_)
    have q2 := q.2.2
    have : dvR c = 164 := by unfold dvR; rw [if_neg (by omega), if_neg c3, if_neg c4, if_neg c5]
    rw [this] at q2; omega
  have b : ∀ c p t, c = 129 ∨ c = 130 → p < 164 → t < 4 → I2 c (4 * (164 * l + p) + t) = I c (4 * (164 * l + p) + t) := by
    intro c p t hc hp ht
    refine (hf _ _ (fun q => ?_)).1
    have q2 := q.2.2
    have : dvR c = 656 := by unfold dvR; rw [if_pos hc]
    rw [this] at q2; omega
  refine ⟨fun t ht => ?_, fun s hs t ht => ?_, ?_, fun p hp => ?_, fun f hf2 p hp => ?_, fun j hj hc => ?_⟩
  · rw [(hf 136 (4 * l + t) (fun q => by have := q.2.2; rw [show dvR 136 = 4 from rfl] at this; omega)).1]; exact h1 t ht
  · rw [(hf 137 (16 * l + 4 * s + t) (fun q => by have := q.2.2; rw [show dvR 137 = 16 from rfl] at this; omega)).1]; exact h2 s hs t ht
  · rw [(hf 138 l (fun q => by have := q.2.2; rw [show dvR 138 = 1 from rfl] at this; omega)).1]; exact h3
  · rw [(a 135 p (by decide) (by decide) (by decide) (by decide) (by decide) hp).1]; exact h4 p hp
  · rw [(a (131 + f) p (by omega) (by omega) (by omega) (by omega) (by omega) hp).1]; exact h5 f hf2 p hp
  · have hp := plp_lt hj
    obtain ⟨g1, g2, g3⟩ := h6 j hj hc
    refine ⟨?_, ?_, fun t ht => ?_⟩
    · rw [(a 128 _ (by decide) (by decide) (by decide) (by decide) (by decide) hp).1]; exact g1
    · rw [(a 127 _ (by decide) (by decide) (by decide) (by decide) (by decide) hp).2]; exact g2
    · rw [b 129 _ t (Or.inl rfl) hp ht, b 130 _ t (Or.inr rfl) hp ht]; exact g3 t ht
def MoA (I : Nat → Nat → Int32) (x : eST) : Prop := I 125 0 = nI (zN x) ∧ I 125 1 = nI (zB x) ∧ I 125 2 = nI (zL x) ∧ I 125 3 = nI (zK x) ∧ I 125 5 = nI (zT x)
def MoT (I : Nat → Nat → Int32) (x : eST) : Prop := I 125 24 = nI (zE x) ∧ ∀ i, i < zE x → I 144 i = nI (zX x i)
def MoR (I : Nat → Nat → Int32) (x : eST) : Prop := I 125 21 = nI (zM x) ∧ ∀ i, i < zM x → I 142 i = nI (zRK x i) ∧ I 143 i = nI (zRR x i)
def MoC (I : Nat → Nat → Int32) (x : eST) : Prop := ∀ c, c < 4 → I 139 c = (if zCK x c = 0 then -9 else nI (zCK x c - 1)) ∧ (zCK x c ≠ 0 → ∀ t, t < 4 → I 140 (4 * c + t) = nI (zCN x c t) ∧ I 141 (4 * c + t) = nI (zCT x c t))
def Mo (I : Nat → Nat → Int32) (J : Nat → Nat → Int64) (x : eST) : Prop := MoA I x ∧ MoT I x ∧ MoR I x ∧ MoC I x ∧ (∀ k, k < zK x → I 126 k = nI (kkd (zS x k))) ∧ ∀ k, k < 4 → MoK k I J (zS x k)
/-- the reference's cells change, the class's stay -/
def frR (I : Nat → Nat → Int32) (J : Nat → Nat → Int64) (I2 : Nat → Nat → Int32) (J2 : Nat → Nat → Int64) : Prop := ∀ c, c < 125 → ∀ z, I2 c z = I c z ∧ J2 c z = J c z
theorem frR_r {I : Nat → Nat → Int32} {J : Nat → Nat → Int64} : frR I J I J := fun _ _ _ => ⟨rfl, rfl⟩
theorem frR_t {I I2 I3 : Nat → Nat → Int32} {J J2 J3 : Nat → Nat → Int64} (h : frR I J I2 J2) (h2 : frR I2 J2 I3 J3) : frR I J I3 J3 := fun c hc z => ⟨((h2 c hc z).1).trans (h c hc z).1, ((h2 c hc z).2).trans (h c hc z).2⟩
theorem frQ_R {k : Nat} {I I2 : Nat → Nat → Int32} {J J2 : Nat → Nat → Int64} (h : frQ k I J I2 J2) : frR I J I2 J2 := fun c hc z => h c z (fun q => by have := q.1; omega)
theorem frR_w {c z : Nat} {I : Nat → Nat → Int32} {J : Nat → Nat → Int64} {v : Int32} (h : 125 ≤ c) : frR I J (w2 I c z v) J := fun c2 h2 z2 => ⟨w2_c _ _ (by omega), rfl⟩
/-- the state's parts that rest on few cells -/
theorem MoA_fr {I I2 : Nat → Nat → Int32} {x : eST} (h : MoA I x) (hI : ∀ z, z < 6 → I2 125 z = I 125 z) : MoA I2 x := by
  obtain ⟨a1, a2, a3, a4, a5⟩ := h
  exact ⟨(hI 0 (by decide)).trans a1, (hI 1 (by decide)).trans a2, (hI 2 (by decide)).trans a3, (hI 3 (by decide)).trans a4, (hI 5 (by decide)).trans a5⟩
theorem MoT_fr {I I2 : Nat → Nat → Int32} {x : eST} (h : MoT I x) (h1 : I2 125 24 = I 125 24) (hI : ∀ z, I2 144 z = I 144 z) : MoT I2 x := ⟨h1.trans h.1, fun i hi => (hI i).trans (h.2 i hi)⟩
theorem MoR_fr {I I2 : Nat → Nat → Int32} {x : eST} (h : MoR I x) (h1 : I2 125 21 = I 125 21) (hI : ∀ c, c = 142 ∨ c = 143 → ∀ z, I2 c z = I c z) : MoR I2 x := ⟨h1.trans h.1, fun i hi => ⟨(hI 142 (Or.inl rfl) i).trans (h.2 i hi).1, (hI 143 (Or.inr rfl) i).trans (h.2 i hi).2⟩⟩
theorem MoC_fr {I I2 : Nat → Nat → Int32} {x : eST} (h : MoC I x) (hI : ∀ c, 139 ≤ c → c ≤ 141 → ∀ z, I2 c z = I c z) : MoC I2 x := fun c hc => ⟨(hI 139 (by decide) (by decide) c).trans (h c hc).1, fun q t ht => ⟨(hI 140 (by decide) (by decide) _).trans ((h c hc).2 q t ht).1, (hI 141 (by decide) (by decide) _).trans ((h c hc).2 q t ht).2⟩⟩
theorem MoK_id {k : Nat} {I I2 : Nat → Nat → Int32} {J J2 : Nat → Nat → Int64} {x : eKS} (h : MoK k I J x) (hI : ∀ c, 127 ≤ c → c ≤ 138 → ∀ z, I2 c z = I c z) (hJ : ∀ z, J2 127 z = J 127 z) : MoK k I2 J2 x := by
  obtain ⟨h1, h2, h3, h4, h5, h6⟩ := h
  refine ⟨fun t ht => (hI 136 (by decide) (by decide) _).trans (h1 t ht), fun s hs t ht => (hI 137 (by decide) (by decide) _).trans (h2 s hs t ht), (hI 138 (by decide) (by decide) _).trans h3, fun p hp => (hI 135 (by decide) (by decide) _).trans (h4 p hp), fun f hf p hp => (hI _ (by omega) (by omega) _).trans (h5 f hf p hp), fun j hj hc => ?_⟩
  obtain ⟨g1, g2, g3⟩ := h6 j hj hc
  exact ⟨(hI 128 (by decide) (by decide) _).trans g1, (hJ _).trans g2, fun t ht => ⟨(hI 129 (by decide) (by decide) _).trans (g3 t ht).1, (hI 130 (by decide) (by decide) _).trans (g3 t ht).2⟩⟩
/-- it rests on the reference's cells alone, and not on the scratch ones -/
theorem Mo_fr {I I2 : Nat → Nat → Int32} {J J2 : Nat → Nat → Int64} {x : eST} (h : Mo I J x) (h0 : ∀ z, z < 26 → I2 125 z = I 125 z) (hI : ∀ c, 126 ≤ c → c ≤ 144 → ∀ z, I2 c z = I c z) (hJ : ∀ z, J2 127 z = J 127 z) : Mo I2 J2 x := by
  obtain ⟨a, b, c, d, e, f⟩ := h
  exact ⟨MoA_fr a (fun z hz => h0 z (by omega)), MoT_fr b (h0 24 (by decide)) (hI 144 (by decide) (by decide)), MoR_fr c (h0 21 (by decide)) (fun c hc => hI c (by omega) (by omega)), MoC_fr d (fun c h1 h2 => hI c (by omega) (by omega)), fun k hk => (hI 126 (by decide) (by decide) k).trans (e k hk), fun k hk => MoK_id (f k hk) (fun c h1 h2 => hI c (by omega) (by omega)) hJ⟩
/-- a key laid anew -/
theorem Mo_K {k : Nat} {I I2 : Nat → Nat → Int32} {J J2 : Nat → Nat → Int64} {x : eST} {y : eKS} (hk : k < 4) (h : Mo I J x) (hf : frQ k I J I2 J2) (hkd : kkd y = kkd (zS x k)) (hy : MoK k I2 J2 y) : Mo I2 J2 (oK x k y) := by
  obtain ⟨a, b, c, d, e, f⟩ := h
  have g : ∀ c, c < 127 ∨ 138 < c → ∀ z, I2 c z = I c z := fun c hc z => (hf c z (fun q => by have h1 := q.1; have h2 := q.2.1; omega)).1
  refine ⟨MoA_fr (x := oK x k y) a (fun z _ => g 125 (by decide) z), MoT_fr (x := oK x k y) b (g 125 (by decide) _) (g 144 (by decide)), MoR_fr (x := oK x k y) c (g 125 (by decide) _) (fun c hc => g c (by omega)), MoC_fr (x := oK x k y) d (fun c h1 h2 => g c (by omega)), fun l hl => ?_, fun l hl => ?_⟩
  · rw [g 126 (by decide), e l hl]
    show _ = nI (kkd (if l = k then y else zS x l))
    by_cases q : l = k
    · subst q; rw [if_pos rfl, hkd]
    · rw [if_neg q]
  · show MoK l I2 J2 (if l = k then y else zS x l)
    by_cases q : l = k
    · subst q; rw [if_pos rfl]; exact hy
    · rw [if_neg q]; exact MoK_fr hl q (f l hl) hf
section RSTATE
variable {B : Nat} {I : Nat → Nat → Int32} {J : Nat → Nat → Int64} {x : eST} {k s i n : Nat} {v : Int32}
theorem X_site_ok (h : Mo I J x) (w : WF x) (hs : s < zN x) : F_X12_isSite (B + 125) (nI s) (HP B I J) = some (1, HP B I J) := by
  have h4 := w.1
  unfold F_X12_isSite
  have e : nI (zN x) - 1 = nI (zN x - 1) := by
    obtain ⟨m, hm⟩ : ∃ m, zN x = m + 1 := ⟨zN x - 1, by omega⟩
    rw [hm, nI_pred]; rfl
  rw [M_gi0, h.1.1, Option.bind_some, e, in_ok (v := nI s) (m := 0) (n := zN x - 1) rfl (by decide +kernel) rfl _ rfl (by omega) (by omega) (by omega)]
  rfl
theorem X_site_no (h : Mo I J x) (w : WF x) (hv : nix v (zN x)) : F_X12_isSite (B + 125) v (HP B I J) = some (0, HP B I J) := by
  have h4 := w.1
  unfold F_X12_isSite
  rw [M_gi0, h.1.1, Option.bind_some, in_no (v := v) (n := zN x) rfl rfl _ hv (by omega)]
  rfl
theorem X_key_ok (h : Mo I J x) (w : WF x) (hk : k < zK x) : F_X12_isKey (B + 125) (nI k) (HP B I J) = some (1, HP B I J) := by
  have h4 := w.2.2.2.1
  unfold F_X12_isKey
  have e : nI (zK x) - 1 = nI (zK x - 1) := by
    obtain ⟨m, hm⟩ : ∃ m, zK x = m + 1 := ⟨zK x - 1, by omega⟩
    rw [hm, nI_pred]; rfl
  rw [M_gi3, h.1.2.2.2.1, Option.bind_some, e, in_ok (v := nI k) (m := 0) (n := zK x - 1) rfl (by decide +kernel) rfl _ rfl (by omega) (by omega) (by omega)]
  rfl
theorem X_key_no (h : Mo I J x) (w : WF x) (hv : nix v (zK x)) : F_X12_isKey (B + 125) v (HP B I J) = some (0, HP B I J) := by
  have h4 := w.2.2.2.1
  unfold F_X12_isKey
  rw [M_gi3, h.1.2.2.2.1, Option.bind_some, in_no (v := v) (n := zK x) rfl rfl _ hv (by omega)]
  rfl
theorem X_cl_ok {c : Nat} (hc : c < 4) (h : eH) : F_X12_isClient (nI c) h = some (1, h) := by
  unfold F_X12_isClient
  rw [in_ok (v := nI c) (m := 0) (n := 3) rfl (by decide +kernel) (by decide +kernel) _ rfl (by omega) (by omega) (by omega)]
  rfl
theorem X_cl_no (hv : nix v 4) (h : eH) : F_X12_isClient v h = some (0, h) := by
  unfold F_X12_isClient
  rw [in_no (v := v) (n := 4) rfl (by decide +kernel) _ hv (by omega)]
  rfl
/-- a number from 0 to m -/
theorem X_in_ok {m : Nat} {z : Int64} (hz : z = (nI m).toInt64) (hi : i ≤ m) (hm : m < 2 ^ 31) (h : eH) : F_X12_in (nI i).toInt64 0 z h = some (1, h) := in_ok (v := nI i) (m := 0) (n := m) rfl (by decide +kernel) hz h rfl (Nat.zero_le _) hi hm
theorem X_in_no {m : Nat} {z : Int64} (hz : z = (nI m - 1).toInt64) (hv : nix v m) (hm : m < 2 ^ 31) (h : eH) : F_X12_in v.toInt64 0 z h = some (0, h) := in_no rfl hz h hv hm
end RSTATE
