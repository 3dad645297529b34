/-! BITS of ints and longs: the rows of numbers (four bytes in an int), the sets of dots (40 bits in a long) -/
def bt (x : Int32) (i : Nat) : Bool := x.toBitVec.getLsbD i
theorem b_ext {x y : Int32} (h : ∀ i, i < 32 → bt x i = bt y i) : x = y := Int32.toBitVec_inj.mp (BitVec.eq_of_getLsbD_eq (fun i hi => h i hi))
theorem b_or (x y : Int32) (i : Nat) : bt (x ||| y) i = (bt x i || bt y i) := by unfold bt; rw [Int32.toBitVec_or, BitVec.getLsbD_or]
theorem b_and (x y : Int32) (i : Nat) : bt (x &&& y) i = (bt x i && bt y i) := by unfold bt; rw [Int32.toBitVec_and, BitVec.getLsbD_and]
theorem b_xor (x y : Int32) (i : Nat) : bt (x ^^^ y) i = (bt x i ^^ bt y i) := by unfold bt; rw [Int32.toBitVec_xor, BitVec.getLsbD_xor]
theorem b_big {x : Int32} {i : Nat} (h : 32 ≤ i) : bt x i = false := BitVec.getLsbD_of_ge _ _ h
theorem b_255 (i : Nat) : bt 255 i = decide (i < 8) := by
  rcases Nat.lt_or_ge i 32 with h | h
  · exact (by decide +kernel : ∀ i, i < 32 → bt 255 i = decide (i < 8)) i h
  · rw [b_big h, decide_eq_false (by omega)]
theorem b_m1 : ∀ i, i < 32 → bt (-1) i = true := by decide +kernel
theorem b_0 (i : Nat) : bt 0 i = false := BitVec.getLsbD_zero
theorem s_l : ∀ n, n < 32 → ((nI n &&& 31).toBitVec.smod 32).toNat = n := by decide +kernel
theorem s_u : ∀ n, n < 32 → (((nI n).toUInt32 &&& Int32.toUInt32 31).toBitVec % 32).toNat = n := by decide +kernel
theorem b_shl (n : Nat) (hn : n < 32) (x : Int32) {i : Nat} (hi : i < 32) : bt (x <<< (nI n &&& 31)) i = (decide (n ≤ i) && bt x (i - n)) := by
  unfold bt
  rw [Int32.toBitVec_shiftLeft]
  show (x.toBitVec <<< ((nI n &&& 31).toBitVec.smod 32).toNat).getLsbD i = _
  rw [s_l n hn, BitVec.getLsbD_shiftLeft]
  rcases Nat.lt_or_ge i n with h | h
  · simp [h, Nat.not_le.mpr h]
  · simp [hi, h, Nat.not_lt.mpr h]
theorem b_ushr (n : Nat) (hn : n < 32) (x : Int32) (i : Nat) : bt ((x.toUInt32 >>> ((nI n).toUInt32 &&& Int32.toUInt32 31)).toInt32) i = bt x (n + i) := by
  show (x.toUInt32 >>> ((nI n).toUInt32 &&& Int32.toUInt32 31)).toBitVec.getLsbD i = x.toUInt32.toBitVec.getLsbD (n + i)
  rw [UInt32.toBitVec_shiftRight]
  show (x.toUInt32.toBitVec >>> (((nI n).toUInt32 &&& Int32.toUInt32 31).toBitVec % 32).toNat).getLsbD i = _
  rw [s_u n hn, BitVec.getLsbD_ushiftRight]
theorem b_sshr (n : Nat) (hn : n < 32) (x : Int32) {i : Nat} (hi : i < 32) : bt (x >>> (nI n &&& 31)) i = if n + i < 32 then bt x (n + i) else bt x 31 := by
  unfold bt
  rw [Int32.toBitVec_shiftRight]
  show (x.toBitVec.sshiftRight ((nI n &&& 31).toBitVec.smod 32).toNat).getLsbD i = _
  rw [s_l n hn, BitVec.getLsbD_sshiftRight, BitVec.msb_eq_getLsbD_last]
  simp [hi]
/-! a row: number t of it, and the row with another number -/
def rn (x : Int32) (t : Nat) : Int32 := ((x.toUInt32 >>> ((8 * nI t).toUInt32 &&& Int32.toUInt32 31)).toInt32) &&& 255
def rw_ (x : Int32) (t : Nat) (v : Int32) : Int32 := (x &&& ((255 <<< ((8 * nI t) &&& 31)) ^^^ (-1))) ||| (v <<< ((8 * nI t) &&& 31))
theorem r_8 (t : Nat) : (8 : Int32) * nI t = nI (8 * t) := pk_mul 8 t
theorem rn_bt {x : Int32} {t : Nat} (ht : t < 4) (i : Nat) : bt (rn x t) i = (decide (i < 8) && bt x (8 * t + i)) := by
  unfold rn
  rw [b_and, b_255, r_8, b_ushr (8 * t) (by omega), Bool.and_comm]
theorem rw_bt {x v : Int32} {t : Nat} (ht : t < 4) {i : Nat} (hi : i < 32) : bt (rw_ x t v) i = ((bt x i && !(decide (8 * t ≤ i) && decide (i - 8 * t < 8))) || (decide (8 * t ≤ i) && bt v (i - 8 * t))) := by
  unfold rw_
  rw [b_or, b_and, b_xor, r_8, b_shl (8 * t) (by omega) _ hi, b_shl (8 * t) (by omega) _ hi, b_255, b_m1 i hi, Bool.xor_true]
def small (v : Int32) : Prop := ∀ i, 8 ≤ i → bt v i = false
theorem small_n : ∀ n, n < 256 → ∀ i, i < 32 → 8 ≤ i → bt (nI n) i = false := by decide +kernel
theorem small_nI {n : Nat} (h : n < 256) : small (nI n) := by
  intro i hi
  rcases Nat.lt_or_ge i 32 with h1 | h1
  · exact small_n n h i h1 hi
  · exact b_big h1
theorem rn_rw {x v : Int32} {t u : Nat} (ht : t < 4) (hu : u < 4) (hv : small v) : rn (rw_ x t v) u = if u = t then v else rn x u := by
  apply b_ext
  intro i hi
  rw [rn_bt hu]
  by_cases h8 : i < 8
  · rw [rw_bt ht (by omega)]
    by_cases h : u = t
    · subst h
      rw [if_pos rfl]
      have e : 8 * u + i - 8 * u = i := by omega
      simp [h8, e]
    · rw [if_neg h, rn_bt hu]
      by_cases h2 : 8 * t ≤ 8 * u + i
      · have h3 : 8 ≤ 8 * u + i - 8 * t := by omega
        simp [h8, h2, hv _ h3, Nat.not_lt.mpr h3]
      · simp [h8, h2]
  · by_cases h : u = t
    · rw [if_pos h, hv i (by omega)]; simp [h8]
    · rw [if_neg h, rn_bt hu]; simp [h8]
theorem rn_0 (t : Nat) (ht : t < 4) : rn 0 t = 0 := by
  apply b_ext; intro i hi; rw [rn_bt ht, b_0, b_0]; simp
theorem rn_ext {x y : Int32} (h : ∀ t, t < 4 → rn x t = rn y t) : x = y := by
  apply b_ext
  intro i hi
  have h1 := congrArg (fun z => bt z (i % 8)) (h (i / 8) (by omega))
  simp only [rn_bt (show i / 8 < 4 by omega)] at h1
  have e : 8 * (i / 8) + i % 8 = i := by omega
  have e2 : i % 8 < 8 := by omega
  simpa [e, e2] using h1
/-! longs -/
def g64 (x : Int64) (i : Nat) : Bool := x.toBitVec.getLsbD i
theorem g_ext {x y : Int64} (h : ∀ i, i < 64 → g64 x i = g64 y i) : x = y := Int64.toBitVec_inj.mp (BitVec.eq_of_getLsbD_eq (fun i hi => h i hi))
theorem g_or (x y : Int64) (i : Nat) : g64 (x ||| y) i = (g64 x i || g64 y i) := by unfold g64; rw [Int64.toBitVec_or, BitVec.getLsbD_or]
theorem g_and (x y : Int64) (i : Nat) : g64 (x &&& y) i = (g64 x i && g64 y i) := by unfold g64; rw [Int64.toBitVec_and, BitVec.getLsbD_and]
theorem g_xor (x y : Int64) (i : Nat) : g64 (x ^^^ y) i = (g64 x i ^^ g64 y i) := by unfold g64; rw [Int64.toBitVec_xor, BitVec.getLsbD_xor]
theorem g_big {x : Int64} {i : Nat} (h : 64 ≤ i) : g64 x i = false := BitVec.getLsbD_of_ge _ _ h
theorem g_m1 : ∀ i, i < 64 → g64 (-1) i = true := by decide +kernel
theorem g_0 (i : Nat) : g64 0 i = false := BitVec.getLsbD_zero
theorem g_not (x : Int64) {i : Nat} (hi : i < 64) : g64 (x ^^^ (-1)) i = !(g64 x i) := by rw [g_xor, g_m1 i hi, Bool.xor_true]
/-- the numbers 1 to m, as bits -/
def cv (m : Nat) : Int64 := ((1 : Int64) <<< ((nI m).toInt64 &&& 63)) - 1
def cb (n : Nat) : Int64 := (1 : Int64) <<< ((nI n - 1).toInt64 &&& 63)
theorem g_cv : ∀ m, m < 41 → ∀ i, i < 64 → g64 (cv m) i = decide (i < m) := by decide +kernel
theorem g_cb : ∀ n, n < 41 → 1 ≤ n → ∀ i, i < 64 → g64 (cb n) i = decide (i = n - 1) := by decide +kernel
theorem lg_cmp0 (x y : Int64) : lg_cmp x y = 0 ↔ x = y := by
  unfold lg_cmp
  by_cases h1 : y < x
  · rw [if_pos h1]
    exact ⟨fun h => absurd h (by decide), fun h => absurd h1 (by rw [h]; exact Int64.lt_irrefl)⟩
  · rw [if_neg h1]
    by_cases h2 : x = y
    · simp [h2]
    · rw [if_neg h2]; exact ⟨fun h => absurd h (by decide), fun h => absurd h h2⟩
theorem g_has {x : Int64} {n : Nat} (h1 : 1 ≤ n) (hn : n < 41) : (x &&& cb n = 0) ↔ g64 x (n - 1) = false := by
  constructor
  · intro h
    have h2 := congrArg (fun z => g64 z (n - 1)) h
    simp only [g_and, g_0, g_cb n hn h1 (n - 1) (by omega)] at h2
    simpa using h2
  · intro h
    apply g_ext
    intro i hi
    rw [g_and, g_0, g_cb n hn h1 i hi]
    by_cases e : i = n - 1
    · subst e; simp [h]
    · simp [e]
