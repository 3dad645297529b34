/-! POPULATION COUNT, and what rests on it -/
def ct (p : Nat → Bool) : Nat → Nat
  | 0 => 0
  | n + 1 => ct p n + (if p n then 1 else 0)
theorem ct_le (p : Nat → Bool) : ∀ n, ct p n ≤ n
  | 0 => Nat.le_refl 0
  | n + 1 => by
    have := ct_le p n
    unfold ct
    split <;> omega
theorem ct_cong {p q : Nat → Bool} : ∀ {n : Nat}, (∀ i, i < n → p i = q i) → ct p n = ct q n
  | 0, _ => rfl
  | n + 1, h => by
    unfold ct
    rw [ct_cong (fun i hi => h i (by omega)), h n (by omega)]
def xN (x : Int64) : Nat := x.toBitVec.toNat
theorem xN_lt (x : Int64) : xN x < 2 ^ 64 := x.toBitVec.isLt
theorem xN_inj {x y : Int64} (h : xN x = xN y) : x = y := Int64.toBitVec_inj.mp (BitVec.eq_of_toNat_eq h)
theorem xN_tb (x : Int64) (i : Nat) : g64 x i = (xN x).testBit i := rfl
theorem xN_and (x y : Int64) : xN (x &&& y) = xN x &&& xN y := by unfold xN; rw [Int64.toBitVec_and, BitVec.toNat_and]
theorem xN_add (x y : Int64) : xN (x + y) = (xN x + xN y) % 2 ^ 64 := by unfold xN; rw [Int64.toBitVec_add, BitVec.toNat_add]
theorem xN_sub {x y : Int64} (h : xN y ≤ xN x) : xN (x - y) = xN x - xN y := by
  have h1 := xN_lt x
  unfold xN at *
  rw [Int64.toBitVec_sub, BitVec.toNat_sub]
  omega
theorem xN_ush (x : Int64) (s : UInt64) (k : Nat) (hs : s.toNat % 64 = k) : xN (x.toUInt64 >>> s).toInt64 = xN x / 2 ^ k := by
  show (x.toUInt64 >>> s).toBitVec.toNat = _
  rw [UInt64.toBitVec_shiftRight]
  show (x.toUInt64.toBitVec >>> (s.toBitVec % 64).toNat).toNat = _
  rw [BitVec.toNat_ushiftRight, Nat.shiftRight_eq_div_pow]
  congr 2
/-- the count of ones of a number below 2 ^ n -/
def pc : Nat → Nat → Nat
  | 0, _ => 0
  | n + 1, x => pc n (x / 2) + x % 2
theorem pc_ct (n : Nat) : ∀ x, pc n x = ct (fun i => x.testBit i) n := by
  have key : ∀ n (p : Nat → Bool), ct p (n + 1) = ct (fun i => p (i + 1)) n + (if p 0 then 1 else 0) := by
    intro n
    induction n with
    | zero => intro p; simp [ct]
    | succ n ih =>
      intro p
      rw [show ct p (n + 1 + 1) = ct p (n + 1) + (if p (n + 1) then 1 else 0) from rfl, ih p, show ct (fun i => p (i + 1)) (n + 1) = ct (fun i => p (i + 1)) n + (if p (n + 1) then 1 else 0) from rfl]
      omega
  induction n with
  | zero => intro x; rfl
  | succ n ih =>
    intro x
    rw [show pc (n + 1) x = pc n (x / 2) + x % 2 from rfl, ih, key]
    congr 1
    · apply ct_cong; intro i _; rw [Nat.testBit_succ]
    · rw [Nat.testBit_zero]
      have : x % 2 = 0 ∨ x % 2 = 1 := by omega
      rcases this with h | h <;> simp [h]
/-- and of numbers cut at a place -/
theorem and_cut (a b c d k : Nat) (hc : c < 2 ^ k) (hd : d < 2 ^ k) : (2 ^ k * a + c) &&& (2 ^ k * b + d) = 2 ^ k * (a &&& b) + (c &&& d) := by
  apply Nat.eq_of_testBit_eq
  intro i
  rw [Nat.testBit_and, Nat.testBit_two_pow_mul_add _ hc, Nat.testBit_two_pow_mul_add _ hd, Nat.testBit_two_pow_mul_add _ (Nat.lt_of_le_of_lt Nat.and_le_left hc)]
  split
  · rw [Nat.testBit_and]
  · rw [Nat.testBit_and]
/-- a mask of n equal fields -/
def msk (k v : Nat) : Nat → Nat
  | 0 => 0
  | n + 1 => 2 ^ k * msk k v n + v
/-- the fields of x, k bits each, through f, put together again -/
def fld (k : Nat) (f : Nat → Nat) : Nat → Nat → Nat
  | 0, _ => 0
  | n + 1, x => 2 ^ k * fld k f n (x / 2 ^ k) + f (x % 2 ^ k)
theorem and_msk (k v : Nat) (hv : v < 2 ^ k) : ∀ n x, x &&& msk k v n = fld k (fun d => d &&& v) n x
  | 0, x => by simp [msk, fld]
  | n + 1, x => by
    have h := and_cut (x / 2 ^ k) (msk k v n) (x % 2 ^ k) v k (Nat.mod_lt _ (Nat.two_pow_pos k)) hv
    rw [Nat.div_add_mod] at h
    rw [show msk k v (n + 1) = 2 ^ k * msk k v n + v from rfl, h, and_msk k v hv n]
    rfl
