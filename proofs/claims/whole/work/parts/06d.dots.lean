/-! POPULATION COUNT, and what rests on it -/
def ct (p : Nat → Bool) : Nat → Nat
  | 0 => 0
  | n + 1 => ct p n + (if p n then 1 else 0)
theorem ct_le (p : Nat → Bool) : ∀ n, ct p n ≤ n
  | 0 => Nat.le_refl 0
  | n + 1 => by
    have := ct_le p n
    unfold ct
    split <;> omega
theorem ct_cong {p q : Nat → Bool} : ∀ {n : Nat}, (∀ i, i < n → p i = q i) → ct p n = ct q n
  | 0, _ => rfl
  | n + 1, h => by
    unfold ct
    rw [ct_cong (fun i hi => h i (by omega)), h n (by omega)]
def xN (x : Int64) : Nat := x.toBitVec.toNat
theorem xN_lt (x : Int64) : xN x < 2 ^ 64 := x.toBitVec.isLt
theorem xN_inj {x y : Int64} (h : xN x = xN y) : x = y := Int64.toBitVec_inj.mp (BitVec.eq_of_toNat_eq h)
theorem xN_tb (x : Int64) (i : Nat) : g64 x i = (xN x).testBit i := rfl
theorem xN_and (x y : Int64) : xN (x &&& y) = xN x &&& xN y := by unfold xN; rw [Int64.toBitVec_and, BitVec.toNat_and]
theorem xN_add (x y : Int64) : xN (x + y) = (xN x + xN y) % 2 ^ 64 := by unfold xN; rw [Int64.toBitVec_add, BitVec.toNat_add]
theorem xN_sub {x y : Int64} (h : xN y ≤ xN x) : xN (x - y) = xN x - xN y := by
  have h1 := xN_lt x
  unfold xN at *
  rw [Int64.toBitVec_sub, BitVec.toNat_sub]
  omega
theorem xN_ush (x : Int64) (s : UInt64) (k : Nat) (hs : s.toNat % 64 = k) : xN (x.toUInt64 >>> s).toInt64 = xN x / 2 ^ k := by
  show (x.toUInt64 >>> s).toBitVec.toNat = _
  rw [UInt64.toBitVec_shiftRight]
  show (x.toUInt64.toBitVec >>> (s.toBitVec % 64).toNat).toNat = _
  rw [BitVec.toNat_ushiftRight, Nat.shiftRight_eq_div_pow]
  congr 2
/-- the count of ones of a number below 2 ^ n -/
def pc : Nat → Nat → Nat
  | 0, _ => 0
  | n + 1, x => pc n (x / 2) + x % 2
theorem pc_ct (n : Nat) : ∀ x, pc n x = ct (fun i => x.testBit i) n := by
  have key : ∀ n (p : Nat → Bool), ct p (n + 1) = ct (fun i => p (i + 1)) n + (if p 0 then 1 else 0) := by
    intro n
    induction n with
    | zero => intro p; simp [ct]
    | succ n ih =>
      intro p
      rw [show ct p (n + 1 + 1) = ct p (n + 1) + (if p (n + 1) then 1 else 0) from rfl, ih p, show ct (fun i => p (i + 1)) (n + 1) = ct (fun i => p (i + 1)) n + (if p (n + 1) then 1 else 0) from rfl]
      omega
  induction n with
  | zero => intro x; rfl
  | succ n ih =>
    intro x
    rw [show pc (n + 1) x = pc n (x / 2) + x % 2 from rfl, ih, key]
    congr 1
    · apply ct_cong; intro i _; rw [Nat.testBit_succ]
    · rw [Nat.testBit_zero]
      have : x % 2 = 0 ∨ x % 2 = 1 := by omega
      rcases this with h | h <;> simp [h]
/-- and of numbers cut at a place -/
theorem and_cut (a b c d k : Nat) (hc : c < 2 ^ k) (hd : d < 2 ^ k) : (2 ^ k * a + c) &&& (2 ^ k * b + d) = 2 ^ k * (a &&& b) + (c &&& d) := by
  apply Nat.eq_of_testBit_eq
  intro i
  rw [Nat.testBit_and, Nat.testBit_two_pow_mul_add _ hc, Nat.testBit_two_pow_mul_add _ hd, Nat.testBit_two_pow_mul_add _ (Nat.lt_of_le_of_lt Nat.and_le_left hc)]
  split
  · rw [Nat.testBit_and]
  · rw [Nat.testBit_and]
theorem pc_le : ∀ n x, pc n x ≤ n
  | 0, _ => Nat.le_refl 0
  | n + 1, x => by
    have := pc_le n (x / 2)
    show pc n (x / 2) + x % 2 ≤ n + 1
    omega
theorem pc_add (n : Nat) : ∀ m x, pc (m + n) x = pc m x + pc n (x / 2 ^ m)
  | 0, x => by simp [pc]
  | m + 1, x => by
    rw [show m + 1 + n = m + n + 1 by omega]
    show pc (m + n) (x / 2) + x % 2 = pc m (x / 2) + x % 2 + _
    rw [pc_add n m, Nat.div_div_eq_div_mul, Nat.pow_succ, Nat.mul_comm 2]
    omega
/-- fields: f of what stands from each field on, put together -/
def fs (k : Nat) (f : Nat → Nat) : Nat → Nat → Nat
  | 0, _ => 0
  | n + 1, x => 2 ^ k * fs k f n (x / 2 ^ k) + f x
/-- a mask of n equal fields -/
def msk (k v : Nat) : Nat → Nat
  | 0 => 0
  | n + 1 => 2 ^ k * msk k v n + v
theorem fs_cong {k : Nat} {f g : Nat → Nat} (h : ∀ d, f d = g d) : ∀ n x, fs k f n x = fs k g n x := by
  have : f = g := funext h
  rw [this]; intro n x; rfl
theorem fs_id (k : Nat) : ∀ n x, x < 2 ^ (k * n) → fs k (fun d => d % 2 ^ k) n x = x
  | 0, x, h => by simp at h; simp [fs, h]
  | n + 1, x, h => by
    show 2 ^ k * fs k _ n (x / 2 ^ k) + x % 2 ^ k = x
    rw [fs_id k n (x / 2 ^ k) (by rw [Nat.div_lt_iff_lt_mul (Nat.two_pow_pos k), ← Nat.pow_add, Nat.mul_comm]; rw [Nat.mul_add, Nat.mul_one] at h; rwa [Nat.mul_comm n k])]
    exact Nat.div_add_mod x (2 ^ k)
theorem fs_add (k : Nat) (f g : Nat → Nat) : ∀ n x, fs k (fun d => f d + g d) n x = fs k f n x + fs k g n x
  | 0, _ => rfl
  | n + 1, x => by
    show 2 ^ k * fs k _ n _ + (f x + g x) = (2 ^ k * fs k f n _ + f x) + (2 ^ k * fs k g n _ + g x)
    rw [fs_add k f g n, Nat.mul_add]; omega
/-- shifted, then masked -/
theorem fs_sh (k s v : Nat) (g : Nat → Nat) (hs : s ≤ k) (hg : ∀ d, g d < 2 ^ k) (hv : v < 2 ^ (k - s)) : ∀ n x, (fs k g n x / 2 ^ s) &&& msk k v n = fs k (fun d => g d / 2 ^ s &&& v) n x
  | 0, x => by simp [fs, msk]
  | n + 1, x => by
    have ih := fs_sh k s v g hs hg hv n (x / 2 ^ k)
    show (2 ^ k * fs k g n (x / 2 ^ k) + g x) / 2 ^ s &&& (2 ^ k * msk k v n + v) = 2 ^ k * fs k _ n (x / 2 ^ k) + (g x / 2 ^ s &&& v)
    rw [← ih]
    have e : 2 ^ k = 2 ^ s * 2 ^ (k - s) := by rw [← Nat.pow_add]; congr 1; omega
    have hd : g x / 2 ^ s < 2 ^ (k - s) := by rw [Nat.div_lt_iff_lt_mul (Nat.two_pow_pos s), Nat.mul_comm, ← e]; exact hg x
    generalize fs k g n (x / 2 ^ k) = A
    have e1 : (2 ^ k * A + g x) / 2 ^ s = 2 ^ k * (A / 2 ^ s) + (2 ^ (k - s) * (A % 2 ^ s) + g x / 2 ^ s) := by
      rw [show 2 ^ k * A + g x = g x + 2 ^ s * (2 ^ (k - s) * A) by rw [e, Nat.mul_assoc, Nat.add_comm], Nat.add_mul_div_left _ _ (Nat.two_pow_pos s)]
      have h2 : 2 ^ (k - s) * A = 2 ^ k * (A / 2 ^ s) + 2 ^ (k - s) * (A % 2 ^ s) := by
        conv => lhs; rw [← Nat.div_add_mod A (2 ^ s)]
        rw [Nat.mul_add, ← Nat.mul_assoc, Nat.mul_comm (2 ^ (k - s)) (2 ^ s), ← e]
      omega
    have hlow : 2 ^ (k - s) * (A % 2 ^ s) + g x / 2 ^ s < 2 ^ k := by
      have h3 : A % 2 ^ s + 1 ≤ 2 ^ s := Nat.mod_lt _ (Nat.two_pow_pos s)
      have h4 := Nat.mul_le_mul_left (2 ^ (k - s)) h3
      rw [Nat.mul_comm (2 ^ (k - s)) (2 ^ s), ← e, Nat.mul_add, Nat.mul_one] at h4
      omega
    have hv2 : v < 2 ^ k := Nat.lt_of_lt_of_le hv (Nat.pow_le_pow_right (by decide) (by omega))
    rw [e1, and_cut _ _ _ _ k hlow hv2]
    congr 1
    have h5 := and_cut (A % 2 ^ s) 0 (g x / 2 ^ s) v (k - s) hd hv
    rw [Nat.mul_zero, Nat.zero_add, Nat.and_zero, Nat.mul_zero, Nat.zero_add] at h5
    exact h5
theorem fs_two (k : Nat) (f : Nat → Nat) : ∀ n x, fs k f (2 * n) x = fs (2 * k) (fun d => 2 ^ k * f (d / 2 ^ k) + f d) n x
  | 0, _ => rfl
  | n + 1, x => by
    show 2 ^ k * (2 ^ k * fs k f (2 * n) (x / 2 ^ k / 2 ^ k) + f (x / 2 ^ k)) + f x = 2 ^ (2 * k) * fs (2 * k) _ n (x / 2 ^ (2 * k)) + (2 ^ k * f (x / 2 ^ k) + f x)
    rw [fs_two k f n, Nat.div_div_eq_div_mul, ← Nat.pow_add, ← Nat.two_mul, Nat.mul_add, ← Nat.mul_assoc, ← Nat.pow_add, ← Nat.two_mul]
    omega
/-- the step of bytes: no carry, since no half of a byte is above 4 -/
theorem fs_by (p : Nat → Nat) (hp : ∀ d, p d ≤ 4) : ∀ n x, (fs 8 (fun d => 2 ^ 4 * p (d / 2 ^ 4) + p d) n x + fs 8 (fun d => 2 ^ 4 * p (d / 2 ^ 4) + p d) n x / 2 ^ 4) &&& msk 8 15 n = fs 8 (fun d => p (d / 2 ^ 4) + p d) n x
  | 0, x => by simp [fs, msk]
  | n + 1, x => by
    have ih := fs_by p hp n (x / 2 ^ 8)
    have hA : fs 8 (fun d => 2 ^ 4 * p (d / 2 ^ 4) + p d) n (x / 2 ^ 8) % 16 ≤ 4 := by
      cases n with
      | zero => show 0 % 16 ≤ 4; omega
      | succ n =>
        show (2 ^ 8 * _ + (2 ^ 4 * p _ + p (x / 2 ^ 8))) % 16 ≤ 4
        have := hp (x / 2 ^ 8)
        omega
    show ((2 ^ 8 * fs 8 _ n (x / 2 ^ 8) + (2 ^ 4 * p (x / 2 ^ 4) + p x)) + (2 ^ 8 * fs 8 _ n (x / 2 ^ 8) + (2 ^ 4 * p (x / 2 ^ 4) + p x)) / 2 ^ 4) &&& (2 ^ 8 * msk 8 15 n + 15) = 2 ^ 8 * fs 8 _ n (x / 2 ^ 8) + (p (x / 2 ^ 4) + p x)
    rw [← ih]
    generalize fs 8 (fun d => 2 ^ 4 * p (d / 2 ^ 4) + p d) n (x / 2 ^ 8) = A at hA
    have h1 := hp x
    have h2 := hp (x / 2 ^ 4)
    generalize p (x / 2 ^ 4) = u at h2
    generalize p x = w at h1
    have e : (2 ^ 8 * A + (2 ^ 4 * u + w)) + (2 ^ 8 * A + (2 ^ 4 * u + w)) / 2 ^ 4 = 2 ^ 8 * (A + A / 2 ^ 4) + (16 * (A % 16 + u) + (u + w)) := by omega
    rw [e, and_cut _ _ _ 15 8 (by omega) (by decide)]
    congr 1
    have h5 := and_cut (A % 16 + u) 0 (u + w) 15 4 (by omega) (by decide)
    rw [Nat.mul_zero, Nat.zero_add, Nat.and_zero, Nat.mul_zero, Nat.zero_add] at h5
    rw [show 16 = 2 ^ 4 from rfl, h5]
    exact (by decide : ∀ z, z < 16 → z &&& 15 = z) (u + w) (by omega)
theorem fs_le {k c : Nat} {f : Nat → Nat} (h : ∀ d, f d ≤ c) : ∀ n x, fs k f n x ≤ c * msk k 1 n
  | 0, x => by simp [fs]
  | n + 1, x => by
    have h1 := Nat.mul_le_mul_left (2 ^ k) (fs_le (k := k) h n (x / 2 ^ k))
    have h2 := h x
    show 2 ^ k * fs k f n _ + f x ≤ c * (2 ^ k * msk k 1 n + 1)
    rw [Nat.mul_add, Nat.mul_one, ← Nat.mul_assoc, Nat.mul_comm c, Nat.mul_assoc]
    omega
theorem fs_8 (q : Nat → Nat) (x : Nat) : fs 8 q 8 x = 256 * (256 * (256 * (256 * (256 * (256 * (256 * (q (x / 2 ^ 56)) + q (x / 2 ^ 48)) + q (x / 2 ^ 40)) + q (x / 2 ^ 32)) + q (x / 2 ^ 24)) + q (x / 2 ^ 16)) + q (x / 2 ^ 8)) + q x := by
  simp only [fs, Nat.div_div_eq_div_mul, Nat.reducePow, Nat.reduceMul, Nat.mul_zero, Nat.zero_add]
theorem pc_64 (x : Nat) : pc 64 x = pc 8 x + pc 8 (x / 2 ^ 8) + pc 8 (x / 2 ^ 16) + pc 8 (x / 2 ^ 24) + pc 8 (x / 2 ^ 32) + pc 8 (x / 2 ^ 40) + pc 8 (x / 2 ^ 48) + pc 8 (x / 2 ^ 56) := by
  have a8 : ∀ y, pc 64 y = pc 8 y + pc 56 (y / 2 ^ 8) := fun y => pc_add 56 8 y
  have a7 : ∀ y, pc 56 y = pc 8 y + pc 48 (y / 2 ^ 8) := fun y => pc_add 48 8 y
  have a6 : ∀ y, pc 48 y = pc 8 y + pc 40 (y / 2 ^ 8) := fun y => pc_add 40 8 y
  have a5 : ∀ y, pc 40 y = pc 8 y + pc 32 (y / 2 ^ 8) := fun y => pc_add 32 8 y
  have a4 : ∀ y, pc 32 y = pc 8 y + pc 24 (y / 2 ^ 8) := fun y => pc_add 24 8 y
  have a3 : ∀ y, pc 24 y = pc 8 y + pc 16 (y / 2 ^ 8) := fun y => pc_add 16 8 y
  have a2 : ∀ y, pc 16 y = pc 8 y + pc 8 (y / 2 ^ 8) := fun y => pc_add 8 8 y
  rw [a8, a7, a6, a5, a4, a3, a2]
  simp only [Nat.div_div_eq_div_mul, ← Nat.pow_add, Nat.reduceAdd, Nat.add_assoc]
theorem b_127 : ∀ i, i < 32 → bt 127 i = decide (i < 7) := by decide +kernel
theorem bt_nI {m i : Nat} (hi : i < 32) : bt (nI m) i = m.testBit i := by
  show (BitVec.ofNat 32 m).getLsbD i = _
  rw [BitVec.getLsbD_ofNat]; simp [hi]
theorem bt_toI (x : Int64) {i : Nat} (hi : i < 32) : bt x.toInt32 i = g64 x i := by
  unfold bt g64
  rw [Int64.toBitVec_toInt32, BitVec.getLsbD_signExtend]
  simp [hi, show i < 64 by omega]
theorem cut_127 (x : Int64) : x.toInt32 &&& 127 = nI (xN x % 2 ^ 7) := by
  apply b_ext
  intro i hi
  rw [b_and, b_127 i hi, bt_nI hi, bt_toI x hi, Nat.testBit_mod_two_pow, xN_tb]
  cases decide (i < 7) <;> simp
theorem dv_8 {A v : Nat} (h : v < 256) : (256 * A + v) / 256 = A := by omega
theorem by_1 {n0 n1 n2 n3 n4 n5 n6 n7 : Nat} (h0 : n0 ≤ 8) (h1 : n1 ≤ 8) (h2 : n2 ≤ 8) (h3 : n3 ≤ 8) (h4 : n4 ≤ 8) (h5 : n5 ≤ 8) (h6 : n6 ≤ 8) (h7 : n7 ≤ 8) : 256 * (256 * (256 * (256 * (256 * (256 * (256 * (n7) + n6) + n5) + n4) + n3) + n2) + n1) + n0 + (256 * (256 * (256 * (256 * (256 * (256 * (256 * (n7) + n6) + n5) + n4) + n3) + n2) + n1) + n0) / 2 ^ 8 = 256 * (256 * (256 * (256 * (256 * (256 * (256 * (n7) + (n6 + n7)) + (n5 + n6)) + (n4 + n5)) + (n3 + n4)) + (n2 + n3)) + (n1 + n2)) + (n0 + n1) := by
  rw [show 2 ^ 8 = 256 from rfl, dv_8 (show n0 < 256 by omega)]
  clear h0 h1 h2 h3 h4 h5 h6 h7
  omega
theorem by_2 {n0 n1 n2 n3 n4 n5 n6 n7 : Nat} (h0 : n0 ≤ 16) (h1 : n1 ≤ 16) (h2 : n2 ≤ 16) (h3 : n3 ≤ 16) (h4 : n4 ≤ 16) (h5 : n5 ≤ 16) (h6 : n6 ≤ 16) (h7 : n7 ≤ 16) : 256 * (256 * (256 * (256 * (256 * (256 * (256 * (n7) + n6) + n5) + n4) + n3) + n2) + n1) + n0 + (256 * (256 * (256 * (256 * (256 * (256 * (256 * (n7) + n6) + n5) + n4) + n3) + n2) + n1) + n0) / 2 ^ 16 = 256 * (256 * (256 * (256 * (256 * (256 * (256 * (n7) + n6) + (n5 + n7)) + (n4 + n6)) + (n3 + n5)) + (n2 + n4)) + (n1 + n3)) + (n0 + n2) := by
  rw [show 2 ^ 16 = 256 * 256 from rfl, ← Nat.div_div_eq_div_mul, dv_8 (show n0 < 256 by omega), dv_8 (show n1 < 256 by omega)]
  clear h0 h1 h2 h3 h4 h5 h6 h7
  omega
theorem by_3 {n0 n1 n2 n3 n4 n5 n6 n7 : Nat} (h0 : n0 ≤ 32) (h1 : n1 ≤ 32) (h2 : n2 ≤ 32) (h3 : n3 ≤ 32) (h4 : n4 ≤ 32) (h5 : n5 ≤ 32) (h6 : n6 ≤ 32) (h7 : n7 ≤ 32) : (256 * (256 * (256 * (256 * (256 * (256 * (256 * (n7) + n6) + n5) + n4) + n3) + n2) + n1) + n0 + (256 * (256 * (256 * (256 * (256 * (256 * (256 * (n7) + n6) + n5) + n4) + n3) + n2) + n1) + n0) / 2 ^ 32) % 2 ^ 7 = n0 + n4 := by
  rw [show 2 ^ 32 = 256 * 256 * 256 * 256 from rfl, ← Nat.div_div_eq_div_mul, ← Nat.div_div_eq_div_mul, ← Nat.div_div_eq_div_mul, dv_8 (show n0 < 256 by omega), dv_8 (show n1 < 256 by omega), dv_8 (show n2 < 256 by omega), dv_8 (show n3 < 256 by omega)]
  generalize 256 * (256 * (256 * (256 * (256 * (256 * (n7) + n6) + n5) + n4) + n3) + n2) + n1 = P
  generalize 256 * (256 * (n7) + n6) + n5 = Q
  clear h1 h2 h3 h5 h6 h7
  omega
theorem by_b {n0 n1 n2 n3 n4 n5 n6 n7 : Nat} (h0 : n0 ≤ 32) (h1 : n1 ≤ 32) (h2 : n2 ≤ 32) (h3 : n3 ≤ 32) (h4 : n4 ≤ 32) (h5 : n5 ≤ 32) (h6 : n6 ≤ 32) (h7 : n7 ≤ 32) : 256 * (256 * (256 * (256 * (256 * (256 * (256 * (n7) + n6) + n5) + n4) + n3) + n2) + n1) + n0 < 2 ^ 62 := by omega
theorem by_d (V k : Nat) (h : V < 2 ^ 62) : (V + V / 2 ^ k) % 2 ^ 64 = V + V / 2 ^ k := by
  have := Nat.div_le_self V (2 ^ k)
  exact Nat.mod_eq_of_lt (by omega)
theorem s_bits (x : Int64) (h : eH) : F_J13_bitCount_95d88 x h = some (nI (ct (g64 x) 64), h) := by
  have hx := xN_lt x
  have m5 : xN 6148914691236517205 = msk 2 1 32 := by decide +kernel
  have m3 : xN 3689348814741910323 = msk 4 3 16 := by decide +kernel
  have mf : xN 1085102592571150095 = msk 8 15 8 := by decide +kernel
  unfold F_J13_bitCount_95d88
  simp only [e_let]
  -- two bits
  have a1 : xN ((x.toUInt64 >>> ((1 : Int32).toInt64.toUInt64 &&& Int64.toUInt64 63)).toInt64 &&& 6148914691236517205) = fs 2 (fun d => d % 2 ^ 2 / 2 ^ 1 &&& 1) 32 (xN x) := by
    rw [xN_and, xN_ush x _ 1 (by decide +kernel), m5]
    have := fs_sh 2 1 1 (fun d => d % 2 ^ 2) (by decide) (fun d => Nat.mod_lt _ (by decide)) (by decide) 32 (xN x)
    rw [fs_id 2 32 (xN x) hx] at this
    exact this
  have a2 : xN x = fs 2 (pc 2) 32 (xN x) + fs 2 (fun d => d % 2 ^ 2 / 2 ^ 1 &&& 1) 32 (xN x) := by
    rw [← fs_add]
    conv => lhs; rw [← fs_id 2 32 (xN x) hx]
    refine fs_cong (fun d => ?_) 32 (xN x)
    show d % 4 = (0 + d / 2 % 2 + d % 2) + (d % 4 / 2 &&& 1)
    rw [Nat.and_one_is_mod]
    omega
  have a3 : xN (x - ((x.toUInt64 >>> ((1 : Int32).toInt64.toUInt64 &&& Int64.toUInt64 63)).toInt64 &&& 6148914691236517205)) = fs 2 (pc 2) (2 * 16) (xN x) := by
    show _ = fs 2 (pc 2) 32 (xN x)
    rw [xN_sub (by rw [a1]; omega), a1]; omega
  generalize (x - ((x.toUInt64 >>> ((1 : Int32).toInt64.toUInt64 &&& Int64.toUInt64 63)).toInt64 &&& 6148914691236517205)) = v1 at a3
  rw [fs_two] at a3
  -- four bits
  have g2 : ∀ d, pc 2 d ≤ 2 := pc_le 2
  have g3 : ∀ d, 2 ^ 2 * pc 2 (d / 2 ^ 2) + pc 2 d < 2 ^ 4 := fun d => by have := g2 d; have := g2 (d / 2 ^ 2); omega
  have b1 : xN (v1 &&& 3689348814741910323) = fs 4 (pc 2) 16 (xN x) := by
    rw [xN_and, m3, a3]
    have := fs_sh 4 0 3 _ (by decide) g3 (by decide) 16 (xN x)
    rw [Nat.pow_zero, Nat.div_one] at this
    refine Eq.trans this (fs_cong (fun d => ?_) 16 _)
    have h1 := g2 d
    have h2 := g2 (d / 2 ^ 2)
    exact (by decide : ∀ u, u < 3 → ∀ w, w < 3 → (2 ^ 2 * u + w) / 1 &&& 3 = w) _ (by omega) _ (by omega)
  have b2 : xN ((v1.toUInt64 >>> ((2 : Int32).toInt64.toUInt64 &&& Int64.toUInt64 63)).toInt64 &&& 3689348814741910323) = fs 4 (fun d => pc 2 (d / 2 ^ 2)) 16 (xN x) := by
    rw [xN_and, xN_ush v1 _ 2 (by decide +kernel), m3, a3]
    refine Eq.trans (fs_sh 4 2 3 _ (by decide) g3 (by decide) 16 (xN x)) (fs_cong (fun d => ?_) 16 _)
    have h1 := g2 d
    have h2 := g2 (d / 2 ^ 2)
    exact (by decide : ∀ u, u < 3 → ∀ w, w < 3 → (2 ^ 2 * u + w) / 2 ^ 2 &&& 3 = u) _ (by omega) _ (by omega)
  have b4 : fs 4 (pc 2) 16 (xN x) + fs 4 (fun d => pc 2 (d / 2 ^ 2)) 16 (xN x) = fs 4 (pc 4) (2 * 8) (xN x) := by
    rw [← fs_add]
    exact fs_cong (fun d => (pc_add 2 2 d).symm) 16 _
  have l4 : fs 4 (pc 4) (2 * 8) (xN x) ≤ 4 * msk 4 1 16 := fs_le (pc_le 4) 16 (xN x)
  have k4 : msk 4 1 16 = 1229782938247303441 := by decide +kernel
  have b3 : xN ((v1 &&& 3689348814741910323) + ((v1.toUInt64 >>> ((2 : Int32).toInt64.toUInt64 &&& Int64.toUInt64 63)).toInt64 &&& 3689348814741910323)) = fs 4 (pc 4) (2 * 8) (xN x) := by
    rw [xN_add, b1, b2, b4, Nat.mod_eq_of_lt (by omega)]
  generalize ((v1 &&& 3689348814741910323) + ((v1.toUInt64 >>> ((2 : Int32).toInt64.toUInt64 &&& Int64.toUInt64 63)).toInt64 &&& 3689348814741910323)) = v2 at b3
  -- bytes
  have c1 : xN ((v2 + (v2.toUInt64 >>> ((4 : Int32).toInt64.toUInt64 &&& Int64.toUInt64 63)).toInt64) &&& 1085102592571150095) = fs 8 (pc 8) 8 (xN x) := by
    rw [xN_and, xN_add, xN_ush v2 _ 4 (by decide +kernel), mf, b3, Nat.mod_eq_of_lt (by omega), fs_two]
    refine Eq.trans (fs_by (pc 4) (pc_le 4) 8 (xN x)) (fs_cong (fun d => ?_) 8 _)
    rw [pc_add 4 4 d]; omega
  generalize ((v2 + (v2.toUInt64 >>> ((4 : Int32).toInt64.toUInt64 &&& Int64.toUInt64 63)).toInt64) &&& 1085102592571150095) = v3 at c1
  rw [fs_8] at c1
  have e : ct (g64 x) 64 = pc 64 (xN x) := (pc_ct 64 (xN x)).symm
  rw [e, pc_64]
  have p8 := pc_le 8
  have q0 := p8 (xN x)
  have q1 := p8 (xN x / 2 ^ 8)
  have q2 := p8 (xN x / 2 ^ 16)
  have q3 := p8 (xN x / 2 ^ 24)
  have q4 := p8 (xN x / 2 ^ 32)
  have q5 := p8 (xN x / 2 ^ 40)
  have q6 := p8 (xN x / 2 ^ 48)
  have q7 := p8 (xN x / 2 ^ 56)
  generalize pc 8 (xN x) = n0 at *
  generalize pc 8 (xN x / 2 ^ 8) = n1 at *
  generalize pc 8 (xN x / 2 ^ 16) = n2 at *
  generalize pc 8 (xN x / 2 ^ 24) = n3 at *
  generalize pc 8 (xN x / 2 ^ 32) = n4 at *
  generalize pc 8 (xN x / 2 ^ 40) = n5 at *
  generalize pc 8 (xN x / 2 ^ 48) = n6 at *
  generalize pc 8 (xN x / 2 ^ 56) = n7 at *
  rw [cut_127, xN_add, xN_ush _ _ 32 (by decide +kernel), xN_add, xN_ush _ _ 16 (by decide +kernel), xN_add, xN_ush _ _ 8 (by decide +kernel), c1]
  clear c1 b3 a3 l4 b4 a2 m5 m3 mf k4
  congr 3
  clear hx g2 g3 p8
  have t1 := by_1 q0 q1 q2 q3 q4 q5 q6 q7
  have t0 := by_b (Nat.le_trans q0 (by decide)) (Nat.le_trans q1 (by decide)) (Nat.le_trans q2 (by decide)) (Nat.le_trans q3 (by decide)) (Nat.le_trans q4 (by decide)) (Nat.le_trans q5 (by decide)) (Nat.le_trans q6 (by decide)) (Nat.le_trans q7 (by decide))
  have a0 : n0 + n1 ≤ 16 := by omega
  have a1 : n1 + n2 ≤ 16 := by omega
  have a2 : n2 + n3 ≤ 16 := by omega
  have a3 : n3 + n4 ≤ 16 := by omega
  have a4 : n4 + n5 ≤ 16 := by omega
  have a5 : n5 + n6 ≤ 16 := by omega
  have a6 : n6 + n7 ≤ 16 := by omega
  have a7 : n7 ≤ 16 := by omega
  have b0 : (n0 + n1) + (n2 + n3) ≤ 32 := by omega
  have b1 : (n1 + n2) + (n3 + n4) ≤ 32 := by omega
  have b2 : (n2 + n3) + (n4 + n5) ≤ 32 := by omega
  have b3 : (n3 + n4) + (n5 + n6) ≤ 32 := by omega
  have b4 : (n4 + n5) + (n6 + n7) ≤ 32 := by omega
  have b5 : (n5 + n6) + (n7) ≤ 32 := by omega
  have b6 : n6 + n7 ≤ 32 := by omega
  have b7 : n7 ≤ 32 := by omega
  have t2 := by_2 a0 a1 a2 a3 a4 a5 a6 a7
  have t3 := by_3 b0 b1 b2 b3 b4 b5 b6 b7
  have u1 := by_b (Nat.le_trans a0 (by decide)) (Nat.le_trans a1 (by decide)) (Nat.le_trans a2 (by decide)) (Nat.le_trans a3 (by decide)) (Nat.le_trans a4 (by decide)) (Nat.le_trans a5 (by decide)) (Nat.le_trans a6 (by decide)) (Nat.le_trans a7 (by decide))
  have u2 := by_b b0 b1 b2 b3 b4 b5 b6 b7
  rw [by_d _ 8 t0, t1, by_d _ 16 u1, t2, by_d _ 32 u2, t3]
  clear t0 t1 t2 t3 u1 u2
  omega
