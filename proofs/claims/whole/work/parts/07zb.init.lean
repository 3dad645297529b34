/-! THE FIRST HEAP: the constructors, operation by operation; hT B t is the heap after t of them -/
def iAl : List Nat := [0, 1, 2, 5, 6, 9, 11, 13, 14, 16, 19, 21, 22, 28, 29, 30, 32, 34, 36, 38, 39, 42, 43, 46, 47, 50, 51, 55, 57, 58, 59, 65, 66, 67, 73, 74, 75, 81, 82, 83, 90, 91, 92, 94, 96, 98, 100, 101, 104, 105, 108, 109, 112, 113, 117, 119, 120, 121, 127, 128, 129, 135, 136, 137, 143, 144, 145, 152, 153, 154, 156, 158, 160, 162, 163, 166, 167, 170, 171, 174, 175, 179, 181, 182, 183, 189, 190, 191, 197, 198, 199, 205, 206, 207, 214, 215, 216, 218, 220, 222, 224, 225, 228, 229, 232, 233, 236, 237, 241, 243, 244, 245, 251, 252, 253, 259, 260, 261, 267, 268, 269, 276, 279, 282, 285, 288, 289, 291, 293, 295, 297, 299, 301, 303, 305, 307, 309, 311, 313, 315, 317, 319, 321, 323, 325, 327, 329, 331, 333, 335, 337]
def iSt : List (List Nat) := [[4, 8, 10, 12, 18, 20, 24, 25, 26, 27], [3], [], [7], [], [89, 151, 213, 275], [278, 281, 284, 287], [15, 17], [], [], [], [23], [], [54, 56], [31, 33, 35, 37, 41, 45, 49, 53], [], [], [], [], [40], [], [44], [], [48], [], [52], [], [64, 72, 80, 88], [62, 63, 61], [60], [], [70, 71, 69], [68], [], [78, 79, 77], [76], [], [86, 87, 85], [84], [], [116, 118], [93, 95, 97, 99, 103, 107, 111, 115], [], [], [], [], [102], [], [106], [], [110], [], [114], [], [126, 134, 142, 150], [124, 125, 123], [122], [], [132, 133, 131], [130], [], [140, 141, 139], [138], [], [148, 149, 147], [146], [], [178, 180], [155, 157, 159, 161, 165, 169, 173, 177], [], [], [], [], [164], [], [168], [], [172], [], [176], [], [188, 196, 204, 212], [186, 187, 185], [184], [], [194, 195, 193], [192], [], [202, 203, 201], [200], [], [210, 211, 209], [208], [], [240, 242], [217, 219, 221, 223, 227, 231, 235, 239], [], [], [], [], [226], [], [230], [], [234], [], [238], [], [250, 258, 266, 274], [248, 249, 247], [246], [], [256, 257, 255], [254], [], [264, 265, 263], [262], [], [272, 273, 271], [270], [], [277], [280], [283], [286], [100000, 100000, 100000, 100000, 290, 100000, 292, 294, 296, 298, 300, 302, 304, 306, 308, 310, 312, 314, 316, 318, 320, 100000, 322, 324, 100000, 326, 100000, 100000, 100000, 100000, 100000, 100000, 100000, 100000, 328, 100000, 330, 332, 334, 336, 338], [], [], [], [], [], [], [], [], [], [], [], [], [], [], [], [], [], [], [], [], [], [], [], [], []]
def iIv : List Nat := [99, 199, 299, 100, 0, 399, 499, 300, 1, 599, 2, 699, 3, 799, 899, 700, 999, 701, 4, 1099, 5, 1199, 1299, 1100, 6, 7, 8, 9, 1399, 1499, 1599, 1400, 1699, 1401, 1799, 1402, 1899, 1403, 1999, 2099, 1900, 1404, 2199, 2299, 2100, 1405, 2399, 2499, 2300, 1406, 2599, 2699, 2500, 1407, 1300, 2799, 1301, 2899, 2999, 3099, 2900, 2802, 2800, 2801, 2700, 3199, 3299, 3399, 3200, 3102, 3100, 3101, 2701, 3499, 3599, 3699, 3500, 3402, 3400, 3401, 2702, 3799, 3899, 3999, 3800, 3702, 3700, 3701, 2703, 500, 4099, 4199, 4299, 4100, 4399, 4101, 4499, 4102, 4599, 4103, 4699, 4799, 4600, 4104, 4899, 4999, 4800, 4105, 5099, 5199, 5000, 4106, 5299, 5399, 5200, 4107, 4000, 5499, 4001, 5599, 5699, 5799, 5600, 5502, 5500, 5501, 5400, 5899, 5999, 6099, 5900, 5802, 5800, 5801, 5401, 6199, 6299, 6399, 6200, 6102, 6100, 6101, 5402, 6499, 6599, 6699, 6500, 6402, 6400, 6401, 5403, 501, 6799, 6899, 6999, 6800, 7099, 6801, 7199, 6802, 7299, 6803, 7399, 7499, 7300, 6804, 7599, 7699, 7500, 6805, 7799, 7899, 7700, 6806, 7999, 8099, 7900, 6807, 6700, 8199, 6701, 8299, 8399, 8499, 8300, 8202, 8200, 8201, 8100, 8599, 8699, 8799, 8600, 8502, 8500, 8501, 8101, 8899, 8999, 9099, 8900, 8802, 8800, 8801, 8102, 9199, 9299, 9399, 9200, 9102, 9100, 9101, 8103, 502, 9499, 9599, 9699, 9500, 9799, 9501, 9899, 9502, 9999, 9503, 10099, 10199, 10000, 9504, 10299, 10399, 10200, 9505, 10499, 10599, 10400, 9506, 10699, 10799, 10600, 9507, 9400, 10899, 9401, 10999, 11099, 11199, 11000, 10902, 10900, 10901, 10800, 11299, 11399, 11499, 11300, 11202, 11200, 11201, 10801, 11599, 11699, 11799, 11600, 11502, 11500, 11501, 10802, 11899, 11999, 12099, 11900, 11802, 11800, 11801, 10803, 503, 12199, 12100, 600, 12299, 12200, 601, 12399, 12300, 602, 12499, 12400, 603, 12599, 12699, 12504, 12799, 12506, 12899, 12507, 12999, 12508, 13099, 12509, 13199, 12510, 13299, 12511, 13399, 12512, 13499, 12513, 13599, 12514, 13699, 12515, 13799, 12516, 13899, 12517, 13999, 12518, 14099, 12519, 14199, 12520, 14299, 12522, 14399, 12523, 14499, 12525, 14599, 12534, 14699, 12536, 14799, 12537, 14899, 12538, 14999, 12539, 15099, 12540]
def ial (c : Nat) : Nat := iAl.getD c 100000
def ist (c k : Nat) : Nat := (iSt.getD c []).getD k 100000
def iI0 (c k : Nat) : Int32 := if c = 0 then (if k = 7 then 3 else if k = 8 ∨ k = 9 then 4 else 0) else if 121 ≤ c ∧ c < 125 ∧ k = 0 then -1 else if 13 ≤ c ∧ c < 121 ∧ 15 ≤ (c - 13) % 27 ∧ ((c - 13) % 27 - 15) % 3 = 0 ∧ k = 0 then nI (((c - 13) % 27 - 15) / 3) else 0
def dfV (ci n : Nat) : Nat → Value := fun k => if k < n then (match m_fk ci k with | 0 => .int 0 | 1 => .long 0 | _ => .null) else m_jk ci
def m_cA (B : Nat) (a : Bool) (q : Nat → Bool) (c : Nat) : Option eO :=
  if a = true then (match m_sh c with
  | (1, ci, n) => some (oB ci (fun k => if k < n then (match m_fk ci k with | 0 => .int (if q k = true then iI0 c k else 0) | 1 => .long 0 | _ => if q k = true then .ref (B + m_rf c k) else .null) else m_jk ci))
  | (2, t, n) => some (oI t n (fun _ => 0))
  | (3, _, n) => some (oL 1 n (fun _ => 0))
  | (4, t, n) => some (oR t n (fun k => if k < n then (if q k = true then some (B + m_rf c k) else none) else none))
  | _ => none) else none
def m_cT (B t c : Nat) : Option eO := m_cA B (decide (ial c < t)) (fun k => decide (ist c k < t)) c
def hT (B t : Nat) : eH := fun a => if a < B then none else m_cT B t (a - B)
theorem dv0 : (fun k => defaultValue (tyX0 k)) = dfV 0 3 := by
  funext k
  exact (match k with
    | 0 => rfl
    | 1 => rfl
    | 2 => rfl
    | k + 3 => by
      unfold dfV
      rw [if_neg (by omega)]
      rfl)
theorem dv1 : (fun k => defaultValue (tyX1 k)) = dfV 1 1 := by
  funext k
  exact (match k with
    | 0 => rfl
    | k + 1 => by
      unfold dfV
      rw [if_neg (by omega)]
      rfl)
theorem dv2 : (fun k => defaultValue (tyX2 k)) = dfV 2 3 := by
  funext k
  exact (match k with
    | 0 => rfl
    | 1 => rfl
    | 2 => rfl
    | k + 3 => by
      unfold dfV
      rw [if_neg (by omega)]
      rfl)
theorem dv3 : (fun k => defaultValue (tyX3 k)) = dfV 3 11 := by
  funext k
  exact (match k with
    | 0 => rfl
    | 1 => rfl
    | 2 => rfl
    | 3 => rfl
    | 4 => rfl
    | 5 => rfl
    | 6 => rfl
    | 7 => rfl
    | 8 => rfl
    | 9 => rfl
    | 10 => rfl
    | k + 11 => by
      unfold dfV
      rw [if_neg (by omega)]
      rfl)
theorem dv4 : (fun k => defaultValue (tyX4 k)) = dfV 4 2 := by
  funext k
  exact (match k with
    | 0 => rfl
    | 1 => rfl
    | k + 2 => by
      unfold dfV
      rw [if_neg (by omega)]
      rfl)
theorem dv5 : (fun k => defaultValue (tyX5 k)) = dfV 5 3 := by
  funext k
  exact (match k with
    | 0 => rfl
    | 1 => rfl
    | 2 => rfl
    | k + 3 => by
      unfold dfV
      rw [if_neg (by omega)]
      rfl)
theorem dv6 : (fun k => defaultValue (tyX6 k)) = dfV 6 4 := by
  funext k
  exact (match k with
    | 0 => rfl
    | 1 => rfl
    | 2 => rfl
    | 3 => rfl
    | k + 4 => by
      unfold dfV
      rw [if_neg (by omega)]
      rfl)
theorem dv7 : (fun k => defaultValue (tyX7 k)) = dfV 7 6 := by
  funext k
  exact (match k with
    | 0 => rfl
    | 1 => rfl
    | 2 => rfl
    | 3 => rfl
    | 4 => rfl
    | 5 => rfl
    | k + 6 => by
      unfold dfV
      rw [if_neg (by omega)]
      rfl)
theorem dv8 : (fun k => defaultValue (tyX8 k)) = dfV 8 4 := by
  funext k
  exact (match k with
    | 0 => rfl
    | 1 => rfl
    | 2 => rfl
    | 3 => rfl
    | k + 4 => by
      unfold dfV
      rw [if_neg (by omega)]
      rfl)
theorem dv9 : (fun k => defaultValue (tyX10 k)) = dfV 9 5 := by
  funext k
  exact (match k with
    | 0 => rfl
    | 1 => rfl
    | 2 => rfl
    | 3 => rfl
    | 4 => rfl
    | k + 5 => by
      unfold dfV
      rw [if_neg (by omega)]
      rfl)
theorem dv10 : (fun k => defaultValue (tyX11 k)) = dfV 10 12 := by
  funext k
  exact (match k with
    | 0 => rfl
    | 1 => rfl
    | 2 => rfl
    | 3 => rfl
    | 4 => rfl
    | 5 => rfl
    | 6 => rfl
    | 7 => rfl
    | 8 => rfl
    | 9 => rfl
    | 10 => rfl
    | 11 => rfl
    | k + 12 => by
      unfold dfV
      rw [if_neg (by omega)]
      rfl)
theorem dv11 : (fun k => defaultValue (tyX12 k)) = dfV 11 41 := by
  funext k
  exact (match k with
    | 0 => rfl
    | 1 => rfl
    | 2 => rfl
    | 3 => rfl
    | 4 => rfl
    | 5 => rfl
    | 6 => rfl
    | 7 => rfl
    | 8 => rfl
    | 9 => rfl
    | 10 => rfl
    | 11 => rfl
    | 12 => rfl
    | 13 => rfl
    | 14 => rfl
    | 15 => rfl
    | 16 => rfl
    | 17 => rfl
    | 18 => rfl
    | 19 => rfl
    | 20 => rfl
    | 21 => rfl
    | 22 => rfl
    | 23 => rfl
    | 24 => rfl
    | 25 => rfl
    | 26 => rfl
    | 27 => rfl
    | 28 => rfl
    | 29 => rfl
    | 30 => rfl
    | 31 => rfl
    | 32 => rfl
    | 33 => rfl
    | 34 => rfl
    | 35 => rfl
    | 36 => rfl
    | 37 => rfl
    | 38 => rfl
    | 39 => rfl
    | 40 => rfl
    | k + 41 => by
      unfold dfV
      rw [if_neg (by omega)]
      rfl)
theorem iv_al : ∀ c, c < 151 → iIv.getD (ial c) 0 = 100 * c + 99 ∧ ial c < 339 := by decide +kernel
theorem iv_st : ∀ c, c < 151 → ∀ k, k < 41 → ist c k ≠ 100000 → iIv.getD (ist c k) 0 = 100 * c + k ∧ ial c < ist c k := by decide +kernel
theorem iv_ln : ∀ c, c < 151 → (iSt.getD c []).length ≤ 41 := by decide +kernel
theorem iv_151 : iSt.length = 151 ∧ iAl.length = 151 := by decide +kernel
theorem m_sh_ge {c : Nat} (h : 151 ≤ c) : m_sh c = (0, 0, 0) := by
  unfold m_sh
  rw [if_neg (by omega), if_neg (by omega), if_neg (by omega), List.getD_eq_getElem?_getD, List.getElem?_eq_none (by show 26 ≤ c - 125; omega)]
  rfl
theorem ial_ge {c : Nat} (h : 151 ≤ c) : ial c = 100000 := by
  unfold ial
  rw [List.getD_eq_getElem?_getD, List.getElem?_eq_none (by rw [iv_151.2]; exact h)]
  rfl
theorem ist_ge {c k : Nat} (h : 151 ≤ c ∨ 41 ≤ k) : ist c k = 100000 := by
  unfold ist
  rcases Nat.lt_or_ge c 151 with e | e
  · have := iv_ln c e
    rw [List.getD_eq_getElem?_getD (l := iSt.getD c []), List.getElem?_eq_none (by omega)]
    rfl
  · rw [List.getD_eq_getElem?_getD (l := iSt) (i := c), List.getElem?_eq_none (by rw [iv_151.1]; exact e)]
    rfl
theorem iu {t c m : Nat} (ht : t < 100000) (h : iIv.getD t 0 = 100 * c + m) (hm : m < 100) : (∀ c', c' ≠ c → ial c' ≠ t ∧ ∀ k, ist c' k ≠ t) ∧ ∀ k, ist c k = t → k = m := by
  refine ⟨fun c' hc => ⟨fun e => ?_, fun k e => ?_⟩, fun k e => ?_⟩
  · rcases Nat.lt_or_ge c' 151 with w | w
    · have := (iv_al c' w).1; rw [e, h] at this; omega
    · rw [ial_ge w] at e; omega
  · rcases Nat.lt_or_ge c' 151 with w | w
    · rcases Nat.lt_or_ge k 41 with w2' | w2'
      · have := (iv_st c' w k w2' (by omega)).1; rw [e, h] at this; omega
      · rw [ist_ge (Or.inr w2')] at e; omega
    · rw [ist_ge (Or.inl w)] at e; omega
  · rcases Nat.lt_or_ge c 151 with w | w
    · rcases Nat.lt_or_ge k 41 with w2' | w2'
      · have := (iv_st c w k w2' (by omega)).1; rw [e, h] at this; omega
      · rw [ist_ge (Or.inr w2')] at e; omega
    · rw [ist_ge (Or.inl w)] at e; omega
section INIT
variable {B t c k n ci t2 : Nat}
theorem hT_at : hT B t (B + c) = m_cT B t c := by
  unfold hT
  rw [if_neg (by omega), Nat.add_sub_cancel_left]
theorem m_cT_S (h1 : ial c ≠ t) (h2 : ∀ k, ist c k ≠ t) : m_cT B (t + 1) c = m_cT B t c := by
  unfold m_cT
  have e1 : decide (ial c < t + 1) = decide (ial c < t) := decide_eq_decide.mpr (by omega)
  have e2 : (fun k => decide (ist c k < t + 1)) = (fun k => decide (ist c k < t)) := by
    funext k
    have := h2 k
    exact decide_eq_decide.mpr (by omega)
  rw [e1, e2]
theorem hT_set {o : eO} (ho : m_cT B (t + 1) c = some o) (hu : ∀ c', c' ≠ c → ial c' ≠ t ∧ ∀ k, ist c' k ≠ t) : h_set (hT B t) (B + c) o = hT B (t + 1) := by
  funext a
  unfold h_set
  by_cases ha : a = B + c
  · subst ha; rw [if_pos rfl, hT_at, ho]
  · rw [if_neg ha]
    unfold hT
    by_cases hb : a < B
    · rw [if_pos hb, if_pos hb]
    · rw [if_neg hb, if_neg hb]
      have hc : a - B ≠ c := by omega
      exact (m_cT_S (hu _ hc).1 (hu _ hc).2).symm
def dfl (c : Nat) : eO := match m_sh c with
  | (1, ci, n) => oB ci (dfV ci n)
  | (2, t, n) => oI t n (fun _ => 0)
  | (3, _, n) => oL 1 n (fun _ => 0)
  | (4, t, n) => oR t n (fun _ => none)
  | _ => oI 0 0 (fun _ => 0)
theorem tA {o : eO} (h : iIv.getD t 0 = 100 * c + 99) (hc : ial c = t ∧ c < 151) (ht : t < 339) (ho : o = dfl c) : h_set (hT B t) (B + c) o = hT B (t + 1) := by
  refine hT_set ?_ (iu (by omega) h (by decide)).1
  have hs : ∀ k, ¬ ist c k < t + 1 := fun k => by
    rcases Nat.lt_or_ge k 41 with w | w
    · by_cases e : ist c k = 100000
      · omega
      · have := (iv_st c hc.2 k w e).2; omega
    · rw [ist_ge (Or.inr w)]; omega
  have hz : (m_sh c).1 = 1 ∨ (m_sh c).1 = 2 ∨ (m_sh c).1 = 3 ∨ (m_sh c).1 = 4 := (by decide +kernel : ∀ c, c < 151 → ((m_sh c).1 = 1 ∨ (m_sh c).1 = 2 ∨ (m_sh c).1 = 3 ∨ (m_sh c).1 = 4)) c hc.2
  unfold m_cT
  rw [decide_eq_true (show ial c < t + 1 by omega), show (fun k => decide (ist c k < t + 1)) = fun _ => false from funext fun k => decide_eq_false (hs k), ho]
  unfold m_cA dfl
  rw [if_pos rfl]
  rcases hm : m_sh c with ⟨a, ci, n⟩
  rw [hm] at hz
  rcases hz with rfl | rfl | rfl | rfl
  · show some (oB ci _) = some (oB ci (dfV ci n))
    unfold dfV
    congr 3
  · rfl
  · rfl
  · show some (oR ci n _) = some (oR ci n _)
    congr 2
    simp
theorem hT_obj (hs : m_sh c = (1, ci, n)) (ha : ial c < t) : hT B t (B + c) = some (oB ci (fun k => if k < n then (match m_fk ci k with | 0 => .int (if decide (ist c k < t) = true then iI0 c k else 0) | 1 => .long 0 | _ => if decide (ist c k < t) = true then .ref (B + m_rf c k) else .null) else m_jk ci)) := by
  rw [hT_at]; unfold m_cT m_cA; rw [if_pos (decide_eq_true ha), hs] <;> rfl
theorem hT_ref (hs : m_sh c = (4, t2, n)) (ha : ial c < t) : hT B t (B + c) = some (oR t2 n (fun k => if k < n then (if decide (ist c k < t) = true then some (B + m_rf c k) else none) else none)) := by
  rw [hT_at]; unfold m_cT m_cA; rw [if_pos (decide_eq_true ha), hs] <;> rfl
theorem ist_S {z : Nat} (hu : ∀ k', ist c k' = t → k' = k) (hz : z ≠ k) : decide (ist c z < t + 1) = decide (ist c z < t) := decide_eq_decide.mpr (by
  have : ist c z ≠ t := fun e => hz (hu z e)
  omega)
theorem tP {v : Value} (h : iIv.getD t 0 = 100 * c + k) (hst : ist c k = t ∧ ial c < t) (ht : t < 339) (hs : m_sh c = (1, ci, n)) (hk : k < n) (hn : n < 100) (hv : v = (match m_fk ci k with | 0 => .int (iI0 c k) | 1 => .long 0 | _ => .ref (B + m_rf c k)) ∧ m_fk ci k ≠ 1) : h_p (hT B t) ci (B + c) k v = some (hT B (t + 1)) := by
  have hi := iu (by omega) h (show k < 100 by omega)
  unfold h_p
  rw [hT_obj hs hst.2]
  simp only [if_pos]
  congr 1
  refine hT_set ?_ hi.1
  rw [← hT_at (B := B), hT_obj hs (show ial c < t + 1 by omega)]
  congr 3
  funext z
  unfold updV
  by_cases hz : z = k
  · subst hz
    rw [if_pos rfl, if_pos hk, hv.1, decide_eq_true (show ist c z < t + 1 by omega)]
    rcases hm : m_fk ci z with _ | _ | m
    · rfl
    · exact absurd hm hv.2
    · rfl
  · rw [if_neg hz, ist_S hi.2 hz]
theorem tS {a : Nat} (h : iIv.getD t 0 = 100 * c + k) (hst : ist c k = t ∧ ial c < t) (ht : t < 339) (hs : m_sh c = (1, ci, n)) (hk : k < n) (hn : n < 100) (hf : m_fk ci k = 2 ∧ a = m_rf c k) : h_p (hT B t) ci (B + c) k (.ref (B + a)) = some (hT B (t + 1)) := tP h hst ht hs hk hn ⟨by rw [hf.1, hf.2]; rfl, by rw [hf.1]; decide⟩
theorem tI {v : Int32} (h : iIv.getD t 0 = 100 * c + k) (hst : ist c k = t ∧ ial c < t) (ht : t < 339) (hs : m_sh c = (1, ci, n)) (hk : k < n) (hn : n < 100) (hf : m_fk ci k = 0 ∧ v = iI0 c k) : h_p (hT B t) ci (B + c) k (.int v) = some (hT B (t + 1)) := tP h hst ht hs hk hn ⟨by rw [hf.1, hf.2]; rfl, by rw [hf.1]; decide⟩
theorem alS {h h2 : eH} {a : Nat} {o : eO} {r : Option (Unit × eH)} {f : eH → Option (Unit × eH)} (e : h_set h a o = h2) (hr : f h2 = r) : e_let (h_set h a o) f = r := by
  unfold e_let; rw [e]; exact hr
theorem stS {h h2 : eH} {c a k : Nat} {v : Value} {r : Option (Unit × eH)} {f : eH → Option (Unit × eH)} (e : h_p h c a k v = some h2) (hr : f h2 = r) : (h_p h c a k v).bind f = r := by
  rw [e, Option.bind_some]; exact hr
theorem tR {a n2 ci2 : Nat} {i : Int32} (h : iIv.getD t 0 = 100 * c + k) (hst : ist c k = t ∧ ial c < t) (ht : t < 339) (hs : m_sh c = (4, t2, n)) (hs2 : m_sh a = (1, ci2, n2)) (hk : k < n ∧ n < 100) (ha : ial a < t) (hf : a = m_rf c k ∧ i = nI k) : h_sr (hT B t) t2 ci2 (B + c) i (B + a) = some (hT B (t + 1)) := by
  have hi := iu (by omega) h (show k < 100 by omega)
  unfold h_sr
  rw [hT_ref hs hst.2, hT_obj hs2 ha, hf.2]
  have hc : (nI k).toNatClampNeg = k := nI_clamp (by omega)
  show (if t2 = t2 ∧ ci2 = ci2 ∧ ¬ nI k < 0 ∧ (nI k).toNatClampNeg < n then some _ else none) = _
  rw [if_pos ⟨rfl, rfl, nI_pos (by omega), by rw [hc]; exact hk.1⟩, hc]
  congr 1
  refine hT_set ?_ hi.1
  rw [← hT_at (B := B), hT_ref hs (show ial c < t + 1 by omega)]
  congr 2
  congr 2
  funext z
  unfold va_up
  by_cases hz : z = k
  · subst hz
    rw [if_pos rfl, if_pos hk.1, if_pos (decide_eq_true (show ist c z < t + 1 by omega)), hf.1]
  · rw [if_neg hz, ist_S hi.2 hz]
theorem tG {a : Nat} (hs : m_sh c = (1, ci, n)) (hk : k < n) (hf : m_fk ci k = 2) (ha : ial c < t ∧ ist c k < t) (hr : a = m_rf c k) : h_gr (hT B t) ci (B + c) k = some (B + a) := by
  unfold h_gr h_g
  rw [hT_obj hs ha.1]
  simp [hk, hf, ha.2, hr]
theorem tL (hs : m_sh c = (4, t2, n)) (ht : t2 < 6) (ha : ial c < t) : h_len (hT B t) (B + c) = some (Int32.ofNat n) := by
  unfold h_len
  rw [hT_ref hs ha]
  simp [ht]
theorem i4_0 : ((4 : Int32) ≤ 0) = False := by decide
theorem i4_1 : ((4 : Int32) ≤ 1) = False := by decide
theorem i4_2 : ((4 : Int32) ≤ 2) = False := by decide
theorem i4_3 : ((4 : Int32) ≤ 3) = False := by decide
theorem i4_4 : ((4 : Int32) ≤ 4) = True := by decide
theorem j01 : (0 : Int32) + 1 = 1 := by decide
theorem j12 : (1 : Int32) + 1 = 2 := by decide
theorem j23 : (2 : Int32) + 1 = 3 := by decide
theorem j34 : (3 : Int32) + 1 = 4 := by decide
theorem o0 : h_set (hT B 0) (B) (oB 10 (fun k => defaultValue (tyX11 k))) = hT B 1 := by rw [dv10]; exact tA (c := 0) (t := 0) (by decide +kernel) (by decide +kernel) (by decide) rfl
theorem o1 : h_set (hT B 1) (B + 1) (oB 9 (fun k => defaultValue (tyX10 k))) = hT B 2 := by rw [dv9]; exact tA (c := 1) (t := 1) (by decide +kernel) (by decide +kernel) (by decide) rfl
theorem o2 : h_set (hT B 2) (B + 2) (oI 0 100 (fun _ => 0)) = hT B 3 := by exact tA (c := 2) (t := 2) (by decide +kernel) (by decide +kernel) (by decide) rfl
theorem o3 : h_p (hT B 3) 9 (B + 1) 0 (.ref (B + 2)) = some (hT B 4) := tS (c := 1) (n := 5) (by decide +kernel) (by decide +kernel) (by decide) rfl (by decide) (by decide) (by decide +kernel)
theorem c2_X10 : F_X10_init (B + 2) (B + 1) (hT B 2) = some ((), hT B 4) := by
  unfold F_X10_init
  simp only [e_let, e_bind_some, Option.bind_some, Nat.add_assoc, Nat.reduceAdd, Nat.add_zero, Nat.reduceLeDiff, Nat.reduceEqDiff, and_self, if_true, if_false, i4_0, i4_1, i4_2, i4_3, i4_4, j01, j12, j23, j34, o2, o3]
theorem o4 : h_p (hT B 4) 10 (B) 0 (.ref (B + 1)) = some (hT B 5) := tS (c := 0) (n := 12) (by decide +kernel) (by decide +kernel) (by decide) rfl (by decide) (by decide) (by decide +kernel)
theorem o5 : h_set (hT B 5) (B + 3) (oB 7 (fun k => defaultValue (tyX7 k))) = hT B 6 := by rw [dv7]; exact tA (c := 3) (t := 5) (by decide +kernel) (by decide +kernel) (by decide) rfl
theorem o6 : h_set (hT B 6) (B + 4) (oI 0 4 (fun _ => 0)) = hT B 7 := by exact tA (c := 4) (t := 6) (by decide +kernel) (by decide +kernel) (by decide) rfl
theorem o7 : h_p (hT B 7) 7 (B + 3) 0 (.ref (B + 4)) = some (hT B 8) := tS (c := 3) (n := 6) (by decide +kernel) (by decide +kernel) (by decide) rfl (by decide) (by decide) (by decide +kernel)
theorem c6_X7 : F_X7_init (B + 4) (B + 3) (hT B 6) = some ((), hT B 8) := by
  unfold F_X7_init
  simp only [e_let, e_bind_some, Option.bind_some, Nat.add_assoc, Nat.reduceAdd, Nat.add_zero, Nat.reduceLeDiff, Nat.reduceEqDiff, and_self, if_true, if_false, i4_0, i4_1, i4_2, i4_3, i4_4, j01, j12, j23, j34, o6, o7]
theorem o8 : h_p (hT B 8) 10 (B) 1 (.ref (B + 3)) = some (hT B 9) := tS (c := 0) (n := 12) (by decide +kernel) (by decide +kernel) (by decide) rfl (by decide) (by decide) (by decide +kernel)
theorem o9 : h_set (hT B 9) (B + 5) (oR 3 4 (fun _ => none)) = hT B 10 := by exact tA (c := 5) (t := 9) (by decide +kernel) (by decide +kernel) (by decide) rfl
theorem o10 : h_p (hT B 10) 10 (B) 2 (.ref (B + 5)) = some (hT B 11) := tS (c := 0) (n := 12) (by decide +kernel) (by decide +kernel) (by decide) rfl (by decide) (by decide) (by decide +kernel)
theorem o11 : h_set (hT B 11) (B + 6) (oR 5 4 (fun _ => none)) = hT B 12 := by exact tA (c := 6) (t := 11) (by decide +kernel) (by decide +kernel) (by decide) rfl
theorem o12 : h_p (hT B 12) 10 (B) 3 (.ref (B + 6)) = some (hT B 13) := tS (c := 0) (n := 12) (by decide +kernel) (by decide +kernel) (by decide) rfl (by decide) (by decide) (by decide +kernel)
theorem o13 : h_set (hT B 13) (B + 7) (oB 5 (fun k => defaultValue (tyX5 k))) = hT B 14 := by rw [dv5]; exact tA (c := 7) (t := 13) (by decide +kernel) (by decide +kernel) (by decide) rfl
theorem o14 : h_set (hT B 14) (B + 8) (oI 0 2 (fun _ => 0)) = hT B 15 := by exact tA (c := 8) (t := 14) (by decide +kernel) (by decide +kernel) (by decide) rfl
theorem o15 : h_p (hT B 15) 5 (B + 7) 0 (.ref (B + 8)) = some (hT B 16) := tS (c := 7) (n := 3) (by decide +kernel) (by decide +kernel) (by decide) rfl (by decide) (by decide) (by decide +kernel)
theorem o16 : h_set (hT B 16) (B + 9) (oI 0 2 (fun _ => 0)) = hT B 17 := by exact tA (c := 9) (t := 16) (by decide +kernel) (by decide +kernel) (by decide) rfl
theorem o17 : h_p (hT B 17) 5 (B + 7) 1 (.ref (B + 9)) = some (hT B 18) := tS (c := 7) (n := 3) (by decide +kernel) (by decide +kernel) (by decide) rfl (by decide) (by decide) (by decide +kernel)
theorem c14_X5 : F_X5_init (B + 8) (B + 7) (hT B 14) = some ((), hT B 18) := by
  unfold F_X5_init
  simp only [e_let, e_bind_some, Option.bind_some, Nat.add_assoc, Nat.reduceAdd, Nat.add_zero, Nat.reduceLeDiff, Nat.reduceEqDiff, and_self, if_true, if_false, i4_0, i4_1, i4_2, i4_3, i4_4, j01, j12, j23, j34, o14, o15, o16, o17]
theorem o18 : h_p (hT B 18) 10 (B) 4 (.ref (B + 7)) = some (hT B 19) := tS (c := 0) (n := 12) (by decide +kernel) (by decide +kernel) (by decide) rfl (by decide) (by decide) (by decide +kernel)
theorem o19 : h_set (hT B 19) (B + 10) (oB 6 (fun k => defaultValue (tyX6 k))) = hT B 20 := by rw [dv6]; exact tA (c := 10) (t := 19) (by decide +kernel) (by decide +kernel) (by decide) rfl
theorem c20_X6 : F_X6_init (B + 10) (hT B 20) = some ((), hT B 20) := rfl
theorem o20 : h_p (hT B 20) 10 (B) 5 (.ref (B + 10)) = some (hT B 21) := tS (c := 0) (n := 12) (by decide +kernel) (by decide +kernel) (by decide) rfl (by decide) (by decide) (by decide +kernel)
theorem o21 : h_set (hT B 21) (B + 11) (oB 2 (fun k => defaultValue (tyX2 k))) = hT B 22 := by rw [dv2]; exact tA (c := 11) (t := 21) (by decide +kernel) (by decide +kernel) (by decide) rfl
theorem o22 : h_set (hT B 22) (B + 12) (oI 0 16 (fun _ => 0)) = hT B 23 := by exact tA (c := 12) (t := 22) (by decide +kernel) (by decide +kernel) (by decide) rfl
theorem o23 : h_p (hT B 23) 2 (B + 11) 0 (.ref (B + 12)) = some (hT B 24) := tS (c := 11) (n := 3) (by decide +kernel) (by decide +kernel) (by decide) rfl (by decide) (by decide) (by decide +kernel)
theorem c22_X2 : F_X2_init (B + 12) (B + 11) (hT B 22) = some ((), hT B 24) := by
  unfold F_X2_init
  simp only [e_let, e_bind_some, Option.bind_some, Nat.add_assoc, Nat.reduceAdd, Nat.add_zero, Nat.reduceLeDiff, Nat.reduceEqDiff, and_self, if_true, if_false, i4_0, i4_1, i4_2, i4_3, i4_4, j01, j12, j23, j34, o22, o23]
theorem o24 : h_p (hT B 24) 10 (B) 6 (.ref (B + 11)) = some (hT B 25) := tS (c := 0) (n := 12) (by decide +kernel) (by decide +kernel) (by decide) rfl (by decide) (by decide) (by decide +kernel)
theorem o25 : h_p (hT B 25) 10 (B) 7 (.int 3) = some (hT B 26) := tI (c := 0) (n := 12) (by decide +kernel) (by decide +kernel) (by decide) rfl (by decide) (by decide) (by decide +kernel)
theorem o26 : h_p (hT B 26) 10 (B) 8 (.int 4) = some (hT B 27) := tI (c := 0) (n := 12) (by decide +kernel) (by decide +kernel) (by decide) rfl (by decide) (by decide) (by decide +kernel)
theorem o27 : h_p (hT B 27) 10 (B) 9 (.int 4) = some (hT B 28) := tI (c := 0) (n := 12) (by decide +kernel) (by decide +kernel) (by decide) rfl (by decide) (by decide) (by decide +kernel)
theorem r28_0_2 : h_gr (hT B 28) 10 (B) 2 = some (B + 5) := tG (c := 0) (n := 12) rfl (by decide) (by decide) (by decide +kernel) (by decide +kernel)
theorem n28_5 : h_len (hT B 28) (B + 5) = some 4 := tL (c := 5) (t2 := 3) rfl (by decide) (by decide +kernel)
theorem o28 : h_set (hT B 28) (B + 13) (oB 4 (fun k => defaultValue (tyX4 k))) = hT B 29 := by rw [dv4]; exact tA (c := 13) (t := 28) (by decide +kernel) (by decide +kernel) (by decide) rfl
theorem o29 : h_set (hT B 29) (B + 14) (oB 3 (fun k => defaultValue (tyX3 k))) = hT B 30 := by rw [dv3]; exact tA (c := 14) (t := 29) (by decide +kernel) (by decide +kernel) (by decide) rfl
theorem o30 : h_set (hT B 30) (B + 15) (oL 1 160 (fun _ => 0)) = hT B 31 := by exact tA (c := 15) (t := 30) (by decide +kernel) (by decide +kernel) (by decide) rfl
theorem o31 : h_p (hT B 31) 3 (B + 14) 0 (.ref (B + 15)) = some (hT B 32) := tS (c := 14) (n := 11) (by decide +kernel) (by decide +kernel) (by decide) rfl (by decide) (by decide) (by decide +kernel)
theorem o32 : h_set (hT B 32) (B + 16) (oI 0 160 (fun _ => 0)) = hT B 33 := by exact tA (c := 16) (t := 32) (by decide +kernel) (by decide +kernel) (by decide) rfl
theorem o33 : h_p (hT B 33) 3 (B + 14) 1 (.ref (B + 16)) = some (hT B 34) := tS (c := 14) (n := 11) (by decide +kernel) (by decide +kernel) (by decide) rfl (by decide) (by decide) (by decide +kernel)
theorem o34 : h_set (hT B 34) (B + 17) (oI 0 160 (fun _ => 0)) = hT B 35 := by exact tA (c := 17) (t := 34) (by decide +kernel) (by decide +kernel) (by decide) rfl
theorem o35 : h_p (hT B 35) 3 (B + 14) 2 (.ref (B + 17)) = some (hT B 36) := tS (c := 14) (n := 11) (by decide +kernel) (by decide +kernel) (by decide) rfl (by decide) (by decide) (by decide +kernel)
theorem o36 : h_set (hT B 36) (B + 18) (oI 0 160 (fun _ => 0)) = hT B 37 := by exact tA (c := 18) (t := 36) (by decide +kernel) (by decide +kernel) (by decide) rfl
theorem o37 : h_p (hT B 37) 3 (B + 14) 3 (.ref (B + 18)) = some (hT B 38) := tS (c := 14) (n := 11) (by decide +kernel) (by decide +kernel) (by decide) rfl (by decide) (by decide) (by decide +kernel)
theorem o38 : h_set (hT B 38) (B + 19) (oB 1 (fun k => defaultValue (tyX1 k))) = hT B 39 := by rw [dv1]; exact tA (c := 19) (t := 38) (by decide +kernel) (by decide +kernel) (by decide) rfl
theorem o39 : h_set (hT B 39) (B + 20) (oL 1 4 (fun _ => 0)) = hT B 40 := by exact tA (c := 20) (t := 39) (by decide +kernel) (by decide +kernel) (by decide) rfl
theorem o40 : h_p (hT B 40) 1 (B + 19) 0 (.ref (B + 20)) = some (hT B 41) := tS (c := 19) (n := 1) (by decide +kernel) (by decide +kernel) (by decide) rfl (by decide) (by decide) (by decide +kernel)
theorem c39_X1 : F_X1_init (B + 20) (B + 19) (hT B 39) = some ((), hT B 41) := by
  unfold F_X1_init
  simp only [e_let, e_bind_some, Option.bind_some, Nat.add_assoc, Nat.reduceAdd, Nat.add_zero, Nat.reduceLeDiff, Nat.reduceEqDiff, and_self, if_true, if_false, i4_0, i4_1, i4_2, i4_3, i4_4, j01, j12, j23, j34, o39, o40]
theorem o41 : h_p (hT B 41) 3 (B + 14) 4 (.ref (B + 19)) = some (hT B 42) := tS (c := 14) (n := 11) (by decide +kernel) (by decide +kernel) (by decide) rfl (by decide) (by decide) (by decide +kernel)
theorem o42 : h_set (hT B 42) (B + 21) (oB 1 (fun k => defaultValue (tyX1 k))) = hT B 43 := by rw [dv1]; exact tA (c := 21) (t := 42) (by decide +kernel) (by decide +kernel) (by decide) rfl
theorem o43 : h_set (hT B 43) (B + 22) (oL 1 4 (fun _ => 0)) = hT B 44 := by exact tA (c := 22) (t := 43) (by decide +kernel) (by decide +kernel) (by decide) rfl
theorem o44 : h_p (hT B 44) 1 (B + 21) 0 (.ref (B + 22)) = some (hT B 45) := tS (c := 21) (n := 1) (by decide +kernel) (by decide +kernel) (by decide) rfl (by decide) (by decide) (by decide +kernel)
theorem c43_X1 : F_X1_init (B + 22) (B + 21) (hT B 43) = some ((), hT B 45) := by
  unfold F_X1_init
  simp only [e_let, e_bind_some, Option.bind_some, Nat.add_assoc, Nat.reduceAdd, Nat.add_zero, Nat.reduceLeDiff, Nat.reduceEqDiff, and_self, if_true, if_false, i4_0, i4_1, i4_2, i4_3, i4_4, j01, j12, j23, j34, o43, o44]
theorem o45 : h_p (hT B 45) 3 (B + 14) 5 (.ref (B + 21)) = some (hT B 46) := tS (c := 14) (n := 11) (by decide +kernel) (by decide +kernel) (by decide) rfl (by decide) (by decide) (by decide +kernel)
theorem o46 : h_set (hT B 46) (B + 23) (oB 1 (fun k => defaultValue (tyX1 k))) = hT B 47 := by rw [dv1]; exact tA (c := 23) (t := 46) (by decide +kernel) (by decide +kernel) (by decide) rfl
theorem o47 : h_set (hT B 47) (B + 24) (oL 1 4 (fun _ => 0)) = hT B 48 := by exact tA (c := 24) (t := 47) (by decide +kernel) (by decide +kernel) (by decide) rfl
theorem o48 : h_p (hT B 48) 1 (B + 23) 0 (.ref (B + 24)) = some (hT B 49) := tS (c := 23) (n := 1) (by decide +kernel) (by decide +kernel) (by decide) rfl (by decide) (by decide) (by decide +kernel)
theorem c47_X1 : F_X1_init (B + 24) (B + 23) (hT B 47) = some ((), hT B 49) := by
  unfold F_X1_init
  simp only [e_let, e_bind_some, Option.bind_some, Nat.add_assoc, Nat.reduceAdd, Nat.add_zero, Nat.reduceLeDiff, Nat.reduceEqDiff, and_self, if_true, if_false, i4_0, i4_1, i4_2, i4_3, i4_4, j01, j12, j23, j34, o47, o48]
theorem o49 : h_p (hT B 49) 3 (B + 14) 6 (.ref (B + 23)) = some (hT B 50) := tS (c := 14) (n := 11) (by decide +kernel) (by decide +kernel) (by decide) rfl (by decide) (by decide) (by decide +kernel)
theorem o50 : h_set (hT B 50) (B + 25) (oB 1 (fun k => defaultValue (tyX1 k))) = hT B 51 := by rw [dv1]; exact tA (c := 25) (t := 50) (by decide +kernel) (by decide +kernel) (by decide) rfl
theorem o51 : h_set (hT B 51) (B + 26) (oL 1 4 (fun _ => 0)) = hT B 52 := by exact tA (c := 26) (t := 51) (by decide +kernel) (by decide +kernel) (by decide) rfl
theorem o52 : h_p (hT B 52) 1 (B + 25) 0 (.ref (B + 26)) = some (hT B 53) := tS (c := 25) (n := 1) (by decide +kernel) (by decide +kernel) (by decide) rfl (by decide) (by decide) (by decide +kernel)
theorem c51_X1 : F_X1_init (B + 26) (B + 25) (hT B 51) = some ((), hT B 53) := by
  unfold F_X1_init
  simp only [e_let, e_bind_some, Option.bind_some, Nat.add_assoc, Nat.reduceAdd, Nat.add_zero, Nat.reduceLeDiff, Nat.reduceEqDiff, and_self, if_true, if_false, i4_0, i4_1, i4_2, i4_3, i4_4, j01, j12, j23, j34, o51, o52]
theorem o53 : h_p (hT B 53) 3 (B + 14) 7 (.ref (B + 25)) = some (hT B 54) := tS (c := 14) (n := 11) (by decide +kernel) (by decide +kernel) (by decide) rfl (by decide) (by decide) (by decide +kernel)
theorem c30_X3 : F_X3_init (B + 15) (B + 14) (hT B 30) = some ((), hT B 54) := by
  unfold F_X3_init
  simp only [e_let, e_bind_some, Option.bind_some, Nat.add_assoc, Nat.reduceAdd, Nat.add_zero, Nat.reduceLeDiff, Nat.reduceEqDiff, and_self, if_true, if_false, i4_0, i4_1, i4_2, i4_3, i4_4, j01, j12, j23, j34, o30, o31, o32, o33, o34, o35, o36, o37, o38, c39_X1, o41, o42, c43_X1, o45, o46, c47_X1, o49, o50, c51_X1, o53]
theorem o54 : h_p (hT B 54) 4 (B + 13) 0 (.ref (B + 14)) = some (hT B 55) := tS (c := 13) (n := 2) (by decide +kernel) (by decide +kernel) (by decide) rfl (by decide) (by decide) (by decide +kernel)
theorem o55 : h_set (hT B 55) (B + 27) (oR 4 4 (fun _ => none)) = hT B 56 := by exact tA (c := 27) (t := 55) (by decide +kernel) (by decide +kernel) (by decide) rfl
theorem o56 : h_p (hT B 56) 4 (B + 13) 1 (.ref (B + 27)) = some (hT B 57) := tS (c := 13) (n := 2) (by decide +kernel) (by decide +kernel) (by decide) rfl (by decide) (by decide) (by decide +kernel)
theorem r57_13_1 : h_gr (hT B 57) 4 (B + 13) 1 = some (B + 27) := tG (c := 13) (n := 2) rfl (by decide) (by decide) (by decide +kernel) (by decide +kernel)
theorem n57_27 : h_len (hT B 57) (B + 27) = some 4 := tL (c := 27) (t2 := 4) rfl (by decide) (by decide +kernel)
theorem o57 : h_set (hT B 57) (B + 28) (oB 8 (fun k => defaultValue (tyX8 k))) = hT B 58 := by rw [dv8]; exact tA (c := 28) (t := 57) (by decide +kernel) (by decide +kernel) (by decide) rfl
theorem r58_13_0 : h_gr (hT B 58) 4 (B + 13) 0 = some (B + 14) := tG (c := 13) (n := 2) rfl (by decide) (by decide) (by decide +kernel) (by decide +kernel)
theorem o58 : h_set (hT B 58) (B + 29) (oB 1 (fun k => defaultValue (tyX1 k))) = hT B 59 := by rw [dv1]; exact tA (c := 29) (t := 58) (by decide +kernel) (by decide +kernel) (by decide) rfl
theorem o59 : h_set (hT B 59) (B + 30) (oL 1 4 (fun _ => 0)) = hT B 60 := by exact tA (c := 30) (t := 59) (by decide +kernel) (by decide +kernel) (by decide) rfl
theorem o60 : h_p (hT B 60) 1 (B + 29) 0 (.ref (B + 30)) = some (hT B 61) := tS (c := 29) (n := 1) (by decide +kernel) (by decide +kernel) (by decide) rfl (by decide) (by decide) (by decide +kernel)
theorem c59_X1 : F_X1_init (B + 30) (B + 29) (hT B 59) = some ((), hT B 61) := by
  unfold F_X1_init
  simp only [e_let, e_bind_some, Option.bind_some, Nat.add_assoc, Nat.reduceAdd, Nat.add_zero, Nat.reduceLeDiff, Nat.reduceEqDiff, and_self, if_true, if_false, i4_0, i4_1, i4_2, i4_3, i4_4, j01, j12, j23, j34, o59, o60]
theorem o61 : h_p (hT B 61) 8 (B + 28) 2 (.ref (B + 29)) = some (hT B 62) := tS (c := 28) (n := 4) (by decide +kernel) (by decide +kernel) (by decide) rfl (by decide) (by decide) (by decide +kernel)
theorem o62 : h_p (hT B 62) 8 (B + 28) 0 (.int 0) = some (hT B 63) := tI (c := 28) (n := 4) (by decide +kernel) (by decide +kernel) (by decide) rfl (by decide) (by decide) (by decide +kernel)
theorem o63 : h_p (hT B 63) 8 (B + 28) 1 (.ref (B + 14)) = some (hT B 64) := tS (c := 28) (n := 4) (by decide +kernel) (by decide +kernel) (by decide) rfl (by decide) (by decide) (by decide +kernel)
theorem c58_X8 : F_X8_init (B + 29) (B + 28) 0 (B + 14) (hT B 58) = some ((), hT B 64) := by
  unfold F_X8_init
  simp only [e_let, e_bind_some, Option.bind_some, Nat.add_assoc, Nat.reduceAdd, Nat.add_zero, Nat.reduceLeDiff, Nat.reduceEqDiff, and_self, if_true, if_false, i4_0, i4_1, i4_2, i4_3, i4_4, j01, j12, j23, j34, o58, c59_X1, o61, o62, o63]
theorem o64 : h_sr (hT B 64) 4 8 (B + 27) 0 (B + 28) = some (hT B 65) := tR (c := 27) (k := 0) (n := 4) (n2 := 4) (by decide +kernel) (by decide +kernel) (by decide) rfl rfl (by decide) (by decide +kernel) (by decide +kernel)
theorem b57_25 {N : Nat} (K : Nat × Nat × Nat × Int32 × eH → Option (Unit × eH)) : F_X4_init_25b N (B + 14) (fun c s l0 l1 h => K (c, s, l0, l1, h)) 14 675 (B + 13) 0 (hT B 57) = K (17, 684, B + 13, 1, hT B 65) := by
  unfold F_X4_init_25b
  simp only [e_let, e_bind_some, Option.bind_some, Nat.add_assoc, Nat.reduceAdd, Nat.add_zero, Nat.reduceLeDiff, Nat.reduceEqDiff, and_self, if_true, if_false, i4_0, i4_1, i4_2, i4_3, i4_4, j01, j12, j23, j34, r57_13_1, n57_27, o57, r58_13_0, c58_X8, o64]
theorem r65_13_1 : h_gr (hT B 65) 4 (B + 13) 1 = some (B + 27) := tG (c := 13) (n := 2) rfl (by decide) (by decide) (by decide +kernel) (by decide +kernel)
theorem n65_27 : h_len (hT B 65) (B + 27) = some 4 := tL (c := 27) (t2 := 4) rfl (by decide) (by decide +kernel)
theorem o65 : h_set (hT B 65) (B + 31) (oB 8 (fun k => defaultValue (tyX8 k))) = hT B 66 := by rw [dv8]; exact tA (c := 31) (t := 65) (by decide +kernel) (by decide +kernel) (by decide) rfl
theorem r66_13_0 : h_gr (hT B 66) 4 (B + 13) 0 = some (B + 14) := tG (c := 13) (n := 2) rfl (by decide) (by decide) (by decide +kernel) (by decide +kernel)
theorem o66 : h_set (hT B 66) (B + 32) (oB 1 (fun k => defaultValue (tyX1 k))) = hT B 67 := by rw [dv1]; exact tA (c := 32) (t := 66) (by decide +kernel) (by decide +kernel) (by decide) rfl
theorem o67 : h_set (hT B 67) (B + 33) (oL 1 4 (fun _ => 0)) = hT B 68 := by exact tA (c := 33) (t := 67) (by decide +kernel) (by decide +kernel) (by decide) rfl
theorem o68 : h_p (hT B 68) 1 (B + 32) 0 (.ref (B + 33)) = some (hT B 69) := tS (c := 32) (n := 1) (by decide +kernel) (by decide +kernel) (by decide) rfl (by decide) (by decide) (by decide +kernel)
theorem c67_X1 : F_X1_init (B + 33) (B + 32) (hT B 67) = some ((), hT B 69) := by
  unfold F_X1_init
  simp only [e_let, e_bind_some, Option.bind_some, Nat.add_assoc, Nat.reduceAdd, Nat.add_zero, Nat.reduceLeDiff, Nat.reduceEqDiff, and_self, if_true, if_false, i4_0, i4_1, i4_2, i4_3, i4_4, j01, j12, j23, j34, o67, o68]
theorem o69 : h_p (hT B 69) 8 (B + 31) 2 (.ref (B + 32)) = some (hT B 70) := tS (c := 31) (n := 4) (by decide +kernel) (by decide +kernel) (by decide) rfl (by decide) (by decide) (by decide +kernel)
theorem o70 : h_p (hT B 70) 8 (B + 31) 0 (.int 1) = some (hT B 71) := tI (c := 31) (n := 4) (by decide +kernel) (by decide +kernel) (by decide) rfl (by decide) (by decide) (by decide +kernel)
theorem o71 : h_p (hT B 71) 8 (B + 31) 1 (.ref (B + 14)) = some (hT B 72) := tS (c := 31) (n := 4) (by decide +kernel) (by decide +kernel) (by decide) rfl (by decide) (by decide) (by decide +kernel)
theorem c66_X8 : F_X8_init (B + 32) (B + 31) 1 (B + 14) (hT B 66) = some ((), hT B 72) := by
  unfold F_X8_init
  simp only [e_let, e_bind_some, Option.bind_some, Nat.add_assoc, Nat.reduceAdd, Nat.add_zero, Nat.reduceLeDiff, Nat.reduceEqDiff, and_self, if_true, if_false, i4_0, i4_1, i4_2, i4_3, i4_4, j01, j12, j23, j34, o66, c67_X1, o69, o70, o71]
theorem o72 : h_sr (hT B 72) 4 8 (B + 27) 1 (B + 31) = some (hT B 73) := tR (c := 27) (k := 1) (n := 4) (n2 := 4) (by decide +kernel) (by decide +kernel) (by decide) rfl rfl (by decide) (by decide +kernel) (by decide +kernel)
theorem b65_25 {N : Nat} (K : Nat × Nat × Nat × Int32 × eH → Option (Unit × eH)) : F_X4_init_25b N (B + 14) (fun c s l0 l1 h => K (c, s, l0, l1, h)) 17 684 (B + 13) 1 (hT B 65) = K (20, 693, B + 13, 2, hT B 73) := by
  unfold F_X4_init_25b
  simp only [e_let, e_bind_some, Option.bind_some, Nat.add_assoc, Nat.reduceAdd, Nat.add_zero, Nat.reduceLeDiff, Nat.reduceEqDiff, and_self, if_true, if_false, i4_0, i4_1, i4_2, i4_3, i4_4, j01, j12, j23, j34, r65_13_1, n65_27, o65, r66_13_0, c66_X8, o72]
theorem r73_13_1 : h_gr (hT B 73) 4 (B + 13) 1 = some (B + 27) := tG (c := 13) (n := 2) rfl (by decide) (by decide) (by decide +kernel) (by decide +kernel)
theorem n73_27 : h_len (hT B 73) (B + 27) = some 4 := tL (c := 27) (t2 := 4) rfl (by decide) (by decide +kernel)
theorem o73 : h_set (hT B 73) (B + 34) (oB 8 (fun k => defaultValue (tyX8 k))) = hT B 74 := by rw [dv8]; exact tA (c := 34) (t := 73) (by decide +kernel) (by decide +kernel) (by decide) rfl
theorem r74_13_0 : h_gr (hT B 74) 4 (B + 13) 0 = some (B + 14) := tG (c := 13) (n := 2) rfl (by decide) (by decide) (by decide +kernel) (by decide +kernel)
theorem o74 : h_set (hT B 74) (B + 35) (oB 1 (fun k => defaultValue (tyX1 k))) = hT B 75 := by rw [dv1]; exact tA (c := 35) (t := 74) (by decide +kernel) (by decide +kernel) (by decide) rfl
theorem o75 : h_set (hT B 75) (B + 36) (oL 1 4 (fun _ => 0)) = hT B 76 := by exact tA (c := 36) (t := 75) (by decide +kernel) (by decide +kernel) (by decide) rfl
theorem o76 : h_p (hT B 76) 1 (B + 35) 0 (.ref (B + 36)) = some (hT B 77) := tS (c := 35) (n := 1) (by decide +kernel) (by decide +kernel) (by decide) rfl (by decide) (by decide) (by decide +kernel)
theorem c75_X1 : F_X1_init (B + 36) (B + 35) (hT B 75) = some ((), hT B 77) := by
  unfold F_X1_init
  simp only [e_let, e_bind_some, Option.bind_some, Nat.add_assoc, Nat.reduceAdd, Nat.add_zero, Nat.reduceLeDiff, Nat.reduceEqDiff, and_self, if_true, if_false, i4_0, i4_1, i4_2, i4_3, i4_4, j01, j12, j23, j34, o75, o76]
theorem o77 : h_p (hT B 77) 8 (B + 34) 2 (.ref (B + 35)) = some (hT B 78) := tS (c := 34) (n := 4) (by decide +kernel) (by decide +kernel) (by decide) rfl (by decide) (by decide) (by decide +kernel)
theorem o78 : h_p (hT B 78) 8 (B + 34) 0 (.int 2) = some (hT B 79) := tI (c := 34) (n := 4) (by decide +kernel) (by decide +kernel) (by decide) rfl (by decide) (by decide) (by decide +kernel)
theorem o79 : h_p (hT B 79) 8 (B + 34) 1 (.ref (B + 14)) = some (hT B 80) := tS (c := 34) (n := 4) (by decide +kernel) (by decide +kernel) (by decide) rfl (by decide) (by decide) (by decide +kernel)
theorem c74_X8 : F_X8_init (B + 35) (B + 34) 2 (B + 14) (hT B 74) = some ((), hT B 80) := by
  unfold F_X8_init
  simp only [e_let, e_bind_some, Option.bind_some, Nat.add_assoc, Nat.reduceAdd, Nat.add_zero, Nat.reduceLeDiff, Nat.reduceEqDiff, and_self, if_true, if_false, i4_0, i4_1, i4_2, i4_3, i4_4, j01, j12, j23, j34, o74, c75_X1, o77, o78, o79]
theorem o80 : h_sr (hT B 80) 4 8 (B + 27) 2 (B + 34) = some (hT B 81) := tR (c := 27) (k := 2) (n := 4) (n2 := 4) (by decide +kernel) (by decide +kernel) (by decide) rfl rfl (by decide) (by decide +kernel) (by decide +kernel)
theorem b73_25 {N : Nat} (K : Nat × Nat × Nat × Int32 × eH → Option (Unit × eH)) : F_X4_init_25b N (B + 14) (fun c s l0 l1 h => K (c, s, l0, l1, h)) 20 693 (B + 13) 2 (hT B 73) = K (23, 702, B + 13, 3, hT B 81) := by
  unfold F_X4_init_25b
  simp only [e_let, e_bind_some, Option.bind_some, Nat.add_assoc, Nat.reduceAdd, Nat.add_zero, Nat.reduceLeDiff, Nat.reduceEqDiff, and_self, if_true, if_false, i4_0, i4_1, i4_2, i4_3, i4_4, j01, j12, j23, j34, r73_13_1, n73_27, o73, r74_13_0, c74_X8, o80]
theorem r81_13_1 : h_gr (hT B 81) 4 (B + 13) 1 = some (B + 27) := tG (c := 13) (n := 2) rfl (by decide) (by decide) (by decide +kernel) (by decide +kernel)
theorem n81_27 : h_len (hT B 81) (B + 27) = some 4 := tL (c := 27) (t2 := 4) rfl (by decide) (by decide +kernel)
theorem o81 : h_set (hT B 81) (B + 37) (oB 8 (fun k => defaultValue (tyX8 k))) = hT B 82 := by rw [dv8]; exact tA (c := 37) (t := 81) (by decide +kernel) (by decide +kernel) (by decide) rfl
theorem r82_13_0 : h_gr (hT B 82) 4 (B + 13) 0 = some (B + 14) := tG (c := 13) (n := 2) rfl (by decide) (by decide) (by decide +kernel) (by decide +kernel)
theorem o82 : h_set (hT B 82) (B + 38) (oB 1 (fun k => defaultValue (tyX1 k))) = hT B 83 := by rw [dv1]; exact tA (c := 38) (t := 82) (by decide +kernel) (by decide +kernel) (by decide) rfl
theorem o83 : h_set (hT B 83) (B + 39) (oL 1 4 (fun _ => 0)) = hT B 84 := by exact tA (c := 39) (t := 83) (by decide +kernel) (by decide +kernel) (by decide) rfl
theorem o84 : h_p (hT B 84) 1 (B + 38) 0 (.ref (B + 39)) = some (hT B 85) := tS (c := 38) (n := 1) (by decide +kernel) (by decide +kernel) (by decide) rfl (by decide) (by decide) (by decide +kernel)
theorem c83_X1 : F_X1_init (B + 39) (B + 38) (hT B 83) = some ((), hT B 85) := by
  unfold F_X1_init
  simp only [e_let, e_bind_some, Option.bind_some, Nat.add_assoc, Nat.reduceAdd, Nat.add_zero, Nat.reduceLeDiff, Nat.reduceEqDiff, and_self, if_true, if_false, i4_0, i4_1, i4_2, i4_3, i4_4, j01, j12, j23, j34, o83, o84]
theorem o85 : h_p (hT B 85) 8 (B + 37) 2 (.ref (B + 38)) = some (hT B 86) := tS (c := 37) (n := 4) (by decide +kernel) (by decide +kernel) (by decide) rfl (by decide) (by decide) (by decide +kernel)
theorem o86 : h_p (hT B 86) 8 (B + 37) 0 (.int 3) = some (hT B 87) := tI (c := 37) (n := 4) (by decide +kernel) (by decide +kernel) (by decide) rfl (by decide) (by decide) (by decide +kernel)
theorem o87 : h_p (hT B 87) 8 (B + 37) 1 (.ref (B + 14)) = some (hT B 88) := tS (c := 37) (n := 4) (by decide +kernel) (by decide +kernel) (by decide) rfl (by decide) (by decide) (by decide +kernel)
theorem c82_X8 : F_X8_init (B + 38) (B + 37) 3 (B + 14) (hT B 82) = some ((), hT B 88) := by
  unfold F_X8_init
  simp only [e_let, e_bind_some, Option.bind_some, Nat.add_assoc, Nat.reduceAdd, Nat.add_zero, Nat.reduceLeDiff, Nat.reduceEqDiff, and_self, if_true, if_false, i4_0, i4_1, i4_2, i4_3, i4_4, j01, j12, j23, j34, o82, c83_X1, o85, o86, o87]
theorem o88 : h_sr (hT B 88) 4 8 (B + 27) 3 (B + 37) = some (hT B 89) := tR (c := 27) (k := 3) (n := 4) (n2 := 4) (by decide +kernel) (by decide +kernel) (by decide) rfl rfl (by decide) (by decide +kernel) (by decide +kernel)
theorem b81_25 {N : Nat} (K : Nat × Nat × Nat × Int32 × eH → Option (Unit × eH)) : F_X4_init_25b N (B + 14) (fun c s l0 l1 h => K (c, s, l0, l1, h)) 23 702 (B + 13) 3 (hT B 81) = K (26, 711, B + 13, 4, hT B 89) := by
  unfold F_X4_init_25b
  simp only [e_let, e_bind_some, Option.bind_some, Nat.add_assoc, Nat.reduceAdd, Nat.add_zero, Nat.reduceLeDiff, Nat.reduceEqDiff, and_self, if_true, if_false, i4_0, i4_1, i4_2, i4_3, i4_4, j01, j12, j23, j34, r81_13_1, n81_27, o81, r82_13_0, c82_X8, o88]
theorem r89_13_1 : h_gr (hT B 89) 4 (B + 13) 1 = some (B + 27) := tG (c := 13) (n := 2) rfl (by decide) (by decide) (by decide +kernel) (by decide +kernel)
theorem n89_27 : h_len (hT B 89) (B + 27) = some 4 := tL (c := 27) (t2 := 4) rfl (by decide) (by decide +kernel)
theorem b89_25 {N : Nat} (K : Nat × Nat × Nat × Int32 × eH → Option (Unit × eH)) : F_X4_init_25b N (B + 14) (fun c s l0 l1 h => K (c, s, l0, l1, h)) 26 711 (B + 13) 4 (hT B 89) = some ((), hT B 89) := by
  unfold F_X4_init_25b
  simp only [e_let, e_bind_some, Option.bind_some, Nat.add_assoc, Nat.reduceAdd, Nat.add_zero, Nat.reduceLeDiff, Nat.reduceEqDiff, and_self, if_true, if_false, i4_0, i4_1, i4_2, i4_3, i4_4, j01, j12, j23, j34, r89_13_1, n89_27]
theorem l57_25 {N : Nat} (hN : 20 < N) : L_X4_init_25 N (B + 14) 14 675 (B + 13) 0 (hT B 57) = some ((), hT B 89) := by
  unfold L_X4_init_25
  rw [e_loop_S (by omega)]
  refine Eq.trans (b57_25 _) ?_
  rw [e_loop_S (by omega)]
  refine Eq.trans (b65_25 _) ?_
  rw [e_loop_S (by omega)]
  refine Eq.trans (b73_25 _) ?_
  rw [e_loop_S (by omega)]
  refine Eq.trans (b81_25 _) ?_
  rw [e_loop_S (by omega)]
  exact b89_25 _
theorem c29_X4 {N : Nat} (hN : 20 < N) : F_X4_init N (B + 14) (B + 13) (hT B 29) = some ((), hT B 89) := by
  unfold F_X4_init
  simp only [e_let, e_bind_some, Option.bind_some, Nat.add_assoc, Nat.reduceAdd, Nat.add_zero, Nat.reduceLeDiff, Nat.reduceEqDiff, and_self, if_true, if_false, i4_0, i4_1, i4_2, i4_3, i4_4, j01, j12, j23, j34, o29, c30_X3, o54, o55, o56, l57_25 hN]
theorem o89 : h_sr (hT B 89) 3 4 (B + 5) 0 (B + 13) = some (hT B 90) := tR (c := 5) (k := 0) (n := 4) (n2 := 2) (by decide +kernel) (by decide +kernel) (by decide) rfl rfl (by decide) (by decide +kernel) (by decide +kernel)
theorem b28_92 {N : Nat} (hN : 20 < N) (K : Nat × Nat × Nat × Int32 × eH → Option (Unit × eH)) : F_X11_init_92b N (B + 1) (fun c s l0 l1 h => K (c, s, l0, l1, h)) 12 153 B 0 (hT B 28) = K (39, 866, B, 1, hT B 90) := by
  unfold F_X11_init_92b
  simp only [e_let, e_bind_some, Option.bind_some, Nat.add_assoc, Nat.reduceAdd, Nat.add_zero, Nat.reduceLeDiff, Nat.reduceEqDiff, and_self, if_true, if_false, i4_0, i4_1, i4_2, i4_3, i4_4, j01, j12, j23, j34, r28_0_2, n28_5, o28, c29_X4 hN, o89]
theorem r90_0_2 : h_gr (hT B 90) 10 (B) 2 = some (B + 5) := tG (c := 0) (n := 12) rfl (by decide) (by decide) (by decide +kernel) (by decide +kernel)
theorem n90_5 : h_len (hT B 90) (B + 5) = some 4 := tL (c := 5) (t2 := 3) rfl (by decide) (by decide +kernel)
theorem o90 : h_set (hT B 90) (B + 40) (oB 4 (fun k => defaultValue (tyX4 k))) = hT B 91 := by rw [dv4]; exact tA (c := 40) (t := 90) (by decide +kernel) (by decide +kernel) (by decide) rfl
theorem o91 : h_set (hT B 91) (B + 41) (oB 3 (fun k => defaultValue (tyX3 k))) = hT B 92 := by rw [dv3]; exact tA (c := 41) (t := 91) (by decide +kernel) (by decide +kernel) (by decide) rfl
theorem o92 : h_set (hT B 92) (B + 42) (oL 1 160 (fun _ => 0)) = hT B 93 := by exact tA (c := 42) (t := 92) (by decide +kernel) (by decide +kernel) (by decide) rfl
theorem o93 : h_p (hT B 93) 3 (B + 41) 0 (.ref (B + 42)) = some (hT B 94) := tS (c := 41) (n := 11) (by decide +kernel) (by decide +kernel) (by decide) rfl (by decide) (by decide) (by decide +kernel)
theorem o94 : h_set (hT B 94) (B + 43) (oI 0 160 (fun _ => 0)) = hT B 95 := by exact tA (c := 43) (t := 94) (by decide +kernel) (by decide +kernel) (by decide) rfl
theorem o95 : h_p (hT B 95) 3 (B + 41) 1 (.ref (B + 43)) = some (hT B 96) := tS (c := 41) (n := 11) (by decide +kernel) (by decide +kernel) (by decide) rfl (by decide) (by decide) (by decide +kernel)
theorem o96 : h_set (hT B 96) (B + 44) (oI 0 160 (fun _ => 0)) = hT B 97 := by exact tA (c := 44) (t := 96) (by decide +kernel) (by decide +kernel) (by decide) rfl
theorem o97 : h_p (hT B 97) 3 (B + 41) 2 (.ref (B + 44)) = some (hT B 98) := tS (c := 41) (n := 11) (by decide +kernel) (by decide +kernel) (by decide) rfl (by decide) (by decide) (by decide +kernel)
theorem o98 : h_set (hT B 98) (B + 45) (oI 0 160 (fun _ => 0)) = hT B 99 := by exact tA (c := 45) (t := 98) (by decide +kernel) (by decide +kernel) (by decide) rfl
theorem o99 : h_p (hT B 99) 3 (B + 41) 3 (.ref (B + 45)) = some (hT B 100) := tS (c := 41) (n := 11) (by decide +kernel) (by decide +kernel) (by decide) rfl (by decide) (by decide) (by decide +kernel)
theorem o100 : h_set (hT B 100) (B + 46) (oB 1 (fun k => defaultValue (tyX1 k))) = hT B 101 := by rw [dv1]; exact tA (c := 46) (t := 100) (by decide +kernel) (by decide +kernel) (by decide) rfl
theorem o101 : h_set (hT B 101) (B + 47) (oL 1 4 (fun _ => 0)) = hT B 102 := by exact tA (c := 47) (t := 101) (by decide +kernel) (by decide +kernel) (by decide) rfl
theorem o102 : h_p (hT B 102) 1 (B + 46) 0 (.ref (B + 47)) = some (hT B 103) := tS (c := 46) (n := 1) (by decide +kernel) (by decide +kernel) (by decide) rfl (by decide) (by decide) (by decide +kernel)
theorem c101_X1 : F_X1_init (B + 47) (B + 46) (hT B 101) = some ((), hT B 103) := by
  unfold F_X1_init
  simp only [e_let, e_bind_some, Option.bind_some, Nat.add_assoc, Nat.reduceAdd, Nat.add_zero, Nat.reduceLeDiff, Nat.reduceEqDiff, and_self, if_true, if_false, i4_0, i4_1, i4_2, i4_3, i4_4, j01, j12, j23, j34, o101, o102]
theorem o103 : h_p (hT B 103) 3 (B + 41) 4 (.ref (B + 46)) = some (hT B 104) := tS (c := 41) (n := 11) (by decide +kernel) (by decide +kernel) (by decide) rfl (by decide) (by decide) (by decide +kernel)
theorem o104 : h_set (hT B 104) (B + 48) (oB 1 (fun k => defaultValue (tyX1 k))) = hT B 105 := by rw [dv1]; exact tA (c := 48) (t := 104) (by decide +kernel) (by decide +kernel) (by decide) rfl
theorem o105 : h_set (hT B 105) (B + 49) (oL 1 4 (fun _ => 0)) = hT B 106 := by exact tA (c := 49) (t := 105) (by decide +kernel) (by decide +kernel) (by decide) rfl
theorem o106 : h_p (hT B 106) 1 (B + 48) 0 (.ref (B + 49)) = some (hT B 107) := tS (c := 48) (n := 1) (by decide +kernel) (by decide +kernel) (by decide) rfl (by decide) (by decide) (by decide +kernel)
theorem c105_X1 : F_X1_init (B + 49) (B + 48) (hT B 105) = some ((), hT B 107) := by
  unfold F_X1_init
  simp only [e_let, e_bind_some, Option.bind_some, Nat.add_assoc, Nat.reduceAdd, Nat.add_zero, Nat.reduceLeDiff, Nat.reduceEqDiff, and_self, if_true, if_false, i4_0, i4_1, i4_2, i4_3, i4_4, j01, j12, j23, j34, o105, o106]
theorem o107 : h_p (hT B 107) 3 (B + 41) 5 (.ref (B + 48)) = some (hT B 108) := tS (c := 41) (n := 11) (by decide +kernel) (by decide +kernel) (by decide) rfl (by decide) (by decide) (by decide +kernel)
theorem o108 : h_set (hT B 108) (B + 50) (oB 1 (fun k => defaultValue (tyX1 k))) = hT B 109 := by rw [dv1]; exact tA (c := 50) (t := 108) (by decide +kernel) (by decide +kernel) (by decide) rfl
theorem o109 : h_set (hT B 109) (B + 51) (oL 1 4 (fun _ => 0)) = hT B 110 := by exact tA (c := 51) (t := 109) (by decide +kernel) (by decide +kernel) (by decide) rfl
theorem o110 : h_p (hT B 110) 1 (B + 50) 0 (.ref (B + 51)) = some (hT B 111) := tS (c := 50) (n := 1) (by decide +kernel) (by decide +kernel) (by decide) rfl (by decide) (by decide) (by decide +kernel)
theorem c109_X1 : F_X1_init (B + 51) (B + 50) (hT B 109) = some ((), hT B 111) := by
  unfold F_X1_init
  simp only [e_let, e_bind_some, Option.bind_some, Nat.add_assoc, Nat.reduceAdd, Nat.add_zero, Nat.reduceLeDiff, Nat.reduceEqDiff, and_self, if_true, if_false, i4_0, i4_1, i4_2, i4_3, i4_4, j01, j12, j23, j34, o109, o110]
theorem o111 : h_p (hT B 111) 3 (B + 41) 6 (.ref (B + 50)) = some (hT B 112) := tS (c := 41) (n := 11) (by decide +kernel) (by decide +kernel) (by decide) rfl (by decide) (by decide) (by decide +kernel)
theorem o112 : h_set (hT B 112) (B + 52) (oB 1 (fun k => defaultValue (tyX1 k))) = hT B 113 := by rw [dv1]; exact tA (c := 52) (t := 112) (by decide +kernel) (by decide +kernel) (by decide) rfl
theorem o113 : h_set (hT B 113) (B + 53) (oL 1 4 (fun _ => 0)) = hT B 114 := by exact tA (c := 53) (t := 113) (by decide +kernel) (by decide +kernel) (by decide) rfl
theorem o114 : h_p (hT B 114) 1 (B + 52) 0 (.ref (B + 53)) = some (hT B 115) := tS (c := 52) (n := 1) (by decide +kernel) (by decide +kernel) (by decide) rfl (by decide) (by decide) (by decide +kernel)
theorem c113_X1 : F_X1_init (B + 53) (B + 52) (hT B 113) = some ((), hT B 115) := by
  unfold F_X1_init
  simp only [e_let, e_bind_some, Option.bind_some, Nat.add_assoc, Nat.reduceAdd, Nat.add_zero, Nat.reduceLeDiff, Nat.reduceEqDiff, and_self, if_true, if_false, i4_0, i4_1, i4_2, i4_3, i4_4, j01, j12, j23, j34, o113, o114]
theorem o115 : h_p (hT B 115) 3 (B + 41) 7 (.ref (B + 52)) = some (hT B 116) := tS (c := 41) (n := 11) (by decide +kernel) (by decide +kernel) (by decide) rfl (by decide) (by decide) (by decide +kernel)
theorem c92_X3 : F_X3_init (B + 42) (B + 41) (hT B 92) = some ((), hT B 116) := by
  unfold F_X3_init
  simp only [e_let, e_bind_some, Option.bind_some, Nat.add_assoc, Nat.reduceAdd, Nat.add_zero, Nat.reduceLeDiff, Nat.reduceEqDiff, and_self, if_true, if_false, i4_0, i4_1, i4_2, i4_3, i4_4, j01, j12, j23, j34, o92, o93, o94, o95, o96, o97, o98, o99, o100, c101_X1, o103, o104, c105_X1, o107, o108, c109_X1, o111, o112, c113_X1, o115]
theorem o116 : h_p (hT B 116) 4 (B + 40) 0 (.ref (B + 41)) = some (hT B 117) := tS (c := 40) (n := 2) (by decide +kernel) (by decide +kernel) (by decide) rfl (by decide) (by decide) (by decide +kernel)
theorem o117 : h_set (hT B 117) (B + 54) (oR 4 4 (fun _ => none)) = hT B 118 := by exact tA (c := 54) (t := 117) (by decide +kernel) (by decide +kernel) (by decide) rfl
theorem o118 : h_p (hT B 118) 4 (B + 40) 1 (.ref (B + 54)) = some (hT B 119) := tS (c := 40) (n := 2) (by decide +kernel) (by decide +kernel) (by decide) rfl (by decide) (by decide) (by decide +kernel)
theorem r119_40_1 : h_gr (hT B 119) 4 (B + 40) 1 = some (B + 54) := tG (c := 40) (n := 2) rfl (by decide) (by decide) (by decide +kernel) (by decide +kernel)
theorem n119_54 : h_len (hT B 119) (B + 54) = some 4 := tL (c := 54) (t2 := 4) rfl (by decide) (by decide +kernel)
theorem o119 : h_set (hT B 119) (B + 55) (oB 8 (fun k => defaultValue (tyX8 k))) = hT B 120 := by rw [dv8]; exact tA (c := 55) (t := 119) (by decide +kernel) (by decide +kernel) (by decide) rfl
theorem r120_40_0 : h_gr (hT B 120) 4 (B + 40) 0 = some (B + 41) := tG (c := 40) (n := 2) rfl (by decide) (by decide) (by decide +kernel) (by decide +kernel)
theorem o120 : h_set (hT B 120) (B + 56) (oB 1 (fun k => defaultValue (tyX1 k))) = hT B 121 := by rw [dv1]; exact tA (c := 56) (t := 120) (by decide +kernel) (by decide +kernel) (by decide) rfl
theorem o121 : h_set (hT B 121) (B + 57) (oL 1 4 (fun _ => 0)) = hT B 122 := by exact tA (c := 57) (t := 121) (by decide +kernel) (by decide +kernel) (by decide) rfl
theorem o122 : h_p (hT B 122) 1 (B + 56) 0 (.ref (B + 57)) = some (hT B 123) := tS (c := 56) (n := 1) (by decide +kernel) (by decide +kernel) (by decide) rfl (by decide) (by decide) (by decide +kernel)
theorem c121_X1 : F_X1_init (B + 57) (B + 56) (hT B 121) = some ((), hT B 123) := by
  unfold F_X1_init
  simp only [e_let, e_bind_some, Option.bind_some, Nat.add_assoc, Nat.reduceAdd, Nat.add_zero, Nat.reduceLeDiff, Nat.reduceEqDiff, and_self, if_true, if_false, i4_0, i4_1, i4_2, i4_3, i4_4, j01, j12, j23, j34, o121, o122]
theorem o123 : h_p (hT B 123) 8 (B + 55) 2 (.ref (B + 56)) = some (hT B 124) := tS (c := 55) (n := 4) (by decide +kernel) (by decide +kernel) (by decide) rfl (by decide) (by decide) (by decide +kernel)
theorem o124 : h_p (hT B 124) 8 (B + 55) 0 (.int 0) = some (hT B 125) := tI (c := 55) (n := 4) (by decide +kernel) (by decide +kernel) (by decide) rfl (by decide) (by decide) (by decide +kernel)
theorem o125 : h_p (hT B 125) 8 (B + 55) 1 (.ref (B + 41)) = some (hT B 126) := tS (c := 55) (n := 4) (by decide +kernel) (by decide +kernel) (by decide) rfl (by decide) (by decide) (by decide +kernel)
theorem c120_X8 : F_X8_init (B + 56) (B + 55) 0 (B + 41) (hT B 120) = some ((), hT B 126) := by
  unfold F_X8_init
  simp only [e_let, e_bind_some, Option.bind_some, Nat.add_assoc, Nat.reduceAdd, Nat.add_zero, Nat.reduceLeDiff, Nat.reduceEqDiff, and_self, if_true, if_false, i4_0, i4_1, i4_2, i4_3, i4_4, j01, j12, j23, j34, o120, c121_X1, o123, o124, o125]
theorem o126 : h_sr (hT B 126) 4 8 (B + 54) 0 (B + 55) = some (hT B 127) := tR (c := 54) (k := 0) (n := 4) (n2 := 4) (by decide +kernel) (by decide +kernel) (by decide) rfl rfl (by decide) (by decide +kernel) (by decide +kernel)
theorem b119_25 {N : Nat} (K : Nat × Nat × Nat × Int32 × eH → Option (Unit × eH)) : F_X4_init_25b N (B + 41) (fun c s l0 l1 h => K (c, s, l0, l1, h)) 14 675 (B + 40) 0 (hT B 119) = K (17, 684, B + 40, 1, hT B 127) := by
  unfold F_X4_init_25b
  simp only [e_let, e_bind_some, Option.bind_some, Nat.add_assoc, Nat.reduceAdd, Nat.add_zero, Nat.reduceLeDiff, Nat.reduceEqDiff, and_self, if_true, if_false, i4_0, i4_1, i4_2, i4_3, i4_4, j01, j12, j23, j34, r119_40_1, n119_54, o119, r120_40_0, c120_X8, o126]
theorem r127_40_1 : h_gr (hT B 127) 4 (B + 40) 1 = some (B + 54) := tG (c := 40) (n := 2) rfl (by decide) (by decide) (by decide +kernel) (by decide +kernel)
theorem n127_54 : h_len (hT B 127) (B + 54) = some 4 := tL (c := 54) (t2 := 4) rfl (by decide) (by decide +kernel)
theorem o127 : h_set (hT B 127) (B + 58) (oB 8 (fun k => defaultValue (tyX8 k))) = hT B 128 := by rw [dv8]; exact tA (c := 58) (t := 127) (by decide +kernel) (by decide +kernel) (by decide) rfl
theorem r128_40_0 : h_gr (hT B 128) 4 (B + 40) 0 = some (B + 41) := tG (c := 40) (n := 2) rfl (by decide) (by decide) (by decide +kernel) (by decide +kernel)
theorem o128 : h_set (hT B 128) (B + 59) (oB 1 (fun k => defaultValue (tyX1 k))) = hT B 129 := by rw [dv1]; exact tA (c := 59) (t := 128) (by decide +kernel) (by decide +kernel) (by decide) rfl
theorem o129 : h_set (hT B 129) (B + 60) (oL 1 4 (fun _ => 0)) = hT B 130 := by exact tA (c := 60) (t := 129) (by decide +kernel) (by decide +kernel) (by decide) rfl
theorem o130 : h_p (hT B 130) 1 (B + 59) 0 (.ref (B + 60)) = some (hT B 131) := tS (c := 59) (n := 1) (by decide +kernel) (by decide +kernel) (by decide) rfl (by decide) (by decide) (by decide +kernel)
theorem c129_X1 : F_X1_init (B + 60) (B + 59) (hT B 129) = some ((), hT B 131) := by
  unfold F_X1_init
  simp only [e_let, e_bind_some, Option.bind_some, Nat.add_assoc, Nat.reduceAdd, Nat.add_zero, Nat.reduceLeDiff, Nat.reduceEqDiff, and_self, if_true, if_false, i4_0, i4_1, i4_2, i4_3, i4_4, j01, j12, j23, j34, o129, o130]
theorem o131 : h_p (hT B 131) 8 (B + 58) 2 (.ref (B + 59)) = some (hT B 132) := tS (c := 58) (n := 4) (by decide +kernel) (by decide +kernel) (by decide) rfl (by decide) (by decide) (by decide +kernel)
theorem o132 : h_p (hT B 132) 8 (B + 58) 0 (.int 1) = some (hT B 133) := tI (c := 58) (n := 4) (by decide +kernel) (by decide +kernel) (by decide) rfl (by decide) (by decide) (by decide +kernel)
theorem o133 : h_p (hT B 133) 8 (B + 58) 1 (.ref (B + 41)) = some (hT B 134) := tS (c := 58) (n := 4) (by decide +kernel) (by decide +kernel) (by decide) rfl (by decide) (by decide) (by decide +kernel)
theorem c128_X8 : F_X8_init (B + 59) (B + 58) 1 (B + 41) (hT B 128) = some ((), hT B 134) := by
  unfold F_X8_init
  simp only [e_let, e_bind_some, Option.bind_some, Nat.add_assoc, Nat.reduceAdd, Nat.add_zero, Nat.reduceLeDiff, Nat.reduceEqDiff, and_self, if_true, if_false, i4_0, i4_1, i4_2, i4_3, i4_4, j01, j12, j23, j34, o128, c129_X1, o131, o132, o133]
theorem o134 : h_sr (hT B 134) 4 8 (B + 54) 1 (B + 58) = some (hT B 135) := tR (c := 54) (k := 1) (n := 4) (n2 := 4) (by decide +kernel) (by decide +kernel) (by decide) rfl rfl (by decide) (by decide +kernel) (by decide +kernel)
theorem b127_25 {N : Nat} (K : Nat × Nat × Nat × Int32 × eH → Option (Unit × eH)) : F_X4_init_25b N (B + 41) (fun c s l0 l1 h => K (c, s, l0, l1, h)) 17 684 (B + 40) 1 (hT B 127) = K (20, 693, B + 40, 2, hT B 135) := by
  unfold F_X4_init_25b
  simp only [e_let, e_bind_some, Option.bind_some, Nat.add_assoc, Nat.reduceAdd, Nat.add_zero, Nat.reduceLeDiff, Nat.reduceEqDiff, and_self, if_true, if_false, i4_0, i4_1, i4_2, i4_3, i4_4, j01, j12, j23, j34, r127_40_1, n127_54, o127, r128_40_0, c128_X8, o134]
theorem r135_40_1 : h_gr (hT B 135) 4 (B + 40) 1 = some (B + 54) := tG (c := 40) (n := 2) rfl (by decide) (by decide) (by decide +kernel) (by decide +kernel)
theorem n135_54 : h_len (hT B 135) (B + 54) = some 4 := tL (c := 54) (t2 := 4) rfl (by decide) (by decide +kernel)
theorem o135 : h_set (hT B 135) (B + 61) (oB 8 (fun k => defaultValue (tyX8 k))) = hT B 136 := by rw [dv8]; exact tA (c := 61) (t := 135) (by decide +kernel) (by decide +kernel) (by decide) rfl
theorem r136_40_0 : h_gr (hT B 136) 4 (B + 40) 0 = some (B + 41) := tG (c := 40) (n := 2) rfl (by decide) (by decide) (by decide +kernel) (by decide +kernel)
theorem o136 : h_set (hT B 136) (B + 62) (oB 1 (fun k => defaultValue (tyX1 k))) = hT B 137 := by rw [dv1]; exact tA (c := 62) (t := 136) (by decide +kernel) (by decide +kernel) (by decide) rfl
theorem o137 : h_set (hT B 137) (B + 63) (oL 1 4 (fun _ => 0)) = hT B 138 := by exact tA (c := 63) (t := 137) (by decide +kernel) (by decide +kernel) (by decide) rfl
theorem o138 : h_p (hT B 138) 1 (B + 62) 0 (.ref (B + 63)) = some (hT B 139) := tS (c := 62) (n := 1) (by decide +kernel) (by decide +kernel) (by decide) rfl (by decide) (by decide) (by decide +kernel)
theorem c137_X1 : F_X1_init (B + 63) (B + 62) (hT B 137) = some ((), hT B 139) := by
  unfold F_X1_init
  simp only [e_let, e_bind_some, Option.bind_some, Nat.add_assoc, Nat.reduceAdd, Nat.add_zero, Nat.reduceLeDiff, Nat.reduceEqDiff, and_self, if_true, if_false, i4_0, i4_1, i4_2, i4_3, i4_4, j01, j12, j23, j34, o137, o138]
theorem o139 : h_p (hT B 139) 8 (B + 61) 2 (.ref (B + 62)) = some (hT B 140) := tS (c := 61) (n := 4) (by decide +kernel) (by decide +kernel) (by decide) rfl (by decide) (by decide) (by decide +kernel)
theorem o140 : h_p (hT B 140) 8 (B + 61) 0 (.int 2) = some (hT B 141) := tI (c := 61) (n := 4) (by decide +kernel) (by decide +kernel) (by decide) rfl (by decide) (by decide) (by decide +kernel)
theorem o141 : h_p (hT B 141) 8 (B + 61) 1 (.ref (B + 41)) = some (hT B 142) := tS (c := 61) (n := 4) (by decide +kernel) (by decide +kernel) (by decide) rfl (by decide) (by decide) (by decide +kernel)
theorem c136_X8 : F_X8_init (B + 62) (B + 61) 2 (B + 41) (hT B 136) = some ((), hT B 142) := by
  unfold F_X8_init
  simp only [e_let, e_bind_some, Option.bind_some, Nat.add_assoc, Nat.reduceAdd, Nat.add_zero, Nat.reduceLeDiff, Nat.reduceEqDiff, and_self, if_true, if_false, i4_0, i4_1, i4_2, i4_3, i4_4, j01, j12, j23, j34, o136, c137_X1, o139, o140, o141]
theorem o142 : h_sr (hT B 142) 4 8 (B + 54) 2 (B + 61) = some (hT B 143) := tR (c := 54) (k := 2) (n := 4) (n2 := 4) (by decide +kernel) (by decide +kernel) (by decide) rfl rfl (by decide) (by decide +kernel) (by decide +kernel)
theorem b135_25 {N : Nat} (K : Nat × Nat × Nat × Int32 × eH → Option (Unit × eH)) : F_X4_init_25b N (B + 41) (fun c s l0 l1 h => K (c, s, l0, l1, h)) 20 693 (B + 40) 2 (hT B 135) = K (23, 702, B + 40, 3, hT B 143) := by
  unfold F_X4_init_25b
  simp only [e_let, e_bind_some, Option.bind_some, Nat.add_assoc, Nat.reduceAdd, Nat.add_zero, Nat.reduceLeDiff, Nat.reduceEqDiff, and_self, if_true, if_false, i4_0, i4_1, i4_2, i4_3, i4_4, j01, j12, j23, j34, r135_40_1, n135_54, o135, r136_40_0, c136_X8, o142]
theorem r143_40_1 : h_gr (hT B 143) 4 (B + 40) 1 = some (B + 54) := tG (c := 40) (n := 2) rfl (by decide) (by decide) (by decide +kernel) (by decide +kernel)
theorem n143_54 : h_len (hT B 143) (B + 54) = some 4 := tL (c := 54) (t2 := 4) rfl (by decide) (by decide +kernel)
theorem o143 : h_set (hT B 143) (B + 64) (oB 8 (fun k => defaultValue (tyX8 k))) = hT B 144 := by rw [dv8]; exact tA (c := 64) (t := 143) (by decide +kernel) (by decide +kernel) (by decide) rfl
theorem r144_40_0 : h_gr (hT B 144) 4 (B + 40) 0 = some (B + 41) := tG (c := 40) (n := 2) rfl (by decide) (by decide) (by decide +kernel) (by decide +kernel)
theorem o144 : h_set (hT B 144) (B + 65) (oB 1 (fun k => defaultValue (tyX1 k))) = hT B 145 := by rw [dv1]; exact tA (c := 65) (t := 144) (by decide +kernel) (by decide +kernel) (by decide) rfl
theorem o145 : h_set (hT B 145) (B + 66) (oL 1 4 (fun _ => 0)) = hT B 146 := by exact tA (c := 66) (t := 145) (by decide +kernel) (by decide +kernel) (by decide) rfl
theorem o146 : h_p (hT B 146) 1 (B + 65) 0 (.ref (B + 66)) = some (hT B 147) := tS (c := 65) (n := 1) (by decide +kernel) (by decide +kernel) (by decide) rfl (by decide) (by decide) (by decide +kernel)
theorem c145_X1 : F_X1_init (B + 66) (B + 65) (hT B 145) = some ((), hT B 147) := by
  unfold F_X1_init
  simp only [e_let, e_bind_some, Option.bind_some, Nat.add_assoc, Nat.reduceAdd, Nat.add_zero, Nat.reduceLeDiff, Nat.reduceEqDiff, and_self, if_true, if_false, i4_0, i4_1, i4_2, i4_3, i4_4, j01, j12, j23, j34, o145, o146]
theorem o147 : h_p (hT B 147) 8 (B + 64) 2 (.ref (B + 65)) = some (hT B 148) := tS (c := 64) (n := 4) (by decide +kernel) (by decide +kernel) (by decide) rfl (by decide) (by decide) (by decide +kernel)
theorem o148 : h_p (hT B 148) 8 (B + 64) 0 (.int 3) = some (hT B 149) := tI (c := 64) (n := 4) (by decide +kernel) (by decide +kernel) (by decide) rfl (by decide) (by decide) (by decide +kernel)
theorem o149 : h_p (hT B 149) 8 (B + 64) 1 (.ref (B + 41)) = some (hT B 150) := tS (c := 64) (n := 4) (by decide +kernel) (by decide +kernel) (by decide) rfl (by decide) (by decide) (by decide +kernel)
theorem c144_X8 : F_X8_init (B + 65) (B + 64) 3 (B + 41) (hT B 144) = some ((), hT B 150) := by
  unfold F_X8_init
  simp only [e_let, e_bind_some, Option.bind_some, Nat.add_assoc, Nat.reduceAdd, Nat.add_zero, Nat.reduceLeDiff, Nat.reduceEqDiff, and_self, if_true, if_false, i4_0, i4_1, i4_2, i4_3, i4_4, j01, j12, j23, j34, o144, c145_X1, o147, o148, o149]
theorem o150 : h_sr (hT B 150) 4 8 (B + 54) 3 (B + 64) = some (hT B 151) := tR (c := 54) (k := 3) (n := 4) (n2 := 4) (by decide +kernel) (by decide +kernel) (by decide) rfl rfl (by decide) (by decide +kernel) (by decide +kernel)
theorem b143_25 {N : Nat} (K : Nat × Nat × Nat × Int32 × eH → Option (Unit × eH)) : F_X4_init_25b N (B + 41) (fun c s l0 l1 h => K (c, s, l0, l1, h)) 23 702 (B + 40) 3 (hT B 143) = K (26, 711, B + 40, 4, hT B 151) := by
  unfold F_X4_init_25b
  simp only [e_let, e_bind_some, Option.bind_some, Nat.add_assoc, Nat.reduceAdd, Nat.add_zero, Nat.reduceLeDiff, Nat.reduceEqDiff, and_self, if_true, if_false, i4_0, i4_1, i4_2, i4_3, i4_4, j01, j12, j23, j34, r143_40_1, n143_54, o143, r144_40_0, c144_X8, o150]
theorem r151_40_1 : h_gr (hT B 151) 4 (B + 40) 1 = some (B + 54) := tG (c := 40) (n := 2) rfl (by decide) (by decide) (by decide +kernel) (by decide +kernel)
theorem n151_54 : h_len (hT B 151) (B + 54) = some 4 := tL (c := 54) (t2 := 4) rfl (by decide) (by decide +kernel)
theorem b151_25 {N : Nat} (K : Nat × Nat × Nat × Int32 × eH → Option (Unit × eH)) : F_X4_init_25b N (B + 41) (fun c s l0 l1 h => K (c, s, l0, l1, h)) 26 711 (B + 40) 4 (hT B 151) = some ((), hT B 151) := by
  unfold F_X4_init_25b
  simp only [e_let, e_bind_some, Option.bind_some, Nat.add_assoc, Nat.reduceAdd, Nat.add_zero, Nat.reduceLeDiff, Nat.reduceEqDiff, and_self, if_true, if_false, i4_0, i4_1, i4_2, i4_3, i4_4, j01, j12, j23, j34, r151_40_1, n151_54]
theorem l119_25 {N : Nat} (hN : 20 < N) : L_X4_init_25 N (B + 41) 14 675 (B + 40) 0 (hT B 119) = some ((), hT B 151) := by
  unfold L_X4_init_25
  rw [e_loop_S (by omega)]
  refine Eq.trans (b119_25 _) ?_
  rw [e_loop_S (by omega)]
  refine Eq.trans (b127_25 _) ?_
  rw [e_loop_S (by omega)]
  refine Eq.trans (b135_25 _) ?_
  rw [e_loop_S (by omega)]
  refine Eq.trans (b143_25 _) ?_
  rw [e_loop_S (by omega)]
  exact b151_25 _
theorem c91_X4 {N : Nat} (hN : 20 < N) : F_X4_init N (B + 41) (B + 40) (hT B 91) = some ((), hT B 151) := by
  unfold F_X4_init
  simp only [e_let, e_bind_some, Option.bind_some, Nat.add_assoc, Nat.reduceAdd, Nat.add_zero, Nat.reduceLeDiff, Nat.reduceEqDiff, and_self, if_true, if_false, i4_0, i4_1, i4_2, i4_3, i4_4, j01, j12, j23, j34, o91, c92_X3, o116, o117, o118, l119_25 hN]
theorem o151 : h_sr (hT B 151) 3 4 (B + 5) 1 (B + 40) = some (hT B 152) := tR (c := 5) (k := 1) (n := 4) (n2 := 2) (by decide +kernel) (by decide +kernel) (by decide) rfl rfl (by decide) (by decide +kernel) (by decide +kernel)
theorem b90_92 {N : Nat} (hN : 20 < N) (K : Nat × Nat × Nat × Int32 × eH → Option (Unit × eH)) : F_X11_init_92b N (B + 1) (fun c s l0 l1 h => K (c, s, l0, l1, h)) 39 866 B 1 (hT B 90) = K (66, 1579, B, 2, hT B 152) := by
  unfold F_X11_init_92b
  simp only [e_let, e_bind_some, Option.bind_some, Nat.add_assoc, Nat.reduceAdd, Nat.add_zero, Nat.reduceLeDiff, Nat.reduceEqDiff, and_self, if_true, if_false, i4_0, i4_1, i4_2, i4_3, i4_4, j01, j12, j23, j34, r90_0_2, n90_5, o90, c91_X4 hN, o151]
theorem r152_0_2 : h_gr (hT B 152) 10 (B) 2 = some (B + 5) := tG (c := 0) (n := 12) rfl (by decide) (by decide) (by decide +kernel) (by decide +kernel)
theorem n152_5 : h_len (hT B 152) (B + 5) = some 4 := tL (c := 5) (t2 := 3) rfl (by decide) (by decide +kernel)
theorem o152 : h_set (hT B 152) (B + 67) (oB 4 (fun k => defaultValue (tyX4 k))) = hT B 153 := by rw [dv4]; exact tA (c := 67) (t := 152) (by decide +kernel) (by decide +kernel) (by decide) rfl
theorem o153 : h_set (hT B 153) (B + 68) (oB 3 (fun k => defaultValue (tyX3 k))) = hT B 154 := by rw [dv3]; exact tA (c := 68) (t := 153) (by decide +kernel) (by decide +kernel) (by decide) rfl
theorem o154 : h_set (hT B 154) (B + 69) (oL 1 160 (fun _ => 0)) = hT B 155 := by exact tA (c := 69) (t := 154) (by decide +kernel) (by decide +kernel) (by decide) rfl
theorem o155 : h_p (hT B 155) 3 (B + 68) 0 (.ref (B + 69)) = some (hT B 156) := tS (c := 68) (n := 11) (by decide +kernel) (by decide +kernel) (by decide) rfl (by decide) (by decide) (by decide +kernel)
theorem o156 : h_set (hT B 156) (B + 70) (oI 0 160 (fun _ => 0)) = hT B 157 := by exact tA (c := 70) (t := 156) (by decide +kernel) (by decide +kernel) (by decide) rfl
theorem o157 : h_p (hT B 157) 3 (B + 68) 1 (.ref (B + 70)) = some (hT B 158) := tS (c := 68) (n := 11) (by decide +kernel) (by decide +kernel) (by decide) rfl (by decide) (by decide) (by decide +kernel)
theorem o158 : h_set (hT B 158) (B + 71) (oI 0 160 (fun _ => 0)) = hT B 159 := by exact tA (c := 71) (t := 158) (by decide +kernel) (by decide +kernel) (by decide) rfl
theorem o159 : h_p (hT B 159) 3 (B + 68) 2 (.ref (B + 71)) = some (hT B 160) := tS (c := 68) (n := 11) (by decide +kernel) (by decide +kernel) (by decide) rfl (by decide) (by decide) (by decide +kernel)
theorem o160 : h_set (hT B 160) (B + 72) (oI 0 160 (fun _ => 0)) = hT B 161 := by exact tA (c := 72) (t := 160) (by decide +kernel) (by decide +kernel) (by decide) rfl
theorem o161 : h_p (hT B 161) 3 (B + 68) 3 (.ref (B + 72)) = some (hT B 162) := tS (c := 68) (n := 11) (by decide +kernel) (by decide +kernel) (by decide) rfl (by decide) (by decide) (by decide +kernel)
theorem o162 : h_set (hT B 162) (B + 73) (oB 1 (fun k => defaultValue (tyX1 k))) = hT B 163 := by rw [dv1]; exact tA (c := 73) (t := 162) (by decide +kernel) (by decide +kernel) (by decide) rfl
theorem o163 : h_set (hT B 163) (B + 74) (oL 1 4 (fun _ => 0)) = hT B 164 := by exact tA (c := 74) (t := 163) (by decide +kernel) (by decide +kernel) (by decide) rfl
theorem o164 : h_p (hT B 164) 1 (B + 73) 0 (.ref (B + 74)) = some (hT B 165) := tS (c := 73) (n := 1) (by decide +kernel) (by decide +kernel) (by decide) rfl (by decide) (by decide) (by decide +kernel)
theorem c163_X1 : F_X1_init (B + 74) (B + 73) (hT B 163) = some ((), hT B 165) := by
  unfold F_X1_init
  simp only [e_let, e_bind_some, Option.bind_some, Nat.add_assoc, Nat.reduceAdd, Nat.add_zero, Nat.reduceLeDiff, Nat.reduceEqDiff, and_self, if_true, if_false, i4_0, i4_1, i4_2, i4_3, i4_4, j01, j12, j23, j34, o163, o164]
theorem o165 : h_p (hT B 165) 3 (B + 68) 4 (.ref (B + 73)) = some (hT B 166) := tS (c := 68) (n := 11) (by decide +kernel) (by decide +kernel) (by decide) rfl (by decide) (by decide) (by decide +kernel)
theorem o166 : h_set (hT B 166) (B + 75) (oB 1 (fun k => defaultValue (tyX1 k))) = hT B 167 := by rw [dv1]; exact tA (c := 75) (t := 166) (by decide +kernel) (by decide +kernel) (by decide) rfl
theorem o167 : h_set (hT B 167) (B + 76) (oL 1 4 (fun _ => 0)) = hT B 168 := by exact tA (c := 76) (t := 167) (by decide +kernel) (by decide +kernel) (by decide) rfl
theorem o168 : h_p (hT B 168) 1 (B + 75) 0 (.ref (B + 76)) = some (hT B 169) := tS (c := 75) (n := 1) (by decide +kernel) (by decide +kernel) (by decide) rfl (by decide) (by decide) (by decide +kernel)
theorem c167_X1 : F_X1_init (B + 76) (B + 75) (hT B 167) = some ((), hT B 169) := by
  unfold F_X1_init
  simp only [e_let, e_bind_some, Option.bind_some, Nat.add_assoc, Nat.reduceAdd, Nat.add_zero, Nat.reduceLeDiff, Nat.reduceEqDiff, and_self, if_true, if_false, i4_0, i4_1, i4_2, i4_3, i4_4, j01, j12, j23, j34, o167, o168]
theorem o169 : h_p (hT B 169) 3 (B + 68) 5 (.ref (B + 75)) = some (hT B 170) := tS (c := 68) (n := 11) (by decide +kernel) (by decide +kernel) (by decide) rfl (by decide) (by decide) (by decide +kernel)
theorem o170 : h_set (hT B 170) (B + 77) (oB 1 (fun k => defaultValue (tyX1 k))) = hT B 171 := by rw [dv1]; exact tA (c := 77) (t := 170) (by decide +kernel) (by decide +kernel) (by decide) rfl
theorem o171 : h_set (hT B 171) (B + 78) (oL 1 4 (fun _ => 0)) = hT B 172 := by exact tA (c := 78) (t := 171) (by decide +kernel) (by decide +kernel) (by decide) rfl
theorem o172 : h_p (hT B 172) 1 (B + 77) 0 (.ref (B + 78)) = some (hT B 173) := tS (c := 77) (n := 1) (by decide +kernel) (by decide +kernel) (by decide) rfl (by decide) (by decide) (by decide +kernel)
theorem c171_X1 : F_X1_init (B + 78) (B + 77) (hT B 171) = some ((), hT B 173) := by
  unfold F_X1_init
  simp only [e_let, e_bind_some, Option.bind_some, Nat.add_assoc, Nat.reduceAdd, Nat.add_zero, Nat.reduceLeDiff, Nat.reduceEqDiff, and_self, if_true, if_false, i4_0, i4_1, i4_2, i4_3, i4_4, j01, j12, j23, j34, o171, o172]
theorem o173 : h_p (hT B 173) 3 (B + 68) 6 (.ref (B + 77)) = some (hT B 174) := tS (c := 68) (n := 11) (by decide +kernel) (by decide +kernel) (by decide) rfl (by decide) (by decide) (by decide +kernel)
theorem o174 : h_set (hT B 174) (B + 79) (oB 1 (fun k => defaultValue (tyX1 k))) = hT B 175 := by rw [dv1]; exact tA (c := 79) (t := 174) (by decide +kernel) (by decide +kernel) (by decide) rfl
theorem o175 : h_set (hT B 175) (B + 80) (oL 1 4 (fun _ => 0)) = hT B 176 := by exact tA (c := 80) (t := 175) (by decide +kernel) (by decide +kernel) (by decide) rfl
theorem o176 : h_p (hT B 176) 1 (B + 79) 0 (.ref (B + 80)) = some (hT B 177) := tS (c := 79) (n := 1) (by decide +kernel) (by decide +kernel) (by decide) rfl (by decide) (by decide) (by decide +kernel)
theorem c175_X1 : F_X1_init (B + 80) (B + 79) (hT B 175) = some ((), hT B 177) := by
  unfold F_X1_init
  simp only [e_let, e_bind_some, Option.bind_some, Nat.add_assoc, Nat.reduceAdd, Nat.add_zero, Nat.reduceLeDiff, Nat.reduceEqDiff, and_self, if_true, if_false, i4_0, i4_1, i4_2, i4_3, i4_4, j01, j12, j23, j34, o175, o176]
theorem o177 : h_p (hT B 177) 3 (B + 68) 7 (.ref (B + 79)) = some (hT B 178) := tS (c := 68) (n := 11) (by decide +kernel) (by decide +kernel) (by decide) rfl (by decide) (by decide) (by decide +kernel)
theorem c154_X3 : F_X3_init (B + 69) (B + 68) (hT B 154) = some ((), hT B 178) := by
  unfold F_X3_init
  simp only [e_let, e_bind_some, Option.bind_some, Nat.add_assoc, Nat.reduceAdd, Nat.add_zero, Nat.reduceLeDiff, Nat.reduceEqDiff, and_self, if_true, if_false, i4_0, i4_1, i4_2, i4_3, i4_4, j01, j12, j23, j34, o154, o155, o156, o157, o158, o159, o160, o161, o162, c163_X1, o165, o166, c167_X1, o169, o170, c171_X1, o173, o174, c175_X1, o177]
theorem o178 : h_p (hT B 178) 4 (B + 67) 0 (.ref (B + 68)) = some (hT B 179) := tS (c := 67) (n := 2) (by decide +kernel) (by decide +kernel) (by decide) rfl (by decide) (by decide) (by decide +kernel)
theorem o179 : h_set (hT B 179) (B + 81) (oR 4 4 (fun _ => none)) = hT B 180 := by exact tA (c := 81) (t := 179) (by decide +kernel) (by decide +kernel) (by decide) rfl
theorem o180 : h_p (hT B 180) 4 (B + 67) 1 (.ref (B + 81)) = some (hT B 181) := tS (c := 67) (n := 2) (by decide +kernel) (by decide +kernel) (by decide) rfl (by decide) (by decide) (by decide +kernel)
theorem r181_67_1 : h_gr (hT B 181) 4 (B + 67) 1 = some (B + 81) := tG (c := 67) (n := 2) rfl (by decide) (by decide) (by decide +kernel) (by decide +kernel)
theorem n181_81 : h_len (hT B 181) (B + 81) = some 4 := tL (c := 81) (t2 := 4) rfl (by decide) (by decide +kernel)
theorem o181 : h_set (hT B 181) (B + 82) (oB 8 (fun k => defaultValue (tyX8 k))) = hT B 182 := by rw [dv8]; exact tA (c := 82) (t := 181) (by decide +kernel) (by decide +kernel) (by decide) rfl
theorem r182_67_0 : h_gr (hT B 182) 4 (B + 67) 0 = some (B + 68) := tG (c := 67) (n := 2) rfl (by decide) (by decide) (by decide +kernel) (by decide +kernel)
theorem o182 : h_set (hT B 182) (B + 83) (oB 1 (fun k => defaultValue (tyX1 k))) = hT B 183 := by rw [dv1]; exact tA (c := 83) (t := 182) (by decide +kernel) (by decide +kernel) (by decide) rfl
theorem o183 : h_set (hT B 183) (B + 84) (oL 1 4 (fun _ => 0)) = hT B 184 := by exact tA (c := 84) (t := 183) (by decide +kernel) (by decide +kernel) (by decide) rfl
theorem o184 : h_p (hT B 184) 1 (B + 83) 0 (.ref (B + 84)) = some (hT B 185) := tS (c := 83) (n := 1) (by decide +kernel) (by decide +kernel) (by decide) rfl (by decide) (by decide) (by decide +kernel)
theorem c183_X1 : F_X1_init (B + 84) (B + 83) (hT B 183) = some ((), hT B 185) := by
  unfold F_X1_init
  simp only [e_let, e_bind_some, Option.bind_some, Nat.add_assoc, Nat.reduceAdd, Nat.add_zero, Nat.reduceLeDiff, Nat.reduceEqDiff, and_self, if_true, if_false, i4_0, i4_1, i4_2, i4_3, i4_4, j01, j12, j23, j34, o183, o184]
theorem o185 : h_p (hT B 185) 8 (B + 82) 2 (.ref (B + 83)) = some (hT B 186) := tS (c := 82) (n := 4) (by decide +kernel) (by decide +kernel) (by decide) rfl (by decide) (by decide) (by decide +kernel)
theorem o186 : h_p (hT B 186) 8 (B + 82) 0 (.int 0) = some (hT B 187) := tI (c := 82) (n := 4) (by decide +kernel) (by decide +kernel) (by decide) rfl (by decide) (by decide) (by decide +kernel)
theorem o187 : h_p (hT B 187) 8 (B + 82) 1 (.ref (B + 68)) = some (hT B 188) := tS (c := 82) (n := 4) (by decide +kernel) (by decide +kernel) (by decide) rfl (by decide) (by decide) (by decide +kernel)
theorem c182_X8 : F_X8_init (B + 83) (B + 82) 0 (B + 68) (hT B 182) = some ((), hT B 188) := by
  unfold F_X8_init
  simp only [e_let, e_bind_some, Option.bind_some, Nat.add_assoc, Nat.reduceAdd, Nat.add_zero, Nat.reduceLeDiff, Nat.reduceEqDiff, and_self, if_true, if_false, i4_0, i4_1, i4_2, i4_3, i4_4, j01, j12, j23, j34, o182, c183_X1, o185, o186, o187]
theorem o188 : h_sr (hT B 188) 4 8 (B + 81) 0 (B + 82) = some (hT B 189) := tR (c := 81) (k := 0) (n := 4) (n2 := 4) (by decide +kernel) (by decide +kernel) (by decide) rfl rfl (by decide) (by decide +kernel) (by decide +kernel)
theorem b181_25 {N : Nat} (K : Nat × Nat × Nat × Int32 × eH → Option (Unit × eH)) : F_X4_init_25b N (B + 68) (fun c s l0 l1 h => K (c, s, l0, l1, h)) 14 675 (B + 67) 0 (hT B 181) = K (17, 684, B + 67, 1, hT B 189) := by
  unfold F_X4_init_25b
  simp only [e_let, e_bind_some, Option.bind_some, Nat.add_assoc, Nat.reduceAdd, Nat.add_zero, Nat.reduceLeDiff, Nat.reduceEqDiff, and_self, if_true, if_false, i4_0, i4_1, i4_2, i4_3, i4_4, j01, j12, j23, j34, r181_67_1, n181_81, o181, r182_67_0, c182_X8, o188]
theorem r189_67_1 : h_gr (hT B 189) 4 (B + 67) 1 = some (B + 81) := tG (c := 67) (n := 2) rfl (by decide) (by decide) (by decide +kernel) (by decide +kernel)
theorem n189_81 : h_len (hT B 189) (B + 81) = some 4 := tL (c := 81) (t2 := 4) rfl (by decide) (by decide +kernel)
theorem o189 : h_set (hT B 189) (B + 85) (oB 8 (fun k => defaultValue (tyX8 k))) = hT B 190 := by rw [dv8]; exact tA (c := 85) (t := 189) (by decide +kernel) (by decide +kernel) (by decide) rfl
theorem r190_67_0 : h_gr (hT B 190) 4 (B + 67) 0 = some (B + 68) := tG (c := 67) (n := 2) rfl (by decide) (by decide) (by decide +kernel) (by decide +kernel)
theorem o190 : h_set (hT B 190) (B + 86) (oB 1 (fun k => defaultValue (tyX1 k))) = hT B 191 := by rw [dv1]; exact tA (c := 86) (t := 190) (by decide +kernel) (by decide +kernel) (by decide) rfl
theorem o191 : h_set (hT B 191) (B + 87) (oL 1 4 (fun _ => 0)) = hT B 192 := by exact tA (c := 87) (t := 191) (by decide +kernel) (by decide +kernel) (by decide) rfl
theorem o192 : h_p (hT B 192) 1 (B + 86) 0 (.ref (B + 87)) = some (hT B 193) := tS (c := 86) (n := 1) (by decide +kernel) (by decide +kernel) (by decide) rfl (by decide) (by decide) (by decide +kernel)
theorem c191_X1 : F_X1_init (B + 87) (B + 86) (hT B 191) = some ((), hT B 193) := by
  unfold F_X1_init
  simp only [e_let, e_bind_some, Option.bind_some, Nat.add_assoc, Nat.reduceAdd, Nat.add_zero, Nat.reduceLeDiff, Nat.reduceEqDiff, and_self, if_true, if_false, i4_0, i4_1, i4_2, i4_3, i4_4, j01, j12, j23, j34, o191, o192]
theorem o193 : h_p (hT B 193) 8 (B + 85) 2 (.ref (B + 86)) = some (hT B 194) := tS (c := 85) (n := 4) (by decide +kernel) (by decide +kernel) (by decide) rfl (by decide) (by decide) (by decide +kernel)
theorem o194 : h_p (hT B 194) 8 (B + 85) 0 (.int 1) = some (hT B 195) := tI (c := 85) (n := 4) (by decide +kernel) (by decide +kernel) (by decide) rfl (by decide) (by decide) (by decide +kernel)
theorem o195 : h_p (hT B 195) 8 (B + 85) 1 (.ref (B + 68)) = some (hT B 196) := tS (c := 85) (n := 4) (by decide +kernel) (by decide +kernel) (by decide) rfl (by decide) (by decide) (by decide +kernel)
theorem c190_X8 : F_X8_init (B + 86) (B + 85) 1 (B + 68) (hT B 190) = some ((), hT B 196) := by
  unfold F_X8_init
  simp only [e_let, e_bind_some, Option.bind_some, Nat.add_assoc, Nat.reduceAdd, Nat.add_zero, Nat.reduceLeDiff, Nat.reduceEqDiff, and_self, if_true, if_false, i4_0, i4_1, i4_2, i4_3, i4_4, j01, j12, j23, j34, o190, c191_X1, o193, o194, o195]
theorem o196 : h_sr (hT B 196) 4 8 (B + 81) 1 (B + 85) = some (hT B 197) := tR (c := 81) (k := 1) (n := 4) (n2 := 4) (by decide +kernel) (by decide +kernel) (by decide) rfl rfl (by decide) (by decide +kernel) (by decide +kernel)
theorem b189_25 {N : Nat} (K : Nat × Nat × Nat × Int32 × eH → Option (Unit × eH)) : F_X4_init_25b N (B + 68) (fun c s l0 l1 h => K (c, s, l0, l1, h)) 17 684 (B + 67) 1 (hT B 189) = K (20, 693, B + 67, 2, hT B 197) := by
  unfold F_X4_init_25b
  simp only [e_let, e_bind_some, Option.bind_some, Nat.add_assoc, Nat.reduceAdd, Nat.add_zero, Nat.reduceLeDiff, Nat.reduceEqDiff, and_self, if_true, if_false, i4_0, i4_1, i4_2, i4_3, i4_4, j01, j12, j23, j34, r189_67_1, n189_81, o189, r190_67_0, c190_X8, o196]
theorem r197_67_1 : h_gr (hT B 197) 4 (B + 67) 1 = some (B + 81) := tG (c := 67) (n := 2) rfl (by decide) (by decide) (by decide +kernel) (by decide +kernel)
theorem n197_81 : h_len (hT B 197) (B + 81) = some 4 := tL (c := 81) (t2 := 4) rfl (by decide) (by decide +kernel)
theorem o197 : h_set (hT B 197) (B + 88) (oB 8 (fun k => defaultValue (tyX8 k))) = hT B 198 := by rw [dv8]; exact tA (c := 88) (t := 197) (by decide +kernel) (by decide +kernel) (by decide) rfl
theorem r198_67_0 : h_gr (hT B 198) 4 (B + 67) 0 = some (B + 68) := tG (c := 67) (n := 2) rfl (by decide) (by decide) (by decide +kernel) (by decide +kernel)
theorem o198 : h_set (hT B 198) (B + 89) (oB 1 (fun k => defaultValue (tyX1 k))) = hT B 199 := by rw [dv1]; exact tA (c := 89) (t := 198) (by decide +kernel) (by decide +kernel) (by decide) rfl
theorem o199 : h_set (hT B 199) (B + 90) (oL 1 4 (fun _ => 0)) = hT B 200 := by exact tA (c := 90) (t := 199) (by decide +kernel) (by decide +kernel) (by decide) rfl
theorem o200 : h_p (hT B 200) 1 (B + 89) 0 (.ref (B + 90)) = some (hT B 201) := tS (c := 89) (n := 1) (by decide +kernel) (by decide +kernel) (by decide) rfl (by decide) (by decide) (by decide +kernel)
theorem c199_X1 : F_X1_init (B + 90) (B + 89) (hT B 199) = some ((), hT B 201) := by
  unfold F_X1_init
  simp only [e_let, e_bind_some, Option.bind_some, Nat.add_assoc, Nat.reduceAdd, Nat.add_zero, Nat.reduceLeDiff, Nat.reduceEqDiff, and_self, if_true, if_false, i4_0, i4_1, i4_2, i4_3, i4_4, j01, j12, j23, j34, o199, o200]
theorem o201 : h_p (hT B 201) 8 (B + 88) 2 (.ref (B + 89)) = some (hT B 202) := tS (c := 88) (n := 4) (by decide +kernel) (by decide +kernel) (by decide) rfl (by decide) (by decide) (by decide +kernel)
theorem o202 : h_p (hT B 202) 8 (B + 88) 0 (.int 2) = some (hT B 203) := tI (c := 88) (n := 4) (by decide +kernel) (by decide +kernel) (by decide) rfl (by decide) (by decide) (by decide +kernel)
theorem o203 : h_p (hT B 203) 8 (B + 88) 1 (.ref (B + 68)) = some (hT B 204) := tS (c := 88) (n := 4) (by decide +kernel) (by decide +kernel) (by decide) rfl (by decide) (by decide) (by decide +kernel)
theorem c198_X8 : F_X8_init (B + 89) (B + 88) 2 (B + 68) (hT B 198) = some ((), hT B 204) := by
  unfold F_X8_init
  simp only [e_let, e_bind_some, Option.bind_some, Nat.add_assoc, Nat.reduceAdd, Nat.add_zero, Nat.reduceLeDiff, Nat.reduceEqDiff, and_self, if_true, if_false, i4_0, i4_1, i4_2, i4_3, i4_4, j01, j12, j23, j34, o198, c199_X1, o201, o202, o203]
theorem o204 : h_sr (hT B 204) 4 8 (B + 81) 2 (B + 88) = some (hT B 205) := tR (c := 81) (k := 2) (n := 4) (n2 := 4) (by decide +kernel) (by decide +kernel) (by decide) rfl rfl (by decide) (by decide +kernel) (by decide +kernel)
theorem b197_25 {N : Nat} (K : Nat × Nat × Nat × Int32 × eH → Option (Unit × eH)) : F_X4_init_25b N (B + 68) (fun c s l0 l1 h => K (c, s, l0, l1, h)) 20 693 (B + 67) 2 (hT B 197) = K (23, 702, B + 67, 3, hT B 205) := by
  unfold F_X4_init_25b
  simp only [e_let, e_bind_some, Option.bind_some, Nat.add_assoc, Nat.reduceAdd, Nat.add_zero, Nat.reduceLeDiff, Nat.reduceEqDiff, and_self, if_true, if_false, i4_0, i4_1, i4_2, i4_3, i4_4, j01, j12, j23, j34, r197_67_1, n197_81, o197, r198_67_0, c198_X8, o204]
theorem r205_67_1 : h_gr (hT B 205) 4 (B + 67) 1 = some (B + 81) := tG (c := 67) (n := 2) rfl (by decide) (by decide) (by decide +kernel) (by decide +kernel)
theorem n205_81 : h_len (hT B 205) (B + 81) = some 4 := tL (c := 81) (t2 := 4) rfl (by decide) (by decide +kernel)
theorem o205 : h_set (hT B 205) (B + 91) (oB 8 (fun k => defaultValue (tyX8 k))) = hT B 206 := by rw [dv8]; exact tA (c := 91) (t := 205) (by decide +kernel) (by decide +kernel) (by decide) rfl
theorem r206_67_0 : h_gr (hT B 206) 4 (B + 67) 0 = some (B + 68) := tG (c := 67) (n := 2) rfl (by decide) (by decide) (by decide +kernel) (by decide +kernel)
theorem o206 : h_set (hT B 206) (B + 92) (oB 1 (fun k => defaultValue (tyX1 k))) = hT B 207 := by rw [dv1]; exact tA (c := 92) (t := 206) (by decide +kernel) (by decide +kernel) (by decide) rfl
theorem o207 : h_set (hT B 207) (B + 93) (oL 1 4 (fun _ => 0)) = hT B 208 := by exact tA (c := 93) (t := 207) (by decide +kernel) (by decide +kernel) (by decide) rfl
theorem o208 : h_p (hT B 208) 1 (B + 92) 0 (.ref (B + 93)) = some (hT B 209) := tS (c := 92) (n := 1) (by decide +kernel) (by decide +kernel) (by decide) rfl (by decide) (by decide) (by decide +kernel)
theorem c207_X1 : F_X1_init (B + 93) (B + 92) (hT B 207) = some ((), hT B 209) := by
  unfold F_X1_init
  simp only [e_let, e_bind_some, Option.bind_some, Nat.add_assoc, Nat.reduceAdd, Nat.add_zero, Nat.reduceLeDiff, Nat.reduceEqDiff, and_self, if_true, if_false, i4_0, i4_1, i4_2, i4_3, i4_4, j01, j12, j23, j34, o207, o208]
theorem o209 : h_p (hT B 209) 8 (B + 91) 2 (.ref (B + 92)) = some (hT B 210) := tS (c := 91) (n := 4) (by decide +kernel) (by decide +kernel) (by decide) rfl (by decide) (by decide) (by decide +kernel)
theorem o210 : h_p (hT B 210) 8 (B + 91) 0 (.int 3) = some (hT B 211) := tI (c := 91) (n := 4) (by decide +kernel) (by decide +kernel) (by decide) rfl (by decide) (by decide) (by decide +kernel)
theorem o211 : h_p (hT B 211) 8 (B + 91) 1 (.ref (B + 68)) = some (hT B 212) := tS (c := 91) (n := 4) (by decide +kernel) (by decide +kernel) (by decide) rfl (by decide) (by decide) (by decide +kernel)
theorem c206_X8 : F_X8_init (B + 92) (B + 91) 3 (B + 68) (hT B 206) = some ((), hT B 212) := by
  unfold F_X8_init
  simp only [e_let, e_bind_some, Option.bind_some, Nat.add_assoc, Nat.reduceAdd, Nat.add_zero, Nat.reduceLeDiff, Nat.reduceEqDiff, and_self, if_true, if_false, i4_0, i4_1, i4_2, i4_3, i4_4, j01, j12, j23, j34, o206, c207_X1, o209, o210, o211]
theorem o212 : h_sr (hT B 212) 4 8 (B + 81) 3 (B + 91) = some (hT B 213) := tR (c := 81) (k := 3) (n := 4) (n2 := 4) (by decide +kernel) (by decide +kernel) (by decide) rfl rfl (by decide) (by decide +kernel) (by decide +kernel)
theorem b205_25 {N : Nat} (K : Nat × Nat × Nat × Int32 × eH → Option (Unit × eH)) : F_X4_init_25b N (B + 68) (fun c s l0 l1 h => K (c, s, l0, l1, h)) 23 702 (B + 67) 3 (hT B 205) = K (26, 711, B + 67, 4, hT B 213) := by
  unfold F_X4_init_25b
  simp only [e_let, e_bind_some, Option.bind_some, Nat.add_assoc, Nat.reduceAdd, Nat.add_zero, Nat.reduceLeDiff, Nat.reduceEqDiff, and_self, if_true, if_false, i4_0, i4_1, i4_2, i4_3, i4_4, j01, j12, j23, j34, r205_67_1, n205_81, o205, r206_67_0, c206_X8, o212]
theorem r213_67_1 : h_gr (hT B 213) 4 (B + 67) 1 = some (B + 81) := tG (c := 67) (n := 2) rfl (by decide) (by decide) (by decide +kernel) (by decide +kernel)
theorem n213_81 : h_len (hT B 213) (B + 81) = some 4 := tL (c := 81) (t2 := 4) rfl (by decide) (by decide +kernel)
theorem b213_25 {N : Nat} (K : Nat × Nat × Nat × Int32 × eH → Option (Unit × eH)) : F_X4_init_25b N (B + 68) (fun c s l0 l1 h => K (c, s, l0, l1, h)) 26 711 (B + 67) 4 (hT B 213) = some ((), hT B 213) := by
  unfold F_X4_init_25b
  simp only [e_let, e_bind_some, Option.bind_some, Nat.add_assoc, Nat.reduceAdd, Nat.add_zero, Nat.reduceLeDiff, Nat.reduceEqDiff, and_self, if_true, if_false, i4_0, i4_1, i4_2, i4_3, i4_4, j01, j12, j23, j34, r213_67_1, n213_81]
theorem l181_25 {N : Nat} (hN : 20 < N) : L_X4_init_25 N (B + 68) 14 675 (B + 67) 0 (hT B 181) = some ((), hT B 213) := by
  unfold L_X4_init_25
  rw [e_loop_S (by omega)]
  refine Eq.trans (b181_25 _) ?_
  rw [e_loop_S (by omega)]
  refine Eq.trans (b189_25 _) ?_
  rw [e_loop_S (by omega)]
  refine Eq.trans (b197_25 _) ?_
  rw [e_loop_S (by omega)]
  refine Eq.trans (b205_25 _) ?_
  rw [e_loop_S (by omega)]
  exact b213_25 _
theorem c153_X4 {N : Nat} (hN : 20 < N) : F_X4_init N (B + 68) (B + 67) (hT B 153) = some ((), hT B 213) := by
  unfold F_X4_init
  simp only [e_let, e_bind_some, Option.bind_some, Nat.add_assoc, Nat.reduceAdd, Nat.add_zero, Nat.reduceLeDiff, Nat.reduceEqDiff, and_self, if_true, if_false, i4_0, i4_1, i4_2, i4_3, i4_4, j01, j12, j23, j34, o153, c154_X3, o178, o179, o180, l181_25 hN]
theorem o213 : h_sr (hT B 213) 3 4 (B + 5) 2 (B + 67) = some (hT B 214) := tR (c := 5) (k := 2) (n := 4) (n2 := 2) (by decide +kernel) (by decide +kernel) (by decide) rfl rfl (by decide) (by decide +kernel) (by decide +kernel)
theorem b152_92 {N : Nat} (hN : 20 < N) (K : Nat × Nat × Nat × Int32 × eH → Option (Unit × eH)) : F_X11_init_92b N (B + 1) (fun c s l0 l1 h => K (c, s, l0, l1, h)) 66 1579 B 2 (hT B 152) = K (93, 2292, B, 3, hT B 214) := by
  unfold F_X11_init_92b
  simp only [e_let, e_bind_some, Option.bind_some, Nat.add_assoc, Nat.reduceAdd, Nat.add_zero, Nat.reduceLeDiff, Nat.reduceEqDiff, and_self, if_true, if_false, i4_0, i4_1, i4_2, i4_3, i4_4, j01, j12, j23, j34, r152_0_2, n152_5, o152, c153_X4 hN, o213]
theorem r214_0_2 : h_gr (hT B 214) 10 (B) 2 = some (B + 5) := tG (c := 0) (n := 12) rfl (by decide) (by decide) (by decide +kernel) (by decide +kernel)
theorem n214_5 : h_len (hT B 214) (B + 5) = some 4 := tL (c := 5) (t2 := 3) rfl (by decide) (by decide +kernel)
theorem o214 : h_set (hT B 214) (B + 94) (oB 4 (fun k => defaultValue (tyX4 k))) = hT B 215 := by rw [dv4]; exact tA (c := 94) (t := 214) (by decide +kernel) (by decide +kernel) (by decide) rfl
theorem o215 : h_set (hT B 215) (B + 95) (oB 3 (fun k => defaultValue (tyX3 k))) = hT B 216 := by rw [dv3]; exact tA (c := 95) (t := 215) (by decide +kernel) (by decide +kernel) (by decide) rfl
theorem o216 : h_set (hT B 216) (B + 96) (oL 1 160 (fun _ => 0)) = hT B 217 := by exact tA (c := 96) (t := 216) (by decide +kernel) (by decide +kernel) (by decide) rfl
theorem o217 : h_p (hT B 217) 3 (B + 95) 0 (.ref (B + 96)) = some (hT B 218) := tS (c := 95) (n := 11) (by decide +kernel) (by decide +kernel) (by decide) rfl (by decide) (by decide) (by decide +kernel)
theorem o218 : h_set (hT B 218) (B + 97) (oI 0 160 (fun _ => 0)) = hT B 219 := by exact tA (c := 97) (t := 218) (by decide +kernel) (by decide +kernel) (by decide) rfl
theorem o219 : h_p (hT B 219) 3 (B + 95) 1 (.ref (B + 97)) = some (hT B 220) := tS (c := 95) (n := 11) (by decide +kernel) (by decide +kernel) (by decide) rfl (by decide) (by decide) (by decide +kernel)
theorem o220 : h_set (hT B 220) (B + 98) (oI 0 160 (fun _ => 0)) = hT B 221 := by exact tA (c := 98) (t := 220) (by decide +kernel) (by decide +kernel) (by decide) rfl
theorem o221 : h_p (hT B 221) 3 (B + 95) 2 (.ref (B + 98)) = some (hT B 222) := tS (c := 95) (n := 11) (by decide +kernel) (by decide +kernel) (by decide) rfl (by decide) (by decide) (by decide +kernel)
theorem o222 : h_set (hT B 222) (B + 99) (oI 0 160 (fun _ => 0)) = hT B 223 := by exact tA (c := 99) (t := 222) (by decide +kernel) (by decide +kernel) (by decide) rfl
theorem o223 : h_p (hT B 223) 3 (B + 95) 3 (.ref (B + 99)) = some (hT B 224) := tS (c := 95) (n := 11) (by decide +kernel) (by decide +kernel) (by decide) rfl (by decide) (by decide) (by decide +kernel)
theorem o224 : h_set (hT B 224) (B + 100) (oB 1 (fun k => defaultValue (tyX1 k))) = hT B 225 := by rw [dv1]; exact tA (c := 100) (t := 224) (by decide +kernel) (by decide +kernel) (by decide) rfl
theorem o225 : h_set (hT B 225) (B + 101) (oL 1 4 (fun _ => 0)) = hT B 226 := by exact tA (c := 101) (t := 225) (by decide +kernel) (by decide +kernel) (by decide) rfl
theorem o226 : h_p (hT B 226) 1 (B + 100) 0 (.ref (B + 101)) = some (hT B 227) := tS (c := 100) (n := 1) (by decide +kernel) (by decide +kernel) (by decide) rfl (by decide) (by decide) (by decide +kernel)
theorem c225_X1 : F_X1_init (B + 101) (B + 100) (hT B 225) = some ((), hT B 227) := by
  unfold F_X1_init
  simp only [e_let, e_bind_some, Option.bind_some, Nat.add_assoc, Nat.reduceAdd, Nat.add_zero, Nat.reduceLeDiff, Nat.reduceEqDiff, and_self, if_true, if_false, i4_0, i4_1, i4_2, i4_3, i4_4, j01, j12, j23, j34, o225, o226]
theorem o227 : h_p (hT B 227) 3 (B + 95) 4 (.ref (B + 100)) = some (hT B 228) := tS (c := 95) (n := 11) (by decide +kernel) (by decide +kernel) (by decide) rfl (by decide) (by decide) (by decide +kernel)
theorem o228 : h_set (hT B 228) (B + 102) (oB 1 (fun k => defaultValue (tyX1 k))) = hT B 229 := by rw [dv1]; exact tA (c := 102) (t := 228) (by decide +kernel) (by decide +kernel) (by decide) rfl
theorem o229 : h_set (hT B 229) (B + 103) (oL 1 4 (fun _ => 0)) = hT B 230 := by exact tA (c := 103) (t := 229) (by decide +kernel) (by decide +kernel) (by decide) rfl
theorem o230 : h_p (hT B 230) 1 (B + 102) 0 (.ref (B + 103)) = some (hT B 231) := tS (c := 102) (n := 1) (by decide +kernel) (by decide +kernel) (by decide) rfl (by decide) (by decide) (by decide +kernel)
theorem c229_X1 : F_X1_init (B + 103) (B + 102) (hT B 229) = some ((), hT B 231) := by
  unfold F_X1_init
  simp only [e_let, e_bind_some, Option.bind_some, Nat.add_assoc, Nat.reduceAdd, Nat.add_zero, Nat.reduceLeDiff, Nat.reduceEqDiff, and_self, if_true, if_false, i4_0, i4_1, i4_2, i4_3, i4_4, j01, j12, j23, j34, o229, o230]
theorem o231 : h_p (hT B 231) 3 (B + 95) 5 (.ref (B + 102)) = some (hT B 232) := tS (c := 95) (n := 11) (by decide +kernel) (by decide +kernel) (by decide) rfl (by decide) (by decide) (by decide +kernel)
theorem o232 : h_set (hT B 232) (B + 104) (oB 1 (fun k => defaultValue (tyX1 k))) = hT B 233 := by rw [dv1]; exact tA (c := 104) (t := 232) (by decide +kernel) (by decide +kernel) (by decide) rfl
theorem o233 : h_set (hT B 233) (B + 105) (oL 1 4 (fun _ => 0)) = hT B 234 := by exact tA (c := 105) (t := 233) (by decide +kernel) (by decide +kernel) (by decide) rfl
theorem o234 : h_p (hT B 234) 1 (B + 104) 0 (.ref (B + 105)) = some (hT B 235) := tS (c := 104) (n := 1) (by decide +kernel) (by decide +kernel) (by decide) rfl (by decide) (by decide) (by decide +kernel)
theorem c233_X1 : F_X1_init (B + 105) (B + 104) (hT B 233) = some ((), hT B 235) := by
  unfold F_X1_init
  simp only [e_let, e_bind_some, Option.bind_some, Nat.add_assoc, Nat.reduceAdd, Nat.add_zero, Nat.reduceLeDiff, Nat.reduceEqDiff, and_self, if_true, if_false, i4_0, i4_1, i4_2, i4_3, i4_4, j01, j12, j23, j34, o233, o234]
theorem o235 : h_p (hT B 235) 3 (B + 95) 6 (.ref (B + 104)) = some (hT B 236) := tS (c := 95) (n := 11) (by decide +kernel) (by decide +kernel) (by decide) rfl (by decide) (by decide) (by decide +kernel)
theorem o236 : h_set (hT B 236) (B + 106) (oB 1 (fun k => defaultValue (tyX1 k))) = hT B 237 := by rw [dv1]; exact tA (c := 106) (t := 236) (by decide +kernel) (by decide +kernel) (by decide) rfl
theorem o237 : h_set (hT B 237) (B + 107) (oL 1 4 (fun _ => 0)) = hT B 238 := by exact tA (c := 107) (t := 237) (by decide +kernel) (by decide +kernel) (by decide) rfl
theorem o238 : h_p (hT B 238) 1 (B + 106) 0 (.ref (B + 107)) = some (hT B 239) := tS (c := 106) (n := 1) (by decide +kernel) (by decide +kernel) (by decide) rfl (by decide) (by decide) (by decide +kernel)
theorem c237_X1 : F_X1_init (B + 107) (B + 106) (hT B 237) = some ((), hT B 239) := by
  unfold F_X1_init
  simp only [e_let, e_bind_some, Option.bind_some, Nat.add_assoc, Nat.reduceAdd, Nat.add_zero, Nat.reduceLeDiff, Nat.reduceEqDiff, and_self, if_true, if_false, i4_0, i4_1, i4_2, i4_3, i4_4, j01, j12, j23, j34, o237, o238]
theorem o239 : h_p (hT B 239) 3 (B + 95) 7 (.ref (B + 106)) = some (hT B 240) := tS (c := 95) (n := 11) (by decide +kernel) (by decide +kernel) (by decide) rfl (by decide) (by decide) (by decide +kernel)
theorem c216_X3 : F_X3_init (B + 96) (B + 95) (hT B 216) = some ((), hT B 240) := by
  unfold F_X3_init
  simp only [e_let, e_bind_some, Option.bind_some, Nat.add_assoc, Nat.reduceAdd, Nat.add_zero, Nat.reduceLeDiff, Nat.reduceEqDiff, and_self, if_true, if_false, i4_0, i4_1, i4_2, i4_3, i4_4, j01, j12, j23, j34, o216, o217, o218, o219, o220, o221, o222, o223, o224, c225_X1, o227, o228, c229_X1, o231, o232, c233_X1, o235, o236, c237_X1, o239]
theorem o240 : h_p (hT B 240) 4 (B + 94) 0 (.ref (B + 95)) = some (hT B 241) := tS (c := 94) (n := 2) (by decide +kernel) (by decide +kernel) (by decide) rfl (by decide) (by decide) (by decide +kernel)
theorem o241 : h_set (hT B 241) (B + 108) (oR 4 4 (fun _ => none)) = hT B 242 := by exact tA (c := 108) (t := 241) (by decide +kernel) (by decide +kernel) (by decide) rfl
theorem o242 : h_p (hT B 242) 4 (B + 94) 1 (.ref (B + 108)) = some (hT B 243) := tS (c := 94) (n := 2) (by decide +kernel) (by decide +kernel) (by decide) rfl (by decide) (by decide) (by decide +kernel)
theorem r243_94_1 : h_gr (hT B 243) 4 (B + 94) 1 = some (B + 108) := tG (c := 94) (n := 2) rfl (by decide) (by decide) (by decide +kernel) (by decide +kernel)
theorem n243_108 : h_len (hT B 243) (B + 108) = some 4 := tL (c := 108) (t2 := 4) rfl (by decide) (by decide +kernel)
theorem o243 : h_set (hT B 243) (B + 109) (oB 8 (fun k => defaultValue (tyX8 k))) = hT B 244 := by rw [dv8]; exact tA (c := 109) (t := 243) (by decide +kernel) (by decide +kernel) (by decide) rfl
theorem r244_94_0 : h_gr (hT B 244) 4 (B + 94) 0 = some (B + 95) := tG (c := 94) (n := 2) rfl (by decide) (by decide) (by decide +kernel) (by decide +kernel)
theorem o244 : h_set (hT B 244) (B + 110) (oB 1 (fun k => defaultValue (tyX1 k))) = hT B 245 := by rw [dv1]; exact tA (c := 110) (t := 244) (by decide +kernel) (by decide +kernel) (by decide) rfl
theorem o245 : h_set (hT B 245) (B + 111) (oL 1 4 (fun _ => 0)) = hT B 246 := by exact tA (c := 111) (t := 245) (by decide +kernel) (by decide +kernel) (by decide) rfl
theorem o246 : h_p (hT B 246) 1 (B + 110) 0 (.ref (B + 111)) = some (hT B 247) := tS (c := 110) (n := 1) (by decide +kernel) (by decide +kernel) (by decide) rfl (by decide) (by decide) (by decide +kernel)
theorem c245_X1 : F_X1_init (B + 111) (B + 110) (hT B 245) = some ((), hT B 247) := by
  unfold F_X1_init
  simp only [e_let, e_bind_some, Option.bind_some, Nat.add_assoc, Nat.reduceAdd, Nat.add_zero, Nat.reduceLeDiff, Nat.reduceEqDiff, and_self, if_true, if_false, i4_0, i4_1, i4_2, i4_3, i4_4, j01, j12, j23, j34, o245, o246]
theorem o247 : h_p (hT B 247) 8 (B + 109) 2 (.ref (B + 110)) = some (hT B 248) := tS (c := 109) (n := 4) (by decide +kernel) (by decide +kernel) (by decide) rfl (by decide) (by decide) (by decide +kernel)
theorem o248 : h_p (hT B 248) 8 (B + 109) 0 (.int 0) = some (hT B 249) := tI (c := 109) (n := 4) (by decide +kernel) (by decide +kernel) (by decide) rfl (by decide) (by decide) (by decide +kernel)
theorem o249 : h_p (hT B 249) 8 (B + 109) 1 (.ref (B + 95)) = some (hT B 250) := tS (c := 109) (n := 4) (by decide +kernel) (by decide +kernel) (by decide) rfl (by decide) (by decide) (by decide +kernel)
theorem c244_X8 : F_X8_init (B + 110) (B + 109) 0 (B + 95) (hT B 244) = some ((), hT B 250) := by
  unfold F_X8_init
  simp only [e_let, e_bind_some, Option.bind_some, Nat.add_assoc, Nat.reduceAdd, Nat.add_zero, Nat.reduceLeDiff, Nat.reduceEqDiff, and_self, if_true, if_false, i4_0, i4_1, i4_2, i4_3, i4_4, j01, j12, j23, j34, o244, c245_X1, o247, o248, o249]
theorem o250 : h_sr (hT B 250) 4 8 (B + 108) 0 (B + 109) = some (hT B 251) := tR (c := 108) (k := 0) (n := 4) (n2 := 4) (by decide +kernel) (by decide +kernel) (by decide) rfl rfl (by decide) (by decide +kernel) (by decide +kernel)
theorem b243_25 {N : Nat} (K : Nat × Nat × Nat × Int32 × eH → Option (Unit × eH)) : F_X4_init_25b N (B + 95) (fun c s l0 l1 h => K (c, s, l0, l1, h)) 14 675 (B + 94) 0 (hT B 243) = K (17, 684, B + 94, 1, hT B 251) := by
  unfold F_X4_init_25b
  simp only [e_let, e_bind_some, Option.bind_some, Nat.add_assoc, Nat.reduceAdd, Nat.add_zero, Nat.reduceLeDiff, Nat.reduceEqDiff, and_self, if_true, if_false, i4_0, i4_1, i4_2, i4_3, i4_4, j01, j12, j23, j34, r243_94_1, n243_108, o243, r244_94_0, c244_X8, o250]
theorem r251_94_1 : h_gr (hT B 251) 4 (B + 94) 1 = some (B + 108) := tG (c := 94) (n := 2) rfl (by decide) (by decide) (by decide +kernel) (by decide +kernel)
theorem n251_108 : h_len (hT B 251) (B + 108) = some 4 := tL (c := 108) (t2 := 4) rfl (by decide) (by decide +kernel)
theorem o251 : h_set (hT B 251) (B + 112) (oB 8 (fun k => defaultValue (tyX8 k))) = hT B 252 := by rw [dv8]; exact tA (c := 112) (t := 251) (by decide +kernel) (by decide +kernel) (by decide) rfl
theorem r252_94_0 : h_gr (hT B 252) 4 (B + 94) 0 = some (B + 95) := tG (c := 94) (n := 2) rfl (by decide) (by decide) (by decide +kernel) (by decide +kernel)
theorem o252 : h_set (hT B 252) (B + 113) (oB 1 (fun k => defaultValue (tyX1 k))) = hT B 253 := by rw [dv1]; exact tA (c := 113) (t := 252) (by decide +kernel) (by decide +kernel) (by decide) rfl
theorem o253 : h_set (hT B 253) (B + 114) (oL 1 4 (fun _ => 0)) = hT B 254 := by exact tA (c := 114) (t := 253) (by decide +kernel) (by decide +kernel) (by decide) rfl
theorem o254 : h_p (hT B 254) 1 (B + 113) 0 (.ref (B + 114)) = some (hT B 255) := tS (c := 113) (n := 1) (by decide +kernel) (by decide +kernel) (by decide) rfl (by decide) (by decide) (by decide +kernel)
theorem c253_X1 : F_X1_init (B + 114) (B + 113) (hT B 253) = some ((), hT B 255) := by
  unfold F_X1_init
  simp only [e_let, e_bind_some, Option.bind_some, Nat.add_assoc, Nat.reduceAdd, Nat.add_zero, Nat.reduceLeDiff, Nat.reduceEqDiff, and_self, if_true, if_false, i4_0, i4_1, i4_2, i4_3, i4_4, j01, j12, j23, j34, o253, o254]
theorem o255 : h_p (hT B 255) 8 (B + 112) 2 (.ref (B + 113)) = some (hT B 256) := tS (c := 112) (n := 4) (by decide +kernel) (by decide +kernel) (by decide) rfl (by decide) (by decide) (by decide +kernel)
theorem o256 : h_p (hT B 256) 8 (B + 112) 0 (.int 1) = some (hT B 257) := tI (c := 112) (n := 4) (by decide +kernel) (by decide +kernel) (by decide) rfl (by decide) (by decide) (by decide +kernel)
theorem o257 : h_p (hT B 257) 8 (B + 112) 1 (.ref (B + 95)) = some (hT B 258) := tS (c := 112) (n := 4) (by decide +kernel) (by decide +kernel) (by decide) rfl (by decide) (by decide) (by decide +kernel)
theorem c252_X8 : F_X8_init (B + 113) (B + 112) 1 (B + 95) (hT B 252) = some ((), hT B 258) := by
  unfold F_X8_init
  simp only [e_let, e_bind_some, Option.bind_some, Nat.add_assoc, Nat.reduceAdd, Nat.add_zero, Nat.reduceLeDiff, Nat.reduceEqDiff, and_self, if_true, if_false, i4_0, i4_1, i4_2, i4_3, i4_4, j01, j12, j23, j34, o252, c253_X1, o255, o256, o257]
theorem o258 : h_sr (hT B 258) 4 8 (B + 108) 1 (B + 112) = some (hT B 259) := tR (c := 108) (k := 1) (n := 4) (n2 := 4) (by decide +kernel) (by decide +kernel) (by decide) rfl rfl (by decide) (by decide +kernel) (by decide +kernel)
theorem b251_25 {N : Nat} (K : Nat × Nat × Nat × Int32 × eH → Option (Unit × eH)) : F_X4_init_25b N (B + 95) (fun c s l0 l1 h => K (c, s, l0, l1, h)) 17 684 (B + 94) 1 (hT B 251) = K (20, 693, B + 94, 2, hT B 259) := by
  unfold F_X4_init_25b
  simp only [e_let, e_bind_some, Option.bind_some, Nat.add_assoc, Nat.reduceAdd, Nat.add_zero, Nat.reduceLeDiff, Nat.reduceEqDiff, and_self, if_true, if_false, i4_0, i4_1, i4_2, i4_3, i4_4, j01, j12, j23, j34, r251_94_1, n251_108, o251, r252_94_0, c252_X8, o258]
theorem r259_94_1 : h_gr (hT B 259) 4 (B + 94) 1 = some (B + 108) := tG (c := 94) (n := 2) rfl (by decide) (by decide) (by decide +kernel) (by decide +kernel)
theorem n259_108 : h_len (hT B 259) (B + 108) = some 4 := tL (c := 108) (t2 := 4) rfl (by decide) (by decide +kernel)
theorem o259 : h_set (hT B 259) (B + 115) (oB 8 (fun k => defaultValue (tyX8 k))) = hT B 260 := by rw [dv8]; exact tA (c := 115) (t := 259) (by decide +kernel) (by decide +kernel) (by decide) rfl
theorem r260_94_0 : h_gr (hT B 260) 4 (B + 94) 0 = some (B + 95) := tG (c := 94) (n := 2) rfl (by decide) (by decide) (by decide +kernel) (by decide +kernel)
theorem o260 : h_set (hT B 260) (B + 116) (oB 1 (fun k => defaultValue (tyX1 k))) = hT B 261 := by rw [dv1]; exact tA (c := 116) (t := 260) (by decide +kernel) (by decide +kernel) (by decide) rfl
theorem o261 : h_set (hT B 261) (B + 117) (oL 1 4 (fun _ => 0)) = hT B 262 := by exact tA (c := 117) (t := 261) (by decide +kernel) (by decide +kernel) (by decide) rfl
theorem o262 : h_p (hT B 262) 1 (B + 116) 0 (.ref (B + 117)) = some (hT B 263) := tS (c := 116) (n := 1) (by decide +kernel) (by decide +kernel) (by decide) rfl (by decide) (by decide) (by decide +kernel)
theorem c261_X1 : F_X1_init (B + 117) (B + 116) (hT B 261) = some ((), hT B 263) := by
  unfold F_X1_init
  simp only [e_let, e_bind_some, Option.bind_some, Nat.add_assoc, Nat.reduceAdd, Nat.add_zero, Nat.reduceLeDiff, Nat.reduceEqDiff, and_self, if_true, if_false, i4_0, i4_1, i4_2, i4_3, i4_4, j01, j12, j23, j34, o261, o262]
theorem o263 : h_p (hT B 263) 8 (B + 115) 2 (.ref (B + 116)) = some (hT B 264) := tS (c := 115) (n := 4) (by decide +kernel) (by decide +kernel) (by decide) rfl (by decide) (by decide) (by decide +kernel)
theorem o264 : h_p (hT B 264) 8 (B + 115) 0 (.int 2) = some (hT B 265) := tI (c := 115) (n := 4) (by decide +kernel) (by decide +kernel) (by decide) rfl (by decide) (by decide) (by decide +kernel)
theorem o265 : h_p (hT B 265) 8 (B + 115) 1 (.ref (B + 95)) = some (hT B 266) := tS (c := 115) (n := 4) (by decide +kernel) (by decide +kernel) (by decide) rfl (by decide) (by decide) (by decide +kernel)
theorem c260_X8 : F_X8_init (B + 116) (B + 115) 2 (B + 95) (hT B 260) = some ((), hT B 266) := by
  unfold F_X8_init
  simp only [e_let, e_bind_some, Option.bind_some, Nat.add_assoc, Nat.reduceAdd, Nat.add_zero, Nat.reduceLeDiff, Nat.reduceEqDiff, and_self, if_true, if_false, i4_0, i4_1, i4_2, i4_3, i4_4, j01, j12, j23, j34, o260, c261_X1, o263, o264, o265]
theorem o266 : h_sr (hT B 266) 4 8 (B + 108) 2 (B + 115) = some (hT B 267) := tR (c := 108) (k := 2) (n := 4) (n2 := 4) (by decide +kernel) (by decide +kernel) (by decide) rfl rfl (by decide) (by decide +kernel) (by decide +kernel)
theorem b259_25 {N : Nat} (K : Nat × Nat × Nat × Int32 × eH → Option (Unit × eH)) : F_X4_init_25b N (B + 95) (fun c s l0 l1 h => K (c, s, l0, l1, h)) 20 693 (B + 94) 2 (hT B 259) = K (23, 702, B + 94, 3, hT B 267) := by
  unfold F_X4_init_25b
  simp only [e_let, e_bind_some, Option.bind_some, Nat.add_assoc, Nat.reduceAdd, Nat.add_zero, Nat.reduceLeDiff, Nat.reduceEqDiff, and_self, if_true, if_false, i4_0, i4_1, i4_2, i4_3, i4_4, j01, j12, j23, j34, r259_94_1, n259_108, o259, r260_94_0, c260_X8, o266]
theorem r267_94_1 : h_gr (hT B 267) 4 (B + 94) 1 = some (B + 108) := tG (c := 94) (n := 2) rfl (by decide) (by decide) (by decide +kernel) (by decide +kernel)
theorem n267_108 : h_len (hT B 267) (B + 108) = some 4 := tL (c := 108) (t2 := 4) rfl (by decide) (by decide +kernel)
theorem o267 : h_set (hT B 267) (B + 118) (oB 8 (fun k => defaultValue (tyX8 k))) = hT B 268 := by rw [dv8]; exact tA (c := 118) (t := 267) (by decide +kernel) (by decide +kernel) (by decide) rfl
theorem r268_94_0 : h_gr (hT B 268) 4 (B + 94) 0 = some (B + 95) := tG (c := 94) (n := 2) rfl (by decide) (by decide) (by decide +kernel) (by decide +kernel)
theorem o268 : h_set (hT B 268) (B + 119) (oB 1 (fun k => defaultValue (tyX1 k))) = hT B 269 := by rw [dv1]; exact tA (c := 119) (t := 268) (by decide +kernel) (by decide +kernel) (by decide) rfl
theorem o269 : h_set (hT B 269) (B + 120) (oL 1 4 (fun _ => 0)) = hT B 270 := by exact tA (c := 120) (t := 269) (by decide +kernel) (by decide +kernel) (by decide) rfl
theorem o270 : h_p (hT B 270) 1 (B + 119) 0 (.ref (B + 120)) = some (hT B 271) := tS (c := 119) (n := 1) (by decide +kernel) (by decide +kernel) (by decide) rfl (by decide) (by decide) (by decide +kernel)
theorem c269_X1 : F_X1_init (B + 120) (B + 119) (hT B 269) = some ((), hT B 271) := by
  unfold F_X1_init
  simp only [e_let, e_bind_some, Option.bind_some, Nat.add_assoc, Nat.reduceAdd, Nat.add_zero, Nat.reduceLeDiff, Nat.reduceEqDiff, and_self, if_true, if_false, i4_0, i4_1, i4_2, i4_3, i4_4, j01, j12, j23, j34, o269, o270]
theorem o271 : h_p (hT B 271) 8 (B + 118) 2 (.ref (B + 119)) = some (hT B 272) := tS (c := 118) (n := 4) (by decide +kernel) (by decide +kernel) (by decide) rfl (by decide) (by decide) (by decide +kernel)
theorem o272 : h_p (hT B 272) 8 (B + 118) 0 (.int 3) = some (hT B 273) := tI (c := 118) (n := 4) (by decide +kernel) (by decide +kernel) (by decide) rfl (by decide) (by decide) (by decide +kernel)
theorem o273 : h_p (hT B 273) 8 (B + 118) 1 (.ref (B + 95)) = some (hT B 274) := tS (c := 118) (n := 4) (by decide +kernel) (by decide +kernel) (by decide) rfl (by decide) (by decide) (by decide +kernel)
theorem c268_X8 : F_X8_init (B + 119) (B + 118) 3 (B + 95) (hT B 268) = some ((), hT B 274) := by
  unfold F_X8_init
  simp only [e_let, e_bind_some, Option.bind_some, Nat.add_assoc, Nat.reduceAdd, Nat.add_zero, Nat.reduceLeDiff, Nat.reduceEqDiff, and_self, if_true, if_false, i4_0, i4_1, i4_2, i4_3, i4_4, j01, j12, j23, j34, o268, c269_X1, o271, o272, o273]
theorem o274 : h_sr (hT B 274) 4 8 (B + 108) 3 (B + 118) = some (hT B 275) := tR (c := 108) (k := 3) (n := 4) (n2 := 4) (by decide +kernel) (by decide +kernel) (by decide) rfl rfl (by decide) (by decide +kernel) (by decide +kernel)
theorem b267_25 {N : Nat} (K : Nat × Nat × Nat × Int32 × eH → Option (Unit × eH)) : F_X4_init_25b N (B + 95) (fun c s l0 l1 h => K (c, s, l0, l1, h)) 23 702 (B + 94) 3 (hT B 267) = K (26, 711, B + 94, 4, hT B 275) := by
  unfold F_X4_init_25b
  simp only [e_let, e_bind_some, Option.bind_some, Nat.add_assoc, Nat.reduceAdd, Nat.add_zero, Nat.reduceLeDiff, Nat.reduceEqDiff, and_self, if_true, if_false, i4_0, i4_1, i4_2, i4_3, i4_4, j01, j12, j23, j34, r267_94_1, n267_108, o267, r268_94_0, c268_X8, o274]
theorem r275_94_1 : h_gr (hT B 275) 4 (B + 94) 1 = some (B + 108) := tG (c := 94) (n := 2) rfl (by decide) (by decide) (by decide +kernel) (by decide +kernel)
theorem n275_108 : h_len (hT B 275) (B + 108) = some 4 := tL (c := 108) (t2 := 4) rfl (by decide) (by decide +kernel)
theorem b275_25 {N : Nat} (K : Nat × Nat × Nat × Int32 × eH → Option (Unit × eH)) : F_X4_init_25b N (B + 95) (fun c s l0 l1 h => K (c, s, l0, l1, h)) 26 711 (B + 94) 4 (hT B 275) = some ((), hT B 275) := by
  unfold F_X4_init_25b
  simp only [e_let, e_bind_some, Option.bind_some, Nat.add_assoc, Nat.reduceAdd, Nat.add_zero, Nat.reduceLeDiff, Nat.reduceEqDiff, and_self, if_true, if_false, i4_0, i4_1, i4_2, i4_3, i4_4, j01, j12, j23, j34, r275_94_1, n275_108]
theorem l243_25 {N : Nat} (hN : 20 < N) : L_X4_init_25 N (B + 95) 14 675 (B + 94) 0 (hT B 243) = some ((), hT B 275) := by
  unfold L_X4_init_25
  rw [e_loop_S (by omega)]
  refine Eq.trans (b243_25 _) ?_
  rw [e_loop_S (by omega)]
  refine Eq.trans (b251_25 _) ?_
  rw [e_loop_S (by omega)]
  refine Eq.trans (b259_25 _) ?_
  rw [e_loop_S (by omega)]
  refine Eq.trans (b267_25 _) ?_
  rw [e_loop_S (by omega)]
  exact b275_25 _
theorem c215_X4 {N : Nat} (hN : 20 < N) : F_X4_init N (B + 95) (B + 94) (hT B 215) = some ((), hT B 275) := by
  unfold F_X4_init
  simp only [e_let, e_bind_some, Option.bind_some, Nat.add_assoc, Nat.reduceAdd, Nat.add_zero, Nat.reduceLeDiff, Nat.reduceEqDiff, and_self, if_true, if_false, i4_0, i4_1, i4_2, i4_3, i4_4, j01, j12, j23, j34, o215, c216_X3, o240, o241, o242, l243_25 hN]
theorem o275 : h_sr (hT B 275) 3 4 (B + 5) 3 (B + 94) = some (hT B 276) := tR (c := 5) (k := 3) (n := 4) (n2 := 2) (by decide +kernel) (by decide +kernel) (by decide) rfl rfl (by decide) (by decide +kernel) (by decide +kernel)
theorem b214_92 {N : Nat} (hN : 20 < N) (K : Nat × Nat × Nat × Int32 × eH → Option (Unit × eH)) : F_X11_init_92b N (B + 1) (fun c s l0 l1 h => K (c, s, l0, l1, h)) 93 2292 B 3 (hT B 214) = K (120, 3005, B, 4, hT B 276) := by
  unfold F_X11_init_92b
  simp only [e_let, e_bind_some, Option.bind_some, Nat.add_assoc, Nat.reduceAdd, Nat.add_zero, Nat.reduceLeDiff, Nat.reduceEqDiff, and_self, if_true, if_false, i4_0, i4_1, i4_2, i4_3, i4_4, j01, j12, j23, j34, r214_0_2, n214_5, o214, c215_X4 hN, o275]
theorem r276_0_2 : h_gr (hT B 276) 10 (B) 2 = some (B + 5) := tG (c := 0) (n := 12) rfl (by decide) (by decide) (by decide +kernel) (by decide +kernel)
theorem n276_5 : h_len (hT B 276) (B + 5) = some 4 := tL (c := 5) (t2 := 3) rfl (by decide) (by decide +kernel)
theorem r276_0_3 : h_gr (hT B 276) 10 (B) 3 = some (B + 6) := tG (c := 0) (n := 12) rfl (by decide) (by decide) (by decide +kernel) (by decide +kernel)
theorem n276_6 : h_len (hT B 276) (B + 6) = some 4 := tL (c := 6) (t2 := 5) rfl (by decide) (by decide +kernel)
theorem o276 : h_set (hT B 276) (B + 121) (oB 0 (fun k => defaultValue (tyX0 k))) = hT B 277 := by rw [dv0]; exact tA (c := 121) (t := 276) (by decide +kernel) (by decide +kernel) (by decide) rfl
theorem o277 : h_p (hT B 277) 0 (B + 121) 0 (.int (-1)) = some (hT B 278) := tI (c := 121) (n := 3) (by decide +kernel) (by decide +kernel) (by decide) rfl (by decide) (by decide) (by decide +kernel)
theorem c277_X0 : F_X0_init (B + 121) (hT B 277) = some ((), hT B 278) := by
  unfold F_X0_init
  simp only [e_let, e_bind_some, Option.bind_some, Nat.add_assoc, Nat.reduceAdd, Nat.add_zero, Nat.reduceLeDiff, Nat.reduceEqDiff, and_self, if_true, if_false, i4_0, i4_1, i4_2, i4_3, i4_4, j01, j12, j23, j34, o277]
theorem o278 : h_sr (hT B 278) 5 0 (B + 6) 0 (B + 121) = some (hT B 279) := tR (c := 6) (k := 0) (n := 4) (n2 := 3) (by decide +kernel) (by decide +kernel) (by decide) rfl rfl (by decide) (by decide +kernel) (by decide +kernel)
theorem b276_122 {N : Nat} (K : Nat × Nat × Nat × Int32 × eH → Option (Unit × eH)) : F_X11_init_122b N (B + 1) (fun c s l0 l1 h => K (c, s, l0, l1, h)) 120 3005 B 0 (hT B 276) = K (121, 3008, B, 1, hT B 279) := by
  unfold F_X11_init_122b
  simp only [e_let, e_bind_some, Option.bind_some, Nat.add_assoc, Nat.reduceAdd, Nat.add_zero, Nat.reduceLeDiff, Nat.reduceEqDiff, and_self, if_true, if_false, i4_0, i4_1, i4_2, i4_3, i4_4, j01, j12, j23, j34, r276_0_3, n276_6, o276, c277_X0, o278]
theorem r279_0_3 : h_gr (hT B 279) 10 (B) 3 = some (B + 6) := tG (c := 0) (n := 12) rfl (by decide) (by decide) (by decide +kernel) (by decide +kernel)
theorem n279_6 : h_len (hT B 279) (B + 6) = some 4 := tL (c := 6) (t2 := 5) rfl (by decide) (by decide +kernel)
theorem o279 : h_set (hT B 279) (B + 122) (oB 0 (fun k => defaultValue (tyX0 k))) = hT B 280 := by rw [dv0]; exact tA (c := 122) (t := 279) (by decide +kernel) (by decide +kernel) (by decide) rfl
theorem o280 : h_p (hT B 280) 0 (B + 122) 0 (.int (-1)) = some (hT B 281) := tI (c := 122) (n := 3) (by decide +kernel) (by decide +kernel) (by decide) rfl (by decide) (by decide) (by decide +kernel)
theorem c280_X0 : F_X0_init (B + 122) (hT B 280) = some ((), hT B 281) := by
  unfold F_X0_init
  simp only [e_let, e_bind_some, Option.bind_some, Nat.add_assoc, Nat.reduceAdd, Nat.add_zero, Nat.reduceLeDiff, Nat.reduceEqDiff, and_self, if_true, if_false, i4_0, i4_1, i4_2, i4_3, i4_4, j01, j12, j23, j34, o280]
theorem o281 : h_sr (hT B 281) 5 0 (B + 6) 1 (B + 122) = some (hT B 282) := tR (c := 6) (k := 1) (n := 4) (n2 := 3) (by decide +kernel) (by decide +kernel) (by decide) rfl rfl (by decide) (by decide +kernel) (by decide +kernel)
theorem b279_122 {N : Nat} (K : Nat × Nat × Nat × Int32 × eH → Option (Unit × eH)) : F_X11_init_122b N (B + 1) (fun c s l0 l1 h => K (c, s, l0, l1, h)) 121 3008 B 1 (hT B 279) = K (122, 3011, B, 2, hT B 282) := by
  unfold F_X11_init_122b
  simp only [e_let, e_bind_some, Option.bind_some, Nat.add_assoc, Nat.reduceAdd, Nat.add_zero, Nat.reduceLeDiff, Nat.reduceEqDiff, and_self, if_true, if_false, i4_0, i4_1, i4_2, i4_3, i4_4, j01, j12, j23, j34, r279_0_3, n279_6, o279, c280_X0, o281]
theorem r282_0_3 : h_gr (hT B 282) 10 (B) 3 = some (B + 6) := tG (c := 0) (n := 12) rfl (by decide) (by decide) (by decide +kernel) (by decide +kernel)
theorem n282_6 : h_len (hT B 282) (B + 6) = some 4 := tL (c := 6) (t2 := 5) rfl (by decide) (by decide +kernel)
theorem o282 : h_set (hT B 282) (B + 123) (oB 0 (fun k => defaultValue (tyX0 k))) = hT B 283 := by rw [dv0]; exact tA (c := 123) (t := 282) (by decide +kernel) (by decide +kernel) (by decide) rfl
theorem o283 : h_p (hT B 283) 0 (B + 123) 0 (.int (-1)) = some (hT B 284) := tI (c := 123) (n := 3) (by decide +kernel) (by decide +kernel) (by decide) rfl (by decide) (by decide) (by decide +kernel)
theorem c283_X0 : F_X0_init (B + 123) (hT B 283) = some ((), hT B 284) := by
  unfold F_X0_init
  simp only [e_let, e_bind_some, Option.bind_some, Nat.add_assoc, Nat.reduceAdd, Nat.add_zero, Nat.reduceLeDiff, Nat.reduceEqDiff, and_self, if_true, if_false, i4_0, i4_1, i4_2, i4_3, i4_4, j01, j12, j23, j34, o283]
theorem o284 : h_sr (hT B 284) 5 0 (B + 6) 2 (B + 123) = some (hT B 285) := tR (c := 6) (k := 2) (n := 4) (n2 := 3) (by decide +kernel) (by decide +kernel) (by decide) rfl rfl (by decide) (by decide +kernel) (by decide +kernel)
theorem b282_122 {N : Nat} (K : Nat × Nat × Nat × Int32 × eH → Option (Unit × eH)) : F_X11_init_122b N (B + 1) (fun c s l0 l1 h => K (c, s, l0, l1, h)) 122 3011 B 2 (hT B 282) = K (123, 3014, B, 3, hT B 285) := by
  unfold F_X11_init_122b
  simp only [e_let, e_bind_some, Option.bind_some, Nat.add_assoc, Nat.reduceAdd, Nat.add_zero, Nat.reduceLeDiff, Nat.reduceEqDiff, and_self, if_true, if_false, i4_0, i4_1, i4_2, i4_3, i4_4, j01, j12, j23, j34, r282_0_3, n282_6, o282, c283_X0, o284]
theorem r285_0_3 : h_gr (hT B 285) 10 (B) 3 = some (B + 6) := tG (c := 0) (n := 12) rfl (by decide) (by decide) (by decide +kernel) (by decide +kernel)
theorem n285_6 : h_len (hT B 285) (B + 6) = some 4 := tL (c := 6) (t2 := 5) rfl (by decide) (by decide +kernel)
theorem o285 : h_set (hT B 285) (B + 124) (oB 0 (fun k => defaultValue (tyX0 k))) = hT B 286 := by rw [dv0]; exact tA (c := 124) (t := 285) (by decide +kernel) (by decide +kernel) (by decide) rfl
theorem o286 : h_p (hT B 286) 0 (B + 124) 0 (.int (-1)) = some (hT B 287) := tI (c := 124) (n := 3) (by decide +kernel) (by decide +kernel) (by decide) rfl (by decide) (by decide) (by decide +kernel)
theorem c286_X0 : F_X0_init (B + 124) (hT B 286) = some ((), hT B 287) := by
  unfold F_X0_init
  simp only [e_let, e_bind_some, Option.bind_some, Nat.add_assoc, Nat.reduceAdd, Nat.add_zero, Nat.reduceLeDiff, Nat.reduceEqDiff, and_self, if_true, if_false, i4_0, i4_1, i4_2, i4_3, i4_4, j01, j12, j23, j34, o286]
theorem o287 : h_sr (hT B 287) 5 0 (B + 6) 3 (B + 124) = some (hT B 288) := tR (c := 6) (k := 3) (n := 4) (n2 := 3) (by decide +kernel) (by decide +kernel) (by decide) rfl rfl (by decide) (by decide +kernel) (by decide +kernel)
theorem b285_122 {N : Nat} (K : Nat × Nat × Nat × Int32 × eH → Option (Unit × eH)) : F_X11_init_122b N (B + 1) (fun c s l0 l1 h => K (c, s, l0, l1, h)) 123 3014 B 3 (hT B 285) = K (124, 3017, B, 4, hT B 288) := by
  unfold F_X11_init_122b
  simp only [e_let, e_bind_some, Option.bind_some, Nat.add_assoc, Nat.reduceAdd, Nat.add_zero, Nat.reduceLeDiff, Nat.reduceEqDiff, and_self, if_true, if_false, i4_0, i4_1, i4_2, i4_3, i4_4, j01, j12, j23, j34, r285_0_3, n285_6, o285, c286_X0, o287]
theorem r288_0_3 : h_gr (hT B 288) 10 (B) 3 = some (B + 6) := tG (c := 0) (n := 12) rfl (by decide) (by decide) (by decide +kernel) (by decide +kernel)
theorem n288_6 : h_len (hT B 288) (B + 6) = some 4 := tL (c := 6) (t2 := 5) rfl (by decide) (by decide +kernel)
theorem b288_122 {N : Nat} (K : Nat × Nat × Nat × Int32 × eH → Option (Unit × eH)) : F_X11_init_122b N (B + 1) (fun c s l0 l1 h => K (c, s, l0, l1, h)) 124 3017 B 4 (hT B 288) = some ((), hT B 288) := by
  unfold F_X11_init_122b
  simp only [e_let, e_bind_some, Option.bind_some, Nat.add_assoc, Nat.reduceAdd, Nat.add_zero, Nat.reduceLeDiff, Nat.reduceEqDiff, and_self, if_true, if_false, i4_0, i4_1, i4_2, i4_3, i4_4, j01, j12, j23, j34, r288_0_3, n288_6]
theorem l122 {N : Nat} (hN : 20 < N) : L_X11_init_122 N (B + 1) 120 3005 B 0 (hT B 276) = some ((), hT B 288) := by
  unfold L_X11_init_122
  rw [e_loop_S (by omega)]
  refine Eq.trans (b276_122 _) ?_
  rw [e_loop_S (by omega)]
  refine Eq.trans (b279_122 _) ?_
  rw [e_loop_S (by omega)]
  refine Eq.trans (b282_122 _) ?_
  rw [e_loop_S (by omega)]
  refine Eq.trans (b285_122 _) ?_
  rw [e_loop_S (by omega)]
  exact b288_122 _
theorem b276_92 {N : Nat} (hN : 20 < N) (K : Nat × Nat × Nat × Int32 × eH → Option (Unit × eH)) : F_X11_init_92b N (B + 1) (fun c s l0 l1 h => K (c, s, l0, l1, h)) 120 3005 B 4 (hT B 276) = some ((), hT B 288) := by
  unfold F_X11_init_92b
  simp only [e_let, e_bind_some, Option.bind_some, Nat.add_assoc, Nat.reduceAdd, Nat.add_zero, Nat.reduceLeDiff, Nat.reduceEqDiff, and_self, if_true, if_false, i4_0, i4_1, i4_2, i4_3, i4_4, j01, j12, j23, j34, r276_0_2, n276_5, l122 hN]
theorem l92 {N : Nat} (hN : 20 < N) : L_X11_init_92 N (B + 1) 12 153 B 0 (hT B 28) = some ((), hT B 288) := by
  unfold L_X11_init_92
  rw [e_loop_S (by omega)]
  refine Eq.trans (b28_92 hN _) ?_
  rw [e_loop_S (by omega)]
  refine Eq.trans (b90_92 hN _) ?_
  rw [e_loop_S (by omega)]
  refine Eq.trans (b152_92 hN _) ?_
  rw [e_loop_S (by omega)]
  refine Eq.trans (b214_92 hN _) ?_
  rw [e_loop_S (by omega)]
  exact b276_92 hN _
theorem cX11 {N : Nat} (hN : 20 < N) : F_X11_init N (B + 1) B (hT B 1) = some ((), hT B 288) := by
  unfold F_X11_init
  simp only [e_let, e_bind_some, Option.bind_some, Nat.add_assoc, Nat.reduceAdd, Nat.add_zero, Nat.reduceLeDiff, Nat.reduceEqDiff, and_self, if_true, if_false, i4_0, i4_1, i4_2, i4_3, i4_4, j01, j12, j23, j34, o1, c2_X10, o4, o5, c6_X7, o8, o9, o10, o11, o12, o13, c14_X5, o18, o19, c20_X6, o20, o21, c22_X2, o24, o25, o26, o27, l92 hN]
theorem o288 : h_set (hT B 288) (B + 125) (oB 11 (fun k => defaultValue (tyX12 k))) = hT B 289 := by rw [dv11]; exact tA (c := 125) (t := 288) (by decide +kernel) (by decide +kernel) (by decide) rfl
theorem o289 : h_set (hT B 289) (B + 126) (oI 0 4 (fun _ => 0)) = hT B 290 := by exact tA (c := 126) (t := 289) (by decide +kernel) (by decide +kernel) (by decide) rfl
theorem o290 : h_p (hT B 290) 11 (B + 125) 4 (.ref (B + 126)) = some (hT B 291) := tS (c := 125) (n := 41) (by decide +kernel) (by decide +kernel) (by decide) rfl (by decide) (by decide) (by decide +kernel)
theorem o291 : h_set (hT B 291) (B + 127) (oL 1 656 (fun _ => 0)) = hT B 292 := by exact tA (c := 127) (t := 291) (by decide +kernel) (by decide +kernel) (by decide) rfl
theorem o292 : h_p (hT B 292) 11 (B + 125) 6 (.ref (B + 127)) = some (hT B 293) := tS (c := 125) (n := 41) (by decide +kernel) (by decide +kernel) (by decide) rfl (by decide) (by decide) (by decide +kernel)
theorem o293 : h_set (hT B 293) (B + 128) (oI 0 656 (fun _ => 0)) = hT B 294 := by exact tA (c := 128) (t := 293) (by decide +kernel) (by decide +kernel) (by decide) rfl
theorem o294 : h_p (hT B 294) 11 (B + 125) 7 (.ref (B + 128)) = some (hT B 295) := tS (c := 125) (n := 41) (by decide +kernel) (by decide +kernel) (by decide) rfl (by decide) (by decide) (by decide +kernel)
theorem o295 : h_set (hT B 295) (B + 129) (oI 0 2624 (fun _ => 0)) = hT B 296 := by exact tA (c := 129) (t := 295) (by decide +kernel) (by decide +kernel) (by decide) rfl
theorem o296 : h_p (hT B 296) 11 (B + 125) 8 (.ref (B + 129)) = some (hT B 297) := tS (c := 125) (n := 41) (by decide +kernel) (by decide +kernel) (by decide) rfl (by decide) (by decide) (by decide +kernel)
theorem o297 : h_set (hT B 297) (B + 130) (oI 0 2624 (fun _ => 0)) = hT B 298 := by exact tA (c := 130) (t := 297) (by decide +kernel) (by decide +kernel) (by decide) rfl
theorem o298 : h_p (hT B 298) 11 (B + 125) 9 (.ref (B + 130)) = some (hT B 299) := tS (c := 125) (n := 41) (by decide +kernel) (by decide +kernel) (by decide) rfl (by decide) (by decide) (by decide +kernel)
theorem o299 : h_set (hT B 299) (B + 131) (oI 2 656 (fun _ => 0)) = hT B 300 := by exact tA (c := 131) (t := 299) (by decide +kernel) (by decide +kernel) (by decide) rfl
theorem o300 : h_p (hT B 300) 11 (B + 125) 10 (.ref (B + 131)) = some (hT B 301) := tS (c := 125) (n := 41) (by decide +kernel) (by decide +kernel) (by decide) rfl (by decide) (by decide) (by decide +kernel)
theorem o301 : h_set (hT B 301) (B + 132) (oI 2 656 (fun _ => 0)) = hT B 302 := by exact tA (c := 132) (t := 301) (by decide +kernel) (by decide +kernel) (by decide) rfl
theorem o302 : h_p (hT B 302) 11 (B + 125) 11 (.ref (B + 132)) = some (hT B 303) := tS (c := 125) (n := 41) (by decide +kernel) (by decide +kernel) (by decide) rfl (by decide) (by decide) (by decide +kernel)
theorem o303 : h_set (hT B 303) (B + 133) (oI 2 656 (fun _ => 0)) = hT B 304 := by exact tA (c := 133) (t := 303) (by decide +kernel) (by decide +kernel) (by decide) rfl
theorem o304 : h_p (hT B 304) 11 (B + 125) 12 (.ref (B + 133)) = some (hT B 305) := tS (c := 125) (n := 41) (by decide +kernel) (by decide +kernel) (by decide) rfl (by decide) (by decide) (by decide +kernel)
theorem o305 : h_set (hT B 305) (B + 134) (oI 2 656 (fun _ => 0)) = hT B 306 := by exact tA (c := 134) (t := 305) (by decide +kernel) (by decide +kernel) (by decide) rfl
theorem o306 : h_p (hT B 306) 11 (B + 125) 13 (.ref (B + 134)) = some (hT B 307) := tS (c := 125) (n := 41) (by decide +kernel) (by decide +kernel) (by decide) rfl (by decide) (by decide) (by decide +kernel)
theorem o307 : h_set (hT B 307) (B + 135) (oI 0 656 (fun _ => 0)) = hT B 308 := by exact tA (c := 135) (t := 307) (by decide +kernel) (by decide +kernel) (by decide) rfl
theorem o308 : h_p (hT B 308) 11 (B + 125) 14 (.ref (B + 135)) = some (hT B 309) := tS (c := 125) (n := 41) (by decide +kernel) (by decide +kernel) (by decide) rfl (by decide) (by decide) (by decide +kernel)
theorem o309 : h_set (hT B 309) (B + 136) (oI 0 16 (fun _ => 0)) = hT B 310 := by exact tA (c := 136) (t := 309) (by decide +kernel) (by decide +kernel) (by decide) rfl
theorem o310 : h_p (hT B 310) 11 (B + 125) 15 (.ref (B + 136)) = some (hT B 311) := tS (c := 125) (n := 41) (by decide +kernel) (by decide +kernel) (by decide) rfl (by decide) (by decide) (by decide +kernel)
theorem o311 : h_set (hT B 311) (B + 137) (oI 0 64 (fun _ => 0)) = hT B 312 := by exact tA (c := 137) (t := 311) (by decide +kernel) (by decide +kernel) (by decide) rfl
theorem o312 : h_p (hT B 312) 11 (B + 125) 16 (.ref (B + 137)) = some (hT B 313) := tS (c := 125) (n := 41) (by decide +kernel) (by decide +kernel) (by decide) rfl (by decide) (by decide) (by decide +kernel)
theorem o313 : h_set (hT B 313) (B + 138) (oI 0 4 (fun _ => 0)) = hT B 314 := by exact tA (c := 138) (t := 313) (by decide +kernel) (by decide +kernel) (by decide) rfl
theorem o314 : h_p (hT B 314) 11 (B + 125) 17 (.ref (B + 138)) = some (hT B 315) := tS (c := 125) (n := 41) (by decide +kernel) (by decide +kernel) (by decide) rfl (by decide) (by decide) (by decide +kernel)
theorem o315 : h_set (hT B 315) (B + 139) (oI 0 4 (fun _ => 0)) = hT B 316 := by exact tA (c := 139) (t := 315) (by decide +kernel) (by decide +kernel) (by decide) rfl
theorem o316 : h_p (hT B 316) 11 (B + 125) 18 (.ref (B + 139)) = some (hT B 317) := tS (c := 125) (n := 41) (by decide +kernel) (by decide +kernel) (by decide) rfl (by decide) (by decide) (by decide +kernel)
theorem o317 : h_set (hT B 317) (B + 140) (oI 0 16 (fun _ => 0)) = hT B 318 := by exact tA (c := 140) (t := 317) (by decide +kernel) (by decide +kernel) (by decide) rfl
theorem o318 : h_p (hT B 318) 11 (B + 125) 19 (.ref (B + 140)) = some (hT B 319) := tS (c := 125) (n := 41) (by decide +kernel) (by decide +kernel) (by decide) rfl (by decide) (by decide) (by decide +kernel)
theorem o319 : h_set (hT B 319) (B + 141) (oI 0 16 (fun _ => 0)) = hT B 320 := by exact tA (c := 141) (t := 319) (by decide +kernel) (by decide +kernel) (by decide) rfl
theorem o320 : h_p (hT B 320) 11 (B + 125) 20 (.ref (B + 141)) = some (hT B 321) := tS (c := 125) (n := 41) (by decide +kernel) (by decide +kernel) (by decide) rfl (by decide) (by decide) (by decide +kernel)
theorem o321 : h_set (hT B 321) (B + 142) (oI 0 2 (fun _ => 0)) = hT B 322 := by exact tA (c := 142) (t := 321) (by decide +kernel) (by decide +kernel) (by decide) rfl
theorem o322 : h_p (hT B 322) 11 (B + 125) 22 (.ref (B + 142)) = some (hT B 323) := tS (c := 125) (n := 41) (by decide +kernel) (by decide +kernel) (by decide) rfl (by decide) (by decide) (by decide +kernel)
theorem o323 : h_set (hT B 323) (B + 143) (oI 0 2 (fun _ => 0)) = hT B 324 := by exact tA (c := 143) (t := 323) (by decide +kernel) (by decide +kernel) (by decide) rfl
theorem o324 : h_p (hT B 324) 11 (B + 125) 23 (.ref (B + 143)) = some (hT B 325) := tS (c := 125) (n := 41) (by decide +kernel) (by decide +kernel) (by decide) rfl (by decide) (by decide) (by decide +kernel)
theorem o325 : h_set (hT B 325) (B + 144) (oI 0 100 (fun _ => 0)) = hT B 326 := by exact tA (c := 144) (t := 325) (by decide +kernel) (by decide +kernel) (by decide) rfl
theorem o326 : h_p (hT B 326) 11 (B + 125) 25 (.ref (B + 144)) = some (hT B 327) := tS (c := 125) (n := 41) (by decide +kernel) (by decide +kernel) (by decide) rfl (by decide) (by decide) (by decide +kernel)
theorem o327 : h_set (hT B 327) (B + 145) (oI 0 4 (fun _ => 0)) = hT B 328 := by exact tA (c := 145) (t := 327) (by decide +kernel) (by decide +kernel) (by decide) rfl
theorem o328 : h_p (hT B 328) 11 (B + 125) 34 (.ref (B + 145)) = some (hT B 329) := tS (c := 125) (n := 41) (by decide +kernel) (by decide +kernel) (by decide) rfl (by decide) (by decide) (by decide +kernel)
theorem o329 : h_set (hT B 329) (B + 146) (oI 0 64 (fun _ => 0)) = hT B 330 := by exact tA (c := 146) (t := 329) (by decide +kernel) (by decide +kernel) (by decide) rfl
theorem o330 : h_p (hT B 330) 11 (B + 125) 36 (.ref (B + 146)) = some (hT B 331) := tS (c := 125) (n := 41) (by decide +kernel) (by decide +kernel) (by decide) rfl (by decide) (by decide) (by decide +kernel)
theorem o331 : h_set (hT B 331) (B + 147) (oL 1 64 (fun _ => 0)) = hT B 332 := by exact tA (c := 147) (t := 331) (by decide +kernel) (by decide +kernel) (by decide) rfl
theorem o332 : h_p (hT B 332) 11 (B + 125) 37 (.ref (B + 147)) = some (hT B 333) := tS (c := 125) (n := 41) (by decide +kernel) (by decide +kernel) (by decide) rfl (by decide) (by decide) (by decide +kernel)
theorem o333 : h_set (hT B 333) (B + 148) (oI 0 16 (fun _ => 0)) = hT B 334 := by exact tA (c := 148) (t := 333) (by decide +kernel) (by decide +kernel) (by decide) rfl
theorem o334 : h_p (hT B 334) 11 (B + 125) 38 (.ref (B + 148)) = some (hT B 335) := tS (c := 125) (n := 41) (by decide +kernel) (by decide +kernel) (by decide) rfl (by decide) (by decide) (by decide +kernel)
theorem o335 : h_set (hT B 335) (B + 149) (oI 0 65536 (fun _ => 0)) = hT B 336 := by exact tA (c := 149) (t := 335) (by decide +kernel) (by decide +kernel) (by decide) rfl
theorem o336 : h_p (hT B 336) 11 (B + 125) 39 (.ref (B + 149)) = some (hT B 337) := tS (c := 125) (n := 41) (by decide +kernel) (by decide +kernel) (by decide) rfl (by decide) (by decide) (by decide +kernel)
theorem o337 : h_set (hT B 337) (B + 150) (oI 0 65536 (fun _ => 0)) = hT B 338 := by exact tA (c := 150) (t := 337) (by decide +kernel) (by decide +kernel) (by decide) rfl
theorem o338 : h_p (hT B 338) 11 (B + 125) 40 (.ref (B + 150)) = some (hT B 339) := tS (c := 125) (n := 41) (by decide +kernel) (by decide +kernel) (by decide) rfl (by decide) (by decide) (by decide +kernel)
theorem cX12 {N : Nat} : F_X12_init N (B + 126) (B + 125) (hT B 289) = (h_is (hT B 339) 11 (B + 125)).bind fun _ => e_bind (F_X12_begins N (B + 125) (hT B 339)) fun v51 h52 => some ((), h52) := by
  unfold F_X12_init
  refine alS o289 ?_
  refine stS o290 ?_
  refine alS o291 ?_
  refine stS o292 ?_
  refine alS o293 ?_
  refine stS o294 ?_
  refine alS o295 ?_
  refine stS o296 ?_
  refine alS o297 ?_
  refine stS o298 ?_
  refine alS o299 ?_
  refine stS o300 ?_
  refine alS o301 ?_
  refine stS o302 ?_
  refine alS o303 ?_
  refine stS o304 ?_
  refine alS o305 ?_
  refine stS o306 ?_
  refine alS o307 ?_
  refine stS o308 ?_
  refine alS o309 ?_
  refine stS o310 ?_
  refine alS o311 ?_
  refine stS o312 ?_
  refine alS o313 ?_
  refine stS o314 ?_
  refine alS o315 ?_
  refine stS o316 ?_
  refine alS o317 ?_
  refine stS o318 ?_
  refine alS o319 ?_
  refine stS o320 ?_
  refine alS o321 ?_
  refine stS o322 ?_
  refine alS o323 ?_
  refine stS o324 ?_
  refine alS o325 ?_
  refine stS o326 ?_
  refine alS o327 ?_
  refine stS o328 ?_
  refine alS o329 ?_
  refine stS o330 ?_
  refine alS o331 ?_
  refine stS o332 ?_
  refine alS o333 ?_
  refine stS o334 ?_
  refine alS o335 ?_
  refine stS o336 ?_
  refine alS o337 ?_
  refine stS o338 ?_
  rfl
theorem hT_fin : hT B 339 = HP B iI0 (fun _ _ => 0) := by
  funext a
  unfold hT HP
  by_cases hb : a < B
  · rw [if_pos hb, if_pos hb]
  · rw [if_neg hb, if_neg hb]
    generalize a - B = c
    rcases Nat.lt_or_ge c 151 with w | w
    · have ha := (iv_al c w).2
      have z1 := (by decide +kernel : ∀ c, c < 151 → ∀ k, k < 41 → ¬ (m_fk (m_sh c).2.1 k = 2 ∧ (m_sh c).1 = 1 ∧ k < (m_sh c).2.2 ∧ ¬ ist c k < 339)) c w
      have z2 := (by decide +kernel : ∀ c, c < 151 → ∀ k, k < 4 → ¬ ((m_sh c).1 = 4 ∧ ¬ ist c k < 339)) c w
      have z3 := (by decide +kernel : ∀ c, c < 151 → ∀ k, k < 41 → ¬ (¬ ist c k < 339 ∧ ¬ iI0 c k = 0)) c w
      have z4 := (by decide +kernel : ∀ c, c < 151 → ¬ ((m_sh c).1 = 1 ∧ ¬ (m_sh c).2.2 ≤ 41)) c w
      have z5 := (by decide +kernel : ∀ c, c < 151 → ¬ ((m_sh c).1 = 4 ∧ ¬ (m_sh c).2.2 ≤ 4)) c w
      have z6 := (by decide +kernel : ∀ c, c < 151 → ∀ k, k < 10 → ¬ ((m_sh c).1 = 2 ∧ ¬ iI0 c k = 0)) c w
      have z7 := (by decide +kernel : ∀ c, c < 151 → ((m_sh c).1 = 1 ∨ (m_sh c).1 = 2 ∨ (m_sh c).1 = 3 ∨ (m_sh c).1 = 4)) c w
      have z8 := (by decide +kernel : ∀ c, c < 151 → ∀ k, k < 41 → m_fk (m_sh c).2.1 k ≤ 2) c w
      have hbig : ∀ k, 10 ≤ k → iI0 c k = 0 := fun k hk => by
        unfold iI0
        rw [if_neg (show ¬ k = 7 by omega), if_neg (show ¬ (k = 8 ∨ k = 9) by omega), if_neg (show ¬ (121 ≤ c ∧ c < 125 ∧ k = 0) by omega), if_neg (show ¬ (13 ≤ c ∧ c < 121 ∧ 15 ≤ (c - 13) % 27 ∧ ((c - 13) % 27 - 15) % 3 = 0 ∧ k = 0) by omega)]
        split <;> rfl
      unfold m_cT m_cA m_cell
      rw [if_pos (decide_eq_true ha)]
      rcases hm : m_sh c with ⟨x, ci, n⟩
      rw [hm] at z1 z2 z4 z5 z6 z7 z8
      rcases z7 with rfl | rfl | rfl | rfl
      · show some (oB ci _) = some (oB ci _)
        congr 3
        funext k
        by_cases hk : k < n
        · rw [if_pos hk, if_pos hk]
          have hn : n ≤ 41 := Decidable.byContradiction fun q => z4 ⟨rfl, q⟩
          rcases hf : m_fk ci k with _ | _ | m
          · show Value.int (if decide (ist c k < 339) = true then iI0 c k else 0) = Value.int (iI0 c k)
            by_cases q : ist c k < 339
            · rw [if_pos (decide_eq_true q)]
            · rw [if_neg (by rw [decide_eq_false q]; decide), show iI0 c k = 0 from Decidable.byContradiction fun r => z3 k (by omega) ⟨q, r⟩]
          · rfl
          · have hm2 : m = 0 := by
              have : m_fk ci k ≤ 2 := z8 k (by omega)
              omega
            subst hm2
            show (if decide (ist c k < 339) = true then Value.ref (B + m_rf c k) else Value.null) = Value.ref (B + m_rf c k)
            rw [if_pos (decide_eq_true (Decidable.byContradiction fun q => z1 k (by omega) ⟨hf, rfl, hk, q⟩))]
        · rw [if_neg hk, if_neg hk]
      · show some (oI ci n _) = some (oI ci n _)
        have : (fun _ => 0) = iI0 c := by
          funext k
          rcases Nat.lt_or_ge k 10 with r | r
          · exact (show iI0 c k = 0 from Decidable.byContradiction fun q => z6 k r ⟨rfl, q⟩).symm
          · exact (hbig k r).symm
        rw [this]
      · rfl
      · show some (oR ci n _) = some (oR ci n _)
        have hn : n ≤ 4 := Decidable.byContradiction fun q => z5 ⟨rfl, q⟩
        have : (fun k => if k < n then (if decide (ist c k < 339) = true then some (B + m_rf c k) else none) else none) = (fun k => if k < n then some (B + m_rf c k) else none) := by
          funext k
          by_cases hk : k < n
          · rw [if_pos hk, if_pos hk, if_pos (decide_eq_true (Decidable.byContradiction fun q => z2 k (by omega) ⟨rfl, q⟩))]
          · rw [if_neg hk, if_neg hk]
        rw [this]
    · unfold m_cT m_cA m_cell
      rw [m_sh_ge w]
      split <;> rfl
end INIT
