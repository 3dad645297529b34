/-! MEMORY: the heap of class and reference, cell by cell from B on; ints in I, longs in J; references and lengths are fixed -/
/-- the shape of a cell: 1 an object (class, fields), 2 ints or booleans (tag, length), 3 longs, 4 references -/
def m_sh (c : Nat) : Nat × Nat × Nat :=
  if c < 13 then [(1,10,12),(1,9,5),(2,0,100),(1,7,6),(2,0,4),(4,3,4),(4,5,4),(1,5,3),(2,0,2),(2,0,2),(1,6,4),(1,2,3),(2,0,16)].getD c (0,0,0)
  else if c < 121 then [(1,4,2),(1,3,11),(3,1,160),(2,0,160),(2,0,160),(2,0,160),(1,1,1),(3,1,4),(1,1,1),(3,1,4),(1,1,1),(3,1,4),(1,1,1),(3,1,4),(4,4,4),(1,8,4),(1,1,1),(3,1,4),(1,8,4),(1,1,1),(3,1,4),(1,8,4),(1,1,1),(3,1,4),(1,8,4),(1,1,1),(3,1,4)].getD ((c - 13) % 27) (0,0,0)
  else if c < 125 then (1,0,3)
  else [(1,11,41),(2,0,4),(3,1,656),(2,0,656),(2,0,2624),(2,0,2624),(2,2,656),(2,2,656),(2,2,656),(2,2,656),(2,0,656),(2,0,16),(2,0,64),(2,0,4),(2,0,4),(2,0,16),(2,0,16),(2,0,2),(2,0,2),(2,0,100),(2,0,4),(2,0,64),(3,1,64),(2,0,16),(2,0,65536),(2,0,65536)].getD (c - 125) (0,0,0)
/-- the kind of a field: 0 int, 1 long, 2 a reference -/
def m_fk (ci k : Nat) : Nat := ([[0,0,0],[2],[2,0,0],[2,2,2,2,2,2,2,2,0,0,0],[2,2],[2,2,0],[0,0,1,0],[2,0,0,0,0,0],[0,2,2,0],[2,0,0,0,0],[2,2,2,2,2,2,2,0,0,0,0,0],[0,0,0,0,2,0,2,2,2,2,2,2,2,2,2,2,2,2,2,2,2,0,2,2,0,2,0,0,0,1,0,0,0,0,2,0,2,2,2,2,2]].getD ci []).getD k 0
/-- what stands in places that no field has -/
def m_jk (ci : Nat) : Value := if ci = 1 ∨ ci = 4 ∨ ci = 11 then .null else .int 0
/-- the cell that a reference leads to -/
def m_rf (c k : Nat) : Nat :=
  if c = 0 then [1,3,5,6,7,10,11].getD k 0
  else if c = 1 then 2
  else if c = 3 then 4
  else if c = 5 then 13 + 27 * k
  else if c = 6 then 121 + k
  else if c = 7 then 8 + k
  else if c = 11 then 12
  else if c < 121 then
    (if (c - 13) % 27 = 0 then (if k = 0 then c + 1 else c + 14)
    else if (c - 13) % 27 = 1 then (if k < 4 then c + 1 + k else c + 5 + 2 * (k - 4))
    else if (c - 13) % 27 = 14 then c + 1 + 3 * k
    else if (m_sh c).2.1 = 8 then (if k = 1 then 14 + 27 * ((c - 13) / 27) else c + 1)
    else c + 1)
  else [0,0,0,0,126,0,127,128,129,130,131,132,133,134,135,136,137,138,139,140,141,0,142,143,0,144,0,0,0,0,0,0,0,0,145,0,146,147,148,149,150].getD k 0
def m_cell (B : Nat) (I : Nat → Nat → Int32) (J : Nat → Nat → Int64) (c : Nat) : Option eO :=
  match m_sh c with
  | (1, ci, n) => some (oB ci (fun k => if k < n then (match m_fk ci k with | 0 => .int (I c k) | 1 => .long (J c k) | _ => .ref (B + m_rf c k)) else m_jk ci))
  | (2, t, n) => some (oI t n (I c))
  | (3, _, n) => some (oL 1 n (J c))
  | (4, t, n) => some (oR t n (fun k => if k < n then some (B + m_rf c k) else none))
  | _ => none
def HP (B : Nat) (I : Nat → Nat → Int32) (J : Nat → Nat → Int64) : eH := fun a => if a < B then none else m_cell B I J (a - B)
/-- a write -/
def w2 {α : Type} (I : Nat → Nat → α) (c k : Nat) (v : α) : Nat → Nat → α := fun c' k' => if c' = c ∧ k' = k then v else I c' k'
theorem w2_s {α : Type} (I : Nat → Nat → α) (c k : Nat) (v : α) : w2 I c k v c k = v := by simp [w2]
theorem w2_c {α : Type} (I : Nat → Nat → α) {c k c' k' : Nat} (v : α) (h : c' ≠ c) : w2 I c k v c' k' = I c' k' := by simp [w2, h]
theorem w2_k {α : Type} (I : Nat → Nat → α) {c k c' k' : Nat} (v : α) (h : k' ≠ k) : w2 I c k v c' k' = I c' k' := by simp [w2, h]
theorem hp_at (B : Nat) (I : Nat → Nat → Int32) (J : Nat → Nat → Int64) (c : Nat) : HP B I J (B + c) = m_cell B I J c := by
  unfold HP
  rw [if_neg (by omega), Nat.add_sub_cancel_left]
section MEM
variable {B : Nat} {I : Nat → Nat → Int32} {J : Nat → Nat → Int64} {c ci k n t : Nat}
theorem hp_obj (hs : m_sh c = (1, ci, n)) : HP B I J (B + c) = some (oB ci (fun k => if k < n then (match m_fk ci k with | 0 => .int (I c k) | 1 => .long (J c k) | _ => .ref (B + m_rf c k)) else m_jk ci)) := by
  rw [hp_at]; unfold m_cell; rw [hs] <;> rfl
theorem hp_int (hs : m_sh c = (2, t, n)) : HP B I J (B + c) = some (oI t n (I c)) := by
  rw [hp_at]; unfold m_cell; rw [hs] <;> rfl
theorem hp_lng (hs : m_sh c = (3, t, n)) : HP B I J (B + c) = some (oL 1 n (J c)) := by
  rw [hp_at]; unfold m_cell; rw [hs] <;> rfl
theorem hp_ref (hs : m_sh c = (4, t, n)) : HP B I J (B + c) = some (oR t n (fun k => if k < n then some (B + m_rf c k) else none)) := by
  rw [hp_at]; unfold m_cell; rw [hs] <;> rfl
theorem m_is (hs : m_sh c = (1, ci, n)) : h_is (HP B I J) ci (B + c) = some () := by
  unfold h_is; rw [hp_obj hs]; simp
theorem m_gi (hs : m_sh c = (1, ci, n)) (hk : k < n) (hf : m_fk ci k = 0) : h_gi (HP B I J) ci (B + c) k = some (I c k) := by
  unfold h_gi h_g; rw [hp_obj hs]; simp [hk, hf]
theorem m_gl (hs : m_sh c = (1, ci, n)) (hk : k < n) (hf : m_fk ci k = 1) : h_gl (HP B I J) ci (B + c) k = some (J c k) := by
  unfold h_gl h_g; rw [hp_obj hs]; simp [hk, hf]
theorem m_gr (hs : m_sh c = (1, ci, n)) (hk : k < n) (hf : m_fk ci k = 2) : h_gr (HP B I J) ci (B + c) k = some (B + m_rf c k) := by
  unfold h_gr h_g; rw [hp_obj hs]; simp [hk, hf]
theorem m_ai {i : Int32} (hs : m_sh c = (2, t, n)) (h0 : ¬ i < 0) (h1 : i.toNatClampNeg < n) : h_ai (HP B I J) t (B + c) i = some (I c i.toNatClampNeg) := by
  unfold h_ai; rw [hp_int hs]; exact if_pos ⟨rfl, h0, h1⟩
theorem m_al {i : Int32} (hs : m_sh c = (3, t, n)) (h0 : ¬ i < 0) (h1 : i.toNatClampNeg < n) : h_al64 (HP B I J) (B + c) i = some (J c i.toNatClampNeg) := by
  unfold h_al64; rw [hp_lng hs]; exact if_pos ⟨rfl, h0, h1⟩
theorem m_ar {i : Int32} (hs : m_sh c = (4, t, n)) (h0 : ¬ i < 0) (h1 : i.toNatClampNeg < n) : h_ar (HP B I J) t (B + c) i = some (B + m_rf c i.toNatClampNeg) := by
  unfold h_ar; rw [hp_ref hs]; exact (if_pos ⟨rfl, h0, h1⟩).trans (if_pos h1)
theorem m_len2 (hs : m_sh c = (2, t, n)) (ht : t < 6) : h_len (HP B I J) (B + c) = some (Int32.ofNat n) := by
  unfold h_len; rw [hp_int hs]; simp [ht]
theorem m_len3 (hs : m_sh c = (3, t, n)) : h_len (HP B I J) (B + c) = some (Int32.ofNat n) := by
  unfold h_len; rw [hp_lng hs]; simp
theorem m_len4 (hs : m_sh c = (4, t, n)) (ht : t < 6) : h_len (HP B I J) (B + c) = some (Int32.ofNat n) := by
  unfold h_len; rw [hp_ref hs]; simp [ht]
theorem hp_setI {c' : Nat} {o : eO} {k : Nat} {v : Int32} (ho : m_cell B (w2 I c k v) J c = some o) : h_set (HP B I J) (B + c) o = HP B (w2 I c k v) J := by
  funext a
  unfold h_set
  by_cases ha : a = B + c
  · subst ha; rw [if_pos rfl, hp_at, ho]
  · rw [if_neg ha]
    unfold HP
    by_cases hb : a < B
    · rw [if_pos hb, if_pos hb]
    · rw [if_neg hb, if_neg hb]
      have hc : a - B ≠ c := by omega
      unfold m_cell
      have e : w2 I c k v (a - B) = I (a - B) := by funext z; exact w2_c I v hc
      rw [e]
theorem hp_setJ {c' : Nat} {o : eO} {k : Nat} {v : Int64} (ho : m_cell B I (w2 J c k v) c = some o) : h_set (HP B I J) (B + c) o = HP B I (w2 J c k v) := by
  funext a
  unfold h_set
  by_cases ha : a = B + c
  · subst ha; rw [if_pos rfl, hp_at, ho]
  · rw [if_neg ha]
    unfold HP
    by_cases hb : a < B
    · rw [if_pos hb, if_pos hb]
    · rw [if_neg hb, if_neg hb]
      have hc : a - B ≠ c := by omega
      unfold m_cell
      have e : w2 J c k v (a - B) = J (a - B) := by funext z; exact w2_c J v hc
      rw [e]
theorem m_pi {v : Int32} (hs : m_sh c = (1, ci, n)) (hk : k < n) (hf : m_fk ci k = 0) : h_p (HP B I J) ci (B + c) k (.int v) = some (HP B (w2 I c k v) J) := by
  unfold h_p; rw [hp_obj hs]
  simp only [if_pos]
  congr 1
  refine hp_setI (c' := c) ?_
  unfold m_cell; rw [hs]
  simp only [Option.some.injEq, Sum.inr.injEq, Prod.mk.injEq, true_and]
  funext z
  unfold updV
  by_cases hz : z = k
  · subst hz; simp [hk, hf, w2_s]
  · rw [if_neg hz, w2_k I v hz]
theorem m_pl {v : Int64} (hs : m_sh c = (1, ci, n)) (hk : k < n) (hf : m_fk ci k = 1) : h_p (HP B I J) ci (B + c) k (.long v) = some (HP B I (w2 J c k v)) := by
  unfold h_p; rw [hp_obj hs]
  simp only [if_pos]
  congr 1
  refine hp_setJ (c' := c) ?_
  unfold m_cell; rw [hs]
  simp only [Option.some.injEq, Sum.inr.injEq, Prod.mk.injEq, true_and]
  funext z
  unfold updV
  by_cases hz : z = k
  · subst hz; simp [hk, hf, w2_s]
  · rw [if_neg hz, w2_k J v hz]
theorem m_pz {v : Int32} (hs : m_sh c = (1, ci, n)) (hk : k < n) (hf : m_fk ci k = 0) (hv : v = 0 ∨ v = 1) : h_pz (HP B I J) ci (B + c) k v = some (HP B (w2 I c k v) J) := by
  unfold h_pz; rw [if_pos hv]; exact m_pi hs hk hf
theorem m_si {i v : Int32} (hs : m_sh c = (2, t, n)) (h0 : ¬ i < 0) (h1 : i.toNatClampNeg < n) : h_si (HP B I J) t (B + c) i v = some (HP B (w2 I c i.toNatClampNeg v) J) := by
  unfold h_si; rw [hp_int hs]
  show (if _ then some _ else none) = _
  rw [if_pos ⟨rfl, h0, h1⟩]
  congr 1
  refine hp_setI (c' := c) ?_
  unfold m_cell; rw [hs]
  simp only [Option.some.injEq, Sum.inl.injEq, Prod.mk.injEq, true_and]
  funext z
  unfold upd w2
  simp
theorem m_sl {i : Int32} {v : Int64} (hs : m_sh c = (3, t, n)) (h0 : ¬ i < 0) (h1 : i.toNatClampNeg < n) : h_sl (HP B I J) (B + c) i v = some (HP B I (w2 J c i.toNatClampNeg v)) := by
  unfold h_sl; rw [hp_lng hs]
  show (if _ then some _ else none) = _
  rw [if_pos ⟨rfl, h0, h1⟩]
  congr 1
  refine hp_setJ (c' := c) ?_
  unfold m_cell; rw [hs]
  simp only [Option.some.injEq, Sum.inl.injEq, Sum.inr.injEq, Prod.mk.injEq, true_and]
  funext z
  unfold vp_updL w2
  simp
end MEM
/-! the cells by name -/
def cK (k : Nat) : Nat := 13 + 27 * k
def cJ (k : Nat) : Nat := 14 + 27 * k
def cR (k s : Nat) : Nat := 28 + 27 * k + 3 * s
def cD (k s : Nat) : Nat := 29 + 27 * k + 3 * s
def cC (i : Nat) : Nat := 121 + i
theorem sh_K : ∀ k, k < 4 → m_sh (cK k) = (1, 4, 2) := by decide
theorem sh_J : ∀ k, k < 4 → m_sh (cJ k) = (1, 3, 11) := by decide
theorem sh_R : ∀ k, k < 4 → ∀ s, s < 4 → m_sh (cR k s) = (1, 8, 4) := by decide
theorem sh_D : ∀ k, k < 4 → ∀ s, s < 4 → m_sh (cD k s) = (1, 1, 1) := by decide
theorem sh_C : ∀ i, i < 4 → m_sh (cC i) = (1, 0, 3) := by decide
theorem sh_J1 : ∀ k, k < 4 → m_sh (cJ k + 1) = (3, 1, 160) ∧ m_sh (cJ k + 2) = (2, 0, 160) ∧ m_sh (cJ k + 3) = (2, 0, 160) ∧ m_sh (cJ k + 4) = (2, 0, 160) := by decide
theorem rf_K : ∀ k, k < 4 → m_rf (cK k) 0 = cJ k ∧ m_rf (cK k) 1 = cK k + 14 := by decide
theorem sh_RA : ∀ k, k < 4 → m_sh (cK k + 14) = (4, 4, 4) := by decide
theorem rf_RA : ∀ k, k < 4 → ∀ s, s < 4 → m_rf (cK k + 14) s = cR k s := by decide
theorem rf_J : ∀ k, k < 4 → m_rf (cJ k) 0 = cJ k + 1 ∧ m_rf (cJ k) 1 = cJ k + 2 ∧ m_rf (cJ k) 2 = cJ k + 3 ∧ m_rf (cJ k) 3 = cJ k + 4 ∧ m_rf (cJ k) 4 = cJ k + 5 ∧ m_rf (cJ k) 5 = cJ k + 7 ∧ m_rf (cJ k) 6 = cJ k + 9 ∧ m_rf (cJ k) 7 = cJ k + 11 := by decide
theorem rf_R : ∀ k, k < 4 → ∀ s, s < 4 → m_rf (cR k s) 1 = cJ k ∧ m_rf (cR k s) 2 = cD k s := by decide
theorem rf_ks : ∀ k, k < 4 → m_rf 5 k = cK k := by decide
theorem rf_cs : ∀ i, i < 4 → m_rf 6 i = cC i := by decide
/-- a cell that is a set of dots -/
def isD (d : Nat) : Prop := m_sh d = (1, 1, 1) ∧ m_sh (d + 1) = (3, 1, 4) ∧ m_rf d 0 = d + 1
theorem isD_D : ∀ k, k < 4 → ∀ s, s < 4 → isD (cD k s) := by unfold isD; decide
theorem isD_J : ∀ k, k < 4 → isD (cJ k + 5) ∧ isD (cJ k + 7) ∧ isD (cJ k + 9) ∧ isD (cJ k + 11) := by unfold isD; decide
/-! loops -/
theorem e_loop_S {σ α : Type} {body : (σ → Option α) → σ → Option α} {N : Nat} (h : 0 < N) (s : σ) : e_loop body N s = body (e_loop body (N - 1)) s := by
  cases N with
  | zero => omega
  | succ N => rfl
/-- a loop of n rounds: where it comes to, and that it goes on from there with fuel left -/
theorem e_loop_n {σ α : Type} {body : (σ → Option α) → σ → Option α} (P : Nat → σ → Prop) (n : Nat) (hs : ∀ i s, i < n → P i s → ∃ s', P (i + 1) s' ∧ ∀ k, body k s = k s') : ∀ (m N : Nat) (s : σ), m ≤ n → P (n - m) s → m < N → ∃ s', P n s' ∧ e_loop body N s = body (e_loop body (N - m - 1)) s' := by
  intro m
  induction m with
  | zero => intro N s _ hP hN; exact ⟨s, hP, by rw [e_loop_S hN]; rfl⟩
  | succ m ih =>
    intro N s hm hP hN
    obtain ⟨s', h1, h2⟩ := hs (n - (m + 1)) s (by omega) hP
    obtain ⟨s2, h3, h4⟩ := ih (N - 1) s' (by omega) (by rw [show n - m = n - (m + 1) + 1 by omega]; exact h1) (by omega)
    refine ⟨s2, h3, ?_⟩
    rw [e_loop_S (by omega), h2, h4]
    congr 2
    omega
theorem e_loop_0 {σ α : Type} {body : (σ → Option α) → σ → Option α} (P : Nat → σ → Prop) (n : Nat) {s : σ} {N : Nat} (h0 : P 0 s) (hs : ∀ i s, i < n → P i s → ∃ s', P (i + 1) s' ∧ ∀ k, body k s = k s') (hN : n < N) : ∃ s', P n s' ∧ e_loop body N s = body (e_loop body (N - n - 1)) s' :=
  e_loop_n P n hs n N s (Nat.le_refl _) (by rw [Nat.sub_self]; exact h0) hN
/-- the same with states given outright -/
theorem e_loop_f {σ α : Type} {body : (σ → Option α) → σ → Option α} (f : Nat → σ) (n : Nat) {N : Nat} (hs : ∀ i, i < n → ∀ k, body k (f i) = k (f (i + 1))) (hN : n < N) : e_loop body N (f 0) = body (e_loop body (N - n - 1)) (f n) := by
  obtain ⟨s', h1, h2⟩ := e_loop_0 (body := body) (fun i s => s = f i) n rfl (fun i s hi h => ⟨f (i + 1), rfl, fun k => by rw [h]; exact hs i hi k⟩) hN
  rw [h2, h1]
