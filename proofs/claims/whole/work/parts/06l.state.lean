/-! THE STATE: N sites, B bound, L limit, K keys, T stamps, E length, X letters, M rules, RK RR their keys and rules, CK contexts (0 blind, else key + 1), CN CT what they know and tell, S the keys -/
def eST : Type := (Nat) × (Nat) × (Nat) × (Nat) × (Nat) × (Nat) × (Nat → Nat) × (Nat) × (Nat → Nat) × (Nat → Nat) × (Nat → Nat) × (Nat → Nat → Nat) × (Nat → Nat → Nat) × (Nat → eKS)
def zN (x : eST) : Nat := x.1
def zB (x : eST) : Nat := x.2.1
def zL (x : eST) : Nat := x.2.2.1
def zK (x : eST) : Nat := x.2.2.2.1
def zT (x : eST) : Nat := x.2.2.2.2.1
def zE (x : eST) : Nat := x.2.2.2.2.2.1
def zX (x : eST) : Nat → Nat := x.2.2.2.2.2.2.1
def zM (x : eST) : Nat := x.2.2.2.2.2.2.2.1
def zRK (x : eST) : Nat → Nat := x.2.2.2.2.2.2.2.2.1
def zRR (x : eST) : Nat → Nat := x.2.2.2.2.2.2.2.2.2.1
def zCK (x : eST) : Nat → Nat := x.2.2.2.2.2.2.2.2.2.2.1
def zCN (x : eST) : Nat → Nat → Nat := x.2.2.2.2.2.2.2.2.2.2.2.1
def zCT (x : eST) : Nat → Nat → Nat := x.2.2.2.2.2.2.2.2.2.2.2.2.1
def zS (x : eST) : Nat → eKS := x.2.2.2.2.2.2.2.2.2.2.2.2.2
def vN (x : eST) (v : Nat) : eST := (v, x.2.1, x.2.2.1, x.2.2.2.1, x.2.2.2.2.1, x.2.2.2.2.2.1, x.2.2.2.2.2.2.1, x.2.2.2.2.2.2.2.1, x.2.2.2.2.2.2.2.2.1, x.2.2.2.2.2.2.2.2.2.1, x.2.2.2.2.2.2.2.2.2.2.1, x.2.2.2.2.2.2.2.2.2.2.2.1, x.2.2.2.2.2.2.2.2.2.2.2.2.1, x.2.2.2.2.2.2.2.2.2.2.2.2.2)
def vB (x : eST) (v : Nat) : eST := (x.1, v, x.2.2.1, x.2.2.2.1, x.2.2.2.2.1, x.2.2.2.2.2.1, x.2.2.2.2.2.2.1, x.2.2.2.2.2.2.2.1, x.2.2.2.2.2.2.2.2.1, x.2.2.2.2.2.2.2.2.2.1, x.2.2.2.2.2.2.2.2.2.2.1, x.2.2.2.2.2.2.2.2.2.2.2.1, x.2.2.2.2.2.2.2.2.2.2.2.2.1, x.2.2.2.2.2.2.2.2.2.2.2.2.2)
def vL (x : eST) (v : Nat) : eST := (x.1, x.2.1, v, x.2.2.2.1, x.2.2.2.2.1, x.2.2.2.2.2.1, x.2.2.2.2.2.2.1, x.2.2.2.2.2.2.2.1, x.2.2.2.2.2.2.2.2.1, x.2.2.2.2.2.2.2.2.2.1, x.2.2.2.2.2.2.2.2.2.2.1, x.2.2.2.2.2.2.2.2.2.2.2.1, x.2.2.2.2.2.2.2.2.2.2.2.2.1, x.2.2.2.2.2.2.2.2.2.2.2.2.2)
def vK (x : eST) (v : Nat) : eST := (x.1, x.2.1, x.2.2.1, v, x.2.2.2.2.1, x.2.2.2.2.2.1, x.2.2.2.2.2.2.1, x.2.2.2.2.2.2.2.1, x.2.2.2.2.2.2.2.2.1, x.2.2.2.2.2.2.2.2.2.1, x.2.2.2.2.2.2.2.2.2.2.1, x.2.2.2.2.2.2.2.2.2.2.2.1, x.2.2.2.2.2.2.2.2.2.2.2.2.1, x.2.2.2.2.2.2.2.2.2.2.2.2.2)
def vT (x : eST) (v : Nat) : eST := (x.1, x.2.1, x.2.2.1, x.2.2.2.1, v, x.2.2.2.2.2.1, x.2.2.2.2.2.2.1, x.2.2.2.2.2.2.2.1, x.2.2.2.2.2.2.2.2.1, x.2.2.2.2.2.2.2.2.2.1, x.2.2.2.2.2.2.2.2.2.2.1, x.2.2.2.2.2.2.2.2.2.2.2.1, x.2.2.2.2.2.2.2.2.2.2.2.2.1, x.2.2.2.2.2.2.2.2.2.2.2.2.2)
def vE (x : eST) (v : Nat) : eST := (x.1, x.2.1, x.2.2.1, x.2.2.2.1, x.2.2.2.2.1, v, x.2.2.2.2.2.2.1, x.2.2.2.2.2.2.2.1, x.2.2.2.2.2.2.2.2.1, x.2.2.2.2.2.2.2.2.2.1, x.2.2.2.2.2.2.2.2.2.2.1, x.2.2.2.2.2.2.2.2.2.2.2.1, x.2.2.2.2.2.2.2.2.2.2.2.2.1, x.2.2.2.2.2.2.2.2.2.2.2.2.2)
def vX (x : eST) (v : Nat → Nat) : eST := (x.1, x.2.1, x.2.2.1, x.2.2.2.1, x.2.2.2.2.1, x.2.2.2.2.2.1, v, x.2.2.2.2.2.2.2.1, x.2.2.2.2.2.2.2.2.1, x.2.2.2.2.2.2.2.2.2.1, x.2.2.2.2.2.2.2.2.2.2.1, x.2.2.2.2.2.2.2.2.2.2.2.1, x.2.2.2.2.2.2.2.2.2.2.2.2.1, x.2.2.2.2.2.2.2.2.2.2.2.2.2)
def vM (x : eST) (v : Nat) : eST := (x.1, x.2.1, x.2.2.1, x.2.2.2.1, x.2.2.2.2.1, x.2.2.2.2.2.1, x.2.2.2.2.2.2.1, v, x.2.2.2.2.2.2.2.2.1, x.2.2.2.2.2.2.2.2.2.1, x.2.2.2.2.2.2.2.2.2.2.1, x.2.2.2.2.2.2.2.2.2.2.2.1, x.2.2.2.2.2.2.2.2.2.2.2.2.1, x.2.2.2.2.2.2.2.2.2.2.2.2.2)
def vRK (x : eST) (v : Nat → Nat) : eST := (x.1, x.2.1, x.2.2.1, x.2.2.2.1, x.2.2.2.2.1, x.2.2.2.2.2.1, x.2.2.2.2.2.2.1, x.2.2.2.2.2.2.2.1, v, x.2.2.2.2.2.2.2.2.2.1, x.2.2.2.2.2.2.2.2.2.2.1, x.2.2.2.2.2.2.2.2.2.2.2.1, x.2.2.2.2.2.2.2.2.2.2.2.2.1, x.2.2.2.2.2.2.2.2.2.2.2.2.2)
def vRR (x : eST) (v : Nat → Nat) : eST := (x.1, x.2.1, x.2.2.1, x.2.2.2.1, x.2.2.2.2.1, x.2.2.2.2.2.1, x.2.2.2.2.2.2.1, x.2.2.2.2.2.2.2.1, x.2.2.2.2.2.2.2.2.1, v, x.2.2.2.2.2.2.2.2.2.2.1, x.2.2.2.2.2.2.2.2.2.2.2.1, x.2.2.2.2.2.2.2.2.2.2.2.2.1, x.2.2.2.2.2.2.2.2.2.2.2.2.2)
def vCK (x : eST) (v : Nat → Nat) : eST := (x.1, x.2.1, x.2.2.1, x.2.2.2.1, x.2.2.2.2.1, x.2.2.2.2.2.1, x.2.2.2.2.2.2.1, x.2.2.2.2.2.2.2.1, x.2.2.2.2.2.2.2.2.1, x.2.2.2.2.2.2.2.2.2.1, v, x.2.2.2.2.2.2.2.2.2.2.2.1, x.2.2.2.2.2.2.2.2.2.2.2.2.1, x.2.2.2.2.2.2.2.2.2.2.2.2.2)
def vCN (x : eST) (v : Nat → Nat → Nat) : eST := (x.1, x.2.1, x.2.2.1, x.2.2.2.1, x.2.2.2.2.1, x.2.2.2.2.2.1, x.2.2.2.2.2.2.1, x.2.2.2.2.2.2.2.1, x.2.2.2.2.2.2.2.2.1, x.2.2.2.2.2.2.2.2.2.1, x.2.2.2.2.2.2.2.2.2.2.1, v, x.2.2.2.2.2.2.2.2.2.2.2.2.1, x.2.2.2.2.2.2.2.2.2.2.2.2.2)
def vCT (x : eST) (v : Nat → Nat → Nat) : eST := (x.1, x.2.1, x.2.2.1, x.2.2.2.1, x.2.2.2.2.1, x.2.2.2.2.2.1, x.2.2.2.2.2.2.1, x.2.2.2.2.2.2.2.1, x.2.2.2.2.2.2.2.2.1, x.2.2.2.2.2.2.2.2.2.1, x.2.2.2.2.2.2.2.2.2.2.1, x.2.2.2.2.2.2.2.2.2.2.2.1, v, x.2.2.2.2.2.2.2.2.2.2.2.2.2)
def vS (x : eST) (v : Nat → eKS) : eST := (x.1, x.2.1, x.2.2.1, x.2.2.2.1, x.2.2.2.2.1, x.2.2.2.2.2.1, x.2.2.2.2.2.2.1, x.2.2.2.2.2.2.2.1, x.2.2.2.2.2.2.2.2.1, x.2.2.2.2.2.2.2.2.2.1, x.2.2.2.2.2.2.2.2.2.2.1, x.2.2.2.2.2.2.2.2.2.2.2.1, x.2.2.2.2.2.2.2.2.2.2.2.2.1, v)
/-- how the class holds it -/
def ClA (I : Nat → Nat → Int32) (x : eST) : Prop := I 0 7 = nI (zN x) ∧ I 0 8 = nI (zB x) ∧ I 0 9 = nI (zL x) ∧ I 0 10 = nI (zK x) ∧ I 0 11 = nI (zT x)
def ClT (I : Nat → Nat → Int32) (x : eST) : Prop := I 1 1 = nI (zE x) ∧ ∀ i, i < zE x → I 2 i = nI (zX x i)
def ClR (I : Nat → Nat → Int32) (x : eST) : Prop := I 7 2 = nI (zM x) ∧ ∀ i, i < zM x → I 8 i = nI (zRK x i) ∧ I 9 i = nI (zRR x i)
def ClC (I : Nat → Nat → Int32) (x : eST) : Prop := ∀ c, c < 4 → I (cC c) 0 = (if zCK x c = 0 then -1 else nI (zCK x c - 1)) ∧ (zCK x c ≠ 0 → rwN (I (cC c) 1) (zCN x c) ∧ rwN (I (cC c) 2) (zCT x c))
def Cl (I : Nat → Nat → Int32) (J : Nat → Nat → Int64) (x : eST) : Prop := ClA I x ∧ ClT I x ∧ ClR I x ∧ ClC I x ∧ ∀ k, k < 4 → ClK k I J (zS x k)
/-- what holds of a key in every state -/
def WFK (n T : Nat) (x : eKS) : Prop :=
  (∀ t, t < 4 → kM x t ≤ 40 ∧ (n ≤ t → kM x t = 0)) ∧ (∀ s, s < 4 → ∀ t, t < 4 → kR x s t ≤ kM x t ∧ (n ≤ s → kR x s t = 0)) ∧ (∀ s, s < n → kR x s s = kM x s) ∧ (∀ f, f < 8 → ∀ j, j < 160 → kS x f j = true → cov (kM x) j = true) ∧ (∀ s, s < 4 → ∀ j, j < 160 → kS x (4 + s) j = true → cov (kR x s) j = true) ∧ (∀ j, j < 160 → cov (kM x) j = true → 0 < kSt x j ∧ kSt x j ≤ T) ∧ (∀ i j, i < 160 → j < 160 → cov (kM x) i = true → cov (kM x) j = true → kSt x i = kSt x j → i = j) ∧ (∀ j, j < 160 → cov (kM x) j = true → ∀ t, t < 4 → kTo x j t ≤ kM x t ∧ kKn x j t ≤ kM x t) ∧ kkd x ≤ 1
def WF (x : eST) : Prop :=
  (2 ≤ zN x ∧ zN x ≤ 4) ∧ (1 ≤ zB x ∧ zB x ≤ 6) ∧ (1 ≤ zL x ∧ zL x ≤ 4) ∧ zK x ≤ 4 ∧ zT x ≤ 1000 ∧ (zE x ≤ 100 ∧ ∀ i, i < zE x → zX x i ≤ 255) ∧ (zM x ≤ 2 ∧ ∀ i, i < zM x → zRK x i < 4 ∧ zRR x i ≤ 4) ∧ (∀ c, c < 4 → zCK x c ≤ zK x ∧ (zCK x c ≠ 0 → ∀ t, t < 4 → zCN x c t ≤ kM (zS x (zCK x c - 1)) t ∧ zCT x c t ≤ kM (zS x (zCK x c - 1)) t)) ∧ ∀ k, k < 4 → WFK (zN x) (zT x) (zS x k)
/-- class cells change, the reference's stay -/
def frC (I : Nat → Nat → Int32) (J : Nat → Nat → Int64) (I2 : Nat → Nat → Int32) (J2 : Nat → Nat → Int64) : Prop := ∀ c, 125 ≤ c → ∀ z, I2 c z = I c z ∧ J2 c z = J c z
theorem frC_r {I : Nat → Nat → Int32} {J : Nat → Nat → Int64} : frC I J I J := fun _ _ _ => ⟨rfl, rfl⟩
theorem frC_t {I I2 I3 : Nat → Nat → Int32} {J J2 J3 : Nat → Nat → Int64} (h : frC I J I2 J2) (h2 : frC I2 J2 I3 J3) : frC I J I3 J3 := fun c hc z => ⟨((h2 c hc z).1).trans (h c hc z).1, ((h2 c hc z).2).trans (h c hc z).2⟩
theorem frK_C {k : Nat} {I I2 : Nat → Nat → Int32} {J J2 : Nat → Nat → Int64} (hk : k < 4) (h : frK k I J I2 J2) : frC I J I2 J2 := fun c hc z => h c (by omega) z
/-- a key laid anew -/
def oK (x : eST) (k : Nat) (y : eKS) : eST := vS x (fun a => if a = k then y else zS x a)
theorem Cl_K {k : Nat} {I I2 : Nat → Nat → Int32} {J J2 : Nat → Nat → Int64} {x : eST} {y : eKS} (hk : k < 4) (h : Cl I J x) (hf : frK k I J I2 J2) (hy : ClK k I2 J2 y) : Cl I2 J2 (oK x k y) := by
  obtain ⟨⟨a1, a2, a3, a4, a5⟩, ⟨b1, b2⟩, ⟨c1, c2⟩, d, e⟩ := h
  have f0 : ∀ c, c < 13 → ∀ z, I2 c z = I c z := fun c hc z => (hf c (Or.inl (by omega)) z).1
  refine ⟨⟨?_, ?_, ?_, ?_, ?_⟩, ⟨?_, fun i hi => ?_⟩, ⟨?_, fun i hi => ?_⟩, fun c hc => ?_, fun a ha => ?_⟩
  · rw [f0 0 (by decide)]; exact a1
  · rw [f0 0 (by decide)]; exact a2
  · rw [f0 0 (by decide)]; exact a3
  · rw [f0 0 (by decide)]; exact a4
  · rw [f0 0 (by decide)]; exact a5
  · rw [f0 1 (by decide)]; exact b1
  · rw [f0 2 (by decide)]; exact b2 i hi
  · rw [f0 7 (by decide)]; exact c1
  · rw [f0 8 (by decide), f0 9 (by decide)]; exact c2 i hi
  · have g : ∀ z, I2 (cC c) z = I (cC c) z := fun z => (hf _ (Or.inr (by unfold cC; omega)) z).1
    rw [g, g, g]; exact d c hc
  · show ClK a I2 J2 (if a = k then y else zS x a)
    by_cases q : a = k
    · subst q; rw [if_pos rfl]; exact hy
    · rw [if_neg q]
      refine ClK_fr ha (e a ha) (fun c h1 h2 z => (hf c ?_ z).1) (fun c h1 h2 z => (hf c ?_ z).2)
      · omega
      · omega
/-- no index below n -/
def nix (v : Int32) (n : Nat) : Prop := v < 0 ∨ nI n ≤ v
theorem nix_c (v : Int32) {n : Nat} (hn : n < 2 ^ 31) : nix v n ∨ ∃ j, j < n ∧ v = nI j := by
  rcases pk_ix v hn with h | h | h
  · exact Or.inl (Or.inl h)
  · exact Or.inl (Or.inr h)
  · exact Or.inr h
section STATE
variable {B : Nat} {I : Nat → Nat → Int32} {J J2 : Nat → Nat → Int64} {i j k s f t n : Nat} {x : eST} {v w : Int32}
theorem V_is : h_is (HP B I J) 10 B = some () := m_is (c := 0) (n := 12) (by decide)
theorem V_gi (hk : 7 ≤ k ∧ k < 12) : h_gi (HP B I J) 10 B k = some (I 0 k) := m_gi (c := 0) (n := 12) (by decide) hk.2 ((by decide : ∀ k, k < 12 → 7 ≤ k → m_fk 10 k = 0) k hk.2 hk.1)
theorem V_gr (hk : k < 7) : h_gr (HP B I J) 10 B k = some (B + m_rf 0 k) := m_gr (c := 0) (n := 12) (by decide) (by omega) ((by decide : ∀ k, k < 7 → m_fk 10 k = 2) k hk)
theorem V_gr0 : h_gr (HP B I J) 10 B 0 = some (B + 1) := V_gr (k := 0) (by decide)
theorem V_gr1 : h_gr (HP B I J) 10 B 1 = some (B + 3) := V_gr (k := 1) (by decide)
theorem V_gr2 : h_gr (HP B I J) 10 B 2 = some (B + 5) := V_gr (k := 2) (by decide)
theorem V_gr3 : h_gr (HP B I J) 10 B 3 = some (B + 6) := V_gr (k := 3) (by decide)
theorem V_gr4 : h_gr (HP B I J) 10 B 4 = some (B + 7) := V_gr (k := 4) (by decide)
theorem V_gr5 : h_gr (HP B I J) 10 B 5 = some (B + 10) := V_gr (k := 5) (by decide)
theorem V_gr6 : h_gr (HP B I J) 10 B 6 = some (B + 11) := V_gr (k := 6) (by decide)
theorem A_len5 : h_len (HP B I J) (B + 5) = some 4 := m_len4 (c := 5) (t := 3) (by decide) (by decide)
theorem A_len6 : h_len (HP B I J) (B + 6) = some 4 := m_len4 (c := 6) (t := 5) (by decide) (by decide)
theorem A_ar5 (hk : k < 4) : h_ar (HP B I J) 3 (B + 5) (nI k) = some (B + cK k) := by rw [m_arN (c := 5) (n := 4) (by decide) hk (by decide), rf_ks k hk]
theorem A_ar6 (hk : k < 4) : h_ar (HP B I J) 5 (B + 6) (nI k) = some (B + cC k) := by rw [m_arN (c := 6) (n := 4) (by decide) hk (by decide), rf_cs k hk]
theorem nlt4 (hk : k < 4) : ¬ (4 : Int32) ≤ nI k := k4_lt k hk
theorem nlt0 (hk : k < 4) : ¬ nI k < 0 := nI_pos (by omega)
theorem keyAt_ok (h : Cl I J x) (w : WF x) (hk : k < zK x) : F_X11_keyAt B (nI k) (HP B I J) = some (some (B + cK k), HP B I J) := by
  have h4 : zK x ≤ 4 := w.2.2.2.1
  unfold F_X11_keyAt
  simp only [if_neg (nlt0 (show k < 4 by omega)), V_gi (show 7 ≤ 10 ∧ 10 < 12 by decide), h.1.2.2.2.1, Option.bind_some, if_neg (nI_ge hk (by omega)), V_gr2, A_len5, if_neg (nlt4 (show k < 4 by omega)), A_ar5 (show k < 4 by omega)]
theorem keyAt_no (h : Cl I J x) (w : WF x) (hv : nix v (zK x)) : F_X11_keyAt B v (HP B I J) = some (none, HP B I J) := by
  unfold F_X11_keyAt
  by_cases e : v < 0
  · rw [if_pos e]
  · rw [if_neg e]
    simp only [V_gi (show 7 ≤ 10 ∧ 10 < 12 by decide), h.1.2.2.2.1, Option.bind_some, if_pos (hv.resolve_left e)]
theorem clientAt_ok (hk : k < 4) : F_X11_clientAt B (nI k) (HP B I J) = some (some (B + cC k), HP B I J) := by
  unfold F_X11_clientAt
  simp only [if_neg (nlt0 hk), V_gr3, A_len6, Option.bind_some, if_neg (nlt4 hk), A_ar6 hk]
theorem clientAt_no (hv : nix v 4) : F_X11_clientAt B v (HP B I J) = some (none, HP B I J) := by
  unfold F_X11_clientAt
  by_cases e : v < 0
  · rw [if_pos e]
  · rw [if_neg e]
    have : (4 : Int32) ≤ v := hv.resolve_left e
    simp only [V_gr3, A_len6, Option.bind_some, if_pos this]
theorem isSite_ok (h : Cl I J x) (w : WF x) (hk : k < zN x) : F_X11_isSite B (nI k) (HP B I J) = some (1, HP B I J) := by
  have h4 : zN x ≤ 4 := w.1.2
  unfold F_X11_isSite
  simp only [if_neg (nlt0 (show k < 4 by omega)), V_gi (show 7 ≤ 7 ∧ 7 < 12 by decide), h.1.1, Option.bind_some, if_neg (nI_ge hk (by omega)), h_z1]
theorem isSite_no (h : Cl I J x) (w : WF x) (hv : nix v (zN x)) : F_X11_isSite B v (HP B I J) = some (0, HP B I J) := by
  unfold F_X11_isSite
  by_cases e : v < 0
  · rw [if_pos e]; rfl
  · rw [if_neg e]
    simp only [V_gi (show 7 ≤ 7 ∧ 7 < 12 by decide), h.1.1, Option.bind_some, if_pos (hv.resolve_left e), h_z0]
theorem replicaOf_ok (hk : k < 4) (hs : s < 4) : F_X4_replicaOf (B + cK k) (nI s) (HP B I J) = some (some (B + cR k s), HP B I J) := by
  unfold F_X4_replicaOf
  simp only [if_neg (nlt0 hs), K_gr1 hk, K_len hk, Option.bind_some, if_neg (nlt4 hs), K_ar hk hs]
theorem replicaAt_ok (h : Cl I J x) (w : WF x) (hs : s < zN x) (hk : k < zK x) : F_X11_replicaAt B (nI s) (nI k) (HP B I J) = some (some (B + cR k s), HP B I J) := by
  have h4 : zK x ≤ 4 := w.2.2.2.1
  have h5 : zN x ≤ 4 := w.1.2
  unfold F_X11_replicaAt
  simp only [V_is, Option.bind_some, keyAt_ok h w hk, e_bind_some, Option.elim_some, isSite_ok h w hs, if_neg (show ¬ ((1 : Int32) = 0) by decide), K_is (show k < 4 by omega), replicaOf_ok (show k < 4 by omega) (show s < 4 by omega)]
theorem replicaAt_no (h : Cl I J x) (w : WF x) {a : Int32} (hv : nix a (zN x) ∨ nix v (zK x)) : F_X11_replicaAt B a v (HP B I J) = some (none, HP B I J) := by
  have h4 : zK x ≤ 4 := w.2.2.2.1
  unfold F_X11_replicaAt
  rcases nix_c v (show zK x < 2 ^ 31 by omega) with e | ⟨k, hk, rfl⟩
  · simp only [V_is, Option.bind_some, keyAt_no h w e, e_bind_some, Option.elim_none]
  · have e : nix a (zN x) := by
      rcases hv with q | q
      · exact q
      · exfalso
        rcases q with q | q
        · exact nI_pos (by omega) q
        · exact nI_ge hk (by omega) q
    simp only [V_is, Option.bind_some, keyAt_ok h w hk, e_bind_some, Option.elim_some, isSite_no h w e, if_true]
end STATE
