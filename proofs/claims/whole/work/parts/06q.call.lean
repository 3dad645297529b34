/-! CALLS of the class: write, ahead, the outer cases of writes -/
section CALL5
variable {B : Nat} {I : Nat → Nat → Int32} {J J2 : Nat → Nat → Int64} {a b c i j k s f t n m : Nat} {x : eST} {y : eKS} {v w : Int32}
theorem WF_M (w : WF x) (hk : k < 4) (ht : t < 4) : kM (zS x k) t ≤ 40 := ((WF_k w hk).1 t ht).1
theorem dot_in (w : WF x) (hk : k < 4) (ht : t < 4) (h1 : 1 ≤ n) (hn : n ≤ kM (zS x k) t) : 40 * t + (n - 1) < 160 ∧ cov (kM (zS x k)) (40 * t + (n - 1)) = true := by
  have := WF_M w hk ht
  refine ⟨by omega, ?_⟩
  rw [cov_ti _ (by omega), decide_eq_true_eq]
  omega
theorem dotAt_ok (h : Cl I J x) (w : WF x) (hk : k < zK x) (ht : t < zN x) (h1 : 1 ≤ n) (hn : n ≤ kM (zS x k) t) : F_X11_dotAt B (nI k) (nI t) (nI n) (HP B I J) = some (nI (40 * t + (n - 1)), HP B I J) := by
  have h4 : k < 4 := Nat.lt_of_lt_of_le hk w.2.2.2.1
  have h5 : t < 4 := Nat.lt_of_lt_of_le ht w.1.2
  have hM := WF_M w h4 h5
  obtain ⟨d1, d2⟩ := dot_in w h4 h5 h1 hn
  unfold F_X11_dotAt
  simp only [V_is, Option.bind_some, keyAt_ok h w hk, e_bind_some, Option.elim_some, isSite_ok h w ht, if_neg (show ¬ ((1 : Int32) = 0) by decide), if_neg (show ¬ nI n < 1 from nI_nlt (b := 1) h1 (by omega)), if_pos (show nI n ≤ 40 from nI_le (show n ≤ 40 by omega) (by decide)), s_of h1, dt, K_gr0 h4, J_is h4, t_jhas h4 d1 (Cl_k h h4), d2, b2, if_true]
theorem dotAt_no1 (h : Cl I J x) (w : WF x) {u v z : Int32} (hv : nix u (zK x) ∨ nix v (zN x)) : F_X11_dotAt B u v z (HP B I J) = some (-1, HP B I J) := by
  have h4 : zK x ≤ 4 := w.2.2.2.1
  unfold F_X11_dotAt
  rcases nix_c u (show zK x < 2 ^ 31 by omega) with e | ⟨k, hk, rfl⟩
  · simp only [V_is, Option.bind_some, keyAt_no h w e, e_bind_some, Option.elim_none]
  · have e : nix v (zN x) := by
      rcases hv with q | q
      · exfalso
        rcases q with q | q
        · exact nI_pos (by omega) q
        · exact nI_ge hk (by omega) q
      · exact q
    simp only [V_is, Option.bind_some, keyAt_ok h w hk, e_bind_some, Option.elim_some, isSite_no h w e, if_true]
theorem dotAt_no2 (h : Cl I J x) (w : WF x) (hk : k < zK x) (ht : t < zN x) {z : Int32} (hv : z < 1 ∨ nI (kM (zS x k) t) < z) : F_X11_dotAt B (nI k) (nI t) z (HP B I J) = some (-1, HP B I J) := by
  have h4 : k < 4 := Nat.lt_of_lt_of_le hk w.2.2.2.1
  have h5 : t < 4 := Nat.lt_of_lt_of_le ht w.1.2
  have hM := WF_M w h4 h5
  unfold F_X11_dotAt
  simp only [V_is, Option.bind_some, keyAt_ok h w hk, e_bind_some, Option.elim_some, isSite_ok h w ht, if_neg (show ¬ ((1 : Int32) = 0) by decide)]
  by_cases e1 : z < 1
  · rw [if_pos e1]
  · rw [if_neg e1]
    by_cases e2 : z ≤ 40
    · rw [if_pos e2]
      have e0 : ¬ z < 0 := fun q => e1 (Int32.lt_trans q (by decide))
      obtain ⟨n, hn, rfl⟩ := nI_of2 (M := 40) (n := 40) (by decide) e0 e2
      have hn1 : 1 ≤ n := by
        rcases Nat.eq_zero_or_pos n with q | q
        · subst q; exact absurd (by decide) e1
        · exact q
      have hn2 : kM (zS x k) t < n := (nI_ltI (by omega) (by omega)).mp (hv.resolve_left e1)
      have hf : cov (kM (zS x k)) (40 * t + (n - 1)) = false := by
        rw [cov_ti _ (by omega), decide_eq_false_iff_not]; omega
      simp only [s_of hn1, e_bind_some, dt, K_gr0 h4, J_is h4, Option.bind_some, t_jhas h4 (show 40 * t + (n - 1) < 160 by omega) (Cl_k h h4), hf, b2, Bool.false_eq_true, if_false, if_true]
    · rw [if_neg e2]
def aWr (y : eKS) (d : Nat) : Nat → Int64
  | 0 => kV y d
  | 1 => (nI (kSt y d)).toInt64
  | 2 => (b2 (kS y 0 d)).toInt64
  | 3 => (b2 (kS y 1 d)).toInt64
  | 4 => (b2 (kS y 2 d)).toInt64
  | 5 => (b2 (kS y 3 d)).toInt64
  | 6 => (hb (fun s => kS y (4 + s) d) 4).toInt64
  | _ => (b2 (los y d)).toInt64
theorem nI_m1 (h : n < 2 ^ 31) : ¬ nI n = -1 := by
  intro q
  have := nI_pos (n := n) h
  rw [q] at this
  exact this (by decide)
theorem c_write_ok {N : Nat} (hN : 200 < N) (h : Cl I J x) (w : WF x) (hk : k < zK x) (ht : t < zN x) (h1 : 1 ≤ n) (hn : n ≤ kM (zS x k) t) (hj : j < 8) : F_X11_write N B (nI k) (nI t) (nI n) (nI j) (HP B I J) = some (aWr (zS x k) (40 * t + (n - 1)) j, HP B I J) := by
  have h4 : k < 4 := Nat.lt_of_lt_of_le hk w.2.2.2.1
  have h5 : t < 4 := Nat.lt_of_lt_of_le ht w.1.2
  have hK := Cl_k h h4
  obtain ⟨d1, d2⟩ := dot_in w h4 h5 h1 hn
  unfold F_X11_write
  simp only [V_is, Option.bind_some, keyAt_ok h w hk, e_bind_some, Option.elim_some, dotAt_ok h w hk ht h1 hn, if_neg (nI_m1 (show 40 * t + (n - 1) < 2 ^ 31 by omega)), if_neg (nI_pos (show j < 2 ^ 31 by omega)), if_pos (show nI j ≤ 7 from nI_le (show j ≤ 7 by omega) (by decide)), K_gr0 h4, K_is h4, J_is h4, t_valueOf h4 d1 hK d2, t_stampOf h4 d1 hK d2, J_gr4 h4, J_gr5 h4, J_gr6 h4, J_gr7 h4, F_is h4 (show 0 < 8 by decide), F_is h4 (show 1 < 8 by decide), F_is h4 (show 2 < 8 by decide), F_is h4 (show 3 < 8 by decide), t_has h4 (show 0 < 8 by decide) d1 hK, t_has h4 (show 1 < 8 by decide) d1 hK, t_has h4 (show 2 < 8 by decide) d1 hK, t_has h4 (show 3 < 8 by decide) d1 hK, s_bit, t_holders hN h4 d1 hK, t_isLost hN h4 d1 hK]
  have hc : j = 0 ∨ j = 1 ∨ j = 2 ∨ j = 3 ∨ j = 4 ∨ j = 5 ∨ j = 6 ∨ j = 7 := by omega
  rcases hc with rfl | rfl | rfl | rfl | rfl | rfl | rfl | rfl <;> rfl
theorem c_write_no1 {N : Nat} (h : Cl I J x) (w : WF x) {u v z q : Int32} (hv : nix u (zK x) ∨ nix v (zN x)) : F_X11_write N B u v z q (HP B I J) = some (-1, HP B I J) := by
  have h4 : zK x ≤ 4 := w.2.2.2.1
  unfold F_X11_write
  rcases nix_c u (show zK x < 2 ^ 31 by omega) with e | ⟨k, hk, rfl⟩
  · simp only [V_is, Option.bind_some, keyAt_no h w e, e_bind_some, dotAt_no1 h w hv, Option.elim_none]
  · simp only [V_is, Option.bind_some, keyAt_ok h w hk, e_bind_some, dotAt_no1 h w hv, Option.elim_some, if_true]
theorem c_write_no2 {N : Nat} (h : Cl I J x) (w : WF x) (hk : k < zK x) (ht : t < zN x) {z q : Int32} (hv : z < 1 ∨ nI (kM (zS x k) t) < z) : F_X11_write N B (nI k) (nI t) z q (HP B I J) = some (-1, HP B I J) := by
  unfold F_X11_write
  simp only [V_is, Option.bind_some, keyAt_ok h w hk, e_bind_some, dotAt_no2 h w hk ht hv, Option.elim_some, if_true]
theorem nix_le (hv : nix v n) (hn : n < 2 ^ 31) {M : Int32} (hM : M < nI n) (e : ¬ v < 0) : ¬ v ≤ M := fun hc => absurd (Int32.lt_of_le_of_lt hc (Int32.lt_of_lt_of_le hM (hv.resolve_left e))) (Int32.lt_irrefl)
theorem c_write_no3 {N : Nat} (h : Cl I J x) (w : WF x) (hk : k < zK x) (ht : t < zN x) (h1 : 1 ≤ n) (hn : n ≤ kM (zS x k) t) (hv : nix v 8) : F_X11_write N B (nI k) (nI t) (nI n) v (HP B I J) = some (-1, HP B I J) := by
  have h4 : k < 4 := Nat.lt_of_lt_of_le hk w.2.2.2.1
  have h5 : t < 4 := Nat.lt_of_lt_of_le ht w.1.2
  obtain ⟨d1, d2⟩ := dot_in w h4 h5 h1 hn
  unfold F_X11_write
  simp only [V_is, Option.bind_some, keyAt_ok h w hk, e_bind_some, Option.elim_some, dotAt_ok h w hk ht h1 hn, if_neg (nI_m1 (show 40 * t + (n - 1) < 2 ^ 31 by omega))]
  by_cases e : v < 0
  · rw [if_pos e]
  · rw [if_neg e, if_neg (nix_le hv (by decide) (by decide) e)]
theorem t_toldOf (hk : k < 4) (hj : j < 160) (h : ClK k I J y) (hc : cov (kM y) j = true) : ∃ r, F_X3_toldOf (B + cJ k) (nI j) (HP B I J) = some (r, HP B I J) ∧ rwN r (kTo y j) :=
  ⟨_, by rw [s_toldOf hk hj h.2.2.1, if_pos (of_decide_eq_true hc)], (h.2.2.2.2.2.2 j hj hc).2.2.2.1⟩
theorem t_knownOf (hk : k < 4) (hj : j < 160) (h : ClK k I J y) (hc : cov (kM y) j = true) : ∃ r, F_X3_knownOf (B + cJ k) (nI j) (HP B I J) = some (r, HP B I J) ∧ rwN r (kKn y j) :=
  ⟨_, by rw [s_knownOf hk hj h.2.2.1, if_pos (of_decide_eq_true hc)], (h.2.2.2.2.2.2 j hj hc).2.2.2.2⟩
theorem s_ah85 {r : Int32} {mm : Nat → Nat} (hr : rwN r mm) (ha : a < 4) (hm : m < 2 ^ 31) (h : eH) : F_X11_ahead_85 (nI a) (nI m) r h = some (b2 (decide (m ≤ mm a)), h) := by
  obtain ⟨a1, a2⟩ := hr a ha
  unfold F_X11_ahead_85 F_X11_ahead_102
  simp only [s_number, e_bind_some, a1]
  by_cases e : m ≤ mm a
  · rw [if_neg (nI_nlt e (by omega)), decide_eq_true e]; rfl
  · rw [if_pos (nI_lt (by omega) (by omega)), decide_eq_false e]; rfl
theorem s_ahead {u v z v2 z2 : Int32} {q : Nat} {d1 d2 : Int32} {hh : eH} (e0 : h_is hh 10 B = some ()) (e1 : F_X11_keyAt B u hh = some (some q, hh)) (e2 : F_X11_dotAt B u v z hh = some (d1, hh)) (e3 : F_X11_dotAt B u v2 z2 hh = some (d2, hh)) (h1 : ¬ d1 = -1) (h2 : ¬ d2 = -1) (way : Int32) : F_X11_ahead B u v z v2 z2 way hh = if way < 0 then some (-1, hh) else if way ≤ 1 then (if way = 0 then ((h_gr hh 4 q 0).bind fun v11 => (h_is hh 3 v11).bind fun _ => e_bind (F_X3_toldOf v11 d2 hh) fun v12 h13 => F_X11_ahead_85 v z v12 h13) else ((h_gr hh 4 q 0).bind fun v8 => (h_is hh 3 v8).bind fun _ => e_bind (F_X3_knownOf v8 d2 hh) fun v9 h10 => F_X11_ahead_85 v z v9 h10)) else some (-1, hh) := by
  unfold F_X11_ahead
  simp only [e0, Option.bind_some, e1, e_bind_some, e2, e3, Option.elim_some, if_neg h1, if_neg h2]
theorem c_ahead_ok (h : Cl I J x) (w : WF x) (hk : k < zK x) (ha : a < zN x) (hb : b < zN x) (hm1 : 1 ≤ m) (hm : m ≤ kM (zS x k) a) (h1 : 1 ≤ n) (hn : n ≤ kM (zS x k) b) (hj : j < 2) : F_X11_ahead B (nI k) (nI a) (nI m) (nI b) (nI n) (nI j) (HP B I J) = some (b2 (decide (m ≤ (if j = 0 then kTo (zS x k) (40 * b + (n - 1)) a else kKn (zS x k) (40 * b + (n - 1)) a))), HP B I J) := by
  have h4 : k < 4 := Nat.lt_of_lt_of_le hk w.2.2.2.1
  have h5 : a < 4 := Nat.lt_of_lt_of_le ha w.1.2
  have h6 : b < 4 := Nat.lt_of_lt_of_le hb w.1.2
  have hK := Cl_k h h4
  obtain ⟨d1, d2⟩ := dot_in w h4 h6 h1 hn
  obtain ⟨d3, d4⟩ := dot_in w h4 h5 hm1 hm
  have hM := WF_M w h4 h5
  have hm31 : m < 2 ^ 31 := by omega
  obtain ⟨r1, e1, e2⟩ := t_toldOf (B := B) h4 d1 hK d2
  obtain ⟨r2, e3, e4⟩ := t_knownOf (B := B) h4 d1 hK d2
  rw [s_ahead V_is (keyAt_ok h w hk) (dotAt_ok h w hk ha hm1 hm) (dotAt_ok h w hk hb h1 hn) (nI_m1 (Nat.lt_trans d3 (by decide))) (nI_m1 (Nat.lt_trans d1 (by decide)))]
  rw [if_neg (nI_pos (Nat.lt_trans hj (by decide)))]
  have hc : j = 0 ∨ j = 1 := by omega
  rcases hc with rfl | rfl
  · rw [if_pos (by decide), if_pos nI_0, if_pos rfl, K_gr0 h4, Option.bind_some, J_is h4, Option.bind_some, e1, e_bind_some, s_ah85 e2 h5 hm31]
  · rw [if_pos (by decide), if_neg (show ¬ nI 1 = 0 by decide), if_neg (show ¬ (1 : Nat) = 0 by decide), K_gr0 h4, Option.bind_some, J_is h4, Option.bind_some, e3, e_bind_some, s_ah85 e4 h5 hm31]
theorem c_writes_in {N : Nat} (h : Cl I J x) (w : WF x) (hc : c < 4) (hs : s < zN x) (hk : k < zK x) (hj : j < 2) {val : Int64} (hv : j = 1 → (0 : Int32) ≤ lg_cmp val 0) : F_X11_writes N B (nI c) (nI s) (nI k) (nI j) val (HP B I J) = F_X11_writes_53 N B (nI k) (nI j) val (B + cC c) (B + cR k s) (HP B I J) := by
  unfold F_X11_writes
  simp only [V_is, Option.bind_some, clientAt_ok hc, e_bind_some, replicaAt_ok h w hs hk, Option.elim_some, if_neg (nI_pos (show j < 2 ^ 31 by omega)), if_pos (show nI j ≤ 1 from nI_le (show j ≤ 1 by omega) (by decide))]
  have hc : j = 0 ∨ j = 1 := by omega
  rcases hc with rfl | rfl
  · rfl
  · rw [if_pos (show nI 1 = 1 from rfl), if_pos (hv rfl)]
theorem c_writes_neg {N : Nat} (h : Cl I J x) (w : WF x) (hc : c < 4) (hs : s < zN x) (hk : k < zK x) {val : Int64} (hv : ¬ (0 : Int32) ≤ lg_cmp val 0) : F_X11_writes N B (nI c) (nI s) (nI k) (nI 1) val (HP B I J) = some (-1, HP B I J) := by
  unfold F_X11_writes
  simp only [V_is, Option.bind_some, clientAt_ok hc, e_bind_some, replicaAt_ok h w hs hk, Option.elim_some, if_neg hv]
  rfl
theorem c_writes_kd {N : Nat} (h : Cl I J x) (w : WF x) (hc : c < 4) (hs : s < zN x) (hk : k < zK x) {val : Int64} (hv : nix v 2) : F_X11_writes N B (nI c) (nI s) (nI k) v val (HP B I J) = some (-1, HP B I J) := by
  unfold F_X11_writes
  simp only [V_is, Option.bind_some, clientAt_ok hc, e_bind_some, replicaAt_ok h w hs hk, Option.elim_some]
  by_cases e : v < 0
  · rw [if_pos e]
  · rw [if_neg e, if_neg (nix_le hv (by decide) (by decide) e)]
theorem c_writes_full {N : Nat} (h : Cl I J x) (w : WF x) (hs : s < zN x) (hk : k < zK x) {val : Int64} {p : Nat} (hn : 40 ≤ kR (zS x k) s s) : F_X11_writes_53 N B (nI k) v val p (B + cR k s) (HP B I J) = some (-3, HP B I J) := by
  have h4 : k < 4 := Nat.lt_of_lt_of_le hk w.2.2.2.1
  have h5 : s < 4 := Nat.lt_of_lt_of_le hs w.1.2
  have hR := ((Cl_k h h4).2.1 s h5 s h5).2
  have hle : ¬ nI (kR (zS x k) s s + 1) ≤ (40 : Int32) := nI_ge (show 40 < kR (zS x k) s s + 1 by omega) (by omega)
  unfold F_X11_writes_53
  simp only [R_is h4 h5, Option.bind_some, s_nextNumber h4 h5 (Cl_k h h4), e_bind_some, if_neg hle]
theorem c_writes_unlike {N : Nat} (h : Cl I J x) (w : WF x) (hs : s < zN x) (hk : k < zK x) {val : Int64} {p : Nat} (hn : kR (zS x k) s s < 40) (hj : j < 2) (hne : j ≠ kkd (zS x k)) : F_X11_writes_53 N B (nI k) (nI j) val p (B + cR k s) (HP B I J) = some (-4, HP B I J) := by
  have h4 : k < 4 := Nat.lt_of_lt_of_le hk w.2.2.2.1
  have h5 : s < 4 := Nat.lt_of_lt_of_le hs w.1.2
  have hK := Cl_k h h4
  have hkd := (WF_k w h4).2.2.2.2.2.2.2.2
  have a2 : h_gi (HP B I J) 3 (B + cJ k) 8 = some (nI (kkd (zS x k))) := (m_gi (sh_J k h4) (by decide) (by decide)).trans (congrArg some hK.2.2.2.2.1)
  have hle : nI (kR (zS x k) s s + 1) ≤ (40 : Int32) := nI_le (show kR (zS x k) s s + 1 ≤ 40 by omega) (by decide)
  have hq : ¬ nI (kkd (zS x k)) = nI j := fun q => hne ((nI_eq (by omega) (by omega)).mp q).symm
  unfold F_X11_writes_53
  simp only [R_is h4 h5, Option.bind_some, s_nextNumber h4 h5 hK, e_bind_some, if_pos hle, R_gr1 h4 h5, a2, if_neg hq]
end CALL5
