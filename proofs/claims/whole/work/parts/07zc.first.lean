/-! THE FIRST STATE: class and reference hold the same -/
def ekz : eKS := (fun _ => 0, fun _ _ => 0, fun _ _ => false, fun _ => 0, fun _ => 0, fun _ _ => 0, fun _ _ => 0, 0, 0)
def ex0 : eST := (3, 4, 4, 0, 0, 0, fun _ => 0, 0, fun _ => 0, fun _ => 0, fun _ => 0, fun _ _ => 0, fun _ _ => 0, fun _ => ekz)
theorem zk_z : zk ekz 0 := ⟨fun _ _ => rfl, fun _ _ _ _ => rfl, fun _ _ _ => rfl, rfl, rfl⟩
theorem MoK_z {I : Nat → Nat → Int32} {J : Nat → Nat → Int64} {y : eKS} {kd k : Nat} (hF : xFg I) (hz : zk y kd) (hk : k < 4) : MoK k I J y := by
  obtain ⟨u1, u2, u3, u4, u5, u6⟩ := hF
  refine ⟨fun t ht => ?_, fun s hs t ht => ?_, ?_, fun p hp => ?_, fun f hf p hp => ?_, fun j hj hc => ?_⟩
  · rw [u3 _ (by omega), hz.1 t ht]; rfl
  · rw [u2 _ (by omega), hz.2.1 s hs t ht]; rfl
  · rw [(u4 k hk).1, hz.2.2.2.1]
  · rw [u1 135 (by decide) (by decide) _ (by omega), hb_cong (q := fun _ => false) (fun s hs => ?_), hb_none]
    unfold plc
    rw [hz.2.2.1 (4 + s) (by omega), Bool.and_false]
  · rw [u1 (131 + f) (by omega) (by omega) _ (by omega)]
    unfold plc
    rw [hz.2.2.1 f (by omega), Bool.and_false]; rfl
  · rw [zk_cov hz hj] at hc; cases hc
theorem ClK_z {I : Nat → Nat → Int32} {k : Nat} (hk : k < 4) (hI : ∀ c, c < 125 → ∀ z, I c z = iI0 c z) : ClK k I (fun _ _ => 0) ekz := by
  have h0 : ∀ s, s < 4 → I (cR k s) 0 = nI s := fun s hs => (hI _ (by unfold cR; omega) _).trans ((by decide +kernel : ∀ k, k < 4 → ∀ s, s < 4 → iI0 (cR k s) 0 = nI s) k hk s hs)
  have h3 : ∀ s, s < 4 → I (cR k s) 3 = 0 := fun s hs => (hI _ (by unfold cR; omega) _).trans ((by decide +kernel : ∀ k, k < 4 → ∀ s, s < 4 → iI0 (cR k s) 3 = 0) k hk s hs)
  have hJ : ∀ z, z < 11 → I (cJ k) z = 0 := fun z hz => (hI _ (by unfold cJ; omega) _).trans ((by decide +kernel : ∀ k, k < 4 → ∀ z, z < 11 → iI0 (cJ k) z = 0) k hk z hz)
  refine ⟨h0, fun s hs => ?_, ?_, hJ 10 (by decide), hJ 8 (by decide), fun f hf t ht i hi => ?_, fun j hj hc => ?_⟩
  · rw [h3 s hs]; exact rwN_0
  · rw [hJ 9 (by decide)]; exact rwN_0
  · show g64 0 i = (decide (i < 40) && false)
    rw [g_0, Bool.and_false]
  · rw [zk_cov zk_z hj] at hc; cases hc
theorem first_both {B N : Nat} (hN : 2000 < N) : ∃ I, F_X12_begins N (B + 125) (HP B iI0 (fun _ _ => 0)) = some ((), HP B I (fun _ _ => 0)) ∧ rLB I (fun _ _ => 0) ex0 := by
  unfold F_X12_begins
  simp only [M_p0, M_p1, M_p2, M_p3, M_is, Option.bind_some]
  obtain ⟨I0, hI0⟩ : ∃ I0, I0 = w2 (w2 (w2 (w2 iI0 125 0 3) 125 1 4) 125 2 4) 125 3 0 := ⟨_, rfl⟩
  rw [← hI0]
  obtain ⟨I, a1, a2, a3⟩ := m_forgets (B := B) (I := I0) (J := fun _ _ => 0) hN
  have f0 : ∀ c z, ¬ (c = 125 ∧ z ≤ 3) → I0 c z = iI0 c z := fun c z q => by
    rw [hI0]; unfold w2
    rw [if_neg (fun r => q ⟨r.1, by omega⟩), if_neg (fun r => q ⟨r.1, by omega⟩), if_neg (fun r => q ⟨r.1, by omega⟩), if_neg (fun r => q ⟨r.1, by omega⟩)]
  have f : ∀ c, c < 125 → ∀ z, I c z = iI0 c z := fun c hc z => (a3 c z (by omega) (by omega)).trans (f0 c z (by omega))
  simp only [a1, e_bind_some]
  refine ⟨I, rfl, ⟨⟨?_, ?_, ?_, ?_, ?_⟩, ⟨?_, fun i hi => absurd hi (Nat.not_lt_zero i)⟩, ⟨?_, fun i hi => absurd hi (Nat.not_lt_zero i)⟩, fun c hc => ⟨?_, fun q => absurd rfl q⟩, fun k hk => ClK_z hk f⟩, ⟨⟨?_, ?_, ?_, ?_, a2.2.2.2.2.1⟩, ⟨?_, fun i hi => absurd hi (Nat.not_lt_zero i)⟩, ⟨a2.2.2.2.2.2, fun i hi => absurd hi (Nat.not_lt_zero i)⟩, fun c hc => ⟨(a2.2.2.2.1 c hc).2, fun q => absurd rfl q⟩, fun k hk => absurd hk (Nat.not_lt_zero k), fun k hk => MoK_z a2 zk_z hk⟩, ⟨⟨by decide, by decide⟩, ⟨by decide, by decide⟩, ⟨by decide, by decide⟩, by decide, Nat.zero_le _, ⟨Nat.zero_le _, fun i hi => absurd hi (Nat.not_lt_zero i)⟩, ⟨Nat.zero_le _, fun i hi => absurd hi (Nat.not_lt_zero i)⟩, fun c hc => ⟨Nat.zero_le _, fun q => absurd rfl q⟩, fun k hk => WFK_z (by decide) zk_z (by decide)⟩⟩
  · exact (f 0 (by decide) 7).trans (by decide +kernel)
  · exact (f 0 (by decide) 8).trans (by decide +kernel)
  · exact (f 0 (by decide) 9).trans (by decide +kernel)
  · exact (f 0 (by decide) 10).trans (by decide +kernel)
  · exact (f 0 (by decide) 11).trans (by decide +kernel)
  · exact (f 1 (by decide) 1).trans (by decide +kernel)
  · exact (f 7 (by decide) 2).trans (by decide +kernel)
  · exact (f (cC c) (by unfold cC; omega) 0).trans ((by decide +kernel : ∀ c, c < 4 → iI0 (cC c) 0 = -1) c hc)
  · rw [a3 125 0 (by decide) (by decide), hI0, w2_k _ _ (by decide), w2_k _ _ (by decide), w2_k _ _ (by decide), w2_s]; rfl
  · rw [a3 125 1 (by decide) (by decide), hI0, w2_k _ _ (by decide), w2_k _ _ (by decide), w2_s]; rfl
  · rw [a3 125 2 (by decide) (by decide), hI0, w2_k _ _ (by decide), w2_s]; rfl
  · rw [a3 125 3 (by decide) (by decide), hI0, w2_s]; rfl
  · exact (a3 125 24 (by decide) (by decide)).trans ((f0 125 24 (by decide)).trans (by decide +kernel))
theorem hT_0 (B : Nat) : (fun _ => none : eH) = hT B 0 := by
  funext a
  unfold hT m_cT m_cA
  split
  · rfl
  · rw [if_neg (by rw [decide_eq_false (Nat.not_lt_zero _)]; decide)]
theorem s_cellN {L : Nat} {xs : Nat → Int32} {m : Nat} (h : m < L) (h2 : L ≤ 3584) : s_cell L xs (nI m) = some (xs m) := by
  unfold s_cell
  rw [nI_clamp (by omega), if_pos ⟨nI_pos (by omega), h⟩]
