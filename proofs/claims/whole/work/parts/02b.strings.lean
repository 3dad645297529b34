/-! the String constants: what length and charAt say of them, and a call of a method of theirs -/
def s_ix (K : Nat → Nat) (a : Nat) : Option Nat := if a = K 0 then some 0 else if a = K 1 then some 1 else if a = K 2 then some 2 else if a = K 3 then some 3 else if a = K 4 then some 4 else none
def s_is (G : eG) (a : Nat) : Option Unit := (s_ix G.2.2.1 a).map fun _ => ()
def F_s_length (G : eG) (a : Nat) (h : eH) : Option (Int32 × eH) := (s_ix G.2.2.1 a).map fun i => (Int32.ofNat (e_slen.getD i 0), h)
def F_s_charAt (G : eG) (a : Nat) (i : Int32) (h : eH) : Option (Int32 × eH) := (s_ix G.2.2.1 a).bind fun j => if ¬ i < 0 ∧ i.toNatClampNeg < e_slen.getD j 0 then some ((e_sbyt.getD j []).getD i.toNatClampNeg 0, h) else none
theorem s_ix_spec {K : Nat → Nat} {a i : Nat} (hh : s_ix K a = some i) : i < 5 ∧ a = K i := by
  unfold s_ix at hh
  split at hh
  · rename_i e; cases hh; exact ⟨by omega, e⟩
  · split at hh
    · rename_i e; cases hh; exact ⟨by omega, e⟩
    · split at hh
      · rename_i e; cases hh; exact ⟨by omega, e⟩
      · split at hh
        · rename_i e; cases hh; exact ⟨by omega, e⟩
        · split at hh
          · rename_i e; cases hh; exact ⟨by omega, e⟩
          · cases hh
theorem s_is_spec {G : eG} {a : Nat} {v : Unit} (hh : s_is G a = some v) : ∃ i, i < 5 ∧ a = G.2.2.1 i := by
  unfold s_is at hh
  cases hx : s_ix G.2.2.1 a with
  | none => rw [hx] at hh; cases hh
  | some i => exact ⟨i, s_ix_spec hx⟩
theorem k_callStr {ρ : Type} {en : ρ → Option Value} {q : eT} {r0 : ρ} {h0 : eH} {pc : Nat} {ls : List (Nat × Value)} {st : List Value} {h : eH} {own : String} {cc : ByteArray} {nl fr lo : Nat} {ret : Option FieldType} {nm : String} (hq : e_B q own cc nl fr lo ret nm) {ρ' : Type} {en' : ρ' → Option Value} {y : MethodName} {bytes : ByteArray} {maxL fr' lo' idx na : Nat} {ret' : Option FieldType} {As : List Value} {st0 : List Value} {F' : eH → Option (ρ' × eH)} {f : ρ' → eH → Option (ρ × eH)} {b : Nat} (hM : e_C en' (e_l q) (e_G q) (e_B0 q) (e_n q) y bytes maxL ret' fr' lo' (.ref b :: As) F') (wcode : e_in (.code y bytes maxL ret')) (wini : e_in (.initialized y.cls)) (wlink : e_in (.methodLink own idx y)) (winst : e_in (.instanceMethod y)) (wsel : e_in (.selects "java/lang/String" y y)) (hy : y.cls ≠ "java/lang/invoke/MethodHandle" ∧ y.cls ≠ "java/lang/invoke/VarHandle" ∧ (parseMethodDescriptor y.desc).map (fun d => d.parameters.length) = some na) (hna : As.length = na) (hfl : fr' + 1 ≤ fr ∧ 8 + (maxL + 11) + lo' ≤ lo) (hst : st0 = As.reverse ++ .ref b :: st) (hW8 : (st.map fun v => v.category).sum ≤ 8) (hd : decode cc pc = .ok (.invokevirtual idx, 3)) (kk : ∀ r h', e_K en q r0 h0 (pc + 3) ls ((en' r).toList ++ st) h' (f r h')) : e_K en q r0 h0 pc ls st0 h ((s_is (e_G q) b).bind fun _ => e_bind (F' h) f) := by
  refine k_bind fun _ hv0 => ?_
  obtain ⟨i, hi, hbi⟩ := s_is_spec hv0
  unfold e_bind
  refine k_bind fun v hv => ?_
  obtain ⟨r', h1⟩ := v
  have kk := kk r' h1
  have hMet := hM h r' h1 hv
  subst hst
  obtain ⟨p, l, e, R, s, m, args, below, meth, c, G, B0, nn, nL, c0, s0, Qf⟩ := q
  obtain ⟨hx, hb, hml, hnl, hown, hC, hlk, hfr, hlo, hret, hnm, hc0, hs0⟩ := hq
  refine fun hX H locs la hH hS hla => ?_
  have hgo : ∀ U : State, U.heap = H → s.WarmedH U.vm → e_Cx G B0 U := fun U hU hW => hC.go hW (by rw [hU]; exact hS.1) (fun a g1 g2 => by rw [hU]; exact hS.2.1 a g1 g2)
  obtain ⟨cellB, g1, g2, g3⟩ := vk_recv hC.2.2.2.1.1 hi hS
  subst hbi
  refine e_ran (nL := nL) (va_runV (C := "java/lang/String") (As := As) (rest := st) (Ts := []) ⟨hx, hb, hml, hown, fun w hw => by cases hw⟩ hMet ⟨⟨rfl, rfl, by rw [hfr]; exact hfl.1, by rw [hlo]; exact hfl.2, fun w hw a' U hW => by rw [List.mem_singleton.mp hw]; exact word_at hW (good_of_word wcode.2) (hC.2.1 _ wcode #[]), List.mem_singleton.mpr rfl, hC.2.1 _ wcode _, hC.2.1 _ wini _, ⟨hy.1, hy.2.1⟩, fun sig hs => by have h2 := hy.2.2; rw [hs] at h2; exact (Option.some.inj h2).symm, hC.2.1 _ wlink _⟩, hC.2.1 _ winst _, hC.2.1 _ wsel _⟩ ⟨e_blind, ⟨cellB, g1, g2, g3⟩, fun U hU hW => ⟨rfl, by rw [hU]; exact hH, hgo U hU hW⟩⟩ rfl hna hla.1 rfl (by show 2 * 0 + _ ≤ 8; omega) hd ⟨hc0, hs0⟩) hS fun H1 locs1 g5 g6 => ?_
  exact kk hX H1 locs1 la g5 g6 hla
