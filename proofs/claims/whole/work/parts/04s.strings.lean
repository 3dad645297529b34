/-! the String constants' length and charAt: the JDK's own methods walked -/
theorem sw_415 : e_in (.code yJ0_length_8abf5 cJ0_length_8abf5 1 (some .int)) := ⟨List.mem_of_getElem? (i := 415) (by decide +kernel), by decide +kernel⟩
theorem sw_416 : e_in (.methodLink RJ0 335 yJ0_coder_7d493) := ⟨List.mem_of_getElem? (i := 416) (by decide +kernel), by decide +kernel⟩
theorem sw_417 : e_in (.instanceMethod yJ0_coder_7d493) := ⟨List.mem_of_getElem? (i := 417) (by decide +kernel), by decide +kernel⟩
theorem sw_418 : e_in (.selects RJ0 yJ0_coder_7d493 yJ0_coder_7d493) := ⟨List.mem_of_getElem? (i := 418) (by decide +kernel), by decide +kernel⟩
theorem sw_419 : e_in (.code yJ0_coder_7d493 cJ0_coder_7d493 1 (some .byte)) := ⟨List.mem_of_getElem? (i := 419) (by decide +kernel), by decide +kernel⟩
theorem sw_420 : e_in (.fieldLink RJ0 38 "java/lang/String" "COMPACT_STRINGS" "Z") := ⟨List.mem_of_getElem? (i := 420) (by decide +kernel), by decide +kernel⟩
theorem sw_426 : e_in (.methodLink RJ0 492 yJ0_isLatin1_aae02) := ⟨List.mem_of_getElem? (i := 426) (by decide +kernel), by decide +kernel⟩
theorem sw_427 : e_in (.instanceMethod yJ0_isLatin1_aae02) := ⟨List.mem_of_getElem? (i := 427) (by decide +kernel), by decide +kernel⟩
theorem sw_428 : e_in (.selects RJ0 yJ0_isLatin1_aae02 yJ0_isLatin1_aae02) := ⟨List.mem_of_getElem? (i := 428) (by decide +kernel), by decide +kernel⟩
theorem sw_429 : e_in (.code yJ0_isLatin1_aae02 cJ0_isLatin1_aae02 1 (some .boolean)) := ⟨List.mem_of_getElem? (i := 429) (by decide +kernel), by decide +kernel⟩
theorem sw_430 : e_in (.methodLink RJ0 495 yJ1_charAt_3b067) := ⟨List.mem_of_getElem? (i := 430) (by decide +kernel), by decide +kernel⟩
theorem sw_431 : e_in (.static yJ1_charAt_3b067) := ⟨List.mem_of_getElem? (i := 431) (by decide +kernel), by decide +kernel⟩
theorem sw_432 : e_in (.code yJ1_charAt_3b067 cJ1_charAt_3b067 2 (some .char)) := ⟨List.mem_of_getElem? (i := 432) (by decide +kernel), by decide +kernel⟩
theorem sw_433 : e_in (.methodLink RJ1 9 yJ0_checkIndex_df160) := ⟨List.mem_of_getElem? (i := 433) (by decide +kernel), by decide +kernel⟩
theorem sw_434 : e_in (.static yJ0_checkIndex_df160) := ⟨List.mem_of_getElem? (i := 434) (by decide +kernel), by decide +kernel⟩
theorem sw_435 : e_in (.code yJ0_checkIndex_df160 cJ0_checkIndex_df160 2 none) := ⟨List.mem_of_getElem? (i := 435) (by decide +kernel), by decide +kernel⟩
theorem sw_436 : e_in (.fieldLink RJ0 1053 "jdk/internal/util/Preconditions" "SIOOBE_FORMATTER" "Ljava/util/function/BiFunction;") := ⟨List.mem_of_getElem? (i := 436) (by decide +kernel), by decide +kernel⟩
theorem sw_438 : e_in (.methodLink RJ0 1059 yJ3_checkIndex_8e157) := ⟨List.mem_of_getElem? (i := 438) (by decide +kernel), by decide +kernel⟩
theorem sw_439 : e_in (.static yJ3_checkIndex_8e157) := ⟨List.mem_of_getElem? (i := 439) (by decide +kernel), by decide +kernel⟩
theorem sw_440 : e_in (.code yJ3_checkIndex_8e157 cJ3_checkIndex_8e157 3 (some .int)) := ⟨List.mem_of_getElem? (i := 440) (by decide +kernel), by decide +kernel⟩
theorem sw_61 : e_in (.initialized RJ0) := ⟨List.mem_of_getElem? (i := 61) (by decide +kernel), by decide +kernel⟩
theorem sw_62 : e_in (.initialized RJ1) := ⟨List.mem_of_getElem? (i := 62) (by decide +kernel), by decide +kernel⟩
theorem sw_63 : e_in (.initialized RJ3) := ⟨List.mem_of_getElem? (i := 63) (by decide +kernel), by decide +kernel⟩
theorem sw_1269 : e_in (.fieldLink RJ0 9 "java/lang/String" "value" "[B") := ⟨List.mem_of_getElem? (i := 1269) (by decide +kernel), by decide +kernel⟩
theorem sw_1270 : e_in (.fieldLink RJ0 15 "java/lang/String" "coder" "B") := ⟨List.mem_of_getElem? (i := 1270) (by decide +kernel), by decide +kernel⟩
section ES
variable {ρ : Type} {en : ρ → Option Value} {q : eT} {r0 : ρ} {h0 : eH} {pc : Nat} {ls : List (Nat × Value)} {st : List Value} {h : eH} {X : Option (ρ × eH)} {own : String} {cc : ByteArray} {nl fr lo : Nat} {ret : Option FieldType} {nm : String}
theorem k_gcompact (hq : e_B q own cc nl fr lo ret nm) {idx : Nat} (wlink : e_in (.fieldLink own idx "java/lang/String" "COMPACT_STRINGS" "Z")) (hd : decode cc pc = .ok (.getstatic idx, 3)) (kk : e_K en q r0 h0 (pc + 3) ls (.int 1 :: st) h X) : e_K en q r0 h0 pc ls st h X := by
  obtain ⟨p, l, e, R, s, m, args, below, meth, c, G, B0, nn, nL, c0, s0, Qf⟩ := q
  obtain ⟨hx, hb, hml, hnl, hown, hC, hlk, hfr, hlo, hret, hnm, hc0, hs0⟩ := hq
  exact fun hX H locs la hH hS hla => va_gets hx hb hC.2.2.2.1.2.1 hS hown (hC.2.1 _ wlink _) (fun _ z => z) hd (kk hX H locs la hH hS hla)
theorem k_gfmt (hq : e_B q own cc nl fr lo ret nm) {idx : Nat} (wlink : e_in (.fieldLink own idx "jdk/internal/util/Preconditions" "SIOOBE_FORMATTER" "Ljava/util/function/BiFunction;")) (hd : decode cc pc = .ok (.getstatic idx, 3)) (kk : ∀ t, e_K en q r0 h0 (pc + 3) ls (va_rf t :: st) h X) : e_K en q r0 h0 pc ls st h X := by
  obtain ⟨p, l, e, R, s, m, args, below, meth, c, G, B0, nn, nL, c0, s0, Qf⟩ := q
  obtain ⟨hx, hb, hml, hnl, hown, hC, hlk, hfr, hlo, hret, hnm, hc0, hs0⟩ := hq
  obtain ⟨t, hZ⟩ := hC.2.2.2.1.2.2
  exact fun hX H locs la hH hS hla => va_gets hx hb hZ hS hown (hC.2.1 _ wlink _) (fun _ z => z) hd (kk t hX H locs la hH hS hla)
theorem k_scod (hq : e_B q own cc nl fr lo ret nm) {idx i : Nat} (hi : i < 5) (wlink : e_in (.fieldLink own idx "java/lang/String" "coder" "B")) (hd : decode cc pc = .ok (.getfield idx, 3)) (kk : e_K en q r0 h0 (pc + 3) ls (.int 0 :: st) h X) : e_K en q r0 h0 pc ls (.ref ((e_G q).2.2.1 i) :: st) h X := by
  obtain ⟨p, l, e, R, s, m, args, below, meth, c, G, B0, nn, nL, c0, s0, Qf⟩ := q
  obtain ⟨hx, hb, hml, hnl, hown, hC, hlk, hfr, hlo, hret, hnm, hc0, hs0⟩ := hq
  exact fun hX H locs la hH hS hla => vk_getf hx hb (hC.2.2.2.1.1.1 i hi).2.1 hS hown (hC.2.1 _ wlink _) (fun _ z => z) hd (kk hX H locs la hH hS hla)
theorem k_sval (hq : e_B q own cc nl fr lo ret nm) {idx i : Nat} (hi : i < 5) (wlink : e_in (.fieldLink own idx "java/lang/String" "value" "[B")) (hd : decode cc pc = .ok (.getfield idx, 3)) (kk : e_K en q r0 h0 (pc + 3) ls (.ref ((e_G q).2.2.2 i) :: st) h X) : e_K en q r0 h0 pc ls (.ref ((e_G q).2.2.1 i) :: st) h X := by
  obtain ⟨p, l, e, R, s, m, args, below, meth, c, G, B0, nn, nL, c0, s0, Qf⟩ := q
  obtain ⟨hx, hb, hml, hnl, hown, hC, hlk, hfr, hlo, hret, hnm, hc0, hs0⟩ := hq
  exact fun hX H locs la hH hS hla => vk_getf hx hb (hC.2.2.2.1.1.1 i hi).2.2.1 hS hown (hC.2.1 _ wlink _) (fun _ z => z) hd (kk hX H locs la hH hS hla)
theorem k_sblen (hq : e_B q own cc nl fr lo ret nm) {i : Nat} (hi : i < 5) (hd : decode cc pc = .ok (.arraylength, 1)) (kk : e_K en q r0 h0 (pc + 1) ls (.int (Int32.ofNat (e_slen.getD i 0)) :: st) h X) : e_K en q r0 h0 pc ls (.ref ((e_G q).2.2.2 i) :: st) h X := by
  obtain ⟨p, l, e, R, s, m, args, below, meth, c, G, B0, nn, nL, c0, s0, Qf⟩ := q
  obtain ⟨hx, hb, hml, hnl, hown, hC, hlk, hfr, hlo, hret, hnm, hc0, hs0⟩ := hq
  refine fun hX H locs la hH hS hla => ?_
  obtain ⟨cell, g1, g2, g3, g4, g5, g6, g7⟩ := (hC.2.2.2.1.1.1 i hi).2.2.2.kept hS.2.1
  exact W.alen hx hb g1 g2 g5 rfl rfl hd (kk hX H locs la hH hS hla)
theorem k_sbald (hq : e_B q own cc nl fr lo ret nm) {i : Nat} (hi : i < 5) {x : Int32} (h1 : ¬ x < 0) (h2 : x.toNatClampNeg < e_slen.getD i 0) (hd : decode cc pc = .ok (.baload, 1)) (kk : e_K en q r0 h0 (pc + 1) ls (.int ((e_sbyt.getD i []).getD x.toNatClampNeg 0) :: st) h X) : e_K en q r0 h0 pc ls (.int x :: .ref ((e_G q).2.2.2 i) :: st) h X := by
  obtain ⟨p, l, e, R, s, m, args, below, meth, c, G, B0, nn, nL, c0, s0, Qf⟩ := q
  obtain ⟨hx, hb, hml, hnl, hown, hC, hlk, hfr, hlo, hret, hnm, hc0, hs0⟩ := hq
  refine fun hX H locs la hH hS hla => ?_
  obtain ⟨cell, g1, g2, g3, g4, g5, g6, g7⟩ := (hC.2.2.2.1.1.1 i hi).2.2.2.kept hS.2.1
  exact W.bald (v := .int _) hx hb g1 g2 g3 (fun z => z.elim h1 (fun z => absurd h2 (by omega))) (g6 _ h2) rfl rfl hd (kk hX H locs la hH hS hla)
end ES
theorem k_xret {q : eT} {r0 : Int32} {h0 : eH} {pc : Nat} {ls : List (Nat × Value)} {h : eH} {own : String} {cc : ByteArray} {nl fr lo : Nat} {nm : String} {ty : FieldType} (hq : e_B q own cc nl fr lo (some ty) nm) {v : Int32} (hd : decode cc pc = .ok (.ireturn, 1)) (he : e_E q) (hn : narrow ty (.int v) = .int v) : e_K eI q r0 h0 pc ls [.int v] h (some (v, h)) := by
  obtain ⟨p, l, e, R, s, m, args, below, meth, c, G, B0, nn, nL, c0, s0, Qf⟩ := q
  obtain ⟨hx, hb, hml, hnl, hown, hC, hlk, hfr, hlo, hret, hnm, hc0, hs0⟩ := hq
  obtain ⟨he, -, -⟩ := he
  intro hX H locs la hH hS hla
  cases hX
  subst he
  exact W.zret hx hb hret hn (fun t ht hW => ⟨rfl, by rw [ht]; exact hH, hS.F ht⟩) hS.2.2 hd hlk
def F_s_coder (h : eH) : Option (Int32 × eH) := some (0, h)
def F_s_isLatin1 (h : eH) : Option (Int32 × eH) := some (1, h)
def F_s_check (L : Nat) (j : Int32) (h : eH) : Option (Int32 × eH) := if ¬ j < 0 ∧ j.toNatClampNeg < L then some (j, h) else none
def F_s_checkV (L : Nat) (j : Int32) (h : eH) : Option (Unit × eH) := if ¬ j < 0 ∧ j.toNatClampNeg < L then some ((), h) else none
def F_s_at (i : Nat) (j : Int32) (h : eH) : Option (Int32 × eH) := if ¬ j < 0 ∧ j.toNatClampNeg < e_slen.getD i 0 then some ((e_sbyt.getD i []).getD j.toNatClampNeg 0, h) else none
set_option maxRecDepth 100000 in
theorem c_s_coder (l : Launch) (G : eG) (B0 n : Nat) (i : Nat) (hi : i < 5) : e_C eI l G B0 n yJ0_coder_7d493 cJ0_coder_7d493 1 (some .byte) 0 0 [.ref (G.2.2.1 i)] F_s_coder := by
  refine e_mk (by decide) (Nat.le_of_ble_eq_true rfl) fun q r0 h0 h hq he e1 e2 e3 e4 => ?_
  subst e1; subst e2; subst e3; subst e4
  unfold F_s_coder
  refine k_gcompact hq sw_420 dJ0_coder_7d493_0 ?_
  have : (some ((0 : Int32), h) : Option (Int32 × eH)) = if (1 : Int32) = 0 then none else some (0, h) := rfl
  rw [this]
  refine k_if_eq hq (tgt := 13) dJ0_coder_7d493_3 (by decide) (fun z => k_none rfl) (fun _ => ?_)
  refine k_aload_n hq dJ0_coder_7d493_6 0 rfl ?_
  refine k_scod hq hi sw_1270 dJ0_coder_7d493_7 ?_
  refine k_goto hq (tgt := 14) dJ0_coder_7d493_10 (by decide) ?_
  exact k_xret hq dJ0_coder_7d493_14 he rfl
set_option maxRecDepth 100000 in
theorem c_s_isLatin1 (l : Launch) (G : eG) (B0 n : Nat) (i : Nat) (hi : i < 5) : e_C eI l G B0 n yJ0_isLatin1_aae02 cJ0_isLatin1_aae02 1 (some .boolean) 0 0 [.ref (G.2.2.1 i)] F_s_isLatin1 := by
  refine e_mk (by decide) (Nat.le_of_ble_eq_true rfl) fun q r0 h0 h hq he e1 e2 e3 e4 => ?_
  subst e1; subst e2; subst e3; subst e4
  unfold F_s_isLatin1
  refine k_gcompact hq sw_420 dJ0_isLatin1_aae02_0 ?_
  have : (some ((1 : Int32), h) : Option (Int32 × eH)) = if (1 : Int32) = 0 then none else (if (0 : Int32) = 0 then some (1, h) else none) := rfl
  rw [this]
  refine k_if_eq hq (tgt := 17) dJ0_isLatin1_aae02_3 (by decide) (fun z => k_none rfl) (fun _ => ?_)
  refine k_aload_n hq dJ0_isLatin1_aae02_6 0 rfl ?_
  refine k_scod hq hi sw_1270 dJ0_isLatin1_aae02_7 ?_
  refine k_if_ne hq (tgt := 17) dJ0_isLatin1_aae02_10 (by decide) (fun _ => ?_) (fun _ => k_none rfl)
  refine k_iconst hq dJ0_isLatin1_aae02_13 (v := 1) rfl ?_
  refine k_goto hq (tgt := 18) dJ0_isLatin1_aae02_14 (by decide) ?_
  exact k_xret hq dJ0_isLatin1_aae02_18 he rfl
theorem s_shr0 : ∀ i, i < 5 → (Int32.ofNat (e_slen.getD i 0) >>> ((0 : Int32) &&& 31)) = Int32.ofNat (e_slen.getD i 0) := by decide +kernel
set_option maxRecDepth 100000 in
theorem c_s_length (l : Launch) (G : eG) (B0 n : Nat) (a : Nat) : e_C eI l G B0 n yJ0_length_8abf5 cJ0_length_8abf5 1 (some .int) 4 120 [.ref a] (F_s_length G a) := by
  refine e_mk (by decide) (Nat.le_of_ble_eq_true rfl) fun q r0 h0 h hq he e1 e2 e3 e4 => ?_
  subst e1; subst e2; subst e3; subst e4
  unfold F_s_length
  cases hx : s_ix (e_G q).2.2.1 a with
  | none => exact k_none rfl
  | some i =>
    obtain ⟨hi, rfl⟩ := s_ix_spec hx
    show e_K eI q r0 h0 0 _ _ h (some (Int32.ofNat (e_slen.getD i 0), h))
    refine k_aload_n hq dJ0_length_8abf5_0 0 rfl ?_
    refine k_sval hq hi sw_1269 dJ0_length_8abf5_1 ?_
    refine k_sblen hq hi dJ0_length_8abf5_4 ?_
    refine k_aload_n hq dJ0_length_8abf5_5 0 rfl ?_
    have hX : (some (Int32.ofNat (e_slen.getD i 0), h) : Option (Int32 × eH)) = (s_is (e_G q) ((e_G q).2.2.1 i)).bind fun _ => e_bind (F_s_coder h) fun v h2 => some (Int32.ofNat (e_slen.getD i 0) >>> (v &&& 31), h2) := by
      unfold s_is; rw [hx, ← s_shr0 i hi]; simp [e_bind, F_s_coder, s_shr0 i hi]
    rw [hX]
    refine k_callStr hq (na := 0) (As := []) (st := [.int (Int32.ofNat (e_slen.getD i 0))]) (c_s_coder _ _ _ _ i hi) sw_419 sw_61 sw_416 sw_417 sw_418 ⟨by decide, by decide, by decide +kernel⟩ rfl (by decide) rfl (Nat.le_of_ble_eq_true rfl) dJ0_length_8abf5_6 fun v h2 => ?_
    refine k_ishr hq dJ0_length_8abf5_9 ?_
    exact k_iret hq dJ0_length_8abf5_10 he
theorem s_lt {j : Int32} {L : Nat} (hL : L < 2 ^ 31) (h0 : ¬ j < 0) : (j < Int32.ofNat L) ↔ j.toNatClampNeg < L := by
  obtain ⟨k, hk, rfl⟩ := nI_of h0
  rw [show Int32.ofNat L = nI L from rfl, nI_ltI hk hL, nI_clamp hk]
set_option maxRecDepth 100000 in
theorem c_s_check (l : Launch) (G : eG) (B0 n : Nat) (L : Nat) (hL : L < 2 ^ 31) (j : Int32) (t : Option Nat) : e_C eI l G B0 n yJ3_checkIndex_8e157 cJ3_checkIndex_8e157 3 (some .int) 0 0 [.int j, .int (Int32.ofNat L), va_rf t] (F_s_check L j) := by
  cases t
  all_goals
   refine e_mk (by decide) (Nat.le_of_ble_eq_true rfl) fun q r0 h0 h hq he e1 e2 e3 e4 => ?_
   have hX : F_s_check L j h = if j < 0 then none else if j < Int32.ofNat L then some (j, h) else none := by
     unfold F_s_check
     by_cases h0 : j < 0
     · simp [h0]
     · simp [h0, s_lt hL h0]
   rw [hX]
   refine k_iload_n hq dJ3_checkIndex_8e157_0 0 rfl ?_
   refine k_if_lt hq (tgt := 9) dJ3_checkIndex_8e157_1 (by decide) (fun _ => k_none rfl) (fun _ => ?_)
   refine k_iload_n hq dJ3_checkIndex_8e157_4 0 rfl ?_
   refine k_iload_n hq dJ3_checkIndex_8e157_5 1 rfl ?_
   refine k_icmp_lt hq (tgt := 16) dJ3_checkIndex_8e157_6 (by decide) (fun _ => ?_) (fun _ => k_none rfl)
   refine k_iload_n hq dJ3_checkIndex_8e157_16 0 rfl ?_
   exact k_iret hq dJ3_checkIndex_8e157_17 he
set_option maxRecDepth 100000 in
theorem c_s_checkV (l : Launch) (G : eG) (B0 n : Nat) (L : Nat) (hL : L < 2 ^ 31) (j : Int32) : e_C eV l G B0 n yJ0_checkIndex_df160 cJ0_checkIndex_df160 2 none 1 30 [.int j, .int (Int32.ofNat L)] (F_s_checkV L j) := by
  refine e_mk (by decide) (Nat.le_of_ble_eq_true rfl) fun q r0 h0 h hq he e1 e2 e3 e4 => ?_
  have hX : F_s_checkV L j h = e_bind (F_s_check L j h) fun _ h2 => some ((), h2) := by
    unfold F_s_check F_s_checkV e_bind
    split <;> rfl
  rw [hX]
  refine k_iload_n hq dJ0_checkIndex_df160_0 0 rfl ?_
  refine k_iload_n hq dJ0_checkIndex_df160_1 1 rfl ?_
  refine k_gfmt hq sw_436 dJ0_checkIndex_df160_2 fun t => ?_
  refine k_callS hq (na := 3) (As := [.int j, .int (Int32.ofNat L), va_rf t]) (st := []) (c_s_check _ _ _ _ L hL j t) sw_440 sw_63 sw_438 sw_439 ⟨by decide, by decide, by decide +kernel⟩ rfl (by decide) rfl (Nat.le_of_ble_eq_true rfl) dJ0_checkIndex_df160_5 fun v h2 => ?_
  refine k_pop hq dJ0_checkIndex_df160_8 rfl ?_
  exact k_vret hq dJ0_checkIndex_df160_9 he
theorem s_byte : ∀ i, i < 5 → ∀ j, j < e_slen.getD i 0 → (((e_sbyt.getD i []).getD j 0 &&& 255).toUInt32 % 65536).toInt32 = (e_sbyt.getD i []).getD j 0 ∧ narrow .char (.int ((e_sbyt.getD i []).getD j 0)) = .int ((e_sbyt.getD i []).getD j 0) := by decide +kernel
theorem s_len31 : ∀ i, i < 5 → e_slen.getD i 0 < 2 ^ 31 := by decide
set_option maxRecDepth 100000 in
theorem c_s_at (l : Launch) (G : eG) (B0 n : Nat) (i : Nat) (hi : i < 5) (j : Int32) : e_C eI l G B0 n yJ1_charAt_3b067 cJ1_charAt_3b067 2 (some .char) 2 60 [.ref (G.2.2.2 i), .int j] (F_s_at i j) := by
  refine e_mk (by decide) (Nat.le_of_ble_eq_true rfl) fun q r0 h0 h hq he e1 e2 e3 e4 => ?_
  subst e1; subst e2; subst e3; subst e4
  have hX : F_s_at i j h = e_bind (F_s_checkV (e_slen.getD i 0) j h) fun _ h2 => if ¬ j < 0 ∧ j.toNatClampNeg < e_slen.getD i 0 then some ((e_sbyt.getD i []).getD j.toNatClampNeg 0, h2) else none := by
    unfold F_s_at F_s_checkV e_bind
    split <;> simp_all
  rw [hX]
  refine k_iload_n hq dJ1_charAt_3b067_0 1 rfl ?_
  refine k_aload_n hq dJ1_charAt_3b067_1 0 rfl ?_
  refine k_sblen hq hi dJ1_charAt_3b067_2 ?_
  refine k_callS hq (na := 2) (As := [.int j, .int (Int32.ofNat (e_slen.getD i 0))]) (st := []) (c_s_checkV _ _ _ _ (e_slen.getD i 0) (s_len31 i hi) j) sw_435 sw_61 sw_433 sw_434 ⟨by decide, by decide, by decide +kernel⟩ rfl (by decide) rfl (Nat.le_of_ble_eq_true rfl) dJ1_charAt_3b067_3 fun _ h2 => ?_
  refine k_ite (fun hc => ?_) (fun _ => k_none rfl)
  obtain ⟨hb1, hb2⟩ := s_byte i hi _ hc.2
  refine k_aload_n hq dJ1_charAt_3b067_6 0 rfl ?_
  refine k_iload_n hq dJ1_charAt_3b067_7 1 rfl ?_
  refine k_sbald hq hi hc.1 hc.2 dJ1_charAt_3b067_8 ?_
  refine k_sipush hq dJ1_charAt_3b067_9 (v := 255) rfl ?_
  refine k_iand hq dJ1_charAt_3b067_12 ?_
  refine k_i2c hq dJ1_charAt_3b067_13 ?_
  rw [hb1]
  exact k_xret hq dJ1_charAt_3b067_14 he hb2
set_option maxRecDepth 100000 in
theorem c_s_charAt (l : Launch) (G : eG) (B0 n : Nat) (a : Nat) (j : Int32) : e_C eI l G B0 n yJ0_charAt_5068e cJ0_charAt_5068e 2 (some .char) 4 120 [.ref a, .int j] (F_s_charAt G a j) := by
  refine e_mk (by decide) (Nat.le_of_ble_eq_true rfl) fun q r0 h0 h hq he e1 e2 e3 e4 => ?_
  subst e1; subst e2; subst e3; subst e4
  unfold F_s_charAt
  cases hx : s_ix (e_G q).2.2.1 a with
  | none => exact k_none rfl
  | some i =>
    obtain ⟨hi, rfl⟩ := s_ix_spec hx
    refine k_aload_n hq dJ0_charAt_5068e_0 0 rfl ?_
    have hX : ((some i).bind fun j1 => if ¬ j < 0 ∧ j.toNatClampNeg < e_slen.getD j1 0 then some ((e_sbyt.getD j1 []).getD j.toNatClampNeg 0, h) else none : Option (Int32 × eH)) = (s_is (e_G q) ((e_G q).2.2.1 i)).bind fun _ => e_bind (F_s_isLatin1 h) fun v h2 => if v = 0 then none else e_bind (F_s_at i j h2) fun z h3 => if ¬ j < 0 ∧ j.toNatClampNeg < e_slen.getD i 0 ∧ z = (e_sbyt.getD i []).getD j.toNatClampNeg 0 then some (z, h3) else none := by
      unfold s_is
      rw [hx]
      unfold F_s_at F_s_isLatin1 e_bind
      by_cases hc : ¬ j < 0 ∧ j.toNatClampNeg < e_slen.getD i 0
      · simp only [Option.map_some, Option.bind_some, if_neg (show ¬ ((1 : Int32) = 0) by decide), if_pos hc]
        rw [if_pos ⟨hc.1, hc.2, trivial⟩]
      · simp only [Option.map_some, Option.bind_some, if_neg (show ¬ ((1 : Int32) = 0) by decide), if_neg hc, Option.bind_none]
    rw [hX]
    refine k_callStr hq (na := 0) (As := []) (st := []) (c_s_isLatin1 _ _ _ _ i hi) sw_429 sw_61 sw_426 sw_427 sw_428 ⟨by decide, by decide, by decide +kernel⟩ rfl (by decide) rfl (Nat.le_of_ble_eq_true rfl) dJ0_charAt_5068e_1 fun v h2 => ?_
    refine k_if_eq hq (tgt := 16) dJ0_charAt_5068e_4 (by decide) (fun _ => k_none rfl) (fun _ => ?_)
    refine k_aload_n hq dJ0_charAt_5068e_7 0 rfl ?_
    refine k_sval hq hi sw_1269 dJ0_charAt_5068e_8 ?_
    refine k_iload_n hq dJ0_charAt_5068e_11 1 rfl ?_
    refine k_callS hq (na := 2) (As := [.ref ((e_G q).2.2.2 i), .int j]) (st := []) (c_s_at _ _ _ _ i hi j) sw_432 sw_62 sw_430 sw_431 ⟨by decide, by decide, by decide +kernel⟩ rfl (by decide) rfl (Nat.le_of_ble_eq_true rfl) dJ0_charAt_5068e_12 fun z h3 => ?_
    refine k_ite (fun hc => ?_) (fun _ => k_none rfl)
    obtain ⟨hb1, hb2⟩ := s_byte i hi _ hc.2.1
    refine k_xret hq dJ0_charAt_5068e_15 he ?_
    rw [hc.2.2]; exact hb2
