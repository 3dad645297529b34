theorem e_cat (x : Option Nat) : (va_rf x).category = 1 := by cases x <;> rfl
set_option maxRecDepth 100000 in
set_option maxHeartbeats 4000000 in
theorem P_X0_init_0 {q : eT} {r0 : Unit} {h0 : eH} (hq : e_B q yX0_init.cls cX0_init 1 1 28 none yX0_init.name) (he : e_E q) (l0 : Nat) (h : eH) : e_K eV q r0 h0 0 [(0, .ref l0)] [] h (F_X0_init l0 h) := by
  unfold F_X0_init
  refine k_aload_n hq dX0_init_0 0 rfl ?_
  refine k_objInit hq tw_297 tw_73 tw_74 (by decide) (Nat.le_of_ble_eq_true rfl) dX0_init_1 ?_
  refine k_aload_n hq dX0_init_4 0 rfl ?_
  refine k_iconst hq dX0_init_5 (v := (-1)) rfl ?_
  refine k_p hq (C := RX0) (T := TX0) 0 0 rfl (by decide) lay_X0 tyX0 tyX0_ok nmX0 tw_298 rfl rfl rfl dX0_init_6 fun h1 => ?_
  exact k_vret hq dX0_init_9 he
theorem con_X0_init (l : Launch) (G : eG) (B0 n : Nat) (l0 : Nat) : e_C eV l G B0 n yX0_init cX0_init 1 none 1 28 [.ref l0] (F_X0_init l0) := by
  refine e_mk (by decide) (Nat.le_of_ble_eq_true rfl) fun q r0 h0 h hq he e1 e2 e3 e4 => ?_
  subst e1; subst e2; subst e3; subst e4
  exact P_X0_init_0 hq he l0 h
set_option maxRecDepth 100000 in
set_option maxHeartbeats 4000000 in
theorem P_X0_isBlind_0 {q : eT} {r0 : Int32} {h0 : eH} (hq : e_B q yX0_isBlind.cls cX0_isBlind 1 0 0 (some .boolean) yX0_isBlind.name) (he : e_E q) (l0 : Nat) (h : eH) : e_K eI q r0 h0 0 [(0, .ref l0)] [] h (F_X0_isBlind l0 h) := by
  unfold F_X0_isBlind
  refine k_aload_n hq dX0_isBlind_0 0 rfl ?_
  refine k_gi hq (C := RX0) (T := TX0) 0 0 rfl (by decide) (lay_X0 0 (by decide)) tw_298 dX0_isBlind_1 fun v1 => ?_
  refine k_iconst hq dX0_isBlind_4 (v := (-1)) rfl ?_
  refine k_icmp_ne hq (tgt := 12) dX0_isBlind_5 (by decide) (fun _ => ?_) (fun _ => ?_)
  · refine k_iconst hq dX0_isBlind_8 (v := 1) rfl ?_
    refine k_goto hq (tgt := 13) dX0_isBlind_9 (by decide) ?_
    exact k_zret hq dX0_isBlind_13 he
  · refine k_iconst hq dX0_isBlind_12 (v := 0) rfl ?_
    exact k_zret hq dX0_isBlind_13 he
theorem con_X0_isBlind (l : Launch) (G : eG) (B0 n : Nat) (l0 : Nat) : e_C eI l G B0 n yX0_isBlind cX0_isBlind 1 (some .boolean) 0 0 [.ref l0] (F_X0_isBlind l0) := by
  refine e_mk (by decide) (Nat.le_of_ble_eq_true rfl) fun q r0 h0 h hq he e1 e2 e3 e4 => ?_
  subst e1; subst e2; subst e3; subst e4
  exact P_X0_isBlind_0 hq he l0 h
set_option maxRecDepth 100000 in
set_option maxHeartbeats 4000000 in
theorem P_X0_becomeBlind_0 {q : eT} {r0 : Unit} {h0 : eH} (hq : e_B q yX0_becomeBlind.cls cX0_becomeBlind 1 0 0 none yX0_becomeBlind.name) (he : e_E q) (l0 : Nat) (h : eH) : e_K eV q r0 h0 0 [(0, .ref l0)] [] h (F_X0_becomeBlind l0 h) := by
  unfold F_X0_becomeBlind
  refine k_aload_n hq dX0_becomeBlind_0 0 rfl ?_
  refine k_iconst hq dX0_becomeBlind_1 (v := (-1)) rfl ?_
  refine k_p hq (C := RX0) (T := TX0) 0 0 rfl (by decide) lay_X0 tyX0 tyX0_ok nmX0 tw_298 rfl rfl rfl dX0_becomeBlind_2 fun h1 => ?_
  refine k_aload_n hq dX0_becomeBlind_5 0 rfl ?_
  refine k_iconst hq dX0_becomeBlind_6 (v := 0) rfl ?_
  refine k_p hq (C := RX0) (T := TX0) 0 1 rfl (by decide) lay_X0 tyX0 tyX0_ok nmX0 tw_300 rfl rfl rfl dX0_becomeBlind_7 fun h2 => ?_
  refine k_aload_n hq dX0_becomeBlind_10 0 rfl ?_
  refine k_iconst hq dX0_becomeBlind_11 (v := 0) rfl ?_
  refine k_p hq (C := RX0) (T := TX0) 0 2 rfl (by decide) lay_X0 tyX0 tyX0_ok nmX0 tw_302 rfl rfl rfl dX0_becomeBlind_12 fun h3 => ?_
  exact k_vret hq dX0_becomeBlind_15 he
theorem con_X0_becomeBlind (l : Launch) (G : eG) (B0 n : Nat) (l0 : Nat) : e_C eV l G B0 n yX0_becomeBlind cX0_becomeBlind 1 none 0 0 [.ref l0] (F_X0_becomeBlind l0) := by
  refine e_mk (by decide) (Nat.le_of_ble_eq_true rfl) fun q r0 h0 h hq he e1 e2 e3 e4 => ?_
  subst e1; subst e2; subst e3; subst e4
  exact P_X0_becomeBlind_0 hq he l0 h
set_option maxRecDepth 100000 in
set_option maxHeartbeats 4000000 in
theorem P_X1_of_0 {q : eT} {r0 : Int32} {h0 : eH} (hq : e_B q yX1_of.cls cX1_of 2 0 0 (some .int) yX1_of.name) (he : e_E q) (l0 : Int32) (l1 : Int32) (h : eH) : e_K eI q r0 h0 0 [(0, .int l0), (1, .int l1)] [] h (F_X1_of l0 l1 h) := by
  unfold F_X1_of
  refine k_iload_n hq dX1_of_0 0 rfl ?_
  refine k_bipush hq dX1_of_1 (v := 40) rfl ?_
  refine k_imul hq dX1_of_3 ?_
  refine k_iload_n hq dX1_of_4 1 rfl ?_
  refine k_iadd hq dX1_of_5 ?_
  refine k_iconst hq dX1_of_6 (v := 1) rfl ?_
  refine k_isub hq dX1_of_7 ?_
  exact k_iret hq dX1_of_8 he
theorem con_X1_of (l : Launch) (G : eG) (B0 n : Nat) (l0 : Int32) (l1 : Int32) : e_C eI l G B0 n yX1_of cX1_of 2 (some .int) 0 0 [.int l0, .int l1] (F_X1_of l0 l1) := by
  refine e_mk (by decide) (Nat.le_of_ble_eq_true rfl) fun q r0 h0 h hq he e1 e2 e3 e4 => ?_
  subst e1; subst e2; subst e3; subst e4
  exact P_X1_of_0 hq he l0 l1 h
set_option maxRecDepth 100000 in
set_option maxHeartbeats 4000000 in
theorem P_X1_siteOf_0 {q : eT} {r0 : Int32} {h0 : eH} (hq : e_B q yX1_siteOf.cls cX1_siteOf 1 0 0 (some .int) yX1_siteOf.name) (he : e_E q) (l0 : Int32) (h : eH) : e_K eI q r0 h0 0 [(0, .int l0)] [] h (F_X1_siteOf l0 h) := by
  unfold F_X1_siteOf
  refine k_iload_n hq dX1_siteOf_0 0 rfl ?_
  refine k_bipush hq dX1_siteOf_1 (v := 40) rfl ?_
  refine k_idivK hq (by decide) dX1_siteOf_3 ?_
  exact k_iret hq dX1_siteOf_4 he
theorem con_X1_siteOf (l : Launch) (G : eG) (B0 n : Nat) (l0 : Int32) : e_C eI l G B0 n yX1_siteOf cX1_siteOf 1 (some .int) 0 0 [.int l0] (F_X1_siteOf l0) := by
  refine e_mk (by decide) (Nat.le_of_ble_eq_true rfl) fun q r0 h0 h hq he e1 e2 e3 e4 => ?_
  subst e1; subst e2; subst e3; subst e4
  exact P_X1_siteOf_0 hq he l0 h
set_option maxRecDepth 100000 in
set_option maxHeartbeats 4000000 in
theorem P_X1_numberOf_0 {q : eT} {r0 : Int32} {h0 : eH} (hq : e_B q yX1_numberOf.cls cX1_numberOf 1 0 0 (some .int) yX1_numberOf.name) (he : e_E q) (l0 : Int32) (h : eH) : e_K eI q r0 h0 0 [(0, .int l0)] [] h (F_X1_numberOf l0 h) := by
  unfold F_X1_numberOf
  refine k_iload_n hq dX1_numberOf_0 0 rfl ?_
  refine k_bipush hq dX1_numberOf_1 (v := 40) rfl ?_
  refine k_iremK hq (by decide) dX1_numberOf_3 ?_
  refine k_iconst hq dX1_numberOf_4 (v := 1) rfl ?_
  refine k_iadd hq dX1_numberOf_5 ?_
  exact k_iret hq dX1_numberOf_6 he
theorem con_X1_numberOf (l : Launch) (G : eG) (B0 n : Nat) (l0 : Int32) : e_C eI l G B0 n yX1_numberOf cX1_numberOf 1 (some .int) 0 0 [.int l0] (F_X1_numberOf l0) := by
  refine e_mk (by decide) (Nat.le_of_ble_eq_true rfl) fun q r0 h0 h hq he e1 e2 e3 e4 => ?_
  subst e1; subst e2; subst e3; subst e4
  exact P_X1_numberOf_0 hq he l0 h
set_option maxRecDepth 100000 in
set_option maxHeartbeats 4000000 in
theorem P_X1_isDot_0 {q : eT} {r0 : Int32} {h0 : eH} (hq : e_B q yX1_isDot.cls cX1_isDot 1 0 0 (some .boolean) yX1_isDot.name) (he : e_E q) (l0 : Int32) (h : eH) : e_K eI q r0 h0 0 [(0, .int l0)] [] h (F_X1_isDot l0 h) := by
  unfold F_X1_isDot
  refine k_iload_n hq dX1_isDot_0 0 rfl ?_
  refine k_if_lt hq (tgt := 15) dX1_isDot_1 (by decide) (fun _ => ?_) (fun _ => ?_)
  · refine k_iconst hq dX1_isDot_15 (v := 0) rfl ?_
    exact k_zret hq dX1_isDot_16 he
  · refine k_iload_n hq dX1_isDot_4 0 rfl ?_
    refine k_sipush hq dX1_isDot_5 (v := 160) rfl ?_
    refine k_icmp_ge hq (tgt := 15) dX1_isDot_8 (by decide) (fun _ => ?_) (fun _ => ?_)
    · refine k_iconst hq dX1_isDot_15 (v := 0) rfl ?_
      exact k_zret hq dX1_isDot_16 he
    · refine k_iconst hq dX1_isDot_11 (v := 1) rfl ?_
      refine k_goto hq (tgt := 16) dX1_isDot_12 (by decide) ?_
      exact k_zret hq dX1_isDot_16 he
theorem con_X1_isDot (l : Launch) (G : eG) (B0 n : Nat) (l0 : Int32) : e_C eI l G B0 n yX1_isDot cX1_isDot 1 (some .boolean) 0 0 [.int l0] (F_X1_isDot l0) := by
  refine e_mk (by decide) (Nat.le_of_ble_eq_true rfl) fun q r0 h0 h hq he e1 e2 e3 e4 => ?_
  subst e1; subst e2; subst e3; subst e4
  exact P_X1_isDot_0 hq he l0 h
set_option maxRecDepth 100000 in
set_option maxHeartbeats 4000000 in
theorem P_X9_number_0 {q : eT} {r0 : Int32} {h0 : eH} (hq : e_B q yX9_number.cls cX9_number 2 0 0 (some .int) yX9_number.name) (he : e_E q) (l0 : Int32) (l1 : Int32) (h : eH) : e_K eI q r0 h0 0 [(0, .int l0), (1, .int l1)] [] h (F_X9_number l0 l1 h) := by
  unfold F_X9_number
  refine k_iload_n hq dX9_number_0 0 rfl ?_
  refine k_bipush hq dX9_number_1 (v := 8) rfl ?_
  refine k_iload_n hq dX9_number_3 1 rfl ?_
  refine k_imul hq dX9_number_4 ?_
  refine k_iushr hq dX9_number_5 ?_
  refine k_sipush hq dX9_number_6 (v := 255) rfl ?_
  refine k_iand hq dX9_number_9 ?_
  exact k_iret hq dX9_number_10 he
theorem con_X9_number (l : Launch) (G : eG) (B0 n : Nat) (l0 : Int32) (l1 : Int32) : e_C eI l G B0 n yX9_number cX9_number 2 (some .int) 0 0 [.int l0, .int l1] (F_X9_number l0 l1) := by
  refine e_mk (by decide) (Nat.le_of_ble_eq_true rfl) fun q r0 h0 h hq he e1 e2 e3 e4 => ?_
  subst e1; subst e2; subst e3; subst e4
  exact P_X9_number_0 hq he l0 l1 h
set_option maxRecDepth 100000 in
set_option maxHeartbeats 4000000 in
theorem P_X1_covered_0 {q : eT} {r0 : Int64} {h0 : eH} (hq : e_B q yX1_covered.cls cX1_covered 2 1 21 (some .long) yX1_covered.name) (he : e_E q) (l0 : Int32) (l1 : Int32) (h : eH) : e_K eL q r0 h0 0 [(0, .int l0), (1, .int l1)] [] h (F_X1_covered l0 l1 h) := by
  unfold F_X1_covered
  refine k_lconst hq dX1_covered_0 (v := 1) rfl ?_
  refine k_iload_n hq dX1_covered_1 0 rfl ?_
  refine k_iload_n hq dX1_covered_2 1 rfl ?_
  refine k_callS hq (na := 2) (As := [.int l0, .int l1]) (st := [.long 1]) (con_X9_number _ _ _ _ l0 l1) tw_547 tw_65 tw_610 tw_546 ⟨by decide, by decide, by decide +kernel⟩ rfl (by decide) rfl (Nat.le_of_ble_eq_true rfl) dX1_covered_3 fun v1 h2 => ?_
  refine k_lshl hq dX1_covered_6 ?_
  refine k_lconst hq dX1_covered_7 (v := 1) rfl ?_
  refine k_lsub hq dX1_covered_8 ?_
  exact k_lret hq dX1_covered_9 he
theorem con_X1_covered (l : Launch) (G : eG) (B0 n : Nat) (l0 : Int32) (l1 : Int32) : e_C eL l G B0 n yX1_covered cX1_covered 2 (some .long) 1 21 [.int l0, .int l1] (F_X1_covered l0 l1) := by
  refine e_mk (by decide) (Nat.le_of_ble_eq_true rfl) fun q r0 h0 h hq he e1 e2 e3 e4 => ?_
  subst e1; subst e2; subst e3; subst e4
  exact P_X1_covered_0 hq he l0 l1 h
set_option maxRecDepth 100000 in
set_option maxHeartbeats 4000000 in
theorem P_X1_bitOf_0 {q : eT} {r0 : Int64} {h0 : eH} (hq : e_B q yX1_bitOf.cls cX1_bitOf 1 1 20 (some .long) yX1_bitOf.name) (he : e_E q) (l0 : Int32) (h : eH) : e_K eL q r0 h0 0 [(0, .int l0)] [] h (F_X1_bitOf l0 h) := by
  unfold F_X1_bitOf
  refine k_lconst hq dX1_bitOf_0 (v := 1) rfl ?_
  refine k_iload_n hq dX1_bitOf_1 0 rfl ?_
  refine k_callS hq (na := 1) (As := [.int l0]) (st := [.long 1]) (con_X1_numberOf _ _ _ _ l0) tw_572 tw_56 tw_643 tw_571 ⟨by decide, by decide, by decide +kernel⟩ rfl (by decide) rfl (Nat.le_of_ble_eq_true rfl) dX1_bitOf_2 fun v1 h2 => ?_
  refine k_iconst hq dX1_bitOf_5 (v := 1) rfl ?_
  refine k_isub hq dX1_bitOf_6 ?_
  refine k_lshl hq dX1_bitOf_7 ?_
  exact k_lret hq dX1_bitOf_8 he
theorem con_X1_bitOf (l : Launch) (G : eG) (B0 n : Nat) (l0 : Int32) : e_C eL l G B0 n yX1_bitOf cX1_bitOf 1 (some .long) 1 20 [.int l0] (F_X1_bitOf l0) := by
  refine e_mk (by decide) (Nat.le_of_ble_eq_true rfl) fun q r0 h0 h hq he e1 e2 e3 e4 => ?_
  subst e1; subst e2; subst e3; subst e4
  exact P_X1_bitOf_0 hq he l0 h
set_option maxRecDepth 100000 in
set_option maxHeartbeats 4000000 in
theorem P_X1_has_0 {q : eT} {r0 : Int32} {h0 : eH} (hq : e_B q yX1_has.cls cX1_has 2 2 40 (some .boolean) yX1_has.name) (he : e_E q) (l0 : Nat) (l1 : Int32) (h : eH) : e_K eI q r0 h0 0 [(0, .ref l0), (1, .int l1)] [] h (F_X1_has l0 l1 h) := by
  unfold F_X1_has
  refine k_iload_n hq dX1_has_0 1 rfl ?_
  refine k_callS hq (na := 1) (As := [.int l1]) (st := []) (con_X1_isDot _ _ _ _ l1) tw_566 tw_56 tw_638 tw_565 ⟨by decide, by decide, by decide +kernel⟩ rfl (by decide) rfl (Nat.le_of_ble_eq_true rfl) dX1_has_1 fun v1 h2 => ?_
  refine k_if_eq hq (tgt := 30) dX1_has_4 (by decide) (fun _ => ?_) (fun _ => ?_)
  · refine k_iconst hq dX1_has_30 (v := 0) rfl ?_
    exact k_zret hq dX1_has_31 he
  · refine k_aload_n hq dX1_has_7 0 rfl ?_
    refine k_gr hq (C := RX1) (T := TX1) 1 0 rfl (by decide) (lay_X1 0 (by decide)) tw_205 dX1_has_8 fun v3 => ?_
    refine k_iload_n hq dX1_has_11 1 rfl ?_
    refine k_callS hq (na := 1) (As := [.int l1]) (st := [.ref v3]) (con_X1_siteOf _ _ _ _ l1) tw_569 tw_56 tw_639 tw_568 ⟨by decide, by decide, by decide +kernel⟩ rfl (by decide) rfl (Nat.le_of_ble_eq_true rfl) dX1_has_12 fun v4 h5 => ?_
    refine k_lald hq dX1_has_15 fun v6 => ?_
    refine k_iload_n hq dX1_has_16 1 rfl ?_
    refine k_callS hq (na := 1) (As := [.int l1]) (st := [.long v6]) (con_X1_bitOf _ _ _ _ l1) tw_642 tw_56 tw_640 tw_641 ⟨by decide, by decide, by decide +kernel⟩ rfl (by decide) rfl (Nat.le_of_ble_eq_true rfl) dX1_has_17 fun v7 h8 => ?_
    refine k_land hq dX1_has_20 ?_
    refine k_lconst hq dX1_has_21 (v := 0) rfl ?_
    refine k_lcmp hq dX1_has_22 ?_
    refine k_if_eq hq (tgt := 30) dX1_has_23 (by decide) (fun _ => ?_) (fun _ => ?_)
    · refine k_iconst hq dX1_has_30 (v := 0) rfl ?_
      exact k_zret hq dX1_has_31 he
    · refine k_iconst hq dX1_has_26 (v := 1) rfl ?_
      refine k_goto hq (tgt := 31) dX1_has_27 (by decide) ?_
      exact k_zret hq dX1_has_31 he
theorem con_X1_has (l : Launch) (G : eG) (B0 n : Nat) (l0 : Nat) (l1 : Int32) : e_C eI l G B0 n yX1_has cX1_has 2 (some .boolean) 2 40 [.ref l0, .int l1] (F_X1_has l0 l1) := by
  refine e_mk (by decide) (Nat.le_of_ble_eq_true rfl) fun q r0 h0 h hq he e1 e2 e3 e4 => ?_
  subst e1; subst e2; subst e3; subst e4
  exact P_X1_has_0 hq he l0 l1 h
set_option maxRecDepth 100000 in
set_option maxHeartbeats 4000000 in
theorem P_X1_add_0 {q : eT} {r0 : Unit} {h0 : eH} (hq : e_B q yX1_add.cls cX1_add 2 2 40 none yX1_add.name) (he : e_E q) (l0 : Nat) (l1 : Int32) (h : eH) : e_K eV q r0 h0 0 [(0, .ref l0), (1, .int l1)] [] h (F_X1_add l0 l1 h) := by
  unfold F_X1_add
  refine k_iload_n hq dX1_add_0 1 rfl ?_
  refine k_callS hq (na := 1) (As := [.int l1]) (st := []) (con_X1_isDot _ _ _ _ l1) tw_566 tw_56 tw_638 tw_565 ⟨by decide, by decide, by decide +kernel⟩ rfl (by decide) rfl (Nat.le_of_ble_eq_true rfl) dX1_add_1 fun v1 h2 => ?_
  refine k_if_eq hq (tgt := 23) dX1_add_4 (by decide) (fun _ => ?_) (fun _ => ?_)
  · exact k_vret hq dX1_add_23 he
  · refine k_aload_n hq dX1_add_7 0 rfl ?_
    refine k_gr hq (C := RX1) (T := TX1) 1 0 rfl (by decide) (lay_X1 0 (by decide)) tw_205 dX1_add_8 fun v3 => ?_
    refine k_iload_n hq dX1_add_11 1 rfl ?_
    refine k_callS hq (na := 1) (As := [.int l1]) (st := [.ref v3]) (con_X1_siteOf _ _ _ _ l1) tw_569 tw_56 tw_639 tw_568 ⟨by decide, by decide, by decide +kernel⟩ rfl (by decide) rfl (Nat.le_of_ble_eq_true rfl) dX1_add_12 fun v4 h5 => ?_
    refine k_dup2_11 hq dX1_add_15 rfl rfl ?_
    refine k_lald hq dX1_add_16 fun v6 => ?_
    refine k_iload_n hq dX1_add_17 1 rfl ?_
    refine k_callS hq (na := 1) (As := [.int l1]) (st := [.long v6, .int v4, .ref v3]) (con_X1_bitOf _ _ _ _ l1) tw_642 tw_56 tw_640 tw_641 ⟨by decide, by decide, by decide +kernel⟩ rfl (by decide) rfl (Nat.le_of_ble_eq_true rfl) dX1_add_18 fun v7 h8 => ?_
    refine k_lor hq dX1_add_21 ?_
    refine k_last hq dX1_add_22 fun h9 => ?_
    exact k_vret hq dX1_add_23 he
theorem con_X1_add (l : Launch) (G : eG) (B0 n : Nat) (l0 : Nat) (l1 : Int32) : e_C eV l G B0 n yX1_add cX1_add 2 none 2 40 [.ref l0, .int l1] (F_X1_add l0 l1) := by
  refine e_mk (by decide) (Nat.le_of_ble_eq_true rfl) fun q r0 h0 h hq he e1 e2 e3 e4 => ?_
  subst e1; subst e2; subst e3; subst e4
  exact P_X1_add_0 hq he l0 l1 h
set_option maxRecDepth 100000 in
set_option maxHeartbeats 4000000 in
theorem P_X1_remove_0 {q : eT} {r0 : Unit} {h0 : eH} (hq : e_B q yX1_remove.cls cX1_remove 2 2 40 none yX1_remove.name) (he : e_E q) (l0 : Nat) (l1 : Int32) (h : eH) : e_K eV q r0 h0 0 [(0, .ref l0), (1, .int l1)] [] h (F_X1_remove l0 l1 h) := by
  unfold F_X1_remove
  refine k_iload_n hq dX1_remove_0 1 rfl ?_
  refine k_callS hq (na := 1) (As := [.int l1]) (st := []) (con_X1_isDot _ _ _ _ l1) tw_566 tw_56 tw_638 tw_565 ⟨by decide, by decide, by decide +kernel⟩ rfl (by decide) rfl (Nat.le_of_ble_eq_true rfl) dX1_remove_1 fun v1 h2 => ?_
  refine k_if_eq hq (tgt := 27) dX1_remove_4 (by decide) (fun _ => ?_) (fun _ => ?_)
  · exact k_vret hq dX1_remove_27 he
  · refine k_aload_n hq dX1_remove_7 0 rfl ?_
    refine k_gr hq (C := RX1) (T := TX1) 1 0 rfl (by decide) (lay_X1 0 (by decide)) tw_205 dX1_remove_8 fun v3 => ?_
    refine k_iload_n hq dX1_remove_11 1 rfl ?_
    refine k_callS hq (na := 1) (As := [.int l1]) (st := [.ref v3]) (con_X1_siteOf _ _ _ _ l1) tw_569 tw_56 tw_639 tw_568 ⟨by decide, by decide, by decide +kernel⟩ rfl (by decide) rfl (Nat.le_of_ble_eq_true rfl) dX1_remove_12 fun v4 h5 => ?_
    refine k_dup2_11 hq dX1_remove_15 rfl rfl ?_
    refine k_lald hq dX1_remove_16 fun v6 => ?_
    refine k_iload_n hq dX1_remove_17 1 rfl ?_
    refine k_callS hq (na := 1) (As := [.int l1]) (st := [.long v6, .int v4, .ref v3]) (con_X1_bitOf _ _ _ _ l1) tw_642 tw_56 tw_640 tw_641 ⟨by decide, by decide, by decide +kernel⟩ rfl (by decide) rfl (Nat.le_of_ble_eq_true rfl) dX1_remove_18 fun v7 h8 => ?_
    refine k_ldc2 hq (v := (-1)) tw_615 dX1_remove_21 ?_
    refine k_lxor hq dX1_remove_24 ?_
    refine k_land hq dX1_remove_25 ?_
    refine k_last hq dX1_remove_26 fun h9 => ?_
    exact k_vret hq dX1_remove_27 he
theorem con_X1_remove (l : Launch) (G : eG) (B0 n : Nat) (l0 : Nat) (l1 : Int32) : e_C eV l G B0 n yX1_remove cX1_remove 2 none 2 40 [.ref l0, .int l1] (F_X1_remove l0 l1) := by
  refine e_mk (by decide) (Nat.le_of_ble_eq_true rfl) fun q r0 h0 h hq he e1 e2 e3 e4 => ?_
  subst e1; subst e2; subst e3; subst e4
  exact P_X1_remove_0 hq he l0 l1 h
set_option maxRecDepth 100000 in
set_option maxHeartbeats 4000000 in
theorem P_X1_empty_2b {q : eT} {r0 : Unit} {h0 : eH} (hq : e_B q yX1_empty.cls cX1_empty 2 0 0 none yX1_empty.name) (he : e_E q) (N : Nat) (k2 : Nat → Int32 → eH → Option (Unit × eH)) (hk2 : ∀ (l0 : Nat) (l1 : Int32) h, e_K eV q r0 h0 2 [(0, .ref l0), (1, .int l1)] [] h (k2 l0 l1 h)) (l0 : Nat) (l1 : Int32) (h : eH) : e_K eV q r0 h0 2 [(0, .ref l0), (1, .int l1)] [] h (F_X1_empty_2b N k2 l0 l1 h) := by
  unfold F_X1_empty_2b
  refine k_iload_n hq dX1_empty_2 1 rfl ?_
  refine k_iconst hq dX1_empty_3 (v := 4) rfl ?_
  refine k_icmp_ge hq (tgt := 20) dX1_empty_4 (by decide) (fun _ => ?_) (fun _ => ?_)
  · exact k_vret hq dX1_empty_20 he
  · refine k_aload_n hq dX1_empty_7 0 rfl ?_
    refine k_gr hq (C := RX1) (T := TX1) 1 0 rfl (by decide) (lay_X1 0 (by decide)) tw_205 dX1_empty_8 fun v1 => ?_
    refine k_iload_n hq dX1_empty_11 1 rfl ?_
    refine k_lconst hq dX1_empty_12 (v := 0) rfl ?_
    refine k_last hq dX1_empty_13 fun h2 => ?_
    refine k_iinc hq dX1_empty_14 1 rfl (v := l1 + 1) rfl (by decide) (ls' := [(1, .int (l1 + 1)), (0, .ref l0)]) rfl ?_
    refine k_goto hq (tgt := 2) dX1_empty_17 (by decide) ?_
    exact k_sub [1, 0] rfl (hk2 l0 (l1 + 1) h2)
theorem Q_X1_empty_2 {q : eT} {r0 : Unit} {h0 : eH} (hq : e_B q yX1_empty.cls cX1_empty 2 0 0 none yX1_empty.name) (he : e_E q) (N : Nat) (l0 : Nat) (l1 : Int32) (h : eH) : e_K eV q r0 h0 2 [(0, .ref l0), (1, .int l1)] [] h (L_X1_empty_2 N l0 l1 h) :=
  k_loop (mk := (fun s => [(0, .ref s.1), (1, .int s.2.1)])) (hp := fun s => s.2.2) (fun k hk s => P_X1_empty_2b hq he N (fun l0 l1 h => k (l0, l1, h)) (fun l0 l1 h => hk (l0, l1, h)) s.1 s.2.1 s.2.2) N (l0, l1, h)
set_option maxRecDepth 100000 in
set_option maxHeartbeats 4000000 in
theorem P_X1_empty_0 {q : eT} {r0 : Unit} {h0 : eH} (hq : e_B q yX1_empty.cls cX1_empty 2 0 0 none yX1_empty.name) (he : e_E q) (N : Nat) (l0 : Nat) (h : eH) : e_K eV q r0 h0 0 [(0, .ref l0)] [] h (F_X1_empty N l0 h) := by
  unfold F_X1_empty
  refine k_iconst hq dX1_empty_0 (v := 0) rfl ?_
  refine k_istore_n hq dX1_empty_1 rfl (by decide) (ls' := [(1, .int 0), (0, .ref l0)]) rfl ?_
  exact k_sub [1, 0] rfl (Q_X1_empty_2 hq he N l0 0 h)
theorem con_X1_empty (l : Launch) (G : eG) (B0 n : Nat) (N : Nat) (l0 : Nat) : e_C eV l G B0 n yX1_empty cX1_empty 2 none 0 0 [.ref l0] (F_X1_empty N l0) := by
  refine e_mk (by decide) (Nat.le_of_ble_eq_true rfl) fun q r0 h0 h hq he e1 e2 e3 e4 => ?_
  subst e1; subst e2; subst e3; subst e4
  exact P_X1_empty_0 hq he N l0 h
set_option maxRecDepth 100000 in
set_option maxHeartbeats 4000000 in
theorem P_J13_bitCount_95d88_0 {q : eT} {r0 : Int32} {h0 : eH} (hq : e_B q yJ13_bitCount_95d88.cls cJ13_bitCount_95d88 2 0 0 (some .int) yJ13_bitCount_95d88.name) (he : e_E q) (l0 : Int64) (h : eH) : e_K eI q r0 h0 0 [(0, .long l0)] [] h (F_J13_bitCount_95d88 l0 h) := by
  unfold F_J13_bitCount_95d88
  refine k_lload_n hq dJ13_bitCount_95d88_0 0 rfl ?_
  refine k_lload_n hq dJ13_bitCount_95d88_1 0 rfl ?_
  refine k_iconst hq dJ13_bitCount_95d88_2 (v := 1) rfl ?_
  refine k_lushr hq dJ13_bitCount_95d88_3 ?_
  refine k_ldc2 hq (v := 6148914691236517205) tw_587 dJ13_bitCount_95d88_4 ?_
  refine k_land hq dJ13_bitCount_95d88_7 ?_
  refine k_lsub hq dJ13_bitCount_95d88_8 ?_
  refine k_let (mk := fun z => .long z :: []) fun v1 _ => ?_
  refine k_lstore_n hq dJ13_bitCount_95d88_9 rfl (by decide) (ls' := [(0, .long v1)]) rfl ?_
  refine k_lload_n hq dJ13_bitCount_95d88_10 0 rfl ?_
  refine k_ldc2 hq (v := 3689348814741910323) tw_588 dJ13_bitCount_95d88_11 ?_
  refine k_land hq dJ13_bitCount_95d88_14 ?_
  refine k_lload_n hq dJ13_bitCount_95d88_15 0 rfl ?_
  refine k_iconst hq dJ13_bitCount_95d88_16 (v := 2) rfl ?_
  refine k_lushr hq dJ13_bitCount_95d88_17 ?_
  refine k_ldc2 hq (v := 3689348814741910323) tw_588 dJ13_bitCount_95d88_18 ?_
  refine k_land hq dJ13_bitCount_95d88_21 ?_
  refine k_ladd hq dJ13_bitCount_95d88_22 ?_
  refine k_let (mk := fun z => .long z :: []) fun v2 _ => ?_
  refine k_lstore_n hq dJ13_bitCount_95d88_23 rfl (by decide) (ls' := [(0, .long v2)]) rfl ?_
  refine k_lload_n hq dJ13_bitCount_95d88_24 0 rfl ?_
  refine k_lload_n hq dJ13_bitCount_95d88_25 0 rfl ?_
  refine k_iconst hq dJ13_bitCount_95d88_26 (v := 4) rfl ?_
  refine k_lushr hq dJ13_bitCount_95d88_27 ?_
  refine k_ladd hq dJ13_bitCount_95d88_28 ?_
  refine k_ldc2 hq (v := 1085102592571150095) tw_589 dJ13_bitCount_95d88_29 ?_
  refine k_land hq dJ13_bitCount_95d88_32 ?_
  refine k_let (mk := fun z => .long z :: []) fun v3 _ => ?_
  refine k_lstore_n hq dJ13_bitCount_95d88_33 rfl (by decide) (ls' := [(0, .long v3)]) rfl ?_
  refine k_lload_n hq dJ13_bitCount_95d88_34 0 rfl ?_
  refine k_lload_n hq dJ13_bitCount_95d88_35 0 rfl ?_
  refine k_bipush hq dJ13_bitCount_95d88_36 (v := 8) rfl ?_
  refine k_lushr hq dJ13_bitCount_95d88_38 ?_
  refine k_ladd hq dJ13_bitCount_95d88_39 ?_
  refine k_let (mk := fun z => .long z :: []) fun v4 _ => ?_
  refine k_lstore_n hq dJ13_bitCount_95d88_40 rfl (by decide) (ls' := [(0, .long v4)]) rfl ?_
  refine k_lload_n hq dJ13_bitCount_95d88_41 0 rfl ?_
  refine k_lload_n hq dJ13_bitCount_95d88_42 0 rfl ?_
  refine k_bipush hq dJ13_bitCount_95d88_43 (v := 16) rfl ?_
  refine k_lushr hq dJ13_bitCount_95d88_45 ?_
  refine k_ladd hq dJ13_bitCount_95d88_46 ?_
  refine k_let (mk := fun z => .long z :: []) fun v5 _ => ?_
  refine k_lstore_n hq dJ13_bitCount_95d88_47 rfl (by decide) (ls' := [(0, .long v5)]) rfl ?_
  refine k_lload_n hq dJ13_bitCount_95d88_48 0 rfl ?_
  refine k_lload_n hq dJ13_bitCount_95d88_49 0 rfl ?_
  refine k_bipush hq dJ13_bitCount_95d88_50 (v := 32) rfl ?_
  refine k_lushr hq dJ13_bitCount_95d88_52 ?_
  refine k_ladd hq dJ13_bitCount_95d88_53 ?_
  refine k_let (mk := fun z => .long z :: []) fun v6 _ => ?_
  refine k_lstore_n hq dJ13_bitCount_95d88_54 rfl (by decide) (ls' := [(0, .long v6)]) rfl ?_
  refine k_lload_n hq dJ13_bitCount_95d88_55 0 rfl ?_
  refine k_l2i hq dJ13_bitCount_95d88_56 ?_
  refine k_bipush hq dJ13_bitCount_95d88_57 (v := 127) rfl ?_
  refine k_iand hq dJ13_bitCount_95d88_59 ?_
  exact k_iret hq dJ13_bitCount_95d88_60 he
theorem con_J13_bitCount_95d88 (l : Launch) (G : eG) (B0 n : Nat) (l0 : Int64) : e_C eI l G B0 n yJ13_bitCount_95d88 cJ13_bitCount_95d88 2 (some .int) 0 0 [.long l0] (F_J13_bitCount_95d88 l0) := by
  refine e_mk (by decide) (Nat.le_of_ble_eq_true rfl) fun q r0 h0 h hq he e1 e2 e3 e4 => ?_
  subst e1; subst e2; subst e3; subst e4
  exact P_J13_bitCount_95d88_0 hq he l0 h
set_option maxRecDepth 100000 in
set_option maxHeartbeats 4000000 in
theorem P_X1_size_4b {q : eT} {r0 : Int32} {h0 : eH} (hq : e_B q yX1_size.cls cX1_size 3 1 21 (some .int) yX1_size.name) (he : e_E q) (N : Nat) (k4 : Nat → Int32 → Int32 → eH → Option (Int32 × eH)) (hk4 : ∀ (l0 : Nat) (l1 : Int32) (l2 : Int32) h, e_K eI q r0 h0 4 [(0, .ref l0), (1, .int l1), (2, .int l2)] [] h (k4 l0 l1 l2 h)) (l0 : Nat) (l1 : Int32) (l2 : Int32) (h : eH) : e_K eI q r0 h0 4 [(0, .ref l0), (1, .int l1), (2, .int l2)] [] h (F_X1_size_4b N k4 l0 l1 l2 h) := by
  unfold F_X1_size_4b
  refine k_iload_n hq dX1_size_4 2 rfl ?_
  refine k_iconst hq dX1_size_5 (v := 4) rfl ?_
  refine k_icmp_ge hq (tgt := 27) dX1_size_6 (by decide) (fun _ => ?_) (fun _ => ?_)
  · refine k_iload_n hq dX1_size_27 1 rfl ?_
    exact k_iret hq dX1_size_28 he
  · refine k_iload_n hq dX1_size_9 1 rfl ?_
    refine k_aload_n hq dX1_size_10 0 rfl ?_
    refine k_gr hq (C := RX1) (T := TX1) 1 0 rfl (by decide) (lay_X1 0 (by decide)) tw_205 dX1_size_11 fun v1 => ?_
    refine k_iload_n hq dX1_size_14 2 rfl ?_
    refine k_lald hq dX1_size_15 fun v2 => ?_
    refine k_callS hq (na := 1) (As := [.long v2]) (st := [.int l1]) (con_J13_bitCount_95d88 _ _ _ _ v2) tw_586 tw_66 tw_584 tw_585 ⟨by decide, by decide, by decide +kernel⟩ rfl (by decide) rfl (Nat.le_of_ble_eq_true rfl) dX1_size_16 fun v3 h4 => ?_
    refine k_iadd hq dX1_size_19 ?_
    refine k_let (mk := fun z => .int z :: []) fun v5 _ => ?_
    refine k_istore_n hq dX1_size_20 rfl (by decide) (ls' := [(1, .int v5), (0, .ref l0), (2, .int l2)]) rfl ?_
    refine k_iinc hq dX1_size_21 2 rfl (v := l2 + 1) rfl (by decide) (ls' := [(2, .int (l2 + 1)), (1, .int v5), (0, .ref l0)]) rfl ?_
    refine k_goto hq (tgt := 4) dX1_size_24 (by decide) ?_
    exact k_sub [2, 1, 0] rfl (hk4 l0 v5 (l2 + 1) h4)
theorem Q_X1_size_4 {q : eT} {r0 : Int32} {h0 : eH} (hq : e_B q yX1_size.cls cX1_size 3 1 21 (some .int) yX1_size.name) (he : e_E q) (N : Nat) (l0 : Nat) (l1 : Int32) (l2 : Int32) (h : eH) : e_K eI q r0 h0 4 [(0, .ref l0), (1, .int l1), (2, .int l2)] [] h (L_X1_size_4 N l0 l1 l2 h) :=
  k_loop (mk := (fun s => [(0, .ref s.1), (1, .int s.2.1), (2, .int s.2.2.1)])) (hp := fun s => s.2.2.2) (fun k hk s => P_X1_size_4b hq he N (fun l0 l1 l2 h => k (l0, l1, l2, h)) (fun l0 l1 l2 h => hk (l0, l1, l2, h)) s.1 s.2.1 s.2.2.1 s.2.2.2) N (l0, l1, l2, h)
set_option maxRecDepth 100000 in
set_option maxHeartbeats 4000000 in
theorem P_X1_size_0 {q : eT} {r0 : Int32} {h0 : eH} (hq : e_B q yX1_size.cls cX1_size 3 1 21 (some .int) yX1_size.name) (he : e_E q) (N : Nat) (l0 : Nat) (h : eH) : e_K eI q r0 h0 0 [(0, .ref l0)] [] h (F_X1_size N l0 h) := by
  unfold F_X1_size
  refine k_iconst hq dX1_size_0 (v := 0) rfl ?_
  refine k_istore_n hq dX1_size_1 rfl (by decide) (ls' := [(1, .int 0), (0, .ref l0)]) rfl ?_
  refine k_iconst hq dX1_size_2 (v := 0) rfl ?_
  refine k_istore_n hq dX1_size_3 rfl (by decide) (ls' := [(2, .int 0), (1, .int 0), (0, .ref l0)]) rfl ?_
  exact k_sub [2, 1, 0] rfl (Q_X1_size_4 hq he N l0 0 0 h)
theorem con_X1_size (l : Launch) (G : eG) (B0 n : Nat) (N : Nat) (l0 : Nat) : e_C eI l G B0 n yX1_size cX1_size 3 (some .int) 1 21 [.ref l0] (F_X1_size N l0) := by
  refine e_mk (by decide) (Nat.le_of_ble_eq_true rfl) fun q r0 h0 h hq he e1 e2 e3 e4 => ?_
  subst e1; subst e2; subst e3; subst e4
  exact P_X1_size_0 hq he N l0 h
set_option maxRecDepth 100000 in
set_option maxHeartbeats 4000000 in
theorem P_X1_at_29 {q : eT} {r0 : Int32} {h0 : eH} (hq : e_B q yX1_at.cls cX1_at 4 3 61 (some .int) yX1_at.name) (he : e_E q) (N : Nat) (k4 : Nat → Int32 → Int32 → Int32 → eH → Option (Int32 × eH)) (hk4 : ∀ (l0 : Nat) (l1 : Int32) (l2 : Int32) (l3 : Int32) h, e_K eI q r0 h0 4 [(0, .ref l0), (1, .int l1), (2, .int l2), (3, .int l3)] [] h (k4 l0 l1 l2 l3 h)) (l0 : Nat) (l1 : Int32) (l2 : Int32) (l3 : Int32) (h : eH) : e_K eI q r0 h0 29 [(0, .ref l0), (1, .int l1), (2, .int l2), (3, .int l3)] [] h (F_X1_at_29 N k4 l0 l1 l2 l3 h) := by
  unfold F_X1_at_29
  refine k_iinc hq dX1_at_29 3 rfl (v := l3 + 1) rfl (by decide) (ls' := [(3, .int (l3 + 1)), (0, .ref l0), (1, .int l1), (2, .int l2)]) rfl ?_
  refine k_goto hq (tgt := 4) dX1_at_32 (by decide) ?_
  exact k_sub [1, 2, 3, 0] rfl (hk4 l0 l1 l2 (l3 + 1) h)
set_option maxRecDepth 100000 in
set_option maxHeartbeats 4000000 in
theorem P_X1_at_4b {q : eT} {r0 : Int32} {h0 : eH} (hq : e_B q yX1_at.cls cX1_at 4 3 61 (some .int) yX1_at.name) (he : e_E q) (N : Nat) (k4 : Nat → Int32 → Int32 → Int32 → eH → Option (Int32 × eH)) (hk4 : ∀ (l0 : Nat) (l1 : Int32) (l2 : Int32) (l3 : Int32) h, e_K eI q r0 h0 4 [(0, .ref l0), (1, .int l1), (2, .int l2), (3, .int l3)] [] h (k4 l0 l1 l2 l3 h)) (l0 : Nat) (l1 : Int32) (l2 : Int32) (l3 : Int32) (h : eH) : e_K eI q r0 h0 4 [(0, .ref l0), (1, .int l1), (2, .int l2), (3, .int l3)] [] h (F_X1_at_4b N k4 l0 l1 l2 l3 h) := by
  unfold F_X1_at_4b
  refine k_iload_n hq dX1_at_4 3 rfl ?_
  refine k_sipush hq dX1_at_5 (v := 160) rfl ?_
  refine k_icmp_ge hq (tgt := 35) dX1_at_8 (by decide) (fun _ => ?_) (fun _ => ?_)
  · refine k_iconst hq dX1_at_35 (v := (-1)) rfl ?_
    exact k_iret hq dX1_at_36 he
  · refine k_aload_n hq dX1_at_11 0 rfl ?_
    refine k_iload_n hq dX1_at_12 3 rfl ?_
    refine k_callV hq (na := 1) (As := [.int l3]) (st := []) 1 (C := RX1) (T := TX1) rfl (con_X1_has _ _ _ _ l0 l3) tw_656 tw_56 tw_770 tw_654 tw_655 ⟨by decide, by decide, by decide +kernel⟩ rfl (by decide) rfl (Nat.le_of_ble_eq_true rfl) dX1_at_13 fun v1 h2 => ?_
    refine k_if_eq hq (tgt := 29) dX1_at_16 (by decide) (fun _ => ?_) (fun _ => ?_)
    · exact k_sub [0, 1, 2, 3] rfl (P_X1_at_29 hq he N k4 hk4 l0 l1 l2 l3 h2)
    · refine k_iload_n hq dX1_at_19 2 rfl ?_
      refine k_iload_n hq dX1_at_20 1 rfl ?_
      refine k_icmp_ne hq (tgt := 26) dX1_at_21 (by decide) (fun _ => ?_) (fun _ => ?_)
      · refine k_iload_n hq dX1_at_24 3 rfl ?_
        exact k_iret hq dX1_at_25 he
      · refine k_iinc hq dX1_at_26 2 rfl (v := l2 + 1) rfl (by decide) (ls' := [(2, .int (l2 + 1)), (0, .ref l0), (1, .int l1), (3, .int l3)]) rfl ?_
        exact k_sub [1, 2, 0, 3] rfl (P_X1_at_29 hq he N k4 hk4 l0 l1 (l2 + 1) l3 h2)
theorem Q_X1_at_4 {q : eT} {r0 : Int32} {h0 : eH} (hq : e_B q yX1_at.cls cX1_at 4 3 61 (some .int) yX1_at.name) (he : e_E q) (N : Nat) (l0 : Nat) (l1 : Int32) (l2 : Int32) (l3 : Int32) (h : eH) : e_K eI q r0 h0 4 [(0, .ref l0), (1, .int l1), (2, .int l2), (3, .int l3)] [] h (L_X1_at_4 N l0 l1 l2 l3 h) :=
  k_loop (mk := (fun s => [(0, .ref s.1), (1, .int s.2.1), (2, .int s.2.2.1), (3, .int s.2.2.2.1)])) (hp := fun s => s.2.2.2.2) (fun k hk s => P_X1_at_4b hq he N (fun l0 l1 l2 l3 h => k (l0, l1, l2, l3, h)) (fun l0 l1 l2 l3 h => hk (l0, l1, l2, l3, h)) s.1 s.2.1 s.2.2.1 s.2.2.2.1 s.2.2.2.2) N (l0, l1, l2, l3, h)
set_option maxRecDepth 100000 in
set_option maxHeartbeats 4000000 in
theorem P_X1_at_0 {q : eT} {r0 : Int32} {h0 : eH} (hq : e_B q yX1_at.cls cX1_at 4 3 61 (some .int) yX1_at.name) (he : e_E q) (N : Nat) (l0 : Nat) (l1 : Int32) (h : eH) : e_K eI q r0 h0 0 [(0, .ref l0), (1, .int l1)] [] h (F_X1_at N l0 l1 h) := by
  unfold F_X1_at
  refine k_iconst hq dX1_at_0 (v := 0) rfl ?_
  refine k_istore_n hq dX1_at_1 rfl (by decide) (ls' := [(2, .int 0), (0, .ref l0), (1, .int l1)]) rfl ?_
  refine k_iconst hq dX1_at_2 (v := 0) rfl ?_
  refine k_istore_n hq dX1_at_3 rfl (by decide) (ls' := [(3, .int 0), (2, .int 0), (0, .ref l0), (1, .int l1)]) rfl ?_
  exact k_sub [2, 3, 1, 0] rfl (Q_X1_at_4 hq he N l0 l1 0 0 h)
theorem con_X1_at (l : Launch) (G : eG) (B0 n : Nat) (N : Nat) (l0 : Nat) (l1 : Int32) : e_C eI l G B0 n yX1_at cX1_at 4 (some .int) 3 61 [.ref l0, .int l1] (F_X1_at N l0 l1) := by
  refine e_mk (by decide) (Nat.le_of_ble_eq_true rfl) fun q r0 h0 h hq he e1 e2 e3 e4 => ?_
  subst e1; subst e2; subst e3; subst e4
  exact P_X1_at_0 hq he N l0 l1 h
set_option maxRecDepth 100000 in
set_option maxHeartbeats 4000000 in
theorem P_X1_isSame_2b {q : eT} {r0 : Int32} {h0 : eH} (hq : e_B q yX1_isSame.cls cX1_isSame 3 0 0 (some .boolean) yX1_isSame.name) (he : e_E q) (N : Nat) (k2 : Nat → Nat → Int32 → eH → Option (Int32 × eH)) (hk2 : ∀ (l0 : Nat) (l1 : Nat) (l2 : Int32) h, e_K eI q r0 h0 2 [(0, .ref l0), (1, .ref l1), (2, .int l2)] [] h (k2 l0 l1 l2 h)) (l0 : Nat) (l1 : Nat) (l2 : Int32) (h : eH) : e_K eI q r0 h0 2 [(0, .ref l0), (1, .ref l1), (2, .int l2)] [] h (F_X1_isSame_2b N k2 l0 l1 l2 h) := by
  unfold F_X1_isSame_2b
  refine k_iload_n hq dX1_isSame_2 2 rfl ?_
  refine k_iconst hq dX1_isSame_3 (v := 4) rfl ?_
  refine k_icmp_ge hq (tgt := 31) dX1_isSame_4 (by decide) (fun _ => ?_) (fun _ => ?_)
  · refine k_iconst hq dX1_isSame_31 (v := 1) rfl ?_
    exact k_zret hq dX1_isSame_32 he
  · refine k_aload_n hq dX1_isSame_7 0 rfl ?_
    refine k_gr hq (C := RX1) (T := TX1) 1 0 rfl (by decide) (lay_X1 0 (by decide)) tw_205 dX1_isSame_8 fun v1 => ?_
    refine k_iload_n hq dX1_isSame_11 2 rfl ?_
    refine k_lald hq dX1_isSame_12 fun v2 => ?_
    refine k_aload_n hq dX1_isSame_13 1 rfl ?_
    refine k_gr hq (C := RX1) (T := TX1) 1 0 rfl (by decide) (lay_X1 0 (by decide)) tw_205 dX1_isSame_14 fun v3 => ?_
    refine k_iload_n hq dX1_isSame_17 2 rfl ?_
    refine k_lald hq dX1_isSame_18 fun v4 => ?_
    refine k_lcmp hq dX1_isSame_19 ?_
    refine k_if_eq hq (tgt := 25) dX1_isSame_20 (by decide) (fun _ => ?_) (fun _ => ?_)
    · refine k_iinc hq dX1_isSame_25 2 rfl (v := l2 + 1) rfl (by decide) (ls' := [(2, .int (l2 + 1)), (0, .ref l0), (1, .ref l1)]) rfl ?_
      refine k_goto hq (tgt := 2) dX1_isSame_28 (by decide) ?_
      exact k_sub [1, 2, 0] rfl (hk2 l0 l1 (l2 + 1) h)
    · refine k_iconst hq dX1_isSame_23 (v := 0) rfl ?_
      exact k_zret hq dX1_isSame_24 he
theorem Q_X1_isSame_2 {q : eT} {r0 : Int32} {h0 : eH} (hq : e_B q yX1_isSame.cls cX1_isSame 3 0 0 (some .boolean) yX1_isSame.name) (he : e_E q) (N : Nat) (l0 : Nat) (l1 : Nat) (l2 : Int32) (h : eH) : e_K eI q r0 h0 2 [(0, .ref l0), (1, .ref l1), (2, .int l2)] [] h (L_X1_isSame_2 N l0 l1 l2 h) :=
  k_loop (mk := (fun s => [(0, .ref s.1), (1, .ref s.2.1), (2, .int s.2.2.1)])) (hp := fun s => s.2.2.2) (fun k hk s => P_X1_isSame_2b hq he N (fun l0 l1 l2 h => k (l0, l1, l2, h)) (fun l0 l1 l2 h => hk (l0, l1, l2, h)) s.1 s.2.1 s.2.2.1 s.2.2.2) N (l0, l1, l2, h)
set_option maxRecDepth 100000 in
set_option maxHeartbeats 4000000 in
theorem P_X1_isSame_0 {q : eT} {r0 : Int32} {h0 : eH} (hq : e_B q yX1_isSame.cls cX1_isSame 3 0 0 (some .boolean) yX1_isSame.name) (he : e_E q) (N : Nat) (l0 : Nat) (l1 : Nat) (h : eH) : e_K eI q r0 h0 0 [(0, .ref l0), (1, .ref l1)] [] h (F_X1_isSame N l0 l1 h) := by
  unfold F_X1_isSame
  refine k_iconst hq dX1_isSame_0 (v := 0) rfl ?_
  refine k_istore_n hq dX1_isSame_1 rfl (by decide) (ls' := [(2, .int 0), (0, .ref l0), (1, .ref l1)]) rfl ?_
  exact k_sub [1, 2, 0] rfl (Q_X1_isSame_2 hq he N l0 l1 0 h)
theorem con_X1_isSame (l : Launch) (G : eG) (B0 n : Nat) (N : Nat) (l0 : Nat) (l1 : Nat) : e_C eI l G B0 n yX1_isSame cX1_isSame 3 (some .boolean) 0 0 [.ref l0, .ref l1] (F_X1_isSame N l0 l1) := by
  refine e_mk (by decide) (Nat.le_of_ble_eq_true rfl) fun q r0 h0 h hq he e1 e2 e3 e4 => ?_
  subst e1; subst e2; subst e3; subst e4
  exact P_X1_isSame_0 hq he N l0 l1 h
set_option maxRecDepth 100000 in
set_option maxHeartbeats 4000000 in
theorem P_X1_addAll_2b {q : eT} {r0 : Unit} {h0 : eH} (hq : e_B q yX1_addAll.cls cX1_addAll 3 0 0 none yX1_addAll.name) (he : e_E q) (N : Nat) (k2 : Nat → Nat → Int32 → eH → Option (Unit × eH)) (hk2 : ∀ (l0 : Nat) (l1 : Nat) (l2 : Int32) h, e_K eV q r0 h0 2 [(0, .ref l0), (1, .ref l1), (2, .int l2)] [] h (k2 l0 l1 l2 h)) (l0 : Nat) (l1 : Nat) (l2 : Int32) (h : eH) : e_K eV q r0 h0 2 [(0, .ref l0), (1, .ref l1), (2, .int l2)] [] h (F_X1_addAll_2b N k2 l0 l1 l2 h) := by
  unfold F_X1_addAll_2b
  refine k_iload_n hq dX1_addAll_2 2 rfl ?_
  refine k_iconst hq dX1_addAll_3 (v := 4) rfl ?_
  refine k_icmp_ge hq (tgt := 28) dX1_addAll_4 (by decide) (fun _ => ?_) (fun _ => ?_)
  · exact k_vret hq dX1_addAll_28 he
  · refine k_aload_n hq dX1_addAll_7 0 rfl ?_
    refine k_gr hq (C := RX1) (T := TX1) 1 0 rfl (by decide) (lay_X1 0 (by decide)) tw_205 dX1_addAll_8 fun v1 => ?_
    refine k_iload_n hq dX1_addAll_11 2 rfl ?_
    refine k_dup2_11 hq dX1_addAll_12 rfl rfl ?_
    refine k_lald hq dX1_addAll_13 fun v2 => ?_
    refine k_aload_n hq dX1_addAll_14 1 rfl ?_
    refine k_gr hq (C := RX1) (T := TX1) 1 0 rfl (by decide) (lay_X1 0 (by decide)) tw_205 dX1_addAll_15 fun v3 => ?_
    refine k_iload_n hq dX1_addAll_18 2 rfl ?_
    refine k_lald hq dX1_addAll_19 fun v4 => ?_
    refine k_lor hq dX1_addAll_20 ?_
    refine k_last hq dX1_addAll_21 fun h5 => ?_
    refine k_iinc hq dX1_addAll_22 2 rfl (v := l2 + 1) rfl (by decide) (ls' := [(2, .int (l2 + 1)), (0, .ref l0), (1, .ref l1)]) rfl ?_
    refine k_goto hq (tgt := 2) dX1_addAll_25 (by decide) ?_
    exact k_sub [1, 2, 0] rfl (hk2 l0 l1 (l2 + 1) h5)
theorem Q_X1_addAll_2 {q : eT} {r0 : Unit} {h0 : eH} (hq : e_B q yX1_addAll.cls cX1_addAll 3 0 0 none yX1_addAll.name) (he : e_E q) (N : Nat) (l0 : Nat) (l1 : Nat) (l2 : Int32) (h : eH) : e_K eV q r0 h0 2 [(0, .ref l0), (1, .ref l1), (2, .int l2)] [] h (L_X1_addAll_2 N l0 l1 l2 h) :=
  k_loop (mk := (fun s => [(0, .ref s.1), (1, .ref s.2.1), (2, .int s.2.2.1)])) (hp := fun s => s.2.2.2) (fun k hk s => P_X1_addAll_2b hq he N (fun l0 l1 l2 h => k (l0, l1, l2, h)) (fun l0 l1 l2 h => hk (l0, l1, l2, h)) s.1 s.2.1 s.2.2.1 s.2.2.2) N (l0, l1, l2, h)
set_option maxRecDepth 100000 in
set_option maxHeartbeats 4000000 in
theorem P_X1_addAll_0 {q : eT} {r0 : Unit} {h0 : eH} (hq : e_B q yX1_addAll.cls cX1_addAll 3 0 0 none yX1_addAll.name) (he : e_E q) (N : Nat) (l0 : Nat) (l1 : Nat) (h : eH) : e_K eV q r0 h0 0 [(0, .ref l0), (1, .ref l1)] [] h (F_X1_addAll N l0 l1 h) := by
  unfold F_X1_addAll
  refine k_iconst hq dX1_addAll_0 (v := 0) rfl ?_
  refine k_istore_n hq dX1_addAll_1 rfl (by decide) (ls' := [(2, .int 0), (0, .ref l0), (1, .ref l1)]) rfl ?_
  exact k_sub [1, 2, 0] rfl (Q_X1_addAll_2 hq he N l0 l1 0 h)
theorem con_X1_addAll (l : Launch) (G : eG) (B0 n : Nat) (N : Nat) (l0 : Nat) (l1 : Nat) : e_C eV l G B0 n yX1_addAll cX1_addAll 3 none 0 0 [.ref l0, .ref l1] (F_X1_addAll N l0 l1) := by
  refine e_mk (by decide) (Nat.le_of_ble_eq_true rfl) fun q r0 h0 h hq he e1 e2 e3 e4 => ?_
  subst e1; subst e2; subst e3; subst e4
  exact P_X1_addAll_0 hq he N l0 l1 h
set_option maxRecDepth 100000 in
set_option maxHeartbeats 4000000 in
theorem P_X1_addCovered_2b {q : eT} {r0 : Unit} {h0 : eH} (hq : e_B q yX1_addCovered.cls cX1_addCovered 4 2 42 none yX1_addCovered.name) (he : e_E q) (N : Nat) (k2 : Nat → Nat → Int32 → Int32 → eH → Option (Unit × eH)) (hk2 : ∀ (l0 : Nat) (l1 : Nat) (l2 : Int32) (l3 : Int32) h, e_K eV q r0 h0 2 [(0, .ref l0), (1, .ref l1), (2, .int l2), (3, .int l3)] [] h (k2 l0 l1 l2 l3 h)) (l0 : Nat) (l1 : Nat) (l2 : Int32) (l3 : Int32) (h : eH) : e_K eV q r0 h0 2 [(0, .ref l0), (1, .ref l1), (2, .int l2), (3, .int l3)] [] h (F_X1_addCovered_2b N k2 l0 l1 l2 l3 h) := by
  unfold F_X1_addCovered_2b
  refine k_iload_n hq dX1_addCovered_2 3 rfl ?_
  refine k_iconst hq dX1_addCovered_3 (v := 4) rfl ?_
  refine k_icmp_ge hq (tgt := 34) dX1_addCovered_4 (by decide) (fun _ => ?_) (fun _ => ?_)
  · exact k_vret hq dX1_addCovered_34 he
  · refine k_aload_n hq dX1_addCovered_7 0 rfl ?_
    refine k_gr hq (C := RX1) (T := TX1) 1 0 rfl (by decide) (lay_X1 0 (by decide)) tw_205 dX1_addCovered_8 fun v1 => ?_
    refine k_iload_n hq dX1_addCovered_11 3 rfl ?_
    refine k_dup2_11 hq dX1_addCovered_12 rfl rfl ?_
    refine k_lald hq dX1_addCovered_13 fun v2 => ?_
    refine k_aload_n hq dX1_addCovered_14 1 rfl ?_
    refine k_gr hq (C := RX1) (T := TX1) 1 0 rfl (by decide) (lay_X1 0 (by decide)) tw_205 dX1_addCovered_15 fun v3 => ?_
    refine k_iload_n hq dX1_addCovered_18 3 rfl ?_
    refine k_lald hq dX1_addCovered_19 fun v4 => ?_
    refine k_iload_n hq dX1_addCovered_20 2 rfl ?_
    refine k_iload_n hq dX1_addCovered_21 3 rfl ?_
    refine k_callS hq (na := 2) (As := [.int l2, .int l3]) (st := [.long v4, .long v2, .int l3, .ref v1]) (con_X1_covered _ _ _ _ l2 l3) tw_609 tw_56 tw_607 tw_608 ⟨by decide, by decide, by decide +kernel⟩ rfl (by decide) rfl (Nat.le_of_ble_eq_true rfl) dX1_addCovered_22 fun v5 h6 => ?_
    refine k_land hq dX1_addCovered_25 ?_
    refine k_lor hq dX1_addCovered_26 ?_
    refine k_last hq dX1_addCovered_27 fun h7 => ?_
    refine k_iinc hq dX1_addCovered_28 3 rfl (v := l3 + 1) rfl (by decide) (ls' := [(3, .int (l3 + 1)), (0, .ref l0), (1, .ref l1), (2, .int l2)]) rfl ?_
    refine k_goto hq (tgt := 2) dX1_addCovered_31 (by decide) ?_
    exact k_sub [1, 2, 3, 0] rfl (hk2 l0 l1 l2 (l3 + 1) h7)
theorem Q_X1_addCovered_2 {q : eT} {r0 : Unit} {h0 : eH} (hq : e_B q yX1_addCovered.cls cX1_addCovered 4 2 42 none yX1_addCovered.name) (he : e_E q) (N : Nat) (l0 : Nat) (l1 : Nat) (l2 : Int32) (l3 : Int32) (h : eH) : e_K eV q r0 h0 2 [(0, .ref l0), (1, .ref l1), (2, .int l2), (3, .int l3)] [] h (L_X1_addCovered_2 N l0 l1 l2 l3 h) :=
  k_loop (mk := (fun s => [(0, .ref s.1), (1, .ref s.2.1), (2, .int s.2.2.1), (3, .int s.2.2.2.1)])) (hp := fun s => s.2.2.2.2) (fun k hk s => P_X1_addCovered_2b hq he N (fun l0 l1 l2 l3 h => k (l0, l1, l2, l3, h)) (fun l0 l1 l2 l3 h => hk (l0, l1, l2, l3, h)) s.1 s.2.1 s.2.2.1 s.2.2.2.1 s.2.2.2.2) N (l0, l1, l2, l3, h)
set_option maxRecDepth 100000 in
set_option maxHeartbeats 4000000 in
theorem P_X1_addCovered_0 {q : eT} {r0 : Unit} {h0 : eH} (hq : e_B q yX1_addCovered.cls cX1_addCovered 4 2 42 none yX1_addCovered.name) (he : e_E q) (N : Nat) (l0 : Nat) (l1 : Nat) (l2 : Int32) (h : eH) : e_K eV q r0 h0 0 [(0, .ref l0), (1, .ref l1), (2, .int l2)] [] h (F_X1_addCovered N l0 l1 l2 h) := by
  unfold F_X1_addCovered
  refine k_iconst hq dX1_addCovered_0 (v := 0) rfl ?_
  refine k_istore_n hq dX1_addCovered_1 rfl (by decide) (ls' := [(3, .int 0), (0, .ref l0), (1, .ref l1), (2, .int l2)]) rfl ?_
  exact k_sub [1, 2, 3, 0] rfl (Q_X1_addCovered_2 hq he N l0 l1 l2 0 h)
theorem con_X1_addCovered (l : Launch) (G : eG) (B0 n : Nat) (N : Nat) (l0 : Nat) (l1 : Nat) (l2 : Int32) : e_C eV l G B0 n yX1_addCovered cX1_addCovered 4 none 2 42 [.ref l0, .ref l1, .int l2] (F_X1_addCovered N l0 l1 l2) := by
  refine e_mk (by decide) (Nat.le_of_ble_eq_true rfl) fun q r0 h0 h hq he e1 e2 e3 e4 => ?_
  subst e1; subst e2; subst e3; subst e4
  exact P_X1_addCovered_0 hq he N l0 l1 l2 h
set_option maxRecDepth 100000 in
set_option maxHeartbeats 4000000 in
theorem P_X1_removeCovered_2b {q : eT} {r0 : Unit} {h0 : eH} (hq : e_B q yX1_removeCovered.cls cX1_removeCovered 3 2 42 none yX1_removeCovered.name) (he : e_E q) (N : Nat) (k2 : Nat → Int32 → Int32 → eH → Option (Unit × eH)) (hk2 : ∀ (l0 : Nat) (l1 : Int32) (l2 : Int32) h, e_K eV q r0 h0 2 [(0, .ref l0), (1, .int l1), (2, .int l2)] [] h (k2 l0 l1 l2 h)) (l0 : Nat) (l1 : Int32) (l2 : Int32) (h : eH) : e_K eV q r0 h0 2 [(0, .ref l0), (1, .int l1), (2, .int l2)] [] h (F_X1_removeCovered_2b N k2 l0 l1 l2 h) := by
  unfold F_X1_removeCovered_2b
  refine k_iload_n hq dX1_removeCovered_2 2 rfl ?_
  refine k_iconst hq dX1_removeCovered_3 (v := 4) rfl ?_
  refine k_icmp_ge hq (tgt := 31) dX1_removeCovered_4 (by decide) (fun _ => ?_) (fun _ => ?_)
  · exact k_vret hq dX1_removeCovered_31 he
  · refine k_aload_n hq dX1_removeCovered_7 0 rfl ?_
    refine k_gr hq (C := RX1) (T := TX1) 1 0 rfl (by decide) (lay_X1 0 (by decide)) tw_205 dX1_removeCovered_8 fun v1 => ?_
    refine k_iload_n hq dX1_removeCovered_11 2 rfl ?_
    refine k_dup2_11 hq dX1_removeCovered_12 rfl rfl ?_
    refine k_lald hq dX1_removeCovered_13 fun v2 => ?_
    refine k_iload_n hq dX1_removeCovered_14 1 rfl ?_
    refine k_iload_n hq dX1_removeCovered_15 2 rfl ?_
    refine k_callS hq (na := 2) (As := [.int l1, .int l2]) (st := [.long v2, .int l2, .ref v1]) (con_X1_covered _ _ _ _ l1 l2) tw_609 tw_56 tw_607 tw_608 ⟨by decide, by decide, by decide +kernel⟩ rfl (by decide) rfl (Nat.le_of_ble_eq_true rfl) dX1_removeCovered_16 fun v3 h4 => ?_
    refine k_ldc2 hq (v := (-1)) tw_615 dX1_removeCovered_19 ?_
    refine k_lxor hq dX1_removeCovered_22 ?_
    refine k_land hq dX1_removeCovered_23 ?_
    refine k_last hq dX1_removeCovered_24 fun h5 => ?_
    refine k_iinc hq dX1_removeCovered_25 2 rfl (v := l2 + 1) rfl (by decide) (ls' := [(2, .int (l2 + 1)), (0, .ref l0), (1, .int l1)]) rfl ?_
    refine k_goto hq (tgt := 2) dX1_removeCovered_28 (by decide) ?_
    exact k_sub [1, 2, 0] rfl (hk2 l0 l1 (l2 + 1) h5)
theorem Q_X1_removeCovered_2 {q : eT} {r0 : Unit} {h0 : eH} (hq : e_B q yX1_removeCovered.cls cX1_removeCovered 3 2 42 none yX1_removeCovered.name) (he : e_E q) (N : Nat) (l0 : Nat) (l1 : Int32) (l2 : Int32) (h : eH) : e_K eV q r0 h0 2 [(0, .ref l0), (1, .int l1), (2, .int l2)] [] h (L_X1_removeCovered_2 N l0 l1 l2 h) :=
  k_loop (mk := (fun s => [(0, .ref s.1), (1, .int s.2.1), (2, .int s.2.2.1)])) (hp := fun s => s.2.2.2) (fun k hk s => P_X1_removeCovered_2b hq he N (fun l0 l1 l2 h => k (l0, l1, l2, h)) (fun l0 l1 l2 h => hk (l0, l1, l2, h)) s.1 s.2.1 s.2.2.1 s.2.2.2) N (l0, l1, l2, h)
set_option maxRecDepth 100000 in
set_option maxHeartbeats 4000000 in
theorem P_X1_removeCovered_0 {q : eT} {r0 : Unit} {h0 : eH} (hq : e_B q yX1_removeCovered.cls cX1_removeCovered 3 2 42 none yX1_removeCovered.name) (he : e_E q) (N : Nat) (l0 : Nat) (l1 : Int32) (h : eH) : e_K eV q r0 h0 0 [(0, .ref l0), (1, .int l1)] [] h (F_X1_removeCovered N l0 l1 h) := by
  unfold F_X1_removeCovered
  refine k_iconst hq dX1_removeCovered_0 (v := 0) rfl ?_
  refine k_istore_n hq dX1_removeCovered_1 rfl (by decide) (ls' := [(2, .int 0), (0, .ref l0), (1, .int l1)]) rfl ?_
  exact k_sub [1, 2, 0] rfl (Q_X1_removeCovered_2 hq he N l0 l1 0 h)
theorem con_X1_removeCovered (l : Launch) (G : eG) (B0 n : Nat) (N : Nat) (l0 : Nat) (l1 : Int32) : e_C eV l G B0 n yX1_removeCovered cX1_removeCovered 3 none 2 42 [.ref l0, .int l1] (F_X1_removeCovered N l0 l1) := by
  refine e_mk (by decide) (Nat.le_of_ble_eq_true rfl) fun q r0 h0 h hq he e1 e2 e3 e4 => ?_
  subst e1; subst e2; subst e3; subst e4
  exact P_X1_removeCovered_0 hq he N l0 l1 h
set_option maxRecDepth 100000 in
set_option maxHeartbeats 4000000 in
theorem P_X1_coveredTotal_4b {q : eT} {r0 : Int32} {h0 : eH} (hq : e_B q yX1_coveredTotal.cls cX1_coveredTotal 4 2 42 (some .int) yX1_coveredTotal.name) (he : e_E q) (N : Nat) (k4 : Nat → Int32 → Int32 → Int32 → eH → Option (Int32 × eH)) (hk4 : ∀ (l0 : Nat) (l1 : Int32) (l2 : Int32) (l3 : Int32) h, e_K eI q r0 h0 4 [(0, .ref l0), (1, .int l1), (2, .int l2), (3, .int l3)] [] h (k4 l0 l1 l2 l3 h)) (l0 : Nat) (l1 : Int32) (l2 : Int32) (l3 : Int32) (h : eH) : e_K eI q r0 h0 4 [(0, .ref l0), (1, .int l1), (2, .int l2), (3, .int l3)] [] h (F_X1_coveredTotal_4b N k4 l0 l1 l2 l3 h) := by
  unfold F_X1_coveredTotal_4b
  refine k_iload_n hq dX1_coveredTotal_4 3 rfl ?_
  refine k_iconst hq dX1_coveredTotal_5 (v := 4) rfl ?_
  refine k_icmp_ge hq (tgt := 33) dX1_coveredTotal_6 (by decide) (fun _ => ?_) (fun _ => ?_)
  · refine k_iload_n hq dX1_coveredTotal_33 2 rfl ?_
    exact k_iret hq dX1_coveredTotal_34 he
  · refine k_iload_n hq dX1_coveredTotal_9 2 rfl ?_
    refine k_aload_n hq dX1_coveredTotal_10 0 rfl ?_
    refine k_gr hq (C := RX1) (T := TX1) 1 0 rfl (by decide) (lay_X1 0 (by decide)) tw_205 dX1_coveredTotal_11 fun v1 => ?_
    refine k_iload_n hq dX1_coveredTotal_14 3 rfl ?_
    refine k_lald hq dX1_coveredTotal_15 fun v2 => ?_
    refine k_iload_n hq dX1_coveredTotal_16 1 rfl ?_
    refine k_iload_n hq dX1_coveredTotal_17 3 rfl ?_
    refine k_callS hq (na := 2) (As := [.int l1, .int l3]) (st := [.long v2, .int l2]) (con_X1_covered _ _ _ _ l1 l3) tw_609 tw_56 tw_607 tw_608 ⟨by decide, by decide, by decide +kernel⟩ rfl (by decide) rfl (Nat.le_of_ble_eq_true rfl) dX1_coveredTotal_18 fun v3 h4 => ?_
    refine k_land hq dX1_coveredTotal_21 ?_
    refine k_callS hq (na := 1) (As := [.long (v2 &&& v3)]) (st := [.int l2]) (con_J13_bitCount_95d88 _ _ _ _ (v2 &&& v3)) tw_586 tw_66 tw_584 tw_585 ⟨by decide, by decide, by decide +kernel⟩ rfl (by decide) rfl (Nat.le_of_ble_eq_true rfl) dX1_coveredTotal_22 fun v5 h6 => ?_
    refine k_iadd hq dX1_coveredTotal_25 ?_
    refine k_let (mk := fun z => .int z :: []) fun v7 _ => ?_
    refine k_istore_n hq dX1_coveredTotal_26 rfl (by decide) (ls' := [(2, .int v7), (0, .ref l0), (1, .int l1), (3, .int l3)]) rfl ?_
    refine k_iinc hq dX1_coveredTotal_27 3 rfl (v := l3 + 1) rfl (by decide) (ls' := [(3, .int (l3 + 1)), (2, .int v7), (0, .ref l0), (1, .int l1)]) rfl ?_
    refine k_goto hq (tgt := 4) dX1_coveredTotal_30 (by decide) ?_
    exact k_sub [2, 3, 1, 0] rfl (hk4 l0 l1 v7 (l3 + 1) h6)
theorem Q_X1_coveredTotal_4 {q : eT} {r0 : Int32} {h0 : eH} (hq : e_B q yX1_coveredTotal.cls cX1_coveredTotal 4 2 42 (some .int) yX1_coveredTotal.name) (he : e_E q) (N : Nat) (l0 : Nat) (l1 : Int32) (l2 : Int32) (l3 : Int32) (h : eH) : e_K eI q r0 h0 4 [(0, .ref l0), (1, .int l1), (2, .int l2), (3, .int l3)] [] h (L_X1_coveredTotal_4 N l0 l1 l2 l3 h) :=
  k_loop (mk := (fun s => [(0, .ref s.1), (1, .int s.2.1), (2, .int s.2.2.1), (3, .int s.2.2.2.1)])) (hp := fun s => s.2.2.2.2) (fun k hk s => P_X1_coveredTotal_4b hq he N (fun l0 l1 l2 l3 h => k (l0, l1, l2, l3, h)) (fun l0 l1 l2 l3 h => hk (l0, l1, l2, l3, h)) s.1 s.2.1 s.2.2.1 s.2.2.2.1 s.2.2.2.2) N (l0, l1, l2, l3, h)
set_option maxRecDepth 100000 in
set_option maxHeartbeats 4000000 in
theorem P_X1_coveredTotal_0 {q : eT} {r0 : Int32} {h0 : eH} (hq : e_B q yX1_coveredTotal.cls cX1_coveredTotal 4 2 42 (some .int) yX1_coveredTotal.name) (he : e_E q) (N : Nat) (l0 : Nat) (l1 : Int32) (h : eH) : e_K eI q r0 h0 0 [(0, .ref l0), (1, .int l1)] [] h (F_X1_coveredTotal N l0 l1 h) := by
  unfold F_X1_coveredTotal
  refine k_iconst hq dX1_coveredTotal_0 (v := 0) rfl ?_
  refine k_istore_n hq dX1_coveredTotal_1 rfl (by decide) (ls' := [(2, .int 0), (0, .ref l0), (1, .int l1)]) rfl ?_
  refine k_iconst hq dX1_coveredTotal_2 (v := 0) rfl ?_
  refine k_istore_n hq dX1_coveredTotal_3 rfl (by decide) (ls' := [(3, .int 0), (2, .int 0), (0, .ref l0), (1, .int l1)]) rfl ?_
  exact k_sub [2, 3, 1, 0] rfl (Q_X1_coveredTotal_4 hq he N l0 l1 0 0 h)
theorem con_X1_coveredTotal (l : Launch) (G : eG) (B0 n : Nat) (N : Nat) (l0 : Nat) (l1 : Int32) : e_C eI l G B0 n yX1_coveredTotal cX1_coveredTotal 4 (some .int) 2 42 [.ref l0, .int l1] (F_X1_coveredTotal N l0 l1) := by
  refine e_mk (by decide) (Nat.le_of_ble_eq_true rfl) fun q r0 h0 h hq he e1 e2 e3 e4 => ?_
  subst e1; subst e2; subst e3; subst e4
  exact P_X1_coveredTotal_0 hq he N l0 l1 h
set_option maxRecDepth 100000 in
set_option maxHeartbeats 4000000 in
theorem P_X1_join_3b {q : eT} {r0 : Unit} {h0 : eH} (hq : e_B q yX1_join.cls cX1_join 9 2 42 none yX1_join.name) (he : e_E q) (N : Nat) (k3 : Nat → Int32 → Nat → Int32 → Int32 → eH → Option (Unit × eH)) (hk3 : ∀ (l0 : Nat) (l1 : Int32) (l2 : Nat) (l3 : Int32) (l4 : Int32) h, e_K eV q r0 h0 3 [(0, .ref l0), (1, .int l1), (2, .ref l2), (3, .int l3), (4, .int l4)] [] h (k3 l0 l1 l2 l3 l4 h)) (l0 : Nat) (l1 : Int32) (l2 : Nat) (l3 : Int32) (l4 : Int32) (h : eH) : e_K eV q r0 h0 3 [(0, .ref l0), (1, .int l1), (2, .ref l2), (3, .int l3), (4, .int l4)] [] h (F_X1_join_3b N k3 l0 l1 l2 l3 l4 h) := by
  unfold F_X1_join_3b
  refine k_iload hq dX1_join_3 4 rfl ?_
  refine k_iconst hq dX1_join_5 (v := 4) rfl ?_
  refine k_icmp_ge hq (tgt := 73) dX1_join_6 (by decide) (fun _ => ?_) (fun _ => ?_)
  · exact k_vret hq dX1_join_73 he
  · refine k_aload_n hq dX1_join_9 0 rfl ?_
    refine k_gr hq (C := RX1) (T := TX1) 1 0 rfl (by decide) (lay_X1 0 (by decide)) tw_205 dX1_join_10 fun v1 => ?_
    refine k_iload hq dX1_join_13 4 rfl ?_
    refine k_lald hq dX1_join_15 fun v2 => ?_
    refine k_lstore hq dX1_join_16 (by decide) (ls' := [(5, .long v2), (0, .ref l0), (1, .int l1), (2, .ref l2), (3, .int l3), (4, .int l4)]) rfl ?_
    refine k_aload_n hq dX1_join_18 3 rfl ?_
    refine k_gr hq (C := RX1) (T := TX1) 1 0 rfl (by decide) (lay_X1 0 (by decide)) tw_205 dX1_join_19 fun v3 => ?_
    refine k_iload hq dX1_join_22 5 rfl ?_
    refine k_lald hq dX1_join_24 fun v4 => ?_
    refine k_lstore hq dX1_join_25 (by decide) (ls' := [(7, .long v4), (5, .long v2), (0, .ref l0), (1, .int l1), (2, .ref l2), (3, .int l3), (4, .int l4)]) rfl ?_
    refine k_aload_n hq dX1_join_27 2 rfl ?_
    refine k_gr hq (C := RX1) (T := TX1) 1 0 rfl (by decide) (lay_X1 0 (by decide)) tw_205 dX1_join_28 fun v5 => ?_
    refine k_iload hq dX1_join_31 6 rfl ?_
    refine k_lload hq dX1_join_33 1 rfl ?_
    refine k_lload hq dX1_join_35 0 rfl ?_
    refine k_land hq dX1_join_37 ?_
    refine k_lload hq dX1_join_38 1 rfl ?_
    refine k_iload_n hq dX1_join_40 5 rfl ?_
    refine k_iload hq dX1_join_41 6 rfl ?_
    refine k_callS hq (na := 2) (As := [.int l3, .int l4]) (st := [.long v2, .long (v2 &&& v4), .int l4, .ref v5]) (con_X1_covered _ _ _ _ l3 l4) tw_609 tw_56 tw_607 tw_608 ⟨by decide, by decide, by decide +kernel⟩ rfl (by decide) rfl (Nat.le_of_ble_eq_true rfl) dX1_join_43 fun v6 h7 => ?_
    refine k_ldc2 hq (v := (-1)) tw_615 dX1_join_46 ?_
    refine k_lxor hq dX1_join_49 ?_
    refine k_land hq dX1_join_50 ?_
    refine k_lor hq dX1_join_51 ?_
    refine k_lload hq dX1_join_52 0 rfl ?_
    refine k_iload_n hq dX1_join_54 3 rfl ?_
    refine k_iload hq dX1_join_55 6 rfl ?_
    refine k_callS hq (na := 2) (As := [.int l1, .int l4]) (st := [.long v4, .long ((v2 &&& v4) ||| (v2 &&& (v6 ^^^ (-1)))), .int l4, .ref v5]) (con_X1_covered _ _ _ _ l1 l4) tw_609 tw_56 tw_607 tw_608 ⟨by decide, by decide, by decide +kernel⟩ rfl (by decide) rfl (Nat.le_of_ble_eq_true rfl) dX1_join_57 fun v8 h9 => ?_
    refine k_ldc2 hq (v := (-1)) tw_615 dX1_join_60 ?_
    refine k_lxor hq dX1_join_63 ?_
    refine k_land hq dX1_join_64 ?_
    refine k_lor hq dX1_join_65 ?_
    refine k_last hq dX1_join_66 fun h10 => ?_
    refine k_iinc hq dX1_join_67 6 rfl (v := l4 + 1) rfl (by decide) (ls' := [(4, .int (l4 + 1)), (7, .long v4), (5, .long v2), (0, .ref l0), (1, .int l1), (2, .ref l2), (3, .int l3)]) rfl ?_
    refine k_goto hq (tgt := 3) dX1_join_70 (by decide) ?_
    exact k_sub [3, 4, 5, 6, 0] rfl (hk3 l0 l1 l2 l3 (l4 + 1) h10)
theorem Q_X1_join_3 {q : eT} {r0 : Unit} {h0 : eH} (hq : e_B q yX1_join.cls cX1_join 9 2 42 none yX1_join.name) (he : e_E q) (N : Nat) (l0 : Nat) (l1 : Int32) (l2 : Nat) (l3 : Int32) (l4 : Int32) (h : eH) : e_K eV q r0 h0 3 [(0, .ref l0), (1, .int l1), (2, .ref l2), (3, .int l3), (4, .int l4)] [] h (L_X1_join_3 N l0 l1 l2 l3 l4 h) :=
  k_loop (mk := (fun s => [(0, .ref s.1), (1, .int s.2.1), (2, .ref s.2.2.1), (3, .int s.2.2.2.1), (4, .int s.2.2.2.2.1)])) (hp := fun s => s.2.2.2.2.2) (fun k hk s => P_X1_join_3b hq he N (fun l0 l1 l2 l3 l4 h => k (l0, l1, l2, l3, l4, h)) (fun l0 l1 l2 l3 l4 h => hk (l0, l1, l2, l3, l4, h)) s.1 s.2.1 s.2.2.1 s.2.2.2.1 s.2.2.2.2.1 s.2.2.2.2.2) N (l0, l1, l2, l3, l4, h)
set_option maxRecDepth 100000 in
set_option maxHeartbeats 4000000 in
theorem P_X1_join_0 {q : eT} {r0 : Unit} {h0 : eH} (hq : e_B q yX1_join.cls cX1_join 9 2 42 none yX1_join.name) (he : e_E q) (N : Nat) (l0 : Nat) (l1 : Int32) (l2 : Nat) (l3 : Int32) (h : eH) : e_K eV q r0 h0 0 [(0, .ref l0), (1, .int l1), (2, .ref l2), (3, .int l3)] [] h (F_X1_join N l0 l1 l2 l3 h) := by
  unfold F_X1_join
  refine k_iconst hq dX1_join_0 (v := 0) rfl ?_
  refine k_istore hq dX1_join_1 (by decide) (ls' := [(4, .int 0), (0, .ref l0), (1, .int l1), (2, .ref l2), (3, .int l3)]) rfl ?_
  exact k_sub [1, 2, 3, 4, 0] rfl (Q_X1_join_3 hq he N l0 l1 l2 l3 0 h)
theorem con_X1_join (l : Launch) (G : eG) (B0 n : Nat) (N : Nat) (l0 : Nat) (l1 : Int32) (l2 : Nat) (l3 : Int32) : e_C eV l G B0 n yX1_join cX1_join 9 none 2 42 [.ref l0, .int l1, .ref l2, .int l3] (F_X1_join N l0 l1 l2 l3) := by
  refine e_mk (by decide) (Nat.le_of_ble_eq_true rfl) fun q r0 h0 h hq he e1 e2 e3 e4 => ?_
  subst e1; subst e2; subst e3; subst e4
  exact P_X1_join_0 hq he N l0 l1 l2 l3 h
set_option maxRecDepth 100000 in
set_option maxHeartbeats 4000000 in
theorem P_X1_gone_0 {q : eT} {r0 : Int64} {h0 : eH} (hq : e_B q yX1_gone.cls cX1_gone 3 2 42 (some .long) yX1_gone.name) (he : e_E q) (l0 : Nat) (l1 : Int32) (l2 : Int32) (h : eH) : e_K eL q r0 h0 0 [(0, .ref l0), (1, .int l1), (2, .int l2)] [] h (F_X1_gone l0 l1 l2 h) := by
  unfold F_X1_gone
  refine k_iload_n hq dX1_gone_0 2 rfl ?_
  refine k_if_lt hq (tgt := 32) dX1_gone_1 (by decide) (fun _ => ?_) (fun _ => ?_)
  · refine k_lconst hq dX1_gone_32 (v := 0) rfl ?_
    exact k_lret hq dX1_gone_33 he
  · refine k_iload_n hq dX1_gone_4 2 rfl ?_
    refine k_aload_n hq dX1_gone_5 0 rfl ?_
    refine k_gr hq (C := RX1) (T := TX1) 1 0 rfl (by decide) (lay_X1 0 (by decide)) tw_205 dX1_gone_6 fun v1 => ?_
    refine k_alen hq dX1_gone_9 fun v2 => ?_
    refine k_icmp_ge hq (tgt := 32) dX1_gone_10 (by decide) (fun _ => ?_) (fun _ => ?_)
    · refine k_lconst hq dX1_gone_32 (v := 0) rfl ?_
      exact k_lret hq dX1_gone_33 he
    · refine k_iload_n hq dX1_gone_13 1 rfl ?_
      refine k_iload_n hq dX1_gone_14 2 rfl ?_
      refine k_callS hq (na := 2) (As := [.int l1, .int l2]) (st := []) (con_X1_covered _ _ _ _ l1 l2) tw_609 tw_56 tw_607 tw_608 ⟨by decide, by decide, by decide +kernel⟩ rfl (by decide) rfl (Nat.le_of_ble_eq_true rfl) dX1_gone_15 fun v3 h4 => ?_
      refine k_aload_n hq dX1_gone_18 0 rfl ?_
      refine k_gr hq (C := RX1) (T := TX1) 1 0 rfl (by decide) (lay_X1 0 (by decide)) tw_205 dX1_gone_19 fun v5 => ?_
      refine k_iload_n hq dX1_gone_22 2 rfl ?_
      refine k_lald hq dX1_gone_23 fun v6 => ?_
      refine k_ldc2 hq (v := (-1)) tw_615 dX1_gone_24 ?_
      refine k_lxor hq dX1_gone_27 ?_
      refine k_land hq dX1_gone_28 ?_
      refine k_goto hq (tgt := 33) dX1_gone_29 (by decide) ?_
      exact k_lret hq dX1_gone_33 he
theorem con_X1_gone (l : Launch) (G : eG) (B0 n : Nat) (l0 : Nat) (l1 : Int32) (l2 : Int32) : e_C eL l G B0 n yX1_gone cX1_gone 3 (some .long) 2 42 [.ref l0, .int l1, .int l2] (F_X1_gone l0 l1 l2) := by
  refine e_mk (by decide) (Nat.le_of_ble_eq_true rfl) fun q r0 h0 h hq he e1 e2 e3 e4 => ?_
  subst e1; subst e2; subst e3; subst e4
  exact P_X1_gone_0 hq he l0 l1 l2 h
set_option maxRecDepth 100000 in
set_option maxHeartbeats 4000000 in
theorem P_X4_replicaOf_0 {q : eT} {r0 : Option Nat} {h0 : eH} (hq : e_B q yX4_replicaOf.cls cX4_replicaOf 2 0 0 (some (.object "SideVersions$Replica")) yX4_replicaOf.name) (he : e_E q) (l0 : Nat) (l1 : Int32) (h : eH) : e_K eR q r0 h0 0 [(0, .ref l0), (1, .int l1)] [] h (F_X4_replicaOf l0 l1 h) := by
  unfold F_X4_replicaOf
  refine k_iload_n hq dX4_replicaOf_0 1 rfl ?_
  refine k_if_lt hq (tgt := 22) dX4_replicaOf_1 (by decide) (fun _ => ?_) (fun _ => ?_)
  · refine k_aconst_null hq dX4_replicaOf_22 ?_
    exact k_aret (v := none) hq dX4_replicaOf_23 he
  · refine k_iload_n hq dX4_replicaOf_4 1 rfl ?_
    refine k_aload_n hq dX4_replicaOf_5 0 rfl ?_
    refine k_gr hq (C := RX4) (T := TX4) 4 1 rfl (by decide) (lay_X4 1 (by decide)) tw_287 dX4_replicaOf_6 fun v1 => ?_
    refine k_alen hq dX4_replicaOf_9 fun v2 => ?_
    refine k_icmp_ge hq (tgt := 22) dX4_replicaOf_10 (by decide) (fun _ => ?_) (fun _ => ?_)
    · refine k_aconst_null hq dX4_replicaOf_22 ?_
      exact k_aret (v := none) hq dX4_replicaOf_23 he
    · refine k_aload_n hq dX4_replicaOf_13 0 rfl ?_
      refine k_gr hq (C := RX4) (T := TX4) 4 1 rfl (by decide) (lay_X4 1 (by decide)) tw_287 dX4_replicaOf_14 fun v3 => ?_
      refine k_iload_n hq dX4_replicaOf_17 1 rfl ?_
      refine k_aald hq 4 (fun _ => rfl) dX4_replicaOf_18 fun v4 => ?_
      refine k_goto hq (tgt := 23) dX4_replicaOf_19 (by decide) ?_
      exact k_aret (v := (some v4)) hq dX4_replicaOf_23 he
theorem con_X4_replicaOf (l : Launch) (G : eG) (B0 n : Nat) (l0 : Nat) (l1 : Int32) : e_C eR l G B0 n yX4_replicaOf cX4_replicaOf 2 (some (.object "SideVersions$Replica")) 0 0 [.ref l0, .int l1] (F_X4_replicaOf l0 l1) := by
  refine e_mk (by decide) (Nat.le_of_ble_eq_true rfl) fun q r0 h0 h hq he e1 e2 e3 e4 => ?_
  subst e1; subst e2; subst e3; subst e4
  exact P_X4_replicaOf_0 hq he l0 l1 h
set_option maxRecDepth 100000 in
set_option maxHeartbeats 4000000 in
theorem P_X8_covered_0 {q : eT} {r0 : Int64} {h0 : eH} (hq : e_B q yX8_covered.cls cX8_covered 2 2 42 (some .long) yX8_covered.name) (he : e_E q) (l0 : Nat) (l1 : Int32) (h : eH) : e_K eL q r0 h0 0 [(0, .ref l0), (1, .int l1)] [] h (F_X8_covered l0 l1 h) := by
  unfold F_X8_covered
  refine k_aload_n hq dX8_covered_0 0 rfl ?_
  refine k_gi hq (C := RX8) (T := TX8) 8 3 rfl (by decide) (lay_X8 3 (by decide)) tw_273 dX8_covered_1 fun v1 => ?_
  refine k_iload_n hq dX8_covered_4 1 rfl ?_
  refine k_callS hq (na := 2) (As := [.int v1, .int l1]) (st := []) (con_X1_covered _ _ _ _ v1 l1) tw_609 tw_56 tw_856 tw_608 ⟨by decide, by decide, by decide +kernel⟩ rfl (by decide) rfl (Nat.le_of_ble_eq_true rfl) dX8_covered_5 fun v2 h3 => ?_
  exact k_lret hq dX8_covered_8 he
theorem con_X8_covered (l : Launch) (G : eG) (B0 n : Nat) (l0 : Nat) (l1 : Int32) : e_C eL l G B0 n yX8_covered cX8_covered 2 (some .long) 2 42 [.ref l0, .int l1] (F_X8_covered l0 l1) := by
  refine e_mk (by decide) (Nat.le_of_ble_eq_true rfl) fun q r0 h0 h hq he e1 e2 e3 e4 => ?_
  subst e1; subst e2; subst e3; subst e4
  exact P_X8_covered_0 hq he l0 l1 h
set_option maxRecDepth 100000 in
set_option maxHeartbeats 4000000 in
theorem P_X8_gone_0 {q : eT} {r0 : Int64} {h0 : eH} (hq : e_B q yX8_gone.cls cX8_gone 2 3 64 (some .long) yX8_gone.name) (he : e_E q) (l0 : Nat) (l1 : Int32) (h : eH) : e_K eL q r0 h0 0 [(0, .ref l0), (1, .int l1)] [] h (F_X8_gone l0 l1 h) := by
  unfold F_X8_gone
  refine k_aload_n hq dX8_gone_0 0 rfl ?_
  refine k_gr hq (C := RX8) (T := TX8) 8 2 rfl (by decide) (lay_X8 2 (by decide)) tw_270 dX8_gone_1 fun v1 => ?_
  refine k_aload_n hq dX8_gone_4 0 rfl ?_
  refine k_gi hq (C := RX8) (T := TX8) 8 3 rfl (by decide) (lay_X8 3 (by decide)) tw_273 dX8_gone_5 fun v2 => ?_
  refine k_iload_n hq dX8_gone_8 1 rfl ?_
  refine k_callV hq (na := 2) (As := [.int v2, .int l1]) (st := []) 1 (C := RX1) (T := TX1) rfl (con_X1_gone _ _ _ _ v1 v2 l1) tw_864 tw_56 tw_861 tw_862 tw_863 ⟨by decide, by decide, by decide +kernel⟩ rfl (by decide) rfl (Nat.le_of_ble_eq_true rfl) dX8_gone_9 fun v3 h4 => ?_
  exact k_lret hq dX8_gone_12 he
theorem con_X8_gone (l : Launch) (G : eG) (B0 n : Nat) (l0 : Nat) (l1 : Int32) : e_C eL l G B0 n yX8_gone cX8_gone 2 (some .long) 3 64 [.ref l0, .int l1] (F_X8_gone l0 l1) := by
  refine e_mk (by decide) (Nat.le_of_ble_eq_true rfl) fun q r0 h0 h hq he e1 e2 e3 e4 => ?_
  subst e1; subst e2; subst e3; subst e4
  exact P_X8_gone_0 hq he l0 l1 h
set_option maxRecDepth 100000 in
set_option maxHeartbeats 4000000 in
theorem P_X4_isWithin_82 {q : eT} {r0 : Int32} {h0 : eH} (hq : e_B q yX4_isWithin.cls cX4_isWithin 10 4 85 (some .boolean) yX4_isWithin.name) (he : e_E q) (N : Nat) (k9 : Nat → Int32 → Option Nat → Int32 → eH → Option (Int32 × eH)) (k28 : Nat → Int32 → Nat → Int32 → Int64 → Int64 → Int32 → eH → Option (Int32 × eH)) (hk9 : ∀ (l0 : Nat) (l2 : Int32) (l3 : Option Nat) (l4 : Int32) h, e_K eI q r0 h0 9 [(0, .ref l0), (2, .int l2), (3, va_rf l3), (4, .int l4)] [] h (k9 l0 l2 l3 l4 h)) (hk28 : ∀ (l0 : Nat) (l2 : Int32) (l3 : Nat) (l4 : Int32) (l5 : Int64) (l7 : Int64) (l9 : Int32) h, e_K eI q r0 h0 28 [(0, .ref l0), (2, .int l2), (3, .ref l3), (4, .int l4), (5, .long l5), (7, .long l7), (9, .int l9)] [] h (k28 l0 l2 l3 l4 l5 l7 l9 h)) (l0 : Nat) (l2 : Int32) (l3 : Nat) (l4 : Int32) (l5 : Int64) (l7 : Int64) (l9 : Int32) (h : eH) : e_K eI q r0 h0 82 [(0, .ref l0), (2, .int l2), (3, .ref l3), (4, .int l4), (5, .long l5), (7, .long l7), (9, .int l9)] [] h (F_X4_isWithin_82 N k9 k28 l0 l2 l3 l4 l5 l7 l9 h) := by
  unfold F_X4_isWithin_82
  refine k_iinc hq dX4_isWithin_82 6 rfl (v := l9 + 1) rfl (by decide) (ls' := [(9, .int (l9 + 1)), (0, .ref l0), (2, .int l2), (3, .ref l3), (4, .int l4), (5, .long l5), (7, .long l7)]) rfl ?_
  refine k_goto hq (tgt := 28) dX4_isWithin_85 (by decide) ?_
  exact k_sub [1, 2, 3, 4, 5, 6, 0] rfl (hk28 l0 l2 l3 l4 l5 l7 (l9 + 1) h)
set_option maxRecDepth 100000 in
set_option maxHeartbeats 4000000 in
theorem P_X4_isWithin_28b {q : eT} {r0 : Int32} {h0 : eH} (hq : e_B q yX4_isWithin.cls cX4_isWithin 10 4 85 (some .boolean) yX4_isWithin.name) (he : e_E q) (N : Nat) (k9 : Nat → Int32 → Option Nat → Int32 → eH → Option (Int32 × eH)) (k28 : Nat → Int32 → Nat → Int32 → Int64 → Int64 → Int32 → eH → Option (Int32 × eH)) (hk9 : ∀ (l0 : Nat) (l2 : Int32) (l3 : Option Nat) (l4 : Int32) h, e_K eI q r0 h0 9 [(0, .ref l0), (2, .int l2), (3, va_rf l3), (4, .int l4)] [] h (k9 l0 l2 l3 l4 h)) (hk28 : ∀ (l0 : Nat) (l2 : Int32) (l3 : Nat) (l4 : Int32) (l5 : Int64) (l7 : Int64) (l9 : Int32) h, e_K eI q r0 h0 28 [(0, .ref l0), (2, .int l2), (3, .ref l3), (4, .int l4), (5, .long l5), (7, .long l7), (9, .int l9)] [] h (k28 l0 l2 l3 l4 l5 l7 l9 h)) (l0 : Nat) (l2 : Int32) (l3 : Nat) (l4 : Int32) (l5 : Int64) (l7 : Int64) (l9 : Int32) (h : eH) : e_K eI q r0 h0 28 [(0, .ref l0), (2, .int l2), (3, .ref l3), (4, .int l4), (5, .long l5), (7, .long l7), (9, .int l9)] [] h (F_X4_isWithin_28b N k9 k28 l0 l2 l3 l4 l5 l7 l9 h) := by
  unfold F_X4_isWithin_28b
  refine k_iload hq dX4_isWithin_28 6 rfl ?_
  refine k_aload_n hq dX4_isWithin_30 0 rfl ?_
  refine k_gr hq (C := RX4) (T := TX4) 4 1 rfl (by decide) (lay_X4 1 (by decide)) tw_287 dX4_isWithin_31 fun v1 => ?_
  refine k_alen hq dX4_isWithin_34 fun v2 => ?_
  refine k_icmp_ge hq (tgt := 88) dX4_isWithin_35 (by decide) (fun _ => ?_) (fun _ => ?_)
  · refine k_aload_n hq dX4_isWithin_88 2 rfl ?_
    refine k_iload hq dX4_isWithin_89 3 rfl ?_
    refine k_callV hq (na := 1) (As := [.int l4]) (st := []) 8 (C := RX8) (T := TX8) rfl (con_X8_covered _ _ _ _ l3 l4) tw_855 tw_57 tw_852 tw_853 tw_854 ⟨by decide, by decide, by decide +kernel⟩ rfl (by decide) rfl (Nat.le_of_ble_eq_true rfl) dX4_isWithin_91 fun v3 h4 => ?_
    refine k_lload hq dX4_isWithin_94 4 rfl ?_
    refine k_ldc2 hq (v := (-1)) tw_865 dX4_isWithin_96 ?_
    refine k_lxor hq dX4_isWithin_99 ?_
    refine k_land hq dX4_isWithin_100 ?_
    refine k_lconst hq dX4_isWithin_101 (v := 0) rfl ?_
    refine k_lcmp hq dX4_isWithin_102 ?_
    refine k_if_ne hq (tgt := 124) dX4_isWithin_103 (by decide) (fun _ => ?_) (fun _ => ?_)
    · refine k_aload_n hq dX4_isWithin_106 2 rfl ?_
      refine k_iload hq dX4_isWithin_107 3 rfl ?_
      refine k_callV hq (na := 1) (As := [.int l4]) (st := []) 8 (C := RX8) (T := TX8) rfl (con_X8_gone _ _ _ _ l3 l4) tw_860 tw_57 tw_857 tw_858 tw_859 ⟨by decide, by decide, by decide +kernel⟩ rfl (by decide) rfl (Nat.le_of_ble_eq_true rfl) dX4_isWithin_109 fun v5 h6 => ?_
      refine k_lload hq dX4_isWithin_112 5 rfl ?_
      refine k_ldc2 hq (v := (-1)) tw_865 dX4_isWithin_114 ?_
      refine k_lxor hq dX4_isWithin_117 ?_
      refine k_land hq dX4_isWithin_118 ?_
      refine k_lconst hq dX4_isWithin_119 (v := 0) rfl ?_
      refine k_lcmp hq dX4_isWithin_120 ?_
      refine k_if_eq hq (tgt := 126) dX4_isWithin_121 (by decide) (fun _ => ?_) (fun _ => ?_)
      · refine k_iinc hq dX4_isWithin_126 3 rfl (v := l4 + 1) rfl (by decide) (ls' := [(4, .int (l4 + 1)), (0, .ref l0), (2, .int l2), (3, .ref l3), (5, .long l5), (7, .long l7), (9, .int l9)]) rfl ?_
        refine k_goto hq (tgt := 9) dX4_isWithin_129 (by decide) ?_
        exact k_sub [1, 2, 3, 0] rfl (hk9 l0 l2 (some l3) (l4 + 1) h6)
      · refine k_iconst hq dX4_isWithin_124 (v := 0) rfl ?_
        exact k_zret hq dX4_isWithin_125 he
    · refine k_iconst hq dX4_isWithin_124 (v := 0) rfl ?_
      exact k_zret hq dX4_isWithin_125 he
  · refine k_iload_n hq dX4_isWithin_38 1 rfl ?_
    refine k_iload hq dX4_isWithin_39 6 rfl ?_
    refine k_ishr hq dX4_isWithin_41 ?_
    refine k_iconst hq dX4_isWithin_42 (v := 1) rfl ?_
    refine k_iand hq dX4_isWithin_43 ?_
    refine k_iconst hq dX4_isWithin_44 (v := 1) rfl ?_
    refine k_icmp_ne hq (tgt := 82) dX4_isWithin_45 (by decide) (fun _ => ?_) (fun _ => ?_)
    · refine k_lload hq dX4_isWithin_48 4 rfl ?_
      refine k_aload_n hq dX4_isWithin_50 0 rfl ?_
      refine k_gr hq (C := RX4) (T := TX4) 4 1 rfl (by decide) (lay_X4 1 (by decide)) tw_287 dX4_isWithin_51 fun v7 => ?_
      refine k_iload hq dX4_isWithin_54 6 rfl ?_
      refine k_aald hq 4 (fun _ => rfl) dX4_isWithin_56 fun v8 => ?_
      refine k_iload hq dX4_isWithin_57 3 rfl ?_
      refine k_callV hq (na := 1) (As := [.int l4]) (st := [.long l5]) 8 (C := RX8) (T := TX8) rfl (con_X8_covered _ _ _ _ v8 l4) tw_855 tw_57 tw_852 tw_853 tw_854 ⟨by decide, by decide, by decide +kernel⟩ rfl (by decide) rfl (Nat.le_of_ble_eq_true rfl) dX4_isWithin_59 fun v9 h10 => ?_
      refine k_lor hq dX4_isWithin_62 ?_
      refine k_let (mk := fun z => .long z :: []) fun v11 _ => ?_
      refine k_lstore hq dX4_isWithin_63 (by decide) (ls' := [(5, .long v11), (0, .ref l0), (2, .int l2), (3, .ref l3), (4, .int l4), (7, .long l7), (9, .int l9)]) rfl ?_
      refine k_lload hq dX4_isWithin_65 5 rfl ?_
      refine k_aload_n hq dX4_isWithin_67 1 rfl ?_
      refine k_gr hq (C := RX4) (T := TX4) 4 1 rfl (by decide) (lay_X4 1 (by decide)) tw_287 dX4_isWithin_68 fun v12 => ?_
      refine k_iload hq dX4_isWithin_71 6 rfl ?_
      refine k_aald hq 4 (fun _ => rfl) dX4_isWithin_73 fun v13 => ?_
      refine k_iload hq dX4_isWithin_74 4 rfl ?_
      refine k_callV hq (na := 1) (As := [.int l4]) (st := [.long l7]) 8 (C := RX8) (T := TX8) rfl (con_X8_gone _ _ _ _ v13 l4) tw_860 tw_57 tw_857 tw_858 tw_859 ⟨by decide, by decide, by decide +kernel⟩ rfl (by decide) rfl (Nat.le_of_ble_eq_true rfl) dX4_isWithin_76 fun v14 h15 => ?_
      refine k_lor hq dX4_isWithin_79 ?_
      refine k_let (mk := fun z => .long z :: []) fun v16 _ => ?_
      refine k_lstore hq dX4_isWithin_80 (by decide) (ls' := [(7, .long v16), (5, .long v11), (0, .ref l0), (2, .int l2), (3, .ref l3), (4, .int l4), (9, .int l9)]) rfl ?_
      exact k_sub [2, 3, 4, 5, 1, 0, 6] rfl (P_X4_isWithin_82 hq he N k9 k28 hk9 hk28 l0 l2 l3 l4 v11 v16 l9 h15)
    · exact k_sub [0, 1, 2, 3, 4, 5, 6] rfl (P_X4_isWithin_82 hq he N k9 k28 hk9 hk28 l0 l2 l3 l4 l5 l7 l9 h)
theorem Q_X4_isWithin_28 {q : eT} {r0 : Int32} {h0 : eH} (hq : e_B q yX4_isWithin.cls cX4_isWithin 10 4 85 (some .boolean) yX4_isWithin.name) (he : e_E q) (N : Nat) (k9 : Nat → Int32 → Option Nat → Int32 → eH → Option (Int32 × eH)) (hk9 : ∀ (l0 : Nat) (l2 : Int32) (l3 : Option Nat) (l4 : Int32) h, e_K eI q r0 h0 9 [(0, .ref l0), (2, .int l2), (3, va_rf l3), (4, .int l4)] [] h (k9 l0 l2 l3 l4 h)) (l0 : Nat) (l2 : Int32) (l3 : Nat) (l4 : Int32) (l5 : Int64) (l7 : Int64) (l9 : Int32) (h : eH) : e_K eI q r0 h0 28 [(0, .ref l0), (2, .int l2), (3, .ref l3), (4, .int l4), (5, .long l5), (7, .long l7), (9, .int l9)] [] h (L_X4_isWithin_28 N k9 l0 l2 l3 l4 l5 l7 l9 h) :=
  k_loop (mk := (fun s => [(0, .ref s.1), (2, .int s.2.1), (3, .ref s.2.2.1), (4, .int s.2.2.2.1), (5, .long s.2.2.2.2.1), (7, .long s.2.2.2.2.2.1), (9, .int s.2.2.2.2.2.2.1)])) (hp := fun s => s.2.2.2.2.2.2.2) (fun k hk s => P_X4_isWithin_28b hq he N k9 (fun l0 l2 l3 l4 l5 l7 l9 h => k (l0, l2, l3, l4, l5, l7, l9, h)) hk9 (fun l0 l2 l3 l4 l5 l7 l9 h => hk (l0, l2, l3, l4, l5, l7, l9, h)) s.1 s.2.1 s.2.2.1 s.2.2.2.1 s.2.2.2.2.1 s.2.2.2.2.2.1 s.2.2.2.2.2.2.1 s.2.2.2.2.2.2.2) N (l0, l2, l3, l4, l5, l7, l9, h)
set_option maxRecDepth 100000 in
set_option maxHeartbeats 4000000 in
theorem P_X4_isWithin_9b {q : eT} {r0 : Int32} {h0 : eH} (hq : e_B q yX4_isWithin.cls cX4_isWithin 10 4 85 (some .boolean) yX4_isWithin.name) (he : e_E q) (N : Nat) (k9 : Nat → Int32 → Option Nat → Int32 → eH → Option (Int32 × eH)) (hk9 : ∀ (l0 : Nat) (l2 : Int32) (l3 : Option Nat) (l4 : Int32) h, e_K eI q r0 h0 9 [(0, .ref l0), (2, .int l2), (3, va_rf l3), (4, .int l4)] [] h (k9 l0 l2 l3 l4 h)) (l0 : Nat) (l2 : Int32) (l3 : Option Nat) (l4 : Int32) (h : eH) : e_K eI q r0 h0 9 [(0, .ref l0), (2, .int l2), (3, va_rf l3), (4, .int l4)] [] h (F_X4_isWithin_9b N k9 l0 l2 l3 l4 h) := by
  unfold F_X4_isWithin_9b
  refine k_qload_n hq dX4_isWithin_9 2 rfl ?_
  refine k_ifnull hq (tgt := 132) dX4_isWithin_10 (by decide) (fun hr => ?_) (fun r1 hr => ?_)
  · subst hr
    refine k_iconst hq dX4_isWithin_132 (v := 1) rfl ?_
    exact k_zret hq dX4_isWithin_133 he
  · subst hr
    refine k_iload hq dX4_isWithin_13 3 rfl ?_
    refine k_iconst hq dX4_isWithin_15 (v := 4) rfl ?_
    refine k_icmp_ge hq (tgt := 132) dX4_isWithin_16 (by decide) (fun _ => ?_) (fun _ => ?_)
    · refine k_iconst hq dX4_isWithin_132 (v := 1) rfl ?_
      exact k_zret hq dX4_isWithin_133 he
    · refine k_lconst hq dX4_isWithin_19 (v := 0) rfl ?_
      refine k_lstore hq dX4_isWithin_20 (by decide) (ls' := [(5, .long 0), (0, .ref l0), (2, .int l2), (3, .ref r1), (4, .int l4)]) rfl ?_
      refine k_lconst hq dX4_isWithin_22 (v := 0) rfl ?_
      refine k_lstore hq dX4_isWithin_23 (by decide) (ls' := [(7, .long 0), (5, .long 0), (0, .ref l0), (2, .int l2), (3, .ref r1), (4, .int l4)]) rfl ?_
      refine k_iconst hq dX4_isWithin_25 (v := 0) rfl ?_
      refine k_istore hq dX4_isWithin_26 (by decide) (ls' := [(9, .int 0), (7, .long 0), (5, .long 0), (0, .ref l0), (2, .int l2), (3, .ref r1), (4, .int l4)]) rfl ?_
      exact k_sub [3, 4, 5, 6, 2, 1, 0] rfl (Q_X4_isWithin_28 hq he N k9 hk9 l0 l2 r1 l4 0 0 0 h)
theorem Q_X4_isWithin_9 {q : eT} {r0 : Int32} {h0 : eH} (hq : e_B q yX4_isWithin.cls cX4_isWithin 10 4 85 (some .boolean) yX4_isWithin.name) (he : e_E q) (N : Nat) (l0 : Nat) (l2 : Int32) (l3 : Option Nat) (l4 : Int32) (h : eH) : e_K eI q r0 h0 9 [(0, .ref l0), (2, .int l2), (3, va_rf l3), (4, .int l4)] [] h (L_X4_isWithin_9 N l0 l2 l3 l4 h) :=
  k_loop (mk := (fun s => [(0, .ref s.1), (2, .int s.2.1), (3, va_rf s.2.2.1), (4, .int s.2.2.2.1)])) (hp := fun s => s.2.2.2.2) (fun k hk s => P_X4_isWithin_9b hq he N (fun l0 l2 l3 l4 h => k (l0, l2, l3, l4, h)) (fun l0 l2 l3 l4 h => hk (l0, l2, l3, l4, h)) s.1 s.2.1 s.2.2.1 s.2.2.2.1 s.2.2.2.2) N (l0, l2, l3, l4, h)
set_option maxRecDepth 100000 in
set_option maxHeartbeats 4000000 in
theorem P_X4_isWithin_0 {q : eT} {r0 : Int32} {h0 : eH} (hq : e_B q yX4_isWithin.cls cX4_isWithin 10 4 85 (some .boolean) yX4_isWithin.name) (he : e_E q) (N : Nat) (l0 : Nat) (l1 : Int32) (l2 : Int32) (h : eH) : e_K eI q r0 h0 0 [(0, .ref l0), (1, .int l1), (2, .int l2)] [] h (F_X4_isWithin N l0 l1 l2 h) := by
  unfold F_X4_isWithin
  refine k_aload_n hq dX4_isWithin_0 0 rfl ?_
  refine k_iload_n hq dX4_isWithin_1 1 rfl ?_
  refine k_callV hq (na := 1) (As := [.int l1]) (st := []) 4 (C := RX4) (T := TX4) rfl (con_X4_replicaOf _ _ _ _ l0 l1) tw_537 tw_54 tw_851 tw_535 tw_536 ⟨by decide, by decide, by decide +kernel⟩ rfl (by decide) rfl (Nat.le_of_ble_eq_true rfl) dX4_isWithin_2 fun v1 h2 => ?_
  refine k_qstore_n hq dX4_isWithin_5 rfl (by decide) (ls' := [(3, va_rf v1), (0, .ref l0), (1, .int l1), (2, .int l2)]) rfl ?_
  refine k_iconst hq dX4_isWithin_6 (v := 0) rfl ?_
  refine k_istore hq dX4_isWithin_7 (by decide) (ls' := [(4, .int 0), (3, va_rf v1), (0, .ref l0), (1, .int l1), (2, .int l2)]) (by simp [e_cat]) ?_
  exact k_sub [2, 4, 1, 0] rfl (Q_X4_isWithin_9 hq he N l0 l2 v1 0 h2)
theorem con_X4_isWithin (l : Launch) (G : eG) (B0 n : Nat) (N : Nat) (l0 : Nat) (l1 : Int32) (l2 : Int32) : e_C eI l G B0 n yX4_isWithin cX4_isWithin 10 (some .boolean) 4 85 [.ref l0, .int l1, .int l2] (F_X4_isWithin N l0 l1 l2) := by
  refine e_mk (by decide) (Nat.le_of_ble_eq_true rfl) fun q r0 h0 h hq he e1 e2 e3 e4 => ?_
  subst e1; subst e2; subst e3; subst e4
  exact P_X4_isWithin_0 hq he N l0 l1 l2 h
set_option maxRecDepth 100000 in
set_option maxHeartbeats 4000000 in
theorem P_X11_bit_0 {q : eT} {r0 : Int32} {h0 : eH} (hq : e_B q yX11_bit.cls cX11_bit 1 0 0 (some .int) yX11_bit.name) (he : e_E q) (l0 : Int32) (h : eH) : e_K eI q r0 h0 0 [(0, .int l0)] [] h (F_X11_bit l0 h) := by
  unfold F_X11_bit
  refine k_iload_n hq dX11_bit_0 0 rfl ?_
  refine k_if_eq hq (tgt := 8) dX11_bit_1 (by decide) (fun _ => ?_) (fun _ => ?_)
  · refine k_iconst hq dX11_bit_8 (v := 0) rfl ?_
    exact k_iret hq dX11_bit_9 he
  · refine k_iconst hq dX11_bit_4 (v := 1) rfl ?_
    refine k_goto hq (tgt := 9) dX11_bit_5 (by decide) ?_
    exact k_iret hq dX11_bit_9 he
theorem con_X11_bit (l : Launch) (G : eG) (B0 n : Nat) (l0 : Int32) : e_C eI l G B0 n yX11_bit cX11_bit 1 (some .int) 0 0 [.int l0] (F_X11_bit l0) := by
  refine e_mk (by decide) (Nat.le_of_ble_eq_true rfl) fun q r0 h0 h hq he e1 e2 e3 e4 => ?_
  subst e1; subst e2; subst e3; subst e4
  exact P_X11_bit_0 hq he l0 h
set_option maxRecDepth 100000 in
set_option maxHeartbeats 4000000 in
theorem P_X2_lookAt_31b {q : eT} {r0 : Unit} {h0 : eH} (hq : e_B q yX2_lookAt.cls cX2_lookAt 5 5 114 none yX2_lookAt.name) (he : e_E q) (N : Nat) (k11 : Nat → Nat → Int32 → eH → Option (Unit × eH)) (k31 : Nat → Nat → Int32 → Int32 → eH → Option (Unit × eH)) (hk11 : ∀ (l0 : Nat) (l1 : Nat) (l3 : Int32) h, e_K eV q r0 h0 11 [(0, .ref l0), (1, .ref l1), (3, .int l3)] [] h (k11 l0 l1 l3 h)) (hk31 : ∀ (l0 : Nat) (l1 : Nat) (l3 : Int32) (l4 : Int32) h, e_K eV q r0 h0 31 [(0, .ref l0), (1, .ref l1), (3, .int l3), (4, .int l4)] [] h (k31 l0 l1 l3 l4 h)) (l0 : Nat) (l1 : Nat) (l3 : Int32) (l4 : Int32) (h : eH) : e_K eV q r0 h0 31 [(0, .ref l0), (1, .ref l1), (3, .int l3), (4, .int l4)] [] h (F_X2_lookAt_31b N k11 k31 l0 l1 l3 l4 h) := by
  unfold F_X2_lookAt_31b
  refine k_iload hq dX2_lookAt_31 3 rfl ?_
  refine k_aload_n hq dX2_lookAt_33 0 rfl ?_
  refine k_gi hq (C := RX2) (T := TX2) 2 1 rfl (by decide) (lay_X2 1 (by decide)) tw_179 dX2_lookAt_34 fun v1 => ?_
  refine k_icmp_ge hq (tgt := 68) dX2_lookAt_37 (by decide) (fun _ => ?_) (fun _ => ?_)
  · refine k_iinc hq dX2_lookAt_68 2 rfl (v := l3 + 1) rfl (by decide) (ls' := [(3, .int (l3 + 1)), (0, .ref l0), (1, .ref l1), (4, .int l4)]) rfl ?_
    refine k_goto hq (tgt := 11) dX2_lookAt_71 (by decide) ?_
    exact k_sub [1, 2, 0] rfl (hk11 l0 l1 (l3 + 1) h)
  · refine k_aload_n hq dX2_lookAt_40 0 rfl ?_
    refine k_gr hq (C := RX2) (T := TX2) 2 0 rfl (by decide) (lay_X2 0 (by decide)) tw_178 dX2_lookAt_41 fun v2 => ?_
    refine k_iload_n hq dX2_lookAt_44 2 rfl ?_
    refine k_dup2_11 hq dX2_lookAt_45 rfl rfl ?_
    refine k_iald hq dX2_lookAt_46 fun v3 => ?_
    refine k_aload_n hq dX2_lookAt_47 1 rfl ?_
    refine k_iload hq dX2_lookAt_48 3 rfl ?_
    refine k_iload_n hq dX2_lookAt_50 2 rfl ?_
    refine k_callV hq (na := 2) (As := [.int l4, .int l3]) (st := [.int v3, .int l3, .ref v2]) 4 (C := RX4) (T := TX4) rfl (con_X4_isWithin _ _ _ _ N l1 l4 l3) tw_850 tw_54 tw_847 tw_848 tw_849 ⟨by decide, by decide, by decide +kernel⟩ rfl (by decide) rfl (Nat.le_of_ble_eq_true rfl) dX2_lookAt_51 fun v4 h5 => ?_
    refine k_callSN hq (na := 1) (As := [.int v4]) (st := [.int v3, .int l3, .ref v2]) (con_X11_bit _ _ _ _ v4) tw_793 tw_48 tw_866 tw_792 ⟨by decide, by decide, by decide +kernel⟩ rfl (by decide) rfl (Nat.le_of_ble_eq_true rfl) dX2_lookAt_54 fun v6 h7 => ?_
    refine k_iload hq dX2_lookAt_57 3 rfl ?_
    refine k_ishl hq dX2_lookAt_59 ?_
    refine k_ior hq dX2_lookAt_60 ?_
    refine k_iast hq dX2_lookAt_61 fun h8 => ?_
    refine k_iinc hq dX2_lookAt_62 3 rfl (v := l4 + 1) rfl (by decide) (ls' := [(4, .int (l4 + 1)), (0, .ref l0), (1, .ref l1), (3, .int l3)]) rfl ?_
    refine k_goto hq (tgt := 31) dX2_lookAt_65 (by decide) ?_
    exact k_sub [1, 2, 3, 0] rfl (hk31 l0 l1 l3 (l4 + 1) h8)
theorem Q_X2_lookAt_31 {q : eT} {r0 : Unit} {h0 : eH} (hq : e_B q yX2_lookAt.cls cX2_lookAt 5 5 114 none yX2_lookAt.name) (he : e_E q) (N : Nat) (k11 : Nat → Nat → Int32 → eH → Option (Unit × eH)) (hk11 : ∀ (l0 : Nat) (l1 : Nat) (l3 : Int32) h, e_K eV q r0 h0 11 [(0, .ref l0), (1, .ref l1), (3, .int l3)] [] h (k11 l0 l1 l3 h)) (l0 : Nat) (l1 : Nat) (l3 : Int32) (l4 : Int32) (h : eH) : e_K eV q r0 h0 31 [(0, .ref l0), (1, .ref l1), (3, .int l3), (4, .int l4)] [] h (L_X2_lookAt_31 N k11 l0 l1 l3 l4 h) :=
  k_loop (mk := (fun s => [(0, .ref s.1), (1, .ref s.2.1), (3, .int s.2.2.1), (4, .int s.2.2.2.1)])) (hp := fun s => s.2.2.2.2) (fun k hk s => P_X2_lookAt_31b hq he N k11 (fun l0 l1 l3 l4 h => k (l0, l1, l3, l4, h)) hk11 (fun l0 l1 l3 l4 h => hk (l0, l1, l3, l4, h)) s.1 s.2.1 s.2.2.1 s.2.2.2.1 s.2.2.2.2) N (l0, l1, l3, l4, h)
set_option maxRecDepth 100000 in
set_option maxHeartbeats 4000000 in
theorem P_X2_lookAt_81b {q : eT} {r0 : Unit} {h0 : eH} (hq : e_B q yX2_lookAt.cls cX2_lookAt 5 5 114 none yX2_lookAt.name) (he : e_E q) (N : Nat) (k81 : Nat → Int32 → eH → Option (Unit × eH)) (hk81 : ∀ (l0 : Nat) (l3 : Int32) h, e_K eV q r0 h0 81 [(0, .ref l0), (3, .int l3)] [] h (k81 l0 l3 h)) (l0 : Nat) (l3 : Int32) (h : eH) : e_K eV q r0 h0 81 [(0, .ref l0), (3, .int l3)] [] h (F_X2_lookAt_81b N k81 l0 l3 h) := by
  unfold F_X2_lookAt_81b
  refine k_iload_n hq dX2_lookAt_81 1 rfl ?_
  refine k_aload_n hq dX2_lookAt_82 0 rfl ?_
  refine k_gi hq (C := RX2) (T := TX2) 2 1 rfl (by decide) (lay_X2 1 (by decide)) tw_179 dX2_lookAt_83 fun v1 => ?_
  refine k_icmp_ge hq (tgt := 116) dX2_lookAt_86 (by decide) (fun _ => ?_) (fun _ => ?_)
  · exact k_vret hq dX2_lookAt_116 he
  · refine k_aload_n hq dX2_lookAt_89 0 rfl ?_
    refine k_dup hq dX2_lookAt_90 rfl ?_
    refine k_gi hq (C := RX2) (T := TX2) 2 2 rfl (by decide) (lay_X2 2 (by decide)) tw_180 dX2_lookAt_91 fun v2 => ?_
    refine k_aload_n hq dX2_lookAt_94 0 rfl ?_
    refine k_gr hq (C := RX2) (T := TX2) 2 0 rfl (by decide) (lay_X2 0 (by decide)) tw_178 dX2_lookAt_95 fun v3 => ?_
    refine k_iconst hq dX2_lookAt_98 (v := 1) rfl ?_
    refine k_iload_n hq dX2_lookAt_99 1 rfl ?_
    refine k_ishl hq dX2_lookAt_100 ?_
    refine k_iald hq dX2_lookAt_101 fun v4 => ?_
    refine k_iconst hq dX2_lookAt_102 (v := 4) rfl ?_
    refine k_iload_n hq dX2_lookAt_103 1 rfl ?_
    refine k_imul hq dX2_lookAt_104 ?_
    refine k_ishl hq dX2_lookAt_105 ?_
    refine k_ior hq dX2_lookAt_106 ?_
    refine k_p hq (C := RX2) (T := TX2) 2 2 rfl (by decide) lay_X2 tyX2 tyX2_ok nmX2 tw_180 rfl rfl rfl dX2_lookAt_107 fun h5 => ?_
    refine k_iinc hq dX2_lookAt_110 1 rfl (v := l3 + 1) rfl (by decide) (ls' := [(3, .int (l3 + 1)), (0, .ref l0)]) rfl ?_
    refine k_goto hq (tgt := 81) dX2_lookAt_113 (by decide) ?_
    exact k_sub [1, 0] rfl (hk81 l0 (l3 + 1) h5)
theorem Q_X2_lookAt_81 {q : eT} {r0 : Unit} {h0 : eH} (hq : e_B q yX2_lookAt.cls cX2_lookAt 5 5 114 none yX2_lookAt.name) (he : e_E q) (N : Nat) (l0 : Nat) (l3 : Int32) (h : eH) : e_K eV q r0 h0 81 [(0, .ref l0), (3, .int l3)] [] h (L_X2_lookAt_81 N l0 l3 h) :=
  k_loop (mk := (fun s => [(0, .ref s.1), (3, .int s.2.1)])) (hp := fun s => s.2.2) (fun k hk s => P_X2_lookAt_81b hq he N (fun l0 l3 h => k (l0, l3, h)) (fun l0 l3 h => hk (l0, l3, h)) s.1 s.2.1 s.2.2) N (l0, l3, h)
set_option maxRecDepth 100000 in
set_option maxHeartbeats 4000000 in
theorem P_X2_lookAt_11b {q : eT} {r0 : Unit} {h0 : eH} (hq : e_B q yX2_lookAt.cls cX2_lookAt 5 5 114 none yX2_lookAt.name) (he : e_E q) (N : Nat) (k11 : Nat → Nat → Int32 → eH → Option (Unit × eH)) (hk11 : ∀ (l0 : Nat) (l1 : Nat) (l3 : Int32) h, e_K eV q r0 h0 11 [(0, .ref l0), (1, .ref l1), (3, .int l3)] [] h (k11 l0 l1 l3 h)) (l0 : Nat) (l1 : Nat) (l3 : Int32) (h : eH) : e_K eV q r0 h0 11 [(0, .ref l0), (1, .ref l1), (3, .int l3)] [] h (F_X2_lookAt_11b N k11 l0 l1 l3 h) := by
  unfold F_X2_lookAt_11b
  refine k_iload_n hq dX2_lookAt_11 2 rfl ?_
  refine k_iconst hq dX2_lookAt_12 (v := 1) rfl ?_
  refine k_aload_n hq dX2_lookAt_13 0 rfl ?_
  refine k_gi hq (C := RX2) (T := TX2) 2 1 rfl (by decide) (lay_X2 1 (by decide)) tw_179 dX2_lookAt_14 fun v1 => ?_
  refine k_ishl hq dX2_lookAt_17 ?_
  refine k_icmp_ge hq (tgt := 74) dX2_lookAt_18 (by decide) (fun _ => ?_) (fun _ => ?_)
  · refine k_aload_n hq dX2_lookAt_74 0 rfl ?_
    refine k_iconst hq dX2_lookAt_75 (v := 0) rfl ?_
    refine k_p hq (C := RX2) (T := TX2) 2 2 rfl (by decide) lay_X2 tyX2 tyX2_ok nmX2 tw_180 rfl rfl rfl dX2_lookAt_76 fun h2 => ?_
    refine k_iconst hq dX2_lookAt_79 (v := 0) rfl ?_
    refine k_istore_n hq dX2_lookAt_80 rfl (by decide) (ls' := [(3, .int 0), (0, .ref l0), (1, .ref l1)]) rfl ?_
    exact k_sub [1, 0] rfl (Q_X2_lookAt_81 hq he N l0 0 h2)
  · refine k_aload_n hq dX2_lookAt_21 0 rfl ?_
    refine k_gr hq (C := RX2) (T := TX2) 2 0 rfl (by decide) (lay_X2 0 (by decide)) tw_178 dX2_lookAt_22 fun v3 => ?_
    refine k_iload_n hq dX2_lookAt_25 2 rfl ?_
    refine k_iconst hq dX2_lookAt_26 (v := 0) rfl ?_
    refine k_iast hq dX2_lookAt_27 fun h4 => ?_
    refine k_iconst hq dX2_lookAt_28 (v := 0) rfl ?_
    refine k_istore hq dX2_lookAt_29 (by decide) (ls' := [(4, .int 0), (0, .ref l0), (1, .ref l1), (3, .int l3)]) rfl ?_
    exact k_sub [1, 2, 3, 0] rfl (Q_X2_lookAt_31 hq he N k11 hk11 l0 l1 l3 0 h4)
theorem Q_X2_lookAt_11 {q : eT} {r0 : Unit} {h0 : eH} (hq : e_B q yX2_lookAt.cls cX2_lookAt 5 5 114 none yX2_lookAt.name) (he : e_E q) (N : Nat) (l0 : Nat) (l1 : Nat) (l3 : Int32) (h : eH) : e_K eV q r0 h0 11 [(0, .ref l0), (1, .ref l1), (3, .int l3)] [] h (L_X2_lookAt_11 N l0 l1 l3 h) :=
  k_loop (mk := (fun s => [(0, .ref s.1), (1, .ref s.2.1), (3, .int s.2.2.1)])) (hp := fun s => s.2.2.2) (fun k hk s => P_X2_lookAt_11b hq he N (fun l0 l1 l3 h => k (l0, l1, l3, h)) (fun l0 l1 l3 h => hk (l0, l1, l3, h)) s.1 s.2.1 s.2.2.1 s.2.2.2) N (l0, l1, l3, h)
set_option maxRecDepth 100000 in
set_option maxHeartbeats 4000000 in
theorem P_X2_lookAt_0 {q : eT} {r0 : Unit} {h0 : eH} (hq : e_B q yX2_lookAt.cls cX2_lookAt 5 5 114 none yX2_lookAt.name) (he : e_E q) (N : Nat) (l0 : Nat) (l1 : Nat) (l2 : Int32) (h : eH) : e_K eV q r0 h0 0 [(0, .ref l0), (1, .ref l1), (2, .int l2)] [] h (F_X2_lookAt N l0 l1 l2 h) := by
  unfold F_X2_lookAt
  refine k_aload_n hq dX2_lookAt_0 0 rfl ?_
  refine k_iload_n hq dX2_lookAt_1 2 rfl ?_
  refine k_iconst hq dX2_lookAt_2 (v := 4) rfl ?_
  refine k_mmin hq tw_846 tw_397 tw_60 tw_398 (by decide) (Nat.le_of_ble_eq_true rfl) dX2_lookAt_3 ?_
  refine k_p hq (C := RX2) (T := TX2) 2 1 rfl (by decide) lay_X2 tyX2 tyX2_ok nmX2 tw_179 rfl rfl rfl dX2_lookAt_6 fun h1 => ?_
  refine k_iconst hq dX2_lookAt_9 (v := 0) rfl ?_
  refine k_istore_n hq dX2_lookAt_10 rfl (by decide) (ls' := [(3, .int 0), (0, .ref l0), (1, .ref l1), (2, .int l2)]) rfl ?_
  exact k_sub [1, 2, 0] rfl (Q_X2_lookAt_11 hq he N l0 l1 0 h1)
theorem con_X2_lookAt (l : Launch) (G : eG) (B0 n : Nat) (N : Nat) (l0 : Nat) (l1 : Nat) (l2 : Int32) : e_C eV l G B0 n yX2_lookAt cX2_lookAt 5 none 5 114 [.ref l0, .ref l1, .int l2] (F_X2_lookAt N l0 l1 l2) := by
  refine e_mk (by decide) (Nat.le_of_ble_eq_true rfl) fun q r0 h0 h hq he e1 e2 e3 e4 => ?_
  subst e1; subst e2; subst e3; subst e4
  exact P_X2_lookAt_0 hq he N l0 l1 l2 h
set_option maxRecDepth 100000 in
set_option maxHeartbeats 4000000 in
theorem P_X2_setOf_0 {q : eT} {r0 : Int32} {h0 : eH} (hq : e_B q yX2_setOf.cls cX2_setOf 2 0 0 (some .int) yX2_setOf.name) (he : e_E q) (l0 : Int32) (l1 : Int32) (h : eH) : e_K eI q r0 h0 0 [(0, .int l0), (1, .int l1)] [] h (F_X2_setOf l0 l1 h) := by
  unfold F_X2_setOf
  refine k_iload_n hq dX2_setOf_0 0 rfl ?_
  refine k_iconst hq dX2_setOf_1 (v := 4) rfl ?_
  refine k_iload_n hq dX2_setOf_2 1 rfl ?_
  refine k_imul hq dX2_setOf_3 ?_
  refine k_ishr hq dX2_setOf_4 ?_
  refine k_bipush hq dX2_setOf_5 (v := 15) rfl ?_
  refine k_iand hq dX2_setOf_7 ?_
  exact k_iret hq dX2_setOf_8 he
theorem con_X2_setOf (l : Launch) (G : eG) (B0 n : Nat) (l0 : Int32) (l1 : Int32) : e_C eI l G B0 n yX2_setOf cX2_setOf 2 (some .int) 0 0 [.int l0, .int l1] (F_X2_setOf l0 l1) := by
  refine e_mk (by decide) (Nat.le_of_ble_eq_true rfl) fun q r0 h0 h hq he e1 e2 e3 e4 => ?_
  subst e1; subst e2; subst e3; subst e4
  exact P_X2_setOf_0 hq he l0 l1 h
