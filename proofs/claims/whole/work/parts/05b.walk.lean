set_option maxRecDepth 100000 in
set_option maxHeartbeats 4000000 in
theorem P_X8_covered_0 {q : eT} {r0 : Int64} {h0 : eH} (hq : e_B q yX8_covered.cls cX8_covered 2 2 42 (some .long) yX8_covered.name) (l0 : Nat) (l1 : Int32) (h : eH) : e_K eL q r0 h0 0 [(0, .ref l0), (1, .int l1)] [] h (F_X8_covered l0 l1 h) := by
  unfold F_X8_covered
  refine k_aload_n hq dX8_covered_0 0 rfl ?_
  refine k_gi hq (C := RX8) (T := TX8) 8 3 rfl (by decide) (lay_X8 3 (by decide)) tw_273 dX8_covered_1 fun v1 => ?_
  refine k_iload_n hq dX8_covered_4 1 rfl ?_
  refine k_callS hq (na := 2) (As := [.int v1, .int l1]) (st := []) (con_X1_covered _ _ _ _ v1 l1) tw_609 tw_56 tw_856 tw_608 ⟨by decide, by decide, by decide +kernel⟩ rfl (by decide) rfl (Nat.le_of_ble_eq_true rfl) dX8_covered_5 fun v2 h3 => ?_
  exact k_lret hq dX8_covered_8
theorem con_X8_covered (l : Launch) (G : eG) (B0 n : Nat) (l0 : Nat) (l1 : Int32) : e_C eL l G B0 n yX8_covered cX8_covered 2 (some .long) 2 42 [.ref l0, .int l1] (F_X8_covered l0 l1) := by
  refine e_mk (by decide) (Nat.le_of_ble_eq_true rfl) fun q r0 h0 h hq e1 e2 e3 e4 => ?_
  subst e1; subst e2; subst e3; subst e4
  exact P_X8_covered_0 hq l0 l1 h
set_option maxRecDepth 100000 in
set_option maxHeartbeats 4000000 in
theorem P_X8_gone_0 {q : eT} {r0 : Int64} {h0 : eH} (hq : e_B q yX8_gone.cls cX8_gone 2 3 64 (some .long) yX8_gone.name) (l0 : Nat) (l1 : Int32) (h : eH) : e_K eL q r0 h0 0 [(0, .ref l0), (1, .int l1)] [] h (F_X8_gone l0 l1 h) := by
  unfold F_X8_gone
  refine k_aload_n hq dX8_gone_0 0 rfl ?_
  refine k_gr hq (C := RX8) (T := TX8) 8 2 rfl (by decide) (lay_X8 2 (by decide)) tw_270 dX8_gone_1 fun v1 => ?_
  refine k_aload_n hq dX8_gone_4 0 rfl ?_
  refine k_gi hq (C := RX8) (T := TX8) 8 3 rfl (by decide) (lay_X8 3 (by decide)) tw_273 dX8_gone_5 fun v2 => ?_
  refine k_iload_n hq dX8_gone_8 1 rfl ?_
  refine k_callV hq (na := 2) (As := [.int v2, .int l1]) (st := []) 1 (C := RX1) (T := TX1) rfl (con_X1_gone _ _ _ _ v1 v2 l1) tw_864 tw_56 tw_861 tw_862 tw_863 ⟨by decide, by decide, by decide +kernel⟩ rfl (by decide) rfl (Nat.le_of_ble_eq_true rfl) dX8_gone_9 fun v3 h4 => ?_
  exact k_lret hq dX8_gone_12
theorem con_X8_gone (l : Launch) (G : eG) (B0 n : Nat) (l0 : Nat) (l1 : Int32) : e_C eL l G B0 n yX8_gone cX8_gone 2 (some .long) 3 64 [.ref l0, .int l1] (F_X8_gone l0 l1) := by
  refine e_mk (by decide) (Nat.le_of_ble_eq_true rfl) fun q r0 h0 h hq e1 e2 e3 e4 => ?_
  subst e1; subst e2; subst e3; subst e4
  exact P_X8_gone_0 hq l0 l1 h
set_option maxRecDepth 100000 in
set_option maxHeartbeats 4000000 in
theorem P_X3_beginAnew_0 {q : eT} {r0 : Unit} {h0 : eH} (hq : e_B q yX3_beginAnew.cls cX3_beginAnew 2 1 21 none yX3_beginAnew.name) (N : Nat) (l0 : Nat) (l1 : Int32) (h : eH) : e_K eV q r0 h0 0 [(0, .ref l0), (1, .int l1)] [] h (F_X3_beginAnew N l0 l1 h) := by
  unfold F_X3_beginAnew
  refine k_aload_n hq dX3_beginAnew_0 0 rfl ?_
  refine k_iload_n hq dX3_beginAnew_1 1 rfl ?_
  refine k_p hq (C := RX3) (T := TX3) 3 8 rfl (by decide) lay_X3 tyX3 tyX3_ok nmX3 tw_227 rfl rfl rfl dX3_beginAnew_2 fun h1 => ?_
  refine k_aload_n hq dX3_beginAnew_5 0 rfl ?_
  refine k_iconst hq dX3_beginAnew_6 (v := 0) rfl ?_
  refine k_p hq (C := RX3) (T := TX3) 3 9 rfl (by decide) lay_X3 tyX3 tyX3_ok nmX3 tw_230 rfl rfl rfl dX3_beginAnew_7 fun h2 => ?_
  refine k_aload_n hq dX3_beginAnew_10 0 rfl ?_
  refine k_iconst hq dX3_beginAnew_11 (v := 0) rfl ?_
  refine k_p hq (C := RX3) (T := TX3) 3 10 rfl (by decide) lay_X3 tyX3 tyX3_ok nmX3 tw_232 rfl rfl rfl dX3_beginAnew_12 fun h3 => ?_
  refine k_aload_n hq dX3_beginAnew_15 0 rfl ?_
  refine k_gr hq (C := RX3) (T := TX3) 3 4 rfl (by decide) (lay_X3 4 (by decide)) tw_214 dX3_beginAnew_16 fun v4 => ?_
  refine k_callV hq (na := 0) (As := []) (st := []) 1 (C := RX1) (T := TX1) rfl (con_X1_empty _ _ _ _ N v4) tw_499 tw_56 tw_496 tw_497 tw_498 ⟨by decide, by decide, by decide +kernel⟩ rfl (by decide) rfl (Nat.le_of_ble_eq_true rfl) dX3_beginAnew_19 fun v5 h6 => ?_
  refine k_aload_n hq dX3_beginAnew_22 0 rfl ?_
  refine k_gr hq (C := RX3) (T := TX3) 3 5 rfl (by decide) (lay_X3 5 (by decide)) tw_218 dX3_beginAnew_23 fun v7 => ?_
  refine k_callV hq (na := 0) (As := []) (st := []) 1 (C := RX1) (T := TX1) rfl (con_X1_empty _ _ _ _ N v7) tw_499 tw_56 tw_496 tw_497 tw_498 ⟨by decide, by decide, by decide +kernel⟩ rfl (by decide) rfl (Nat.le_of_ble_eq_true rfl) dX3_beginAnew_26 fun v8 h9 => ?_
  refine k_aload_n hq dX3_beginAnew_29 0 rfl ?_
  refine k_gr hq (C := RX3) (T := TX3) 3 6 rfl (by decide) (lay_X3 6 (by decide)) tw_221 dX3_beginAnew_30 fun v10 => ?_
  refine k_callV hq (na := 0) (As := []) (st := []) 1 (C := RX1) (T := TX1) rfl (con_X1_empty _ _ _ _ N v10) tw_499 tw_56 tw_496 tw_497 tw_498 ⟨by decide, by decide, by decide +kernel⟩ rfl (by decide) rfl (Nat.le_of_ble_eq_true rfl) dX3_beginAnew_33 fun v11 h12 => ?_
  refine k_aload_n hq dX3_beginAnew_36 0 rfl ?_
  refine k_gr hq (C := RX3) (T := TX3) 3 7 rfl (by decide) (lay_X3 7 (by decide)) tw_224 dX3_beginAnew_37 fun v13 => ?_
  refine k_callV hq (na := 0) (As := []) (st := []) 1 (C := RX1) (T := TX1) rfl (con_X1_empty _ _ _ _ N v13) tw_499 tw_56 tw_496 tw_497 tw_498 ⟨by decide, by decide, by decide +kernel⟩ rfl (by decide) rfl (Nat.le_of_ble_eq_true rfl) dX3_beginAnew_40 fun v14 h15 => ?_
  exact k_vret hq dX3_beginAnew_43
theorem con_X3_beginAnew (l : Launch) (G : eG) (B0 n : Nat) (N : Nat) (l0 : Nat) (l1 : Int32) : e_C eV l G B0 n yX3_beginAnew cX3_beginAnew 2 none 1 21 [.ref l0, .int l1] (F_X3_beginAnew N l0 l1) := by
  refine e_mk (by decide) (Nat.le_of_ble_eq_true rfl) fun q r0 h0 h hq e1 e2 e3 e4 => ?_
  subst e1; subst e2; subst e3; subst e4
  exact P_X3_beginAnew_0 hq N l0 l1 h
set_option maxRecDepth 100000 in
set_option maxHeartbeats 4000000 in
theorem P_X3_has_0 {q : eT} {r0 : Int32} {h0 : eH} (hq : e_B q yX3_has.cls cX3_has 2 1 21 (some .boolean) yX3_has.name) (l0 : Nat) (l1 : Int32) (h : eH) : e_K eI q r0 h0 0 [(0, .ref l0), (1, .int l1)] [] h (F_X3_has l0 l1 h) := by
  unfold F_X3_has
  refine k_iload_n hq dX3_has_0 1 rfl ?_
  refine k_callS hq (na := 1) (As := [.int l1]) (st := []) (con_X1_isDot _ _ _ _ l1) tw_566 tw_56 tw_564 tw_565 ⟨by decide, by decide, by decide +kernel⟩ rfl (by decide) rfl (Nat.le_of_ble_eq_true rfl) dX3_has_1 fun v1 h2 => ?_
  refine k_if_eq hq (tgt := 29) dX3_has_4 (by decide) (fun _ => ?_) (fun _ => ?_)
  · refine k_iconst hq dX3_has_29 (v := 0) rfl ?_
    exact k_zret hq dX3_has_30
  · refine k_aload_n hq dX3_has_7 0 rfl ?_
    refine k_gi hq (C := RX3) (T := TX3) 3 9 rfl (by decide) (lay_X3 9 (by decide)) tw_230 dX3_has_8 fun v3 => ?_
    refine k_iload_n hq dX3_has_11 1 rfl ?_
    refine k_callS hq (na := 1) (As := [.int l1]) (st := [.int v3]) (con_X1_siteOf _ _ _ _ l1) tw_569 tw_56 tw_567 tw_568 ⟨by decide, by decide, by decide +kernel⟩ rfl (by decide) rfl (Nat.le_of_ble_eq_true rfl) dX3_has_12 fun v4 h5 => ?_
    refine k_callS hq (na := 2) (As := [.int v3, .int v4]) (st := []) (con_X9_number _ _ _ _ v3 v4) tw_547 tw_65 tw_552 tw_546 ⟨by decide, by decide, by decide +kernel⟩ rfl (by decide) rfl (Nat.le_of_ble_eq_true rfl) dX3_has_15 fun v6 h7 => ?_
    refine k_iload_n hq dX3_has_18 1 rfl ?_
    refine k_callS hq (na := 1) (As := [.int l1]) (st := [.int v6]) (con_X1_numberOf _ _ _ _ l1) tw_572 tw_56 tw_570 tw_571 ⟨by decide, by decide, by decide +kernel⟩ rfl (by decide) rfl (Nat.le_of_ble_eq_true rfl) dX3_has_19 fun v8 h9 => ?_
    refine k_icmp_lt hq (tgt := 29) dX3_has_22 (by decide) (fun _ => ?_) (fun _ => ?_)
    · refine k_iconst hq dX3_has_29 (v := 0) rfl ?_
      exact k_zret hq dX3_has_30
    · refine k_iconst hq dX3_has_25 (v := 1) rfl ?_
      refine k_goto hq (tgt := 30) dX3_has_26 (by decide) ?_
      exact k_zret hq dX3_has_30
theorem con_X3_has (l : Launch) (G : eG) (B0 n : Nat) (l0 : Nat) (l1 : Int32) : e_C eI l G B0 n yX3_has cX3_has 2 (some .boolean) 1 21 [.ref l0, .int l1] (F_X3_has l0 l1) := by
  refine e_mk (by decide) (Nat.le_of_ble_eq_true rfl) fun q r0 h0 h hq e1 e2 e3 e4 => ?_
  subst e1; subst e2; subst e3; subst e4
  exact P_X3_has_0 hq l0 l1 h
set_option maxRecDepth 100000 in
set_option maxHeartbeats 4000000 in
theorem P_X3_note_0 {q : eT} {r0 : Unit} {h0 : eH} (hq : e_B q yX3_note.cls cX3_note 7 1 22 none yX3_note.name) (l0 : Nat) (l1 : Int32) (l2 : Int64) (l4 : Int32) (l5 : Int32) (l6 : Int32) (h : eH) : e_K eV q r0 h0 0 [(0, .ref l0), (1, .int l1), (2, .long l2), (4, .int l4), (5, .int l5), (6, .int l6)] [] h (F_X3_note l0 l1 l2 l4 l5 l6 h) := by
  unfold F_X3_note
  refine k_iload_n hq dX3_note_0 1 rfl ?_
  refine k_callS hq (na := 1) (As := [.int l1]) (st := []) (con_X1_isDot _ _ _ _ l1) tw_566 tw_56 tw_564 tw_565 ⟨by decide, by decide, by decide +kernel⟩ rfl (by decide) rfl (Nat.le_of_ble_eq_true rfl) dX3_note_1 fun v1 h2 => ?_
  refine k_if_eq hq (tgt := 57) dX3_note_4 (by decide) (fun _ => ?_) (fun _ => ?_)
  · exact k_vret hq dX3_note_57
  · refine k_aload_n hq dX3_note_7 0 rfl ?_
    refine k_gr hq (C := RX3) (T := TX3) 3 0 rfl (by decide) (lay_X3 0 (by decide)) tw_210 dX3_note_8 fun v3 => ?_
    refine k_iload_n hq dX3_note_11 1 rfl ?_
    refine k_lload_n hq dX3_note_12 2 rfl ?_
    refine k_last hq dX3_note_13 fun h4 => ?_
    refine k_aload_n hq dX3_note_14 0 rfl ?_
    refine k_gr hq (C := RX3) (T := TX3) 3 1 rfl (by decide) (lay_X3 1 (by decide)) tw_211 dX3_note_15 fun v5 => ?_
    refine k_iload_n hq dX3_note_18 1 rfl ?_
    refine k_iload hq dX3_note_19 3 rfl ?_
    refine k_iast hq dX3_note_21 fun h6 => ?_
    refine k_aload_n hq dX3_note_22 0 rfl ?_
    refine k_gr hq (C := RX3) (T := TX3) 3 2 rfl (by decide) (lay_X3 2 (by decide)) tw_212 dX3_note_23 fun v7 => ?_
    refine k_iload_n hq dX3_note_26 1 rfl ?_
    refine k_iload hq dX3_note_27 4 rfl ?_
    refine k_iast hq dX3_note_29 fun h8 => ?_
    refine k_aload_n hq dX3_note_30 0 rfl ?_
    refine k_gr hq (C := RX3) (T := TX3) 3 3 rfl (by decide) (lay_X3 3 (by decide)) tw_213 dX3_note_31 fun v9 => ?_
    refine k_iload_n hq dX3_note_34 1 rfl ?_
    refine k_iload hq dX3_note_35 5 rfl ?_
    refine k_iast hq dX3_note_37 fun h10 => ?_
    refine k_aload_n hq dX3_note_38 0 rfl ?_
    refine k_aload_n hq dX3_note_39 0 rfl ?_
    refine k_gi hq (C := RX3) (T := TX3) 3 9 rfl (by decide) (lay_X3 9 (by decide)) tw_230 dX3_note_40 fun v11 => ?_
    refine k_iload_n hq dX3_note_43 1 rfl ?_
    refine k_callS hq (na := 1) (As := [.int l1]) (st := [.int v11, .ref l0]) (con_X1_siteOf _ _ _ _ l1) tw_569 tw_56 tw_567 tw_568 ⟨by decide, by decide, by decide +kernel⟩ rfl (by decide) rfl (Nat.le_of_ble_eq_true rfl) dX3_note_44 fun v12 h13 => ?_
    refine k_iload_n hq dX3_note_47 1 rfl ?_
    refine k_callS hq (na := 1) (As := [.int l1]) (st := [.int v12, .int v11, .ref l0]) (con_X1_numberOf _ _ _ _ l1) tw_572 tw_56 tw_570 tw_571 ⟨by decide, by decide, by decide +kernel⟩ rfl (by decide) rfl (Nat.le_of_ble_eq_true rfl) dX3_note_48 fun v14 h15 => ?_
    refine k_callS hq (na := 3) (As := [.int v11, .int v12, .int v14]) (st := [.ref l0]) (con_X9_with _ _ _ _ v11 v12 v14) tw_575 tw_65 tw_573 tw_574 ⟨by decide, by decide, by decide +kernel⟩ rfl (by decide) rfl (Nat.le_of_ble_eq_true rfl) dX3_note_51 fun v16 h17 => ?_
    refine k_p hq (C := RX3) (T := TX3) 3 9 rfl (by decide) lay_X3 tyX3 tyX3_ok nmX3 tw_230 rfl rfl rfl dX3_note_54 fun h18 => ?_
    exact k_vret hq dX3_note_57
theorem con_X3_note (l : Launch) (G : eG) (B0 n : Nat) (l0 : Nat) (l1 : Int32) (l2 : Int64) (l4 : Int32) (l5 : Int32) (l6 : Int32) : e_C eV l G B0 n yX3_note cX3_note 7 none 1 22 [.ref l0, .int l1, .long l2, .int l4, .int l5, .int l6] (F_X3_note l0 l1 l2 l4 l5 l6) := by
  refine e_mk (by decide) (Nat.le_of_ble_eq_true rfl) fun q r0 h0 h hq e1 e2 e3 e4 => ?_
  subst e1; subst e2; subst e3; subst e4
  exact P_X3_note_0 hq l0 l1 l2 l4 l5 l6 h
set_option maxRecDepth 100000 in
set_option maxHeartbeats 4000000 in
theorem P_X3_valueOf_0 {q : eT} {r0 : Int64} {h0 : eH} (hq : e_B q yX3_valueOf.cls cX3_valueOf 2 2 42 (some .long) yX3_valueOf.name) (l0 : Nat) (l1 : Int32) (h : eH) : e_K eL q r0 h0 0 [(0, .ref l0), (1, .int l1)] [] h (F_X3_valueOf l0 l1 h) := by
  unfold F_X3_valueOf
  refine k_aload_n hq dX3_valueOf_0 0 rfl ?_
  refine k_iload_n hq dX3_valueOf_1 1 rfl ?_
  refine k_callV hq (na := 1) (As := [.int l1]) (st := []) 3 (C := RX3) (T := TX3) rfl (con_X3_has _ _ _ _ l0 l1) tw_563 tw_55 tw_560 tw_561 tw_562 ⟨by decide, by decide, by decide +kernel⟩ rfl (by decide) rfl (Nat.le_of_ble_eq_true rfl) dX3_valueOf_2 fun v1 h2 => ?_
  refine k_if_eq hq (tgt := 17) dX3_valueOf_5 (by decide) (fun _ => ?_) (fun _ => ?_)
  · refine k_lconst hq dX3_valueOf_17 (v := 0) rfl ?_
    exact k_lret hq dX3_valueOf_18
  · refine k_aload_n hq dX3_valueOf_8 0 rfl ?_
    refine k_gr hq (C := RX3) (T := TX3) 3 0 rfl (by decide) (lay_X3 0 (by decide)) tw_210 dX3_valueOf_9 fun v3 => ?_
    refine k_iload_n hq dX3_valueOf_12 1 rfl ?_
    refine k_lald hq dX3_valueOf_13 fun v4 => ?_
    refine k_goto hq (tgt := 18) dX3_valueOf_14 (by decide) ?_
    exact k_lret hq dX3_valueOf_18
theorem con_X3_valueOf (l : Launch) (G : eG) (B0 n : Nat) (l0 : Nat) (l1 : Int32) : e_C eL l G B0 n yX3_valueOf cX3_valueOf 2 (some .long) 2 42 [.ref l0, .int l1] (F_X3_valueOf l0 l1) := by
  refine e_mk (by decide) (Nat.le_of_ble_eq_true rfl) fun q r0 h0 h hq e1 e2 e3 e4 => ?_
  subst e1; subst e2; subst e3; subst e4
  exact P_X3_valueOf_0 hq l0 l1 h
set_option maxRecDepth 100000 in
set_option maxHeartbeats 4000000 in
theorem P_X3_stampOf_0 {q : eT} {r0 : Int32} {h0 : eH} (hq : e_B q yX3_stampOf.cls cX3_stampOf 2 2 42 (some .int) yX3_stampOf.name) (l0 : Nat) (l1 : Int32) (h : eH) : e_K eI q r0 h0 0 [(0, .ref l0), (1, .int l1)] [] h (F_X3_stampOf l0 l1 h) := by
  unfold F_X3_stampOf
  refine k_aload_n hq dX3_stampOf_0 0 rfl ?_
  refine k_iload_n hq dX3_stampOf_1 1 rfl ?_
  refine k_callV hq (na := 1) (As := [.int l1]) (st := []) 3 (C := RX3) (T := TX3) rfl (con_X3_has _ _ _ _ l0 l1) tw_563 tw_55 tw_560 tw_561 tw_562 ⟨by decide, by decide, by decide +kernel⟩ rfl (by decide) rfl (Nat.le_of_ble_eq_true rfl) dX3_stampOf_2 fun v1 h2 => ?_
  refine k_if_eq hq (tgt := 17) dX3_stampOf_5 (by decide) (fun _ => ?_) (fun _ => ?_)
  · refine k_iconst hq dX3_stampOf_17 (v := 0) rfl ?_
    exact k_iret hq dX3_stampOf_18
  · refine k_aload_n hq dX3_stampOf_8 0 rfl ?_
    refine k_gr hq (C := RX3) (T := TX3) 3 1 rfl (by decide) (lay_X3 1 (by decide)) tw_211 dX3_stampOf_9 fun v3 => ?_
    refine k_iload_n hq dX3_stampOf_12 1 rfl ?_
    refine k_iald hq dX3_stampOf_13 fun v4 => ?_
    refine k_goto hq (tgt := 18) dX3_stampOf_14 (by decide) ?_
    exact k_iret hq dX3_stampOf_18
theorem con_X3_stampOf (l : Launch) (G : eG) (B0 n : Nat) (l0 : Nat) (l1 : Int32) : e_C eI l G B0 n yX3_stampOf cX3_stampOf 2 (some .int) 2 42 [.ref l0, .int l1] (F_X3_stampOf l0 l1) := by
  refine e_mk (by decide) (Nat.le_of_ble_eq_true rfl) fun q r0 h0 h hq e1 e2 e3 e4 => ?_
  subst e1; subst e2; subst e3; subst e4
  exact P_X3_stampOf_0 hq l0 l1 h
set_option maxRecDepth 100000 in
set_option maxHeartbeats 4000000 in
theorem P_X3_toldOf_0 {q : eT} {r0 : Int32} {h0 : eH} (hq : e_B q yX3_toldOf.cls cX3_toldOf 2 2 42 (some .int) yX3_toldOf.name) (l0 : Nat) (l1 : Int32) (h : eH) : e_K eI q r0 h0 0 [(0, .ref l0), (1, .int l1)] [] h (F_X3_toldOf l0 l1 h) := by
  unfold F_X3_toldOf
  refine k_aload_n hq dX3_toldOf_0 0 rfl ?_
  refine k_iload_n hq dX3_toldOf_1 1 rfl ?_
  refine k_callV hq (na := 1) (As := [.int l1]) (st := []) 3 (C := RX3) (T := TX3) rfl (con_X3_has _ _ _ _ l0 l1) tw_563 tw_55 tw_560 tw_561 tw_562 ⟨by decide, by decide, by decide +kernel⟩ rfl (by decide) rfl (Nat.le_of_ble_eq_true rfl) dX3_toldOf_2 fun v1 h2 => ?_
  refine k_if_eq hq (tgt := 17) dX3_toldOf_5 (by decide) (fun _ => ?_) (fun _ => ?_)
  · refine k_iconst hq dX3_toldOf_17 (v := 0) rfl ?_
    exact k_iret hq dX3_toldOf_18
  · refine k_aload_n hq dX3_toldOf_8 0 rfl ?_
    refine k_gr hq (C := RX3) (T := TX3) 3 2 rfl (by decide) (lay_X3 2 (by decide)) tw_212 dX3_toldOf_9 fun v3 => ?_
    refine k_iload_n hq dX3_toldOf_12 1 rfl ?_
    refine k_iald hq dX3_toldOf_13 fun v4 => ?_
    refine k_goto hq (tgt := 18) dX3_toldOf_14 (by decide) ?_
    exact k_iret hq dX3_toldOf_18
theorem con_X3_toldOf (l : Launch) (G : eG) (B0 n : Nat) (l0 : Nat) (l1 : Int32) : e_C eI l G B0 n yX3_toldOf cX3_toldOf 2 (some .int) 2 42 [.ref l0, .int l1] (F_X3_toldOf l0 l1) := by
  refine e_mk (by decide) (Nat.le_of_ble_eq_true rfl) fun q r0 h0 h hq e1 e2 e3 e4 => ?_
  subst e1; subst e2; subst e3; subst e4
  exact P_X3_toldOf_0 hq l0 l1 h
set_option maxRecDepth 100000 in
set_option maxHeartbeats 4000000 in
theorem P_X3_knownOf_0 {q : eT} {r0 : Int32} {h0 : eH} (hq : e_B q yX3_knownOf.cls cX3_knownOf 2 2 42 (some .int) yX3_knownOf.name) (l0 : Nat) (l1 : Int32) (h : eH) : e_K eI q r0 h0 0 [(0, .ref l0), (1, .int l1)] [] h (F_X3_knownOf l0 l1 h) := by
  unfold F_X3_knownOf
  refine k_aload_n hq dX3_knownOf_0 0 rfl ?_
  refine k_iload_n hq dX3_knownOf_1 1 rfl ?_
  refine k_callV hq (na := 1) (As := [.int l1]) (st := []) 3 (C := RX3) (T := TX3) rfl (con_X3_has _ _ _ _ l0 l1) tw_563 tw_55 tw_560 tw_561 tw_562 ⟨by decide, by decide, by decide +kernel⟩ rfl (by decide) rfl (Nat.le_of_ble_eq_true rfl) dX3_knownOf_2 fun v1 h2 => ?_
  refine k_if_eq hq (tgt := 17) dX3_knownOf_5 (by decide) (fun _ => ?_) (fun _ => ?_)
  · refine k_iconst hq dX3_knownOf_17 (v := 0) rfl ?_
    exact k_iret hq dX3_knownOf_18
  · refine k_aload_n hq dX3_knownOf_8 0 rfl ?_
    refine k_gr hq (C := RX3) (T := TX3) 3 3 rfl (by decide) (lay_X3 3 (by decide)) tw_213 dX3_knownOf_9 fun v3 => ?_
    refine k_iload_n hq dX3_knownOf_12 1 rfl ?_
    refine k_iald hq dX3_knownOf_13 fun v4 => ?_
    refine k_goto hq (tgt := 18) dX3_knownOf_14 (by decide) ?_
    exact k_iret hq dX3_knownOf_18
theorem con_X3_knownOf (l : Launch) (G : eG) (B0 n : Nat) (l0 : Nat) (l1 : Int32) : e_C eI l G B0 n yX3_knownOf cX3_knownOf 2 (some .int) 2 42 [.ref l0, .int l1] (F_X3_knownOf l0 l1) := by
  refine e_mk (by decide) (Nat.le_of_ble_eq_true rfl) fun q r0 h0 h hq e1 e2 e3 e4 => ?_
  subst e1; subst e2; subst e3; subst e4
  exact P_X3_knownOf_0 hq l0 l1 h
set_option maxRecDepth 100000 in
set_option maxHeartbeats 4000000 in
theorem P_X3_nextByStamp_54 {q : eT} {r0 : Int32} {h0 : eH} (hq : e_B q yX3_nextByStamp.cls cX3_nextByStamp 5 3 63 (some .int) yX3_nextByStamp.name) (N : Nat) (k5 : Nat → Nat → Int32 → Int32 → Int32 → eH → Option (Int32 × eH)) (hk5 : ∀ (l0 : Nat) (l1 : Nat) (l2 : Int32) (l3 : Int32) (l4 : Int32) h, e_K eI q r0 h0 5 [(0, .ref l0), (1, .ref l1), (2, .int l2), (3, .int l3), (4, .int l4)] [] h (k5 l0 l1 l2 l3 l4 h)) (l0 : Nat) (l1 : Nat) (l2 : Int32) (l3 : Int32) (l4 : Int32) (h : eH) : e_K eI q r0 h0 54 [(0, .ref l0), (1, .ref l1), (2, .int l2), (3, .int l3), (4, .int l4)] [] h (F_X3_nextByStamp_54 N k5 l0 l1 l2 l3 l4 h) := by
  unfold F_X3_nextByStamp_54
  refine k_iinc hq dX3_nextByStamp_54 4 rfl (v := l4 + 1) rfl (by decide) (ls' := [(4, .int (l4 + 1)), (0, .ref l0), (1, .ref l1), (2, .int l2), (3, .int l3)]) rfl ?_
  refine k_goto hq (tgt := 5) dX3_nextByStamp_57 (by decide) ?_
  exact k_sub [1, 2, 3, 4, 0] rfl (hk5 l0 l1 l2 l3 (l4 + 1) h)
set_option maxRecDepth 100000 in
set_option maxHeartbeats 4000000 in
theorem P_X3_nextByStamp_51 {q : eT} {r0 : Int32} {h0 : eH} (hq : e_B q yX3_nextByStamp.cls cX3_nextByStamp 5 3 63 (some .int) yX3_nextByStamp.name) (N : Nat) (k5 : Nat → Nat → Int32 → Int32 → Int32 → eH → Option (Int32 × eH)) (hk5 : ∀ (l0 : Nat) (l1 : Nat) (l2 : Int32) (l3 : Int32) (l4 : Int32) h, e_K eI q r0 h0 5 [(0, .ref l0), (1, .ref l1), (2, .int l2), (3, .int l3), (4, .int l4)] [] h (k5 l0 l1 l2 l3 l4 h)) (l0 : Nat) (l1 : Nat) (l2 : Int32) (l4 : Int32) (h : eH) : e_K eI q r0 h0 51 [(0, .ref l0), (1, .ref l1), (2, .int l2), (4, .int l4)] [] h (F_X3_nextByStamp_51 N k5 l0 l1 l2 l4 h) := by
  unfold F_X3_nextByStamp_51
  refine k_iload hq dX3_nextByStamp_51 3 rfl ?_
  refine k_istore_n hq dX3_nextByStamp_53 rfl (by decide) (ls' := [(3, .int l4), (0, .ref l0), (1, .ref l1), (2, .int l2), (4, .int l4)]) rfl ?_
  exact k_sub [1, 2, 3, 0, 4] rfl (P_X3_nextByStamp_54 hq N k5 hk5 l0 l1 l2 l4 l4 h)
set_option maxRecDepth 100000 in
set_option maxHeartbeats 4000000 in
theorem P_X3_nextByStamp_5b {q : eT} {r0 : Int32} {h0 : eH} (hq : e_B q yX3_nextByStamp.cls cX3_nextByStamp 5 3 63 (some .int) yX3_nextByStamp.name) (N : Nat) (k5 : Nat → Nat → Int32 → Int32 → Int32 → eH → Option (Int32 × eH)) (hk5 : ∀ (l0 : Nat) (l1 : Nat) (l2 : Int32) (l3 : Int32) (l4 : Int32) h, e_K eI q r0 h0 5 [(0, .ref l0), (1, .ref l1), (2, .int l2), (3, .int l3), (4, .int l4)] [] h (k5 l0 l1 l2 l3 l4 h)) (l0 : Nat) (l1 : Nat) (l2 : Int32) (l3 : Int32) (l4 : Int32) (h : eH) : e_K eI q r0 h0 5 [(0, .ref l0), (1, .ref l1), (2, .int l2), (3, .int l3), (4, .int l4)] [] h (F_X3_nextByStamp_5b N k5 l0 l1 l2 l3 l4 h) := by
  unfold F_X3_nextByStamp_5b
  refine k_iload hq dX3_nextByStamp_5 4 rfl ?_
  refine k_sipush hq dX3_nextByStamp_7 (v := 160) rfl ?_
  refine k_icmp_ge hq (tgt := 60) dX3_nextByStamp_10 (by decide) (fun _ => ?_) (fun _ => ?_)
  · refine k_iload_n hq dX3_nextByStamp_60 3 rfl ?_
    exact k_iret hq dX3_nextByStamp_61
  · refine k_aload_n hq dX3_nextByStamp_13 1 rfl ?_
    refine k_iload hq dX3_nextByStamp_14 4 rfl ?_
    refine k_callV hq (na := 1) (As := [.int l4]) (st := []) 1 (C := RX1) (T := TX1) rfl (con_X1_has _ _ _ _ l1 l4) tw_656 tw_56 tw_653 tw_654 tw_655 ⟨by decide, by decide, by decide +kernel⟩ rfl (by decide) rfl (Nat.le_of_ble_eq_true rfl) dX3_nextByStamp_16 fun v1 h2 => ?_
    refine k_if_eq hq (tgt := 54) dX3_nextByStamp_19 (by decide) (fun _ => ?_) (fun _ => ?_)
    · exact k_sub [0, 1, 2, 3, 4] rfl (P_X3_nextByStamp_54 hq N k5 hk5 l0 l1 l2 l3 l4 h2)
    · refine k_aload_n hq dX3_nextByStamp_22 0 rfl ?_
      refine k_iload hq dX3_nextByStamp_23 4 rfl ?_
      refine k_callV hq (na := 1) (As := [.int l4]) (st := []) 3 (C := RX3) (T := TX3) rfl (con_X3_stampOf _ _ _ _ l0 l4) tw_559 tw_55 tw_556 tw_557 tw_558 ⟨by decide, by decide, by decide +kernel⟩ rfl (by decide) rfl (Nat.le_of_ble_eq_true rfl) dX3_nextByStamp_25 fun v3 h4 => ?_
      refine k_iload_n hq dX3_nextByStamp_28 2 rfl ?_
      refine k_icmp_le hq (tgt := 54) dX3_nextByStamp_29 (by decide) (fun _ => ?_) (fun _ => ?_)
      · exact k_sub [0, 1, 2, 3, 4] rfl (P_X3_nextByStamp_54 hq N k5 hk5 l0 l1 l2 l3 l4 h4)
      · refine k_iload_n hq dX3_nextByStamp_32 3 rfl ?_
        refine k_iconst hq dX3_nextByStamp_33 (v := (-1)) rfl ?_
        refine k_icmp_eq hq (tgt := 51) dX3_nextByStamp_34 (by decide) (fun _ => ?_) (fun _ => ?_)
        · exact k_sub [0, 1, 2, 4] rfl (P_X3_nextByStamp_51 hq N k5 hk5 l0 l1 l2 l4 h4)
        · refine k_aload_n hq dX3_nextByStamp_37 0 rfl ?_
          refine k_iload hq dX3_nextByStamp_38 4 rfl ?_
          refine k_callV hq (na := 1) (As := [.int l4]) (st := []) 3 (C := RX3) (T := TX3) rfl (con_X3_stampOf _ _ _ _ l0 l4) tw_559 tw_55 tw_556 tw_557 tw_558 ⟨by decide, by decide, by decide +kernel⟩ rfl (by decide) rfl (Nat.le_of_ble_eq_true rfl) dX3_nextByStamp_40 fun v5 h6 => ?_
          refine k_aload_n hq dX3_nextByStamp_43 0 rfl ?_
          refine k_iload_n hq dX3_nextByStamp_44 3 rfl ?_
          refine k_callV hq (na := 1) (As := [.int l3]) (st := [.int v5]) 3 (C := RX3) (T := TX3) rfl (con_X3_stampOf _ _ _ _ l0 l3) tw_559 tw_55 tw_556 tw_557 tw_558 ⟨by decide, by decide, by decide +kernel⟩ rfl (by decide) rfl (Nat.le_of_ble_eq_true rfl) dX3_nextByStamp_45 fun v7 h8 => ?_
          refine k_icmp_ge hq (tgt := 54) dX3_nextByStamp_48 (by decide) (fun _ => ?_) (fun _ => ?_)
          · exact k_sub [0, 1, 2, 3, 4] rfl (P_X3_nextByStamp_54 hq N k5 hk5 l0 l1 l2 l3 l4 h8)
          · exact k_sub [0, 1, 2, 4] rfl (P_X3_nextByStamp_51 hq N k5 hk5 l0 l1 l2 l4 h8)
theorem Q_X3_nextByStamp_5 {q : eT} {r0 : Int32} {h0 : eH} (hq : e_B q yX3_nextByStamp.cls cX3_nextByStamp 5 3 63 (some .int) yX3_nextByStamp.name) (N : Nat) (l0 : Nat) (l1 : Nat) (l2 : Int32) (l3 : Int32) (l4 : Int32) (h : eH) : e_K eI q r0 h0 5 [(0, .ref l0), (1, .ref l1), (2, .int l2), (3, .int l3), (4, .int l4)] [] h (L_X3_nextByStamp_5 N l0 l1 l2 l3 l4 h) :=
  k_loop (mk := (fun s => [(0, .ref s.1), (1, .ref s.2.1), (2, .int s.2.2.1), (3, .int s.2.2.2.1), (4, .int s.2.2.2.2.1)])) (hp := fun s => s.2.2.2.2.2) (fun k hk s => P_X3_nextByStamp_5b hq N (fun l0 l1 l2 l3 l4 h => k (l0, l1, l2, l3, l4, h)) (fun l0 l1 l2 l3 l4 h => hk (l0, l1, l2, l3, l4, h)) s.1 s.2.1 s.2.2.1 s.2.2.2.1 s.2.2.2.2.1 s.2.2.2.2.2) N (l0, l1, l2, l3, l4, h)
set_option maxRecDepth 100000 in
set_option maxHeartbeats 4000000 in
theorem P_X3_nextByStamp_0 {q : eT} {r0 : Int32} {h0 : eH} (hq : e_B q yX3_nextByStamp.cls cX3_nextByStamp 5 3 63 (some .int) yX3_nextByStamp.name) (N : Nat) (l0 : Nat) (l1 : Nat) (l2 : Int32) (h : eH) : e_K eI q r0 h0 0 [(0, .ref l0), (1, .ref l1), (2, .int l2)] [] h (F_X3_nextByStamp N l0 l1 l2 h) := by
  unfold F_X3_nextByStamp
  refine k_iconst hq dX3_nextByStamp_0 (v := (-1)) rfl ?_
  refine k_istore_n hq dX3_nextByStamp_1 rfl (by decide) (ls' := [(3, .int (-1)), (0, .ref l0), (1, .ref l1), (2, .int l2)]) rfl ?_
  refine k_iconst hq dX3_nextByStamp_2 (v := 0) rfl ?_
  refine k_istore hq dX3_nextByStamp_3 (by decide) (ls' := [(4, .int 0), (3, .int (-1)), (0, .ref l0), (1, .ref l1), (2, .int l2)]) rfl ?_
  exact k_sub [2, 3, 4, 1, 0] rfl (Q_X3_nextByStamp_5 hq N l0 l1 l2 (-1) 0 h)
theorem con_X3_nextByStamp (l : Launch) (G : eG) (B0 n : Nat) (N : Nat) (l0 : Nat) (l1 : Nat) (l2 : Int32) : e_C eI l G B0 n yX3_nextByStamp cX3_nextByStamp 5 (some .int) 3 63 [.ref l0, .ref l1, .int l2] (F_X3_nextByStamp N l0 l1 l2) := by
  refine e_mk (by decide) (Nat.le_of_ble_eq_true rfl) fun q r0 h0 h hq e1 e2 e3 e4 => ?_
  subst e1; subst e2; subst e3; subst e4
  exact P_X3_nextByStamp_0 hq N l0 l1 l2 h
set_option maxRecDepth 100000 in
set_option maxHeartbeats 4000000 in
theorem P_X3_oldestSite_64 {q : eT} {r0 : Int32} {h0 : eH} (hq : e_B q yX3_oldestSite.cls cX3_oldestSite 7 3 63 (some .int) yX3_oldestSite.name) (N : Nat) (k7 : Nat → Int32 → Int32 → Int32 → Int32 → eH → Option (Int32 × eH)) (hk7 : ∀ (l0 : Nat) (l1 : Int32) (l2 : Int32) (l3 : Int32) (l4 : Int32) h, e_K eI q r0 h0 7 [(0, .ref l0), (1, .int l1), (2, .int l2), (3, .int l3), (4, .int l4)] [] h (k7 l0 l1 l2 l3 l4 h)) (l0 : Nat) (l1 : Int32) (l2 : Int32) (l3 : Int32) (l4 : Int32) (h : eH) : e_K eI q r0 h0 64 [(0, .ref l0), (1, .int l1), (2, .int l2), (3, .int l3), (4, .int l4)] [] h (F_X3_oldestSite_64 N k7 l0 l1 l2 l3 l4 h) := by
  unfold F_X3_oldestSite_64
  refine k_iinc hq dX3_oldestSite_64 4 rfl (v := l4 + 1) rfl (by decide) (ls' := [(4, .int (l4 + 1)), (0, .ref l0), (1, .int l1), (2, .int l2), (3, .int l3)]) rfl ?_
  refine k_goto hq (tgt := 7) dX3_oldestSite_67 (by decide) ?_
  exact k_sub [1, 2, 3, 4, 0] rfl (hk7 l0 l1 l2 l3 (l4 + 1) h)
set_option maxRecDepth 100000 in
set_option maxHeartbeats 4000000 in
theorem P_X3_oldestSite_58 {q : eT} {r0 : Int32} {h0 : eH} (hq : e_B q yX3_oldestSite.cls cX3_oldestSite 7 3 63 (some .int) yX3_oldestSite.name) (N : Nat) (k7 : Nat → Int32 → Int32 → Int32 → Int32 → eH → Option (Int32 × eH)) (hk7 : ∀ (l0 : Nat) (l1 : Int32) (l2 : Int32) (l3 : Int32) (l4 : Int32) h, e_K eI q r0 h0 7 [(0, .ref l0), (1, .int l1), (2, .int l2), (3, .int l3), (4, .int l4)] [] h (k7 l0 l1 l2 l3 l4 h)) (l0 : Nat) (l1 : Int32) (l4 : Int32) (l6 : Int32) (h : eH) : e_K eI q r0 h0 58 [(0, .ref l0), (1, .int l1), (4, .int l4), (6, .int l6)] [] h (F_X3_oldestSite_58 N k7 l0 l1 l4 l6 h) := by
  unfold F_X3_oldestSite_58
  refine k_iload hq dX3_oldestSite_58 2 rfl ?_
  refine k_istore_n hq dX3_oldestSite_60 rfl (by decide) (ls' := [(2, .int l4), (0, .ref l0), (1, .int l1), (4, .int l4), (6, .int l6)]) rfl ?_
  refine k_iload hq dX3_oldestSite_61 4 rfl ?_
  refine k_istore_n hq dX3_oldestSite_63 rfl (by decide) (ls' := [(3, .int l6), (2, .int l4), (0, .ref l0), (1, .int l1), (4, .int l4), (6, .int l6)]) rfl ?_
  exact k_sub [2, 3, 1, 0, 4] rfl (P_X3_oldestSite_64 hq N k7 hk7 l0 l1 l4 l6 l4 h)
set_option maxRecDepth 100000 in
set_option maxHeartbeats 4000000 in
theorem P_X3_oldestSite_41 {q : eT} {r0 : Int32} {h0 : eH} (hq : e_B q yX3_oldestSite.cls cX3_oldestSite 7 3 63 (some .int) yX3_oldestSite.name) (N : Nat) (k7 : Nat → Int32 → Int32 → Int32 → Int32 → eH → Option (Int32 × eH)) (hk7 : ∀ (l0 : Nat) (l1 : Int32) (l2 : Int32) (l3 : Int32) (l4 : Int32) h, e_K eI q r0 h0 7 [(0, .ref l0), (1, .int l1), (2, .int l2), (3, .int l3), (4, .int l4)] [] h (k7 l0 l1 l2 l3 l4 h)) (l0 : Nat) (l1 : Int32) (l2 : Int32) (l3 : Int32) (l4 : Int32) (s0 : Int32) (h : eH) : e_K eI q r0 h0 41 [(0, .ref l0), (1, .int l1), (2, .int l2), (3, .int l3), (4, .int l4)] [.int s0] h (F_X3_oldestSite_41 N k7 l0 l1 l2 l3 l4 s0 h) := by
  unfold F_X3_oldestSite_41
  refine k_istore hq dX3_oldestSite_41 (by decide) (ls' := [(6, .int s0), (0, .ref l0), (1, .int l1), (2, .int l2), (3, .int l3), (4, .int l4)]) rfl ?_
  refine k_iload hq dX3_oldestSite_43 0 rfl ?_
  refine k_if_le hq (tgt := 64) dX3_oldestSite_45 (by decide) (fun _ => ?_) (fun _ => ?_)
  · exact k_sub [1, 2, 3, 4, 5] rfl (P_X3_oldestSite_64 hq N k7 hk7 l0 l1 l2 l3 l4 h)
  · refine k_iload_n hq dX3_oldestSite_48 4 rfl ?_
    refine k_if_eq hq (tgt := 58) dX3_oldestSite_49 (by decide) (fun _ => ?_) (fun _ => ?_)
    · exact k_sub [1, 2, 5, 0] rfl (P_X3_oldestSite_58 hq N k7 hk7 l0 l1 l4 s0 h)
    · refine k_iload hq dX3_oldestSite_52 0 rfl ?_
      refine k_iload_n hq dX3_oldestSite_54 4 rfl ?_
      refine k_icmp_ge hq (tgt := 64) dX3_oldestSite_55 (by decide) (fun _ => ?_) (fun _ => ?_)
      · exact k_sub [1, 2, 3, 4, 5] rfl (P_X3_oldestSite_64 hq N k7 hk7 l0 l1 l2 l3 l4 h)
      · exact k_sub [1, 2, 5, 0] rfl (P_X3_oldestSite_58 hq N k7 hk7 l0 l1 l4 s0 h)
set_option maxRecDepth 100000 in
set_option maxHeartbeats 4000000 in
theorem P_X3_oldestSite_7b {q : eT} {r0 : Int32} {h0 : eH} (hq : e_B q yX3_oldestSite.cls cX3_oldestSite 7 3 63 (some .int) yX3_oldestSite.name) (N : Nat) (k7 : Nat → Int32 → Int32 → Int32 → Int32 → eH → Option (Int32 × eH)) (hk7 : ∀ (l0 : Nat) (l1 : Int32) (l2 : Int32) (l3 : Int32) (l4 : Int32) h, e_K eI q r0 h0 7 [(0, .ref l0), (1, .int l1), (2, .int l2), (3, .int l3), (4, .int l4)] [] h (k7 l0 l1 l2 l3 l4 h)) (l0 : Nat) (l1 : Int32) (l2 : Int32) (l3 : Int32) (l4 : Int32) (h : eH) : e_K eI q r0 h0 7 [(0, .ref l0), (1, .int l1), (2, .int l2), (3, .int l3), (4, .int l4)] [] h (F_X3_oldestSite_7b N k7 l0 l1 l2 l3 l4 h) := by
  unfold F_X3_oldestSite_7b
  refine k_iload hq dX3_oldestSite_7 4 rfl ?_
  refine k_iconst hq dX3_oldestSite_9 (v := 4) rfl ?_
  refine k_icmp_ge hq (tgt := 70) dX3_oldestSite_10 (by decide) (fun _ => ?_) (fun _ => ?_)
  · refine k_iload_n hq dX3_oldestSite_70 2 rfl ?_
    exact k_iret hq dX3_oldestSite_71
  · refine k_iload_n hq dX3_oldestSite_13 1 rfl ?_
    refine k_iload hq dX3_oldestSite_14 4 rfl ?_
    refine k_callS hq (na := 2) (As := [.int l1, .int l4]) (st := []) (con_X9_number _ _ _ _ l1 l4) tw_547 tw_65 tw_552 tw_546 ⟨by decide, by decide, by decide +kernel⟩ rfl (by decide) rfl (Nat.le_of_ble_eq_true rfl) dX3_oldestSite_16 fun v1 h2 => ?_
    refine k_istore hq dX3_oldestSite_19 (by decide) (ls' := [(5, .int v1), (0, .ref l0), (1, .int l1), (2, .int l2), (3, .int l3), (4, .int l4)]) rfl ?_
    refine k_iload hq dX3_oldestSite_21 0 rfl ?_
    refine k_if_le hq (tgt := 40) dX3_oldestSite_23 (by decide) (fun _ => ?_) (fun _ => ?_)
    · refine k_iconst hq dX3_oldestSite_40 (v := 0) rfl ?_
      exact k_sub [1, 2, 3, 4, 5] rfl (P_X3_oldestSite_41 hq N k7 hk7 l0 l1 l2 l3 l4 0 h2)
    · refine k_aload_n hq dX3_oldestSite_26 1 rfl ?_
      refine k_iload hq dX3_oldestSite_27 5 rfl ?_
      refine k_iload hq dX3_oldestSite_29 0 rfl ?_
      refine k_callS hq (na := 2) (As := [.int l4, .int v1]) (st := [.ref l0]) (con_X1_of _ _ _ _ l4 v1) tw_555 tw_56 tw_553 tw_554 ⟨by decide, by decide, by decide +kernel⟩ rfl (by decide) rfl (Nat.le_of_ble_eq_true rfl) dX3_oldestSite_31 fun v3 h4 => ?_
      refine k_callV hq (na := 1) (As := [.int v3]) (st := []) 3 (C := RX3) (T := TX3) rfl (con_X3_stampOf _ _ _ _ l0 v3) tw_559 tw_55 tw_556 tw_557 tw_558 ⟨by decide, by decide, by decide +kernel⟩ rfl (by decide) rfl (Nat.le_of_ble_eq_true rfl) dX3_oldestSite_34 fun v5 h6 => ?_
      refine k_goto hq (tgt := 41) dX3_oldestSite_37 (by decide) ?_
      exact k_sub [1, 2, 3, 4, 5] rfl (P_X3_oldestSite_41 hq N k7 hk7 l0 l1 l2 l3 l4 v5 h6)
theorem Q_X3_oldestSite_7 {q : eT} {r0 : Int32} {h0 : eH} (hq : e_B q yX3_oldestSite.cls cX3_oldestSite 7 3 63 (some .int) yX3_oldestSite.name) (N : Nat) (l0 : Nat) (l1 : Int32) (l2 : Int32) (l3 : Int32) (l4 : Int32) (h : eH) : e_K eI q r0 h0 7 [(0, .ref l0), (1, .int l1), (2, .int l2), (3, .int l3), (4, .int l4)] [] h (L_X3_oldestSite_7 N l0 l1 l2 l3 l4 h) :=
  k_loop (mk := (fun s => [(0, .ref s.1), (1, .int s.2.1), (2, .int s.2.2.1), (3, .int s.2.2.2.1), (4, .int s.2.2.2.2.1)])) (hp := fun s => s.2.2.2.2.2) (fun k hk s => P_X3_oldestSite_7b hq N (fun l0 l1 l2 l3 l4 h => k (l0, l1, l2, l3, l4, h)) (fun l0 l1 l2 l3 l4 h => hk (l0, l1, l2, l3, l4, h)) s.1 s.2.1 s.2.2.1 s.2.2.2.1 s.2.2.2.2.1 s.2.2.2.2.2) N (l0, l1, l2, l3, l4, h)
set_option maxRecDepth 100000 in
set_option maxHeartbeats 4000000 in
theorem P_X3_oldestSite_0 {q : eT} {r0 : Int32} {h0 : eH} (hq : e_B q yX3_oldestSite.cls cX3_oldestSite 7 3 63 (some .int) yX3_oldestSite.name) (N : Nat) (l0 : Nat) (l1 : Int32) (h : eH) : e_K eI q r0 h0 0 [(0, .ref l0), (1, .int l1)] [] h (F_X3_oldestSite N l0 l1 h) := by
  unfold F_X3_oldestSite
  refine k_iconst hq dX3_oldestSite_0 (v := 0) rfl ?_
  refine k_istore_n hq dX3_oldestSite_1 rfl (by decide) (ls' := [(2, .int 0), (0, .ref l0), (1, .int l1)]) rfl ?_
  refine k_iconst hq dX3_oldestSite_2 (v := 0) rfl ?_
  refine k_istore_n hq dX3_oldestSite_3 rfl (by decide) (ls' := [(3, .int 0), (2, .int 0), (0, .ref l0), (1, .int l1)]) rfl ?_
  refine k_iconst hq dX3_oldestSite_4 (v := 0) rfl ?_
  refine k_istore hq dX3_oldestSite_5 (by decide) (ls' := [(4, .int 0), (3, .int 0), (2, .int 0), (0, .ref l0), (1, .int l1)]) rfl ?_
  exact k_sub [3, 4, 2, 1, 0] rfl (Q_X3_oldestSite_7 hq N l0 l1 0 0 0 h)
theorem con_X3_oldestSite (l : Launch) (G : eG) (B0 n : Nat) (N : Nat) (l0 : Nat) (l1 : Int32) : e_C eI l G B0 n yX3_oldestSite cX3_oldestSite 7 (some .int) 3 63 [.ref l0, .int l1] (F_X3_oldestSite N l0 l1) := by
  refine e_mk (by decide) (Nat.le_of_ble_eq_true rfl) fun q r0 h0 h hq e1 e2 e3 e4 => ?_
  subst e1; subst e2; subst e3; subst e4
  exact P_X3_oldestSite_0 hq N l0 l1 h
set_option maxRecDepth 100000 in
set_option maxHeartbeats 4000000 in
theorem P_X3_pruned_10b {q : eT} {r0 : Int32} {h0 : eH} (hq : e_B q yX3_pruned.cls cX3_pruned 5 4 89 (some .int) yX3_pruned.name) (N : Nat) (k10 : Nat → Int32 → Int32 → eH → Option (Int32 × eH)) (hk10 : ∀ (l0 : Nat) (l3 : Int32) (l4 : Int32) h, e_K eI q r0 h0 10 [(0, .ref l0), (3, .int l3), (4, .int l4)] [] h (k10 l0 l3 l4 h)) (l0 : Nat) (l3 : Int32) (l4 : Int32) (h : eH) : e_K eI q r0 h0 10 [(0, .ref l0), (3, .int l3), (4, .int l4)] [] h (F_X3_pruned_10b N k10 l0 l3 l4 h) := by
  unfold F_X3_pruned_10b
  refine k_iload hq dX3_pruned_10 2 rfl ?_
  refine k_if_le hq (tgt := 32) dX3_pruned_12 (by decide) (fun _ => ?_) (fun _ => ?_)
  · refine k_iload_n hq dX3_pruned_32 1 rfl ?_
    exact k_iret hq dX3_pruned_33
  · refine k_iload_n hq dX3_pruned_15 1 rfl ?_
    refine k_aload_n hq dX3_pruned_16 0 rfl ?_
    refine k_iload_n hq dX3_pruned_17 1 rfl ?_
    refine k_callV hq (na := 1) (As := [.int l3]) (st := [.int l3]) 3 (C := RX3) (T := TX3) rfl (con_X3_oldestSite _ _ _ _ N l0 l3) tw_551 tw_55 tw_548 tw_550 tw_13 ⟨by decide, by decide, by decide +kernel⟩ rfl (by decide) rfl (Nat.le_of_ble_eq_true rfl) dX3_pruned_18 fun v1 h2 => ?_
    refine k_iconst hq dX3_pruned_21 (v := 0) rfl ?_
    refine k_callS hq (na := 3) (As := [.int l3, .int v1, .int 0]) (st := []) (con_X9_with _ _ _ _ l3 v1 0) tw_575 tw_65 tw_573 tw_574 ⟨by decide, by decide, by decide +kernel⟩ rfl (by decide) rfl (Nat.le_of_ble_eq_true rfl) dX3_pruned_22 fun v3 h4 => ?_
    refine k_istore_n hq dX3_pruned_25 rfl (by decide) (ls' := [(3, .int v3), (0, .ref l0), (4, .int l4)]) rfl ?_
    refine k_iinc hq dX3_pruned_26 2 rfl (v := l4 + (-1)) rfl (by decide) (ls' := [(4, .int (l4 + (-1))), (3, .int v3), (0, .ref l0)]) rfl ?_
    refine k_goto hq (tgt := 10) dX3_pruned_29 (by decide) ?_
    exact k_sub [2, 1, 0] rfl (hk10 l0 v3 (l4 + (-1)) h4)
theorem Q_X3_pruned_10 {q : eT} {r0 : Int32} {h0 : eH} (hq : e_B q yX3_pruned.cls cX3_pruned 5 4 89 (some .int) yX3_pruned.name) (N : Nat) (l0 : Nat) (l3 : Int32) (l4 : Int32) (h : eH) : e_K eI q r0 h0 10 [(0, .ref l0), (3, .int l3), (4, .int l4)] [] h (L_X3_pruned_10 N l0 l3 l4 h) :=
  k_loop (mk := (fun s => [(0, .ref s.1), (3, .int s.2.1), (4, .int s.2.2.1)])) (hp := fun s => s.2.2.2) (fun k hk s => P_X3_pruned_10b hq N (fun l0 l3 l4 h => k (l0, l3, l4, h)) (fun l0 l3 l4 h => hk (l0, l3, l4, h)) s.1 s.2.1 s.2.2.1 s.2.2.2) N (l0, l3, l4, h)
set_option maxRecDepth 100000 in
set_option maxHeartbeats 4000000 in
theorem P_X3_pruned_0 {q : eT} {r0 : Int32} {h0 : eH} (hq : e_B q yX3_pruned.cls cX3_pruned 5 4 89 (some .int) yX3_pruned.name) (N : Nat) (l0 : Nat) (l1 : Int32) (l2 : Int32) (h : eH) : e_K eI q r0 h0 0 [(0, .ref l0), (1, .int l1), (2, .int l2)] [] h (F_X3_pruned N l0 l1 l2 h) := by
  unfold F_X3_pruned
  refine k_iload_n hq dX3_pruned_0 1 rfl ?_
  refine k_istore_n hq dX3_pruned_1 rfl (by decide) (ls' := [(3, .int l1), (0, .ref l0), (1, .int l1), (2, .int l2)]) rfl ?_
  refine k_iload_n hq dX3_pruned_2 2 rfl ?_
  refine k_callS hq (na := 1) (As := [.int l1]) (st := []) (con_X9_aboveZero _ _ _ _ N l1) tw_544 tw_65 tw_542 tw_543 ⟨by decide, by decide, by decide +kernel⟩ rfl (by decide) rfl (Nat.le_of_ble_eq_true rfl) dX3_pruned_3 fun v1 h2 => ?_
  refine k_iload_n hq dX3_pruned_6 3 rfl ?_
  refine k_isub hq dX3_pruned_7 ?_
  refine k_let (mk := fun z => .int z :: []) fun v3 _ => ?_
  refine k_istore hq dX3_pruned_8 (by decide) (ls' := [(4, .int v3), (3, .int l1), (0, .ref l0), (1, .int l1), (2, .int l2)]) rfl ?_
  exact k_sub [2, 1, 0] rfl (Q_X3_pruned_10 hq N l0 l1 v3 h2)
theorem con_X3_pruned (l : Launch) (G : eG) (B0 n : Nat) (N : Nat) (l0 : Nat) (l1 : Int32) (l2 : Int32) : e_C eI l G B0 n yX3_pruned cX3_pruned 5 (some .int) 4 89 [.ref l0, .int l1, .int l2] (F_X3_pruned N l0 l1 l2) := by
  refine e_mk (by decide) (Nat.le_of_ble_eq_true rfl) fun q r0 h0 h hq e1 e2 e3 e4 => ?_
  subst e1; subst e2; subst e3; subst e4
  exact P_X3_pruned_0 hq N l0 l1 l2 h
set_option maxRecDepth 100000 in
set_option maxHeartbeats 4000000 in
theorem P_X8_beginAnew_0 {q : eT} {r0 : Unit} {h0 : eH} (hq : e_B q yX8_beginAnew.cls cX8_beginAnew 1 1 21 none yX8_beginAnew.name) (N : Nat) (l0 : Nat) (h : eH) : e_K eV q r0 h0 0 [(0, .ref l0)] [] h (F_X8_beginAnew N l0 h) := by
  unfold F_X8_beginAnew
  refine k_aload_n hq dX8_beginAnew_0 0 rfl ?_
  refine k_iconst hq dX8_beginAnew_1 (v := 0) rfl ?_
  refine k_p hq (C := RX8) (T := TX8) 8 3 rfl (by decide) lay_X8 tyX8 tyX8_ok nmX8 tw_273 rfl rfl rfl dX8_beginAnew_2 fun h1 => ?_
  refine k_aload_n hq dX8_beginAnew_5 0 rfl ?_
  refine k_gr hq (C := RX8) (T := TX8) 8 2 rfl (by decide) (lay_X8 2 (by decide)) tw_270 dX8_beginAnew_6 fun v2 => ?_
  refine k_callV hq (na := 0) (As := []) (st := []) 1 (C := RX1) (T := TX1) rfl (con_X1_empty _ _ _ _ N v2) tw_499 tw_56 tw_504 tw_497 tw_498 ⟨by decide, by decide, by decide +kernel⟩ rfl (by decide) rfl (Nat.le_of_ble_eq_true rfl) dX8_beginAnew_9 fun v3 h4 => ?_
  exact k_vret hq dX8_beginAnew_12
theorem con_X8_beginAnew (l : Launch) (G : eG) (B0 n : Nat) (N : Nat) (l0 : Nat) : e_C eV l G B0 n yX8_beginAnew cX8_beginAnew 1 none 1 21 [.ref l0] (F_X8_beginAnew N l0) := by
  refine e_mk (by decide) (Nat.le_of_ble_eq_true rfl) fun q r0 h0 h hq e1 e2 e3 e4 => ?_
  subst e1; subst e2; subst e3; subst e4
  exact P_X8_beginAnew_0 hq N l0 h
set_option maxRecDepth 100000 in
set_option maxHeartbeats 4000000 in
theorem P_X5_forget_0 {q : eT} {r0 : Unit} {h0 : eH} (hq : e_B q yX5_forget.cls cX5_forget 1 0 0 none yX5_forget.name) (l0 : Nat) (h : eH) : e_K eV q r0 h0 0 [(0, .ref l0)] [] h (F_X5_forget l0 h) := by
  unfold F_X5_forget
  refine k_aload_n hq dX5_forget_0 0 rfl ?_
  refine k_iconst hq dX5_forget_1 (v := 0) rfl ?_
  refine k_p hq (C := RX5) (T := TX5) 5 2 rfl (by decide) lay_X5 tyX5 tyX5_ok nmX5 tw_143 rfl rfl rfl dX5_forget_2 fun h1 => ?_
  exact k_vret hq dX5_forget_5
theorem con_X5_forget (l : Launch) (G : eG) (B0 n : Nat) (l0 : Nat) : e_C eV l G B0 n yX5_forget cX5_forget 1 none 0 0 [.ref l0] (F_X5_forget l0) := by
  refine e_mk (by decide) (Nat.le_of_ble_eq_true rfl) fun q r0 h0 h hq e1 e2 e3 e4 => ?_
  subst e1; subst e2; subst e3; subst e4
  exact P_X5_forget_0 hq l0 h
set_option maxRecDepth 100000 in
set_option maxHeartbeats 4000000 in
theorem P_X5_placeOf_2b {q : eT} {r0 : Int32} {h0 : eH} (hq : e_B q yX5_placeOf.cls cX5_placeOf 3 0 0 (some .int) yX5_placeOf.name) (N : Nat) (k2 : Nat → Int32 → Int32 → eH → Option (Int32 × eH)) (hk2 : ∀ (l0 : Nat) (l1 : Int32) (l2 : Int32) h, e_K eI q r0 h0 2 [(0, .ref l0), (1, .int l1), (2, .int l2)] [] h (k2 l0 l1 l2 h)) (l0 : Nat) (l1 : Int32) (l2 : Int32) (h : eH) : e_K eI q r0 h0 2 [(0, .ref l0), (1, .int l1), (2, .int l2)] [] h (F_X5_placeOf_2b N k2 l0 l1 l2 h) := by
  unfold F_X5_placeOf_2b
  refine k_iload_n hq dX5_placeOf_2 2 rfl ?_
  refine k_aload_n hq dX5_placeOf_3 0 rfl ?_
  refine k_gi hq (C := RX5) (T := TX5) 5 2 rfl (by decide) (lay_X5 2 (by decide)) tw_143 dX5_placeOf_4 fun v1 => ?_
  refine k_icmp_ge hq (tgt := 37) dX5_placeOf_7 (by decide) (fun _ => ?_) (fun _ => ?_)
  · refine k_iconst hq dX5_placeOf_37 (v := (-1)) rfl ?_
    exact k_iret hq dX5_placeOf_38
  · refine k_iload_n hq dX5_placeOf_10 2 rfl ?_
    refine k_aload_n hq dX5_placeOf_11 0 rfl ?_
    refine k_gr hq (C := RX5) (T := TX5) 5 0 rfl (by decide) (lay_X5 0 (by decide)) tw_141 dX5_placeOf_12 fun v2 => ?_
    refine k_alen hq dX5_placeOf_15 fun v3 => ?_
    refine k_icmp_ge hq (tgt := 37) dX5_placeOf_16 (by decide) (fun _ => ?_) (fun _ => ?_)
    · refine k_iconst hq dX5_placeOf_37 (v := (-1)) rfl ?_
      exact k_iret hq dX5_placeOf_38
    · refine k_aload_n hq dX5_placeOf_19 0 rfl ?_
      refine k_gr hq (C := RX5) (T := TX5) 5 0 rfl (by decide) (lay_X5 0 (by decide)) tw_141 dX5_placeOf_20 fun v4 => ?_
      refine k_iload_n hq dX5_placeOf_23 2 rfl ?_
      refine k_iald hq dX5_placeOf_24 fun v5 => ?_
      refine k_iload_n hq dX5_placeOf_25 1 rfl ?_
      refine k_icmp_ne hq (tgt := 31) dX5_placeOf_26 (by decide) (fun _ => ?_) (fun _ => ?_)
      · refine k_iload_n hq dX5_placeOf_29 2 rfl ?_
        exact k_iret hq dX5_placeOf_30
      · refine k_iinc hq dX5_placeOf_31 2 rfl (v := l2 + 1) rfl (by decide) (ls' := [(2, .int (l2 + 1)), (0, .ref l0), (1, .int l1)]) rfl ?_
        refine k_goto hq (tgt := 2) dX5_placeOf_34 (by decide) ?_
        exact k_sub [1, 2, 0] rfl (hk2 l0 l1 (l2 + 1) h)
theorem Q_X5_placeOf_2 {q : eT} {r0 : Int32} {h0 : eH} (hq : e_B q yX5_placeOf.cls cX5_placeOf 3 0 0 (some .int) yX5_placeOf.name) (N : Nat) (l0 : Nat) (l1 : Int32) (l2 : Int32) (h : eH) : e_K eI q r0 h0 2 [(0, .ref l0), (1, .int l1), (2, .int l2)] [] h (L_X5_placeOf_2 N l0 l1 l2 h) :=
  k_loop (mk := (fun s => [(0, .ref s.1), (1, .int s.2.1), (2, .int s.2.2.1)])) (hp := fun s => s.2.2.2) (fun k hk s => P_X5_placeOf_2b hq N (fun l0 l1 l2 h => k (l0, l1, l2, h)) (fun l0 l1 l2 h => hk (l0, l1, l2, h)) s.1 s.2.1 s.2.2.1 s.2.2.2) N (l0, l1, l2, h)
set_option maxRecDepth 100000 in
set_option maxHeartbeats 4000000 in
theorem P_X5_placeOf_0 {q : eT} {r0 : Int32} {h0 : eH} (hq : e_B q yX5_placeOf.cls cX5_placeOf 3 0 0 (some .int) yX5_placeOf.name) (N : Nat) (l0 : Nat) (l1 : Int32) (h : eH) : e_K eI q r0 h0 0 [(0, .ref l0), (1, .int l1)] [] h (F_X5_placeOf N l0 l1 h) := by
  unfold F_X5_placeOf
  refine k_iconst hq dX5_placeOf_0 (v := 0) rfl ?_
  refine k_istore_n hq dX5_placeOf_1 rfl (by decide) (ls' := [(2, .int 0), (0, .ref l0), (1, .int l1)]) rfl ?_
  exact k_sub [1, 2, 0] rfl (Q_X5_placeOf_2 hq N l0 l1 0 h)
theorem con_X5_placeOf (l : Launch) (G : eG) (B0 n : Nat) (N : Nat) (l0 : Nat) (l1 : Int32) : e_C eI l G B0 n yX5_placeOf cX5_placeOf 3 (some .int) 0 0 [.ref l0, .int l1] (F_X5_placeOf N l0 l1) := by
  refine e_mk (by decide) (Nat.le_of_ble_eq_true rfl) fun q r0 h0 h hq e1 e2 e3 e4 => ?_
  subst e1; subst e2; subst e3; subst e4
  exact P_X5_placeOf_0 hq N l0 l1 h
set_option maxRecDepth 100000 in
set_option maxHeartbeats 4000000 in
theorem P_X5_give_73 {q : eT} {r0 : Int32} {h0 : eH} (hq : e_B q yX5_give.cls cX5_give 5 1 22 (some .int) yX5_give.name) (N : Nat) (l0 : Nat) (l1 : Int32) (l2 : Int32) (l4 : Int32) (h : eH) : e_K eI q r0 h0 73 [(0, .ref l0), (1, .int l1), (2, .int l2), (4, .int l4)] [] h (F_X5_give_73 N l0 l1 l2 l4 h) := by
  unfold F_X5_give_73
  refine k_aload_n hq dX5_give_73 0 rfl ?_
  refine k_gr hq (C := RX5) (T := TX5) 5 0 rfl (by decide) (lay_X5 0 (by decide)) tw_141 dX5_give_74 fun v1 => ?_
  refine k_aload_n hq dX5_give_77 0 rfl ?_
  refine k_gi hq (C := RX5) (T := TX5) 5 2 rfl (by decide) (lay_X5 2 (by decide)) tw_143 dX5_give_78 fun v2 => ?_
  refine k_iload_n hq dX5_give_81 1 rfl ?_
  refine k_iast hq dX5_give_82 fun h3 => ?_
  refine k_aload_n hq dX5_give_83 0 rfl ?_
  refine k_gr hq (C := RX5) (T := TX5) 5 1 rfl (by decide) (lay_X5 1 (by decide)) tw_142 dX5_give_84 fun v4 => ?_
  refine k_aload_n hq dX5_give_87 0 rfl ?_
  refine k_gi hq (C := RX5) (T := TX5) 5 2 rfl (by decide) (lay_X5 2 (by decide)) tw_143 dX5_give_88 fun v5 => ?_
  refine k_iload_n hq dX5_give_91 2 rfl ?_
  refine k_iast hq dX5_give_92 fun h6 => ?_
  refine k_aload_n hq dX5_give_93 0 rfl ?_
  refine k_dup hq dX5_give_94 rfl ?_
  refine k_gi hq (C := RX5) (T := TX5) 5 2 rfl (by decide) (lay_X5 2 (by decide)) tw_143 dX5_give_95 fun v7 => ?_
  refine k_iconst hq dX5_give_98 (v := 1) rfl ?_
  refine k_iadd hq dX5_give_99 ?_
  refine k_p hq (C := RX5) (T := TX5) 5 2 rfl (by decide) lay_X5 tyX5 tyX5_ok nmX5 tw_143 rfl rfl rfl dX5_give_100 fun h8 => ?_
  refine k_iload hq dX5_give_103 3 rfl ?_
  exact k_iret hq dX5_give_105
set_option maxRecDepth 100000 in
set_option maxHeartbeats 4000000 in
theorem P_X5_give_0 {q : eT} {r0 : Int32} {h0 : eH} (hq : e_B q yX5_give.cls cX5_give 5 1 22 (some .int) yX5_give.name) (N : Nat) (l0 : Nat) (l1 : Int32) (l2 : Int32) (h : eH) : e_K eI q r0 h0 0 [(0, .ref l0), (1, .int l1), (2, .int l2)] [] h (F_X5_give N l0 l1 l2 h) := by
  unfold F_X5_give
  refine k_aload_n hq dX5_give_0 0 rfl ?_
  refine k_iload_n hq dX5_give_1 1 rfl ?_
  refine k_callV hq (na := 1) (As := [.int l1]) (st := []) 5 (C := RX5) (T := TX5) rfl (con_X5_placeOf _ _ _ _ N l0 l1) tw_692 tw_51 tw_689 tw_691 tw_14 ⟨by decide, by decide, by decide +kernel⟩ rfl (by decide) rfl (Nat.le_of_ble_eq_true rfl) dX5_give_2 fun v1 h2 => ?_
  refine k_istore_n hq dX5_give_5 rfl (by decide) (ls' := [(3, .int v1), (0, .ref l0), (1, .int l1), (2, .int l2)]) rfl ?_
  refine k_iload_n hq dX5_give_6 0 rfl ?_
  refine k_if_lt hq (tgt := 20) dX5_give_7 (by decide) (fun _ => ?_) (fun _ => ?_)
  · refine k_bipush hq dX5_give_20 (v := (-9)) rfl ?_
    refine k_istore hq dX5_give_22 (by decide) (ls' := [(4, .int (-9)), (3, .int v1), (0, .ref l0), (1, .int l1), (2, .int l2)]) rfl ?_
    refine k_aload_n hq dX5_give_24 2 rfl ?_
    refine k_gi hq (C := RX5) (T := TX5) 5 2 rfl (by decide) (lay_X5 2 (by decide)) tw_143 dX5_give_25 fun v3 => ?_
    refine k_aload_n hq dX5_give_28 2 rfl ?_
    refine k_gr hq (C := RX5) (T := TX5) 5 0 rfl (by decide) (lay_X5 0 (by decide)) tw_141 dX5_give_29 fun v4 => ?_
    refine k_alen hq dX5_give_32 fun v5 => ?_
    refine k_icmp_lt hq (tgt := 73) dX5_give_33 (by decide) (fun _ => ?_) (fun _ => ?_)
    · exact k_sub [2, 3, 4, 0] rfl (P_X5_give_73 hq N l0 l1 l2 (-9) h2)
    · refine k_aload_n hq dX5_give_36 2 rfl ?_
      refine k_gr hq (C := RX5) (T := TX5) 5 0 rfl (by decide) (lay_X5 0 (by decide)) tw_141 dX5_give_37 fun v6 => ?_
      refine k_iconst hq dX5_give_40 (v := 0) rfl ?_
      refine k_iald hq dX5_give_41 fun v7 => ?_
      refine k_istore hq dX5_give_42 (by decide) (ls' := [(4, .int v7), (3, .int v1), (0, .ref l0), (1, .int l1), (2, .int l2)]) rfl ?_
      refine k_aload_n hq dX5_give_44 2 rfl ?_
      refine k_gr hq (C := RX5) (T := TX5) 5 0 rfl (by decide) (lay_X5 0 (by decide)) tw_141 dX5_give_45 fun v8 => ?_
      refine k_iconst hq dX5_give_48 (v := 0) rfl ?_
      refine k_aload_n hq dX5_give_49 2 rfl ?_
      refine k_gr hq (C := RX5) (T := TX5) 5 0 rfl (by decide) (lay_X5 0 (by decide)) tw_141 dX5_give_50 fun v9 => ?_
      refine k_iconst hq dX5_give_53 (v := 1) rfl ?_
      refine k_iald hq dX5_give_54 fun v10 => ?_
      refine k_iast hq dX5_give_55 fun h11 => ?_
      refine k_aload_n hq dX5_give_56 2 rfl ?_
      refine k_gr hq (C := RX5) (T := TX5) 5 1 rfl (by decide) (lay_X5 1 (by decide)) tw_142 dX5_give_57 fun v12 => ?_
      refine k_iconst hq dX5_give_60 (v := 0) rfl ?_
      refine k_aload_n hq dX5_give_61 2 rfl ?_
      refine k_gr hq (C := RX5) (T := TX5) 5 1 rfl (by decide) (lay_X5 1 (by decide)) tw_142 dX5_give_62 fun v13 => ?_
      refine k_iconst hq dX5_give_65 (v := 1) rfl ?_
      refine k_iald hq dX5_give_66 fun v14 => ?_
      refine k_iast hq dX5_give_67 fun h15 => ?_
      refine k_aload_n hq dX5_give_68 2 rfl ?_
      refine k_iconst hq dX5_give_69 (v := 1) rfl ?_
      refine k_p hq (C := RX5) (T := TX5) 5 2 rfl (by decide) lay_X5 tyX5 tyX5_ok nmX5 tw_143 rfl rfl rfl dX5_give_70 fun h16 => ?_
      exact k_sub [2, 3, 4, 0] rfl (P_X5_give_73 hq N l0 l1 l2 v7 h16)
  · refine k_aload_n hq dX5_give_10 1 rfl ?_
    refine k_gr hq (C := RX5) (T := TX5) 5 1 rfl (by decide) (lay_X5 1 (by decide)) tw_142 dX5_give_11 fun v17 => ?_
    refine k_iload_n hq dX5_give_14 0 rfl ?_
    refine k_iload_n hq dX5_give_15 3 rfl ?_
    refine k_iast hq dX5_give_16 fun h18 => ?_
    refine k_bipush hq dX5_give_17 (v := (-9)) rfl ?_
    exact k_iret hq dX5_give_19
theorem con_X5_give (l : Launch) (G : eG) (B0 n : Nat) (N : Nat) (l0 : Nat) (l1 : Int32) (l2 : Int32) : e_C eI l G B0 n yX5_give cX5_give 5 (some .int) 1 22 [.ref l0, .int l1, .int l2] (F_X5_give N l0 l1 l2) := by
  refine e_mk (by decide) (Nat.le_of_ble_eq_true rfl) fun q r0 h0 h hq e1 e2 e3 e4 => ?_
  subst e1; subst e2; subst e3; subst e4
  exact P_X5_give_0 hq N l0 l1 l2 h
set_option maxRecDepth 100000 in
set_option maxHeartbeats 4000000 in
theorem P_X5_isPlace_0 {q : eT} {r0 : Int32} {h0 : eH} (hq : e_B q yX5_isPlace.cls cX5_isPlace 2 0 0 (some .boolean) yX5_isPlace.name) (l0 : Nat) (l1 : Int32) (h : eH) : e_K eI q r0 h0 0 [(0, .ref l0), (1, .int l1)] [] h (F_X5_isPlace l0 l1 h) := by
  unfold F_X5_isPlace
  refine k_iload_n hq dX5_isPlace_0 1 rfl ?_
  refine k_if_lt hq (tgt := 25) dX5_isPlace_1 (by decide) (fun _ => ?_) (fun _ => ?_)
  · refine k_iconst hq dX5_isPlace_25 (v := 0) rfl ?_
    exact k_zret hq dX5_isPlace_26
  · refine k_iload_n hq dX5_isPlace_4 1 rfl ?_
    refine k_aload_n hq dX5_isPlace_5 0 rfl ?_
    refine k_gi hq (C := RX5) (T := TX5) 5 2 rfl (by decide) (lay_X5 2 (by decide)) tw_143 dX5_isPlace_6 fun v1 => ?_
    refine k_icmp_ge hq (tgt := 25) dX5_isPlace_9 (by decide) (fun _ => ?_) (fun _ => ?_)
    · refine k_iconst hq dX5_isPlace_25 (v := 0) rfl ?_
      exact k_zret hq dX5_isPlace_26
    · refine k_iload_n hq dX5_isPlace_12 1 rfl ?_
      refine k_aload_n hq dX5_isPlace_13 0 rfl ?_
      refine k_gr hq (C := RX5) (T := TX5) 5 0 rfl (by decide) (lay_X5 0 (by decide)) tw_141 dX5_isPlace_14 fun v2 => ?_
      refine k_alen hq dX5_isPlace_17 fun v3 => ?_
      refine k_icmp_ge hq (tgt := 25) dX5_isPlace_18 (by decide) (fun _ => ?_) (fun _ => ?_)
      · refine k_iconst hq dX5_isPlace_25 (v := 0) rfl ?_
        exact k_zret hq dX5_isPlace_26
      · refine k_iconst hq dX5_isPlace_21 (v := 1) rfl ?_
        refine k_goto hq (tgt := 26) dX5_isPlace_22 (by decide) ?_
        exact k_zret hq dX5_isPlace_26
theorem con_X5_isPlace (l : Launch) (G : eG) (B0 n : Nat) (l0 : Nat) (l1 : Int32) : e_C eI l G B0 n yX5_isPlace cX5_isPlace 2 (some .boolean) 0 0 [.ref l0, .int l1] (F_X5_isPlace l0 l1) := by
  refine e_mk (by decide) (Nat.le_of_ble_eq_true rfl) fun q r0 h0 h hq e1 e2 e3 e4 => ?_
  subst e1; subst e2; subst e3; subst e4
  exact P_X5_isPlace_0 hq l0 l1 h
set_option maxRecDepth 100000 in
set_option maxHeartbeats 4000000 in
theorem P_X5_ruleAtPlace_0 {q : eT} {r0 : Int32} {h0 : eH} (hq : e_B q yX5_ruleAtPlace.cls cX5_ruleAtPlace 2 1 21 (some .int) yX5_ruleAtPlace.name) (l0 : Nat) (l1 : Int32) (h : eH) : e_K eI q r0 h0 0 [(0, .ref l0), (1, .int l1)] [] h (F_X5_ruleAtPlace l0 l1 h) := by
  unfold F_X5_ruleAtPlace
  refine k_aload_n hq dX5_ruleAtPlace_0 0 rfl ?_
  refine k_iload_n hq dX5_ruleAtPlace_1 1 rfl ?_
  refine k_callV hq (na := 1) (As := [.int l1]) (st := []) 5 (C := RX5) (T := TX5) rfl (con_X5_isPlace _ _ _ _ l0 l1) tw_700 tw_51 tw_697 tw_699 tw_15 ⟨by decide, by decide, by decide +kernel⟩ rfl (by decide) rfl (Nat.le_of_ble_eq_true rfl) dX5_ruleAtPlace_2 fun v1 h2 => ?_
  refine k_if_eq hq (tgt := 17) dX5_ruleAtPlace_5 (by decide) (fun _ => ?_) (fun _ => ?_)
  · refine k_bipush hq dX5_ruleAtPlace_17 (v := (-9)) rfl ?_
    exact k_iret hq dX5_ruleAtPlace_19
  · refine k_aload_n hq dX5_ruleAtPlace_8 0 rfl ?_
    refine k_gr hq (C := RX5) (T := TX5) 5 1 rfl (by decide) (lay_X5 1 (by decide)) tw_142 dX5_ruleAtPlace_9 fun v3 => ?_
    refine k_iload_n hq dX5_ruleAtPlace_12 1 rfl ?_
    refine k_iald hq dX5_ruleAtPlace_13 fun v4 => ?_
    refine k_goto hq (tgt := 19) dX5_ruleAtPlace_14 (by decide) ?_
    exact k_iret hq dX5_ruleAtPlace_19
theorem con_X5_ruleAtPlace (l : Launch) (G : eG) (B0 n : Nat) (l0 : Nat) (l1 : Int32) : e_C eI l G B0 n yX5_ruleAtPlace cX5_ruleAtPlace 2 (some .int) 1 21 [.ref l0, .int l1] (F_X5_ruleAtPlace l0 l1) := by
  refine e_mk (by decide) (Nat.le_of_ble_eq_true rfl) fun q r0 h0 h hq e1 e2 e3 e4 => ?_
  subst e1; subst e2; subst e3; subst e4
  exact P_X5_ruleAtPlace_0 hq l0 l1 h
set_option maxRecDepth 100000 in
set_option maxHeartbeats 4000000 in
theorem P_X5_ruleOf_0 {q : eT} {r0 : Int32} {h0 : eH} (hq : e_B q yX5_ruleOf.cls cX5_ruleOf 2 2 42 (some .int) yX5_ruleOf.name) (N : Nat) (l0 : Nat) (l1 : Int32) (h : eH) : e_K eI q r0 h0 0 [(0, .ref l0), (1, .int l1)] [] h (F_X5_ruleOf N l0 l1 h) := by
  unfold F_X5_ruleOf
  refine k_aload_n hq dX5_ruleOf_0 0 rfl ?_
  refine k_aload_n hq dX5_ruleOf_1 0 rfl ?_
  refine k_iload_n hq dX5_ruleOf_2 1 rfl ?_
  refine k_callV hq (na := 1) (As := [.int l1]) (st := [.ref l0]) 5 (C := RX5) (T := TX5) rfl (con_X5_placeOf _ _ _ _ N l0 l1) tw_692 tw_51 tw_689 tw_691 tw_14 ⟨by decide, by decide, by decide +kernel⟩ rfl (by decide) rfl (Nat.le_of_ble_eq_true rfl) dX5_ruleOf_3 fun v1 h2 => ?_
  refine k_callV hq (na := 1) (As := [.int v1]) (st := []) 5 (C := RX5) (T := TX5) rfl (con_X5_ruleAtPlace _ _ _ _ l0 v1) tw_696 tw_51 tw_693 tw_694 tw_695 ⟨by decide, by decide, by decide +kernel⟩ rfl (by decide) rfl (Nat.le_of_ble_eq_true rfl) dX5_ruleOf_6 fun v3 h4 => ?_
  exact k_iret hq dX5_ruleOf_9
theorem con_X5_ruleOf (l : Launch) (G : eG) (B0 n : Nat) (N : Nat) (l0 : Nat) (l1 : Int32) : e_C eI l G B0 n yX5_ruleOf cX5_ruleOf 2 (some .int) 2 42 [.ref l0, .int l1] (F_X5_ruleOf N l0 l1) := by
  refine e_mk (by decide) (Nat.le_of_ble_eq_true rfl) fun q r0 h0 h hq e1 e2 e3 e4 => ?_
  subst e1; subst e2; subst e3; subst e4
  exact P_X5_ruleOf_0 hq N l0 l1 h
set_option maxRecDepth 100000 in
set_option maxHeartbeats 4000000 in
theorem P_X5_keyAtPlace_0 {q : eT} {r0 : Int32} {h0 : eH} (hq : e_B q yX5_keyAtPlace.cls cX5_keyAtPlace 2 1 21 (some .int) yX5_keyAtPlace.name) (l0 : Nat) (l1 : Int32) (h : eH) : e_K eI q r0 h0 0 [(0, .ref l0), (1, .int l1)] [] h (F_X5_keyAtPlace l0 l1 h) := by
  unfold F_X5_keyAtPlace
  refine k_aload_n hq dX5_keyAtPlace_0 0 rfl ?_
  refine k_iload_n hq dX5_keyAtPlace_1 1 rfl ?_
  refine k_callV hq (na := 1) (As := [.int l1]) (st := []) 5 (C := RX5) (T := TX5) rfl (con_X5_isPlace _ _ _ _ l0 l1) tw_700 tw_51 tw_697 tw_699 tw_15 ⟨by decide, by decide, by decide +kernel⟩ rfl (by decide) rfl (Nat.le_of_ble_eq_true rfl) dX5_keyAtPlace_2 fun v1 h2 => ?_
  refine k_if_eq hq (tgt := 17) dX5_keyAtPlace_5 (by decide) (fun _ => ?_) (fun _ => ?_)
  · refine k_bipush hq dX5_keyAtPlace_17 (v := (-9)) rfl ?_
    exact k_iret hq dX5_keyAtPlace_19
  · refine k_aload_n hq dX5_keyAtPlace_8 0 rfl ?_
    refine k_gr hq (C := RX5) (T := TX5) 5 0 rfl (by decide) (lay_X5 0 (by decide)) tw_141 dX5_keyAtPlace_9 fun v3 => ?_
    refine k_iload_n hq dX5_keyAtPlace_12 1 rfl ?_
    refine k_iald hq dX5_keyAtPlace_13 fun v4 => ?_
    refine k_goto hq (tgt := 19) dX5_keyAtPlace_14 (by decide) ?_
    exact k_iret hq dX5_keyAtPlace_19
theorem con_X5_keyAtPlace (l : Launch) (G : eG) (B0 n : Nat) (l0 : Nat) (l1 : Int32) : e_C eI l G B0 n yX5_keyAtPlace cX5_keyAtPlace 2 (some .int) 1 21 [.ref l0, .int l1] (F_X5_keyAtPlace l0 l1) := by
  refine e_mk (by decide) (Nat.le_of_ble_eq_true rfl) fun q r0 h0 h hq e1 e2 e3 e4 => ?_
  subst e1; subst e2; subst e3; subst e4
  exact P_X5_keyAtPlace_0 hq l0 l1 h
set_option maxRecDepth 100000 in
set_option maxHeartbeats 4000000 in
theorem P_X6_init_0 {q : eT} {r0 : Unit} {h0 : eH} (hq : e_B q yX6_init.cls cX6_init 1 1 28 none yX6_init.name) (l0 : Nat) (h : eH) : e_K eV q r0 h0 0 [(0, .ref l0)] [] h (F_X6_init l0 h) := by
  unfold F_X6_init
  refine k_aload_n hq dX6_init_0 0 rfl ?_
  refine k_objInit hq tw_156 tw_73 tw_74 (by decide) (Nat.le_of_ble_eq_true rfl) dX6_init_1 ?_
  exact k_vret hq dX6_init_4
theorem con_X6_init (l : Launch) (G : eG) (B0 n : Nat) (l0 : Nat) : e_C eV l G B0 n yX6_init cX6_init 1 none 1 28 [.ref l0] (F_X6_init l0) := by
  refine e_mk (by decide) (Nat.le_of_ble_eq_true rfl) fun q r0 h0 h hq e1 e2 e3 e4 => ?_
  subst e1; subst e2; subst e3; subst e4
  exact P_X6_init_0 hq l0 h
set_option maxRecDepth 100000 in
set_option maxHeartbeats 4000000 in
theorem P_X6_begin_0 {q : eT} {r0 : Unit} {h0 : eH} (hq : e_B q yX6_begin.cls cX6_begin 3 0 0 none yX6_begin.name) (l0 : Nat) (l1 : Int32) (l2 : Int32) (h : eH) : e_K eV q r0 h0 0 [(0, .ref l0), (1, .int l1), (2, .int l2)] [] h (F_X6_begin l0 l1 l2 h) := by
  unfold F_X6_begin
  refine k_aload_n hq dX6_begin_0 0 rfl ?_
  refine k_iload_n hq dX6_begin_1 1 rfl ?_
  refine k_p hq (C := RX6) (T := TX6) 6 0 rfl (by decide) lay_X6 tyX6 tyX6_ok nmX6 tw_157 rfl rfl rfl dX6_begin_2 fun h1 => ?_
  refine k_aload_n hq dX6_begin_5 0 rfl ?_
  refine k_iload_n hq dX6_begin_6 2 rfl ?_
  refine k_p hq (C := RX6) (T := TX6) 6 1 rfl (by decide) lay_X6 tyX6 tyX6_ok nmX6 tw_158 rfl rfl rfl dX6_begin_7 fun h2 => ?_
  refine k_aload_n hq dX6_begin_10 0 rfl ?_
  refine k_iconst hq dX6_begin_11 (v := 0) rfl ?_
  refine k_pz hq (C := RX6) (T := TX6) 6 3 rfl (by decide) lay_X6 tyX6 tyX6_ok nmX6 tw_161 rfl rfl dX6_begin_12 fun h3 => ?_
  refine k_aload_n hq dX6_begin_15 0 rfl ?_
  refine k_lconst hq dX6_begin_16 (v := 0) rfl ?_
  refine k_p hq (C := RX6) (T := TX6) 6 2 rfl (by decide) lay_X6 tyX6 tyX6_ok nmX6 tw_159 rfl rfl rfl dX6_begin_17 fun h4 => ?_
  refine k_aload_n hq dX6_begin_20 0 rfl ?_
  refine k_gi hq (C := RX6) (T := TX6) 6 1 rfl (by decide) (lay_X6 1 (by decide)) tw_158 dX6_begin_21 fun v5 => ?_
  refine k_if_ne hq (tgt := 37) dX6_begin_24 (by decide) (fun _ => ?_) (fun _ => ?_)
  · refine k_aload_n hq dX6_begin_27 0 rfl ?_
    refine k_ldc2 hq (v := (-9223372036854775808)) tw_709 dX6_begin_28 ?_
    refine k_p hq (C := RX6) (T := TX6) 6 2 rfl (by decide) lay_X6 tyX6 tyX6_ok nmX6 tw_159 rfl rfl rfl dX6_begin_31 fun h11 => ?_
    refine k_goto hq (tgt := 78) dX6_begin_34 (by decide) ?_
    exact k_vret hq dX6_begin_78
  · refine k_aload_n hq dX6_begin_37 0 rfl ?_
    refine k_gi hq (C := RX6) (T := TX6) 6 1 rfl (by decide) (lay_X6 1 (by decide)) tw_158 dX6_begin_38 fun v6 => ?_
    refine k_iconst hq dX6_begin_41 (v := 1) rfl ?_
    refine k_icmp_ne hq (tgt := 55) dX6_begin_42 (by decide) (fun _ => ?_) (fun _ => ?_)
    · refine k_aload_n hq dX6_begin_45 0 rfl ?_
      refine k_ldc2 hq (v := 9223372036854775807) tw_710 dX6_begin_46 ?_
      refine k_p hq (C := RX6) (T := TX6) 6 2 rfl (by decide) lay_X6 tyX6 tyX6_ok nmX6 tw_159 rfl rfl rfl dX6_begin_49 fun h10 => ?_
      refine k_goto hq (tgt := 78) dX6_begin_52 (by decide) ?_
      exact k_vret hq dX6_begin_78
    · refine k_aload_n hq dX6_begin_55 0 rfl ?_
      refine k_gi hq (C := RX6) (T := TX6) 6 1 rfl (by decide) (lay_X6 1 (by decide)) tw_158 dX6_begin_56 fun v7 => ?_
      refine k_iconst hq dX6_begin_59 (v := 3) rfl ?_
      refine k_icmp_ne hq (tgt := 78) dX6_begin_60 (by decide) (fun _ => ?_) (fun _ => ?_)
      · refine k_aload_n hq dX6_begin_63 0 rfl ?_
        refine k_gi hq (C := RX6) (T := TX6) 6 0 rfl (by decide) (lay_X6 0 (by decide)) tw_157 dX6_begin_64 fun v8 => ?_
        refine k_iconst hq dX6_begin_67 (v := 1) rfl ?_
        refine k_icmp_ne hq (tgt := 78) dX6_begin_68 (by decide) (fun _ => ?_) (fun _ => ?_)
        · refine k_aload_n hq dX6_begin_71 0 rfl ?_
          refine k_ldc2 hq (v := (-1)) tw_711 dX6_begin_72 ?_
          refine k_p hq (C := RX6) (T := TX6) 6 2 rfl (by decide) lay_X6 tyX6 tyX6_ok nmX6 tw_159 rfl rfl rfl dX6_begin_75 fun h9 => ?_
          exact k_vret hq dX6_begin_78
        · exact k_vret hq dX6_begin_78
      · exact k_vret hq dX6_begin_78
theorem con_X6_begin (l : Launch) (G : eG) (B0 n : Nat) (l0 : Nat) (l1 : Int32) (l2 : Int32) : e_C eV l G B0 n yX6_begin cX6_begin 3 none 0 0 [.ref l0, .int l1, .int l2] (F_X6_begin l0 l1 l2) := by
  refine e_mk (by decide) (Nat.le_of_ble_eq_true rfl) fun q r0 h0 h hq e1 e2 e3 e4 => ?_
  subst e1; subst e2; subst e3; subst e4
  exact P_X6_begin_0 hq l0 l1 l2 h
set_option maxRecDepth 100000 in
set_option maxHeartbeats 4000000 in
theorem P_X6_putTogether_54 {q : eT} {r0 : Unit} {h0 : eH} (hq : e_B q yX6_putTogether.cls cX6_putTogether 5 0 0 none yX6_putTogether.name) (l0 : Nat) (l3 : Int64) (s0 : Nat) (s1 : Int32) (h : eH) : e_K eV q r0 h0 54 [(0, .ref l0), (3, .long l3)] [.int s1, .ref s0] h (F_X6_putTogether_54 l0 l3 s0 s1 h) := by
  unfold F_X6_putTogether_54
  refine k_pz hq (C := RX6) (T := TX6) 6 3 rfl (by decide) lay_X6 tyX6 tyX6_ok nmX6 tw_161 rfl rfl dX6_putTogether_54 fun h1 => ?_
  refine k_aload_n hq dX6_putTogether_57 0 rfl ?_
  refine k_lload_n hq dX6_putTogether_58 1 rfl ?_
  refine k_p hq (C := RX6) (T := TX6) 6 2 rfl (by decide) lay_X6 tyX6 tyX6_ok nmX6 tw_159 rfl rfl rfl dX6_putTogether_59 fun h2 => ?_
  exact k_vret hq dX6_putTogether_62
set_option maxRecDepth 100000 in
set_option maxHeartbeats 4000000 in
theorem P_X6_putTogether_49 {q : eT} {r0 : Unit} {h0 : eH} (hq : e_B q yX6_putTogether.cls cX6_putTogether 5 0 0 none yX6_putTogether.name) (l0 : Nat) (l3 : Int64) (s0 : Nat) (h : eH) : e_K eV q r0 h0 49 [(0, .ref l0), (3, .long l3)] [.ref s0] h (F_X6_putTogether_49 l0 l3 s0 h) := by
  unfold F_X6_putTogether_49
  refine k_iconst hq dX6_putTogether_49 (v := 1) rfl ?_
  refine k_goto hq (tgt := 54) dX6_putTogether_50 (by decide) ?_
  exact k_sub [0, 1] rfl (P_X6_putTogether_54 hq l0 l3 s0 1 h)
set_option maxRecDepth 100000 in
set_option maxHeartbeats 4000000 in
theorem P_X6_putTogether_0 {q : eT} {r0 : Unit} {h0 : eH} (hq : e_B q yX6_putTogether.cls cX6_putTogether 5 0 0 none yX6_putTogether.name) (l0 : Nat) (l1 : Int64) (h : eH) : e_K eV q r0 h0 0 [(0, .ref l0), (1, .long l1)] [] h (F_X6_putTogether l0 l1 h) := by
  unfold F_X6_putTogether
  refine k_aload_n hq dX6_putTogether_0 0 rfl ?_
  refine k_gi hq (C := RX6) (T := TX6) 6 0 rfl (by decide) (lay_X6 0 (by decide)) tw_157 dX6_putTogether_1 fun v1 => ?_
  refine k_iconst hq dX6_putTogether_4 (v := 1) rfl ?_
  refine k_icmp_ne hq (tgt := 19) dX6_putTogether_5 (by decide) (fun _ => ?_) (fun _ => ?_)
  · refine k_aload_n hq dX6_putTogether_8 0 rfl ?_
    refine k_dup hq dX6_putTogether_9 rfl ?_
    refine k_gl hq (C := RX6) (T := TX6) 6 2 rfl (by decide) (lay_X6 2 (by decide)) tw_159 dX6_putTogether_10 fun v6 => ?_
    refine k_lload_n hq dX6_putTogether_13 1 rfl ?_
    refine k_lor hq dX6_putTogether_14 ?_
    refine k_p hq (C := RX6) (T := TX6) 6 2 rfl (by decide) lay_X6 tyX6 tyX6_ok nmX6 tw_159 rfl rfl rfl dX6_putTogether_15 fun h7 => ?_
    exact k_vret hq dX6_putTogether_18
  · refine k_aload_n hq dX6_putTogether_19 0 rfl ?_
    refine k_gl hq (C := RX6) (T := TX6) 6 2 rfl (by decide) (lay_X6 2 (by decide)) tw_159 dX6_putTogether_20 fun v2 => ?_
    refine k_lload_n hq dX6_putTogether_23 1 rfl ?_
    refine k_ladd hq dX6_putTogether_24 ?_
    refine k_let (mk := fun z => .long z :: []) fun v3 _ => ?_
    refine k_lstore_n hq dX6_putTogether_25 rfl (by decide) (ls' := [(3, .long v3), (0, .ref l0), (1, .long l1)]) rfl ?_
    refine k_aload_n hq dX6_putTogether_26 1 rfl ?_
    refine k_aload_n hq dX6_putTogether_27 1 rfl ?_
    refine k_gi hq (C := RX6) (T := TX6) 6 3 rfl (by decide) (lay_X6 3 (by decide)) tw_161 dX6_putTogether_28 fun v4 => ?_
    refine k_if_ne hq (tgt := 49) dX6_putTogether_31 (by decide) (fun _ => ?_) (fun _ => ?_)
    · refine k_aload_n hq dX6_putTogether_34 1 rfl ?_
      refine k_gl hq (C := RX6) (T := TX6) 6 2 rfl (by decide) (lay_X6 2 (by decide)) tw_159 dX6_putTogether_35 fun v5 => ?_
      refine k_lload_n hq dX6_putTogether_38 0 rfl ?_
      refine k_lxor hq dX6_putTogether_39 ?_
      refine k_lload_n hq dX6_putTogether_40 2 rfl ?_
      refine k_lload_n hq dX6_putTogether_41 0 rfl ?_
      refine k_lxor hq dX6_putTogether_42 ?_
      refine k_land hq dX6_putTogether_43 ?_
      refine k_lconst hq dX6_putTogether_44 (v := 0) rfl ?_
      refine k_lcmp hq dX6_putTogether_45 ?_
      refine k_if_ge hq (tgt := 53) dX6_putTogether_46 (by decide) (fun _ => ?_) (fun _ => ?_)
      · refine k_iconst hq dX6_putTogether_53 (v := 0) rfl ?_
        exact k_sub [1, 0] rfl (P_X6_putTogether_54 hq l0 v3 l0 0 h)
      · exact k_sub [1, 0] rfl (P_X6_putTogether_49 hq l0 v3 l0 h)
    · exact k_sub [1, 0] rfl (P_X6_putTogether_49 hq l0 v3 l0 h)
theorem con_X6_putTogether (l : Launch) (G : eG) (B0 n : Nat) (l0 : Nat) (l1 : Int64) : e_C eV l G B0 n yX6_putTogether cX6_putTogether 5 none 0 0 [.ref l0, .long l1] (F_X6_putTogether l0 l1) := by
  refine e_mk (by decide) (Nat.le_of_ble_eq_true rfl) fun q r0 h0 h hq e1 e2 e3 e4 => ?_
  subst e1; subst e2; subst e3; subst e4
  exact P_X6_putTogether_0 hq l0 l1 h
set_option maxRecDepth 100000 in
set_option maxHeartbeats 4000000 in
theorem P_X6_divisorOf_9b {q : eT} {r0 : Int64} {h0 : eH} (hq : e_B q yX6_divisorOf.cls cX6_divisorOf 11 0 0 (some .long) yX6_divisorOf.name) (N : Nat) (k9 : Int64 → Int64 → Int32 → eH → Option (Int64 × eH)) (hk9 : ∀ (l4 : Int64) (l6 : Int64) (l8 : Int32) h, e_K eL q r0 h0 9 [(4, .long l4), (6, .long l6), (8, .int l8)] [] h (k9 l4 l6 l8 h)) (l4 : Int64) (l6 : Int64) (l8 : Int32) (h : eH) : e_K eL q r0 h0 9 [(4, .long l4), (6, .long l6), (8, .int l8)] [] h (F_X6_divisorOf_9b N k9 l4 l6 l8 h) := by
  unfold F_X6_divisorOf_9b
  refine k_iload hq dX6_divisorOf_9 2 rfl ?_
  refine k_sipush hq dX6_divisorOf_11 (v := 1000) rfl ?_
  refine k_icmp_ge hq (tgt := 45) dX6_divisorOf_14 (by decide) (fun _ => ?_) (fun _ => ?_)
  · refine k_lload hq dX6_divisorOf_45 0 rfl ?_
    exact k_lret hq dX6_divisorOf_47
  · refine k_lload hq dX6_divisorOf_17 1 rfl ?_
    refine k_lconst hq dX6_divisorOf_19 (v := 0) rfl ?_
    refine k_lcmp hq dX6_divisorOf_20 ?_
    refine k_if_eq hq (tgt := 45) dX6_divisorOf_21 (by decide) (fun _ => ?_) (fun _ => ?_)
    · refine k_lload hq dX6_divisorOf_45 0 rfl ?_
      exact k_lret hq dX6_divisorOf_47
    · refine k_lload hq dX6_divisorOf_24 0 rfl ?_
      refine k_lload hq dX6_divisorOf_26 1 rfl ?_
      refine k_lrem hq dX6_divisorOf_28 fun _ => ?_
      refine k_let (mk := fun z => .long z :: []) fun v1 _ => ?_
      refine k_lstore hq dX6_divisorOf_29 (by decide) (ls' := [(9, .long v1), (4, .long l4), (6, .long l6), (8, .int l8)]) rfl ?_
      refine k_lload hq dX6_divisorOf_31 2 rfl ?_
      refine k_lstore hq dX6_divisorOf_33 (by decide) (ls' := [(4, .long l6), (9, .long v1), (6, .long l6), (8, .int l8)]) rfl ?_
      refine k_lload hq dX6_divisorOf_35 1 rfl ?_
      refine k_lstore hq dX6_divisorOf_37 (by decide) (ls' := [(6, .long v1), (4, .long l6), (9, .long v1), (8, .int l8)]) rfl ?_
      refine k_iinc hq dX6_divisorOf_39 3 rfl (v := l8 + 1) rfl (by decide) (ls' := [(8, .int (l8 + 1)), (6, .long v1), (4, .long l6), (9, .long v1)]) rfl ?_
      refine k_goto hq (tgt := 9) dX6_divisorOf_42 (by decide) ?_
      exact k_sub [2, 1, 0] rfl (hk9 l6 v1 (l8 + 1) h)
theorem Q_X6_divisorOf_9 {q : eT} {r0 : Int64} {h0 : eH} (hq : e_B q yX6_divisorOf.cls cX6_divisorOf 11 0 0 (some .long) yX6_divisorOf.name) (N : Nat) (l4 : Int64) (l6 : Int64) (l8 : Int32) (h : eH) : e_K eL q r0 h0 9 [(4, .long l4), (6, .long l6), (8, .int l8)] [] h (L_X6_divisorOf_9 N l4 l6 l8 h) :=
  k_loop (mk := (fun s => [(4, .long s.1), (6, .long s.2.1), (8, .int s.2.2.1)])) (hp := fun s => s.2.2.2) (fun k hk s => P_X6_divisorOf_9b hq N (fun l4 l6 l8 h => k (l4, l6, l8, h)) (fun l4 l6 l8 h => hk (l4, l6, l8, h)) s.1 s.2.1 s.2.2.1 s.2.2.2) N (l4, l6, l8, h)
set_option maxRecDepth 100000 in
set_option maxHeartbeats 4000000 in
theorem P_X6_divisorOf_0 {q : eT} {r0 : Int64} {h0 : eH} (hq : e_B q yX6_divisorOf.cls cX6_divisorOf 11 0 0 (some .long) yX6_divisorOf.name) (N : Nat) (l0 : Int64) (l2 : Int64) (h : eH) : e_K eL q r0 h0 0 [(0, .long l0), (2, .long l2)] [] h (F_X6_divisorOf N l0 l2 h) := by
  unfold F_X6_divisorOf
  refine k_lload_n hq dX6_divisorOf_0 0 rfl ?_
  refine k_lstore hq dX6_divisorOf_1 (by decide) (ls' := [(4, .long l0), (0, .long l0), (2, .long l2)]) rfl ?_
  refine k_lload_n hq dX6_divisorOf_3 2 rfl ?_
  refine k_lstore hq dX6_divisorOf_4 (by decide) (ls' := [(6, .long l2), (4, .long l0), (0, .long l0), (2, .long l2)]) rfl ?_
  refine k_iconst hq dX6_divisorOf_6 (v := 0) rfl ?_
  refine k_istore hq dX6_divisorOf_7 (by decide) (ls' := [(8, .int 0), (6, .long l2), (4, .long l0), (0, .long l0), (2, .long l2)]) rfl ?_
  exact k_sub [2, 1, 0] rfl (Q_X6_divisorOf_9 hq N l0 l2 0 h)
theorem con_X6_divisorOf (l : Launch) (G : eG) (B0 n : Nat) (N : Nat) (l0 : Int64) (l2 : Int64) : e_C eL l G B0 n yX6_divisorOf cX6_divisorOf 11 (some .long) 0 0 [.long l0, .long l2] (F_X6_divisorOf N l0 l2) := by
  refine e_mk (by decide) (Nat.le_of_ble_eq_true rfl) fun q r0 h0 h hq e1 e2 e3 e4 => ?_
  subst e1; subst e2; subst e3; subst e4
  exact P_X6_divisorOf_0 hq N l0 l2 h
set_option maxRecDepth 100000 in
set_option maxHeartbeats 4000000 in
theorem P_X6_keepCommon_36 {q : eT} {r0 : Unit} {h0 : eH} (hq : e_B q yX6_keepCommon.cls cX6_keepCommon 3 1 30 none yX6_keepCommon.name) (N : Nat) (s0 : Nat) (s1 : Int64) (s2 : Int64) (h : eH) : e_K eV q r0 h0 36 [] [.long s2, .long s1, .ref s0] h (F_X6_keepCommon_36 N s0 s1 s2 h) := by
  unfold F_X6_keepCommon_36
  refine k_callS hq (na := 2) (As := [.long s1, .long s2]) (st := [.ref s0]) (con_X6_divisorOf _ _ _ _ N s1 s2) tw_737 tw_52 tw_735 tw_736 ⟨by decide, by decide, by decide +kernel⟩ rfl (by decide) rfl (Nat.le_of_ble_eq_true rfl) dX6_keepCommon_36 fun v1 h2 => ?_
  refine k_p hq (C := RX6) (T := TX6) 6 2 rfl (by decide) lay_X6 tyX6 tyX6_ok nmX6 tw_159 rfl rfl rfl dX6_keepCommon_39 fun h3 => ?_
  exact k_vret hq dX6_keepCommon_42
set_option maxRecDepth 100000 in
set_option maxHeartbeats 4000000 in
theorem P_X6_keepCommon_0 {q : eT} {r0 : Unit} {h0 : eH} (hq : e_B q yX6_keepCommon.cls cX6_keepCommon 3 1 30 none yX6_keepCommon.name) (N : Nat) (l0 : Nat) (l1 : Int64) (h : eH) : e_K eV q r0 h0 0 [(0, .ref l0), (1, .long l1)] [] h (F_X6_keepCommon N l0 l1 h) := by
  unfold F_X6_keepCommon
  refine k_aload_n hq dX6_keepCommon_0 0 rfl ?_
  refine k_gi hq (C := RX6) (T := TX6) 6 0 rfl (by decide) (lay_X6 0 (by decide)) tw_157 dX6_keepCommon_1 fun v1 => ?_
  refine k_iconst hq dX6_keepCommon_4 (v := 1) rfl ?_
  refine k_icmp_ne hq (tgt := 19) dX6_keepCommon_5 (by decide) (fun _ => ?_) (fun _ => ?_)
  · refine k_aload_n hq dX6_keepCommon_8 0 rfl ?_
    refine k_dup hq dX6_keepCommon_9 rfl ?_
    refine k_gl hq (C := RX6) (T := TX6) 6 2 rfl (by decide) (lay_X6 2 (by decide)) tw_159 dX6_keepCommon_10 fun v3 => ?_
    refine k_lload_n hq dX6_keepCommon_13 1 rfl ?_
    refine k_land hq dX6_keepCommon_14 ?_
    refine k_p hq (C := RX6) (T := TX6) 6 2 rfl (by decide) lay_X6 tyX6 tyX6_ok nmX6 tw_159 rfl rfl rfl dX6_keepCommon_15 fun h4 => ?_
    exact k_vret hq dX6_keepCommon_18
  · refine k_aload_n hq dX6_keepCommon_19 0 rfl ?_
    refine k_aload_n hq dX6_keepCommon_20 0 rfl ?_
    refine k_gl hq (C := RX6) (T := TX6) 6 2 rfl (by decide) (lay_X6 2 (by decide)) tw_159 dX6_keepCommon_21 fun v2 => ?_
    refine k_lload_n hq dX6_keepCommon_24 1 rfl ?_
    refine k_lconst hq dX6_keepCommon_25 (v := 0) rfl ?_
    refine k_lcmp hq dX6_keepCommon_26 ?_
    refine k_if_le hq (tgt := 35) dX6_keepCommon_27 (by decide) (fun _ => ?_) (fun _ => ?_)
    · refine k_lload_n hq dX6_keepCommon_35 1 rfl ?_
      exact k_sub [] rfl (P_X6_keepCommon_36 hq N l0 v2 l1 h)
    · refine k_lload_n hq dX6_keepCommon_30 1 rfl ?_
      refine k_lneg hq dX6_keepCommon_31 ?_
      refine k_goto hq (tgt := 36) dX6_keepCommon_32 (by decide) ?_
      exact k_sub [] rfl (P_X6_keepCommon_36 hq N l0 v2 (-l1) h)
theorem con_X6_keepCommon (l : Launch) (G : eG) (B0 n : Nat) (N : Nat) (l0 : Nat) (l1 : Int64) : e_C eV l G B0 n yX6_keepCommon cX6_keepCommon 3 none 1 30 [.ref l0, .long l1] (F_X6_keepCommon N l0 l1) := by
  refine e_mk (by decide) (Nat.le_of_ble_eq_true rfl) fun q r0 h0 h hq e1 e2 e3 e4 => ?_
  subst e1; subst e2; subst e3; subst e4
  exact P_X6_keepCommon_0 hq N l0 l1 h
set_option maxRecDepth 100000 in
set_option maxHeartbeats 4000000 in
theorem P_X6_add_0 {q : eT} {r0 : Unit} {h0 : eH} (hq : e_B q yX6_add.cls cX6_add 3 2 52 none yX6_add.name) (N : Nat) (l0 : Nat) (l1 : Int64) (h : eH) : e_K eV q r0 h0 0 [(0, .ref l0), (1, .long l1)] [] h (F_X6_add N l0 l1 h) := by
  unfold F_X6_add
  refine k_aload_n hq dX6_add_0 0 rfl ?_
  refine k_gi hq (C := RX6) (T := TX6) 6 1 rfl (by decide) (lay_X6 1 (by decide)) tw_158 dX6_add_1 fun v1 => ?_
  refine k_if_ne hq (tgt := 22) dX6_add_4 (by decide) (fun _ => ?_) (fun _ => ?_)
  · refine k_aload_n hq dX6_add_7 0 rfl ?_
    refine k_aload_n hq dX6_add_8 0 rfl ?_
    refine k_gl hq (C := RX6) (T := TX6) 6 2 rfl (by decide) (lay_X6 2 (by decide)) tw_159 dX6_add_9 fun v12 => ?_
    refine k_lload_n hq dX6_add_12 1 rfl ?_
    refine k_mmaxL hq tw_721 tw_722 tw_60 tw_723 (by decide) (Nat.le_of_ble_eq_true rfl) dX6_add_13 ?_
    refine k_p hq (C := RX6) (T := TX6) 6 2 rfl (by decide) lay_X6 tyX6 tyX6_ok nmX6 tw_159 rfl rfl rfl dX6_add_16 fun h13 => ?_
    refine k_goto hq (tgt := 82) dX6_add_19 (by decide) ?_
    exact k_vret hq dX6_add_82
  · refine k_aload_n hq dX6_add_22 0 rfl ?_
    refine k_gi hq (C := RX6) (T := TX6) 6 1 rfl (by decide) (lay_X6 1 (by decide)) tw_158 dX6_add_23 fun v2 => ?_
    refine k_iconst hq dX6_add_26 (v := 1) rfl ?_
    refine k_icmp_ne hq (tgt := 45) dX6_add_27 (by decide) (fun _ => ?_) (fun _ => ?_)
    · refine k_aload_n hq dX6_add_30 0 rfl ?_
      refine k_aload_n hq dX6_add_31 0 rfl ?_
      refine k_gl hq (C := RX6) (T := TX6) 6 2 rfl (by decide) (lay_X6 2 (by decide)) tw_159 dX6_add_32 fun v10 => ?_
      refine k_lload_n hq dX6_add_35 1 rfl ?_
      refine k_mminL hq tw_724 tw_725 tw_60 tw_726 (by decide) (Nat.le_of_ble_eq_true rfl) dX6_add_36 ?_
      refine k_p hq (C := RX6) (T := TX6) 6 2 rfl (by decide) lay_X6 tyX6 tyX6_ok nmX6 tw_159 rfl rfl rfl dX6_add_39 fun h11 => ?_
      refine k_goto hq (tgt := 82) dX6_add_42 (by decide) ?_
      exact k_vret hq dX6_add_82
    · refine k_aload_n hq dX6_add_45 0 rfl ?_
      refine k_gi hq (C := RX6) (T := TX6) 6 1 rfl (by decide) (lay_X6 1 (by decide)) tw_158 dX6_add_46 fun v3 => ?_
      refine k_iconst hq dX6_add_49 (v := 2) rfl ?_
      refine k_icmp_ne hq (tgt := 61) dX6_add_50 (by decide) (fun _ => ?_) (fun _ => ?_)
      · refine k_aload_n hq dX6_add_53 0 rfl ?_
        refine k_lload_n hq dX6_add_54 1 rfl ?_
        refine k_callV hq (na := 1) (As := [.long l1]) (st := []) 6 (C := RX6) (T := TX6) rfl (con_X6_putTogether _ _ _ _ l0 l1) tw_730 tw_52 tw_727 tw_729 tw_16 ⟨by decide, by decide, by decide +kernel⟩ rfl (by decide) rfl (Nat.le_of_ble_eq_true rfl) dX6_add_55 fun v8 h9 => ?_
        refine k_goto hq (tgt := 82) dX6_add_58 (by decide) ?_
        exact k_vret hq dX6_add_82
      · refine k_aload_n hq dX6_add_61 0 rfl ?_
        refine k_gi hq (C := RX6) (T := TX6) 6 1 rfl (by decide) (lay_X6 1 (by decide)) tw_158 dX6_add_62 fun v4 => ?_
        refine k_iconst hq dX6_add_65 (v := 3) rfl ?_
        refine k_icmp_ne hq (tgt := 77) dX6_add_66 (by decide) (fun _ => ?_) (fun _ => ?_)
        · refine k_aload_n hq dX6_add_69 0 rfl ?_
          refine k_lload_n hq dX6_add_70 1 rfl ?_
          refine k_callV hq (na := 1) (As := [.long l1]) (st := []) 6 (C := RX6) (T := TX6) rfl (con_X6_keepCommon _ _ _ _ N l0 l1) tw_734 tw_52 tw_731 tw_733 tw_17 ⟨by decide, by decide, by decide +kernel⟩ rfl (by decide) rfl (Nat.le_of_ble_eq_true rfl) dX6_add_71 fun v6 h7 => ?_
          refine k_goto hq (tgt := 82) dX6_add_74 (by decide) ?_
          exact k_vret hq dX6_add_82
        · refine k_aload_n hq dX6_add_77 0 rfl ?_
          refine k_lload_n hq dX6_add_78 1 rfl ?_
          refine k_p hq (C := RX6) (T := TX6) 6 2 rfl (by decide) lay_X6 tyX6 tyX6_ok nmX6 tw_159 rfl rfl rfl dX6_add_79 fun h5 => ?_
          exact k_vret hq dX6_add_82
theorem con_X6_add (l : Launch) (G : eG) (B0 n : Nat) (N : Nat) (l0 : Nat) (l1 : Int64) : e_C eV l G B0 n yX6_add cX6_add 3 none 2 52 [.ref l0, .long l1] (F_X6_add N l0 l1) := by
  refine e_mk (by decide) (Nat.le_of_ble_eq_true rfl) fun q r0 h0 h hq e1 e2 e3 e4 => ?_
  subst e1; subst e2; subst e3; subst e4
  exact P_X6_add_0 hq N l0 l1 h
set_option maxRecDepth 100000 in
set_option maxHeartbeats 4000000 in
theorem P_X6_end_32 {q : eT} {r0 : Unit} {h0 : eH} (hq : e_B q yX6_end.cls cX6_end 1 0 0 none yX6_end.name) (l0 : Nat) (s0 : Nat) (s1 : Int32) (h : eH) : e_K eV q r0 h0 32 [(0, .ref l0)] [.int s1, .ref s0] h (F_X6_end_32 l0 s0 s1 h) := by
  unfold F_X6_end_32
  refine k_pz hq (C := RX6) (T := TX6) 6 3 rfl (by decide) lay_X6 tyX6 tyX6_ok nmX6 tw_161 rfl rfl dX6_end_32 fun h1 => ?_
  refine k_aload_n hq dX6_end_35 0 rfl ?_
  refine k_aload_n hq dX6_end_36 0 rfl ?_
  refine k_gl hq (C := RX6) (T := TX6) 6 2 rfl (by decide) (lay_X6 2 (by decide)) tw_159 dX6_end_37 fun v2 => ?_
  refine k_lneg hq dX6_end_40 ?_
  refine k_p hq (C := RX6) (T := TX6) 6 2 rfl (by decide) lay_X6 tyX6 tyX6_ok nmX6 tw_159 rfl rfl rfl dX6_end_41 fun h3 => ?_
  exact k_vret hq dX6_end_44
set_option maxRecDepth 100000 in
set_option maxHeartbeats 4000000 in
theorem P_X6_end_0 {q : eT} {r0 : Unit} {h0 : eH} (hq : e_B q yX6_end.cls cX6_end 1 0 0 none yX6_end.name) (l0 : Nat) (h : eH) : e_K eV q r0 h0 0 [(0, .ref l0)] [] h (F_X6_end l0 h) := by
  unfold F_X6_end
  refine k_aload_n hq dX6_end_0 0 rfl ?_
  refine k_gi hq (C := RX6) (T := TX6) 6 1 rfl (by decide) (lay_X6 1 (by decide)) tw_158 dX6_end_1 fun v1 => ?_
  refine k_iconst hq dX6_end_4 (v := 3) rfl ?_
  refine k_icmp_ne hq (tgt := 44) dX6_end_5 (by decide) (fun _ => ?_) (fun _ => ?_)
  · refine k_aload_n hq dX6_end_8 0 rfl ?_
    refine k_gi hq (C := RX6) (T := TX6) 6 0 rfl (by decide) (lay_X6 0 (by decide)) tw_157 dX6_end_9 fun v2 => ?_
    refine k_if_ne hq (tgt := 44) dX6_end_12 (by decide) (fun _ => ?_) (fun _ => ?_)
    · refine k_aload_n hq dX6_end_15 0 rfl ?_
      refine k_aload_n hq dX6_end_16 0 rfl ?_
      refine k_gl hq (C := RX6) (T := TX6) 6 2 rfl (by decide) (lay_X6 2 (by decide)) tw_159 dX6_end_17 fun v3 => ?_
      refine k_ldc2 hq (v := (-9223372036854775808)) tw_709 dX6_end_20 ?_
      refine k_lcmp hq dX6_end_23 ?_
      refine k_if_ne hq (tgt := 31) dX6_end_24 (by decide) (fun _ => ?_) (fun _ => ?_)
      · refine k_iconst hq dX6_end_27 (v := 1) rfl ?_
        refine k_goto hq (tgt := 32) dX6_end_28 (by decide) ?_
        exact k_sub [0] rfl (P_X6_end_32 hq l0 l0 1 h)
      · refine k_iconst hq dX6_end_31 (v := 0) rfl ?_
        exact k_sub [0] rfl (P_X6_end_32 hq l0 l0 0 h)
    · exact k_vret hq dX6_end_44
  · exact k_vret hq dX6_end_44
theorem con_X6_end (l : Launch) (G : eG) (B0 n : Nat) (l0 : Nat) : e_C eV l G B0 n yX6_end cX6_end 1 none 0 0 [.ref l0] (F_X6_end l0) := by
  refine e_mk (by decide) (Nat.le_of_ble_eq_true rfl) fun q r0 h0 h hq e1 e2 e3 e4 => ?_
  subst e1; subst e2; subst e3; subst e4
  exact P_X6_end_0 hq l0 h
set_option maxRecDepth 100000 in
set_option maxHeartbeats 4000000 in
theorem P_X8_nextNumber_0 {q : eT} {r0 : Int32} {h0 : eH} (hq : e_B q yX8_nextNumber.cls cX8_nextNumber 1 1 21 (some .int) yX8_nextNumber.name) (l0 : Nat) (h : eH) : e_K eI q r0 h0 0 [(0, .ref l0)] [] h (F_X8_nextNumber l0 h) := by
  unfold F_X8_nextNumber
  refine k_aload_n hq dX8_nextNumber_0 0 rfl ?_
  refine k_gi hq (C := RX8) (T := TX8) 8 3 rfl (by decide) (lay_X8 3 (by decide)) tw_273 dX8_nextNumber_1 fun v1 => ?_
  refine k_aload_n hq dX8_nextNumber_4 0 rfl ?_
  refine k_gi hq (C := RX8) (T := TX8) 8 0 rfl (by decide) (lay_X8 0 (by decide)) tw_267 dX8_nextNumber_5 fun v2 => ?_
  refine k_callS hq (na := 2) (As := [.int v1, .int v2]) (st := []) (con_X9_number _ _ _ _ v1 v2) tw_547 tw_65 tw_598 tw_546 ⟨by decide, by decide, by decide +kernel⟩ rfl (by decide) rfl (Nat.le_of_ble_eq_true rfl) dX8_nextNumber_8 fun v3 h4 => ?_
  refine k_iconst hq dX8_nextNumber_11 (v := 1) rfl ?_
  refine k_iadd hq dX8_nextNumber_12 ?_
  exact k_iret hq dX8_nextNumber_13
theorem con_X8_nextNumber (l : Launch) (G : eG) (B0 n : Nat) (l0 : Nat) : e_C eI l G B0 n yX8_nextNumber cX8_nextNumber 1 (some .int) 1 21 [.ref l0] (F_X8_nextNumber l0) := by
  refine e_mk (by decide) (Nat.le_of_ble_eq_true rfl) fun q r0 h0 h hq e1 e2 e3 e4 => ?_
  subst e1; subst e2; subst e3; subst e4
  exact P_X8_nextNumber_0 hq l0 h
set_option maxRecDepth 100000 in
set_option maxHeartbeats 4000000 in
theorem P_X8_take_0 {q : eT} {r0 : Unit} {h0 : eH} (hq : e_B q yX8_take.cls cX8_take 8 3 65 none yX8_take.name) (N : Nat) (l0 : Nat) (l1 : Int64) (l3 : Int32) (l4 : Int32) (l5 : Int32) (h : eH) : e_K eV q r0 h0 0 [(0, .ref l0), (1, .long l1), (3, .int l3), (4, .int l4), (5, .int l5)] [] h (F_X8_take N l0 l1 l3 l4 l5 h) := by
  unfold F_X8_take
  refine k_aload_n hq dX8_take_0 0 rfl ?_
  refine k_gr hq (C := RX8) (T := TX8) 8 1 rfl (by decide) (lay_X8 1 (by decide)) tw_268 dX8_take_1 fun v1 => ?_
  refine k_grN hq (C := RX3) (T := TX3) 3 6 rfl (by decide) (lay_X3 6 (by decide)) tw_222 dX8_take_4 fun v2 => ?_
  refine k_aload_n hq dX8_take_7 0 rfl ?_
  refine k_gr hq (C := RX8) (T := TX8) 8 2 rfl (by decide) (lay_X8 2 (by decide)) tw_270 dX8_take_8 fun v3 => ?_
  refine k_iload hq dX8_take_11 3 rfl ?_
  refine k_callV hq (na := 2) (As := [.ref v3, .int l4]) (st := []) 1 (C := RX1) (T := TX1) rfl (con_X1_addCovered _ _ _ _ N v2 v3 l4) tw_606 tw_56 tw_603 tw_604 tw_605 ⟨by decide, by decide, by decide +kernel⟩ rfl (by decide) rfl (Nat.le_of_ble_eq_true rfl) dX8_take_13 fun v4 h5 => ?_
  refine k_aload_n hq dX8_take_16 0 rfl ?_
  refine k_gr hq (C := RX8) (T := TX8) 8 2 rfl (by decide) (lay_X8 2 (by decide)) tw_270 dX8_take_17 fun v6 => ?_
  refine k_iload hq dX8_take_20 3 rfl ?_
  refine k_callV hq (na := 1) (As := [.int l4]) (st := []) 1 (C := RX1) (T := TX1) rfl (con_X1_removeCovered _ _ _ _ N v6 l4) tw_614 tw_56 tw_611 tw_612 tw_613 ⟨by decide, by decide, by decide +kernel⟩ rfl (by decide) rfl (Nat.le_of_ble_eq_true rfl) dX8_take_22 fun v7 h8 => ?_
  refine k_aload_n hq dX8_take_25 0 rfl ?_
  refine k_gr hq (C := RX8) (T := TX8) 8 1 rfl (by decide) (lay_X8 1 (by decide)) tw_268 dX8_take_26 fun v9 => ?_
  refine k_dup hq dX8_take_29 rfl ?_
  refine k_giN hq (C := RX3) (T := TX3) 3 10 rfl (by decide) (lay_X3 10 (by decide)) tw_233 dX8_take_30 fun v10 => ?_
  refine k_aload_n hq dX8_take_33 0 rfl ?_
  refine k_gr hq (C := RX8) (T := TX8) 8 2 rfl (by decide) (lay_X8 2 (by decide)) tw_270 dX8_take_34 fun v11 => ?_
  refine k_iload hq dX8_take_37 4 rfl ?_
  refine k_callV hq (na := 1) (As := [.int l5]) (st := [.int v10, .ref v9]) 1 (C := RX1) (T := TX1) rfl (con_X1_coveredTotal _ _ _ _ N v11 l5) tw_619 tw_56 tw_616 tw_617 tw_618 ⟨by decide, by decide, by decide +kernel⟩ rfl (by decide) rfl (Nat.le_of_ble_eq_true rfl) dX8_take_39 fun v12 h13 => ?_
  refine k_iadd hq dX8_take_42 ?_
  refine k_pN hq (C := RX3) (T := TX3) 3 10 rfl (by decide) lay_X3 tyX3 tyX3_ok nmX3 tw_233 rfl rfl rfl dX8_take_43 fun h14 => ?_
  refine k_aload_n hq dX8_take_46 0 rfl ?_
  refine k_callV hq (na := 0) (As := []) (st := []) 8 (C := RX8) (T := TX8) rfl (con_X8_nextNumber _ _ _ _ l0) tw_597 tw_57 tw_620 tw_595 tw_596 ⟨by decide, by decide, by decide +kernel⟩ rfl (by decide) rfl (Nat.le_of_ble_eq_true rfl) dX8_take_47 fun v15 h16 => ?_
  refine k_istore hq dX8_take_50 (by decide) (ls' := [(6, .int v15), (0, .ref l0), (1, .long l1), (3, .int l3), (4, .int l4), (5, .int l5)]) rfl ?_
  refine k_aload_n hq dX8_take_52 1 rfl ?_
  refine k_gi hq (C := RX8) (T := TX8) 8 0 rfl (by decide) (lay_X8 0 (by decide)) tw_267 dX8_take_53 fun v17 => ?_
  refine k_iload hq dX8_take_56 0 rfl ?_
  refine k_callS hq (na := 2) (As := [.int v17, .int v15]) (st := []) (con_X1_of _ _ _ _ v17 v15) tw_555 tw_56 tw_621 tw_554 ⟨by decide, by decide, by decide +kernel⟩ rfl (by decide) rfl (Nat.le_of_ble_eq_true rfl) dX8_take_58 fun v18 h19 => ?_
  refine k_istore hq dX8_take_61 (by decide) (ls' := [(7, .int v18), (6, .int v15), (0, .ref l0), (1, .long l1), (3, .int l3), (4, .int l4), (5, .int l5)]) rfl ?_
  refine k_aload_n hq dX8_take_63 2 rfl ?_
  refine k_aload_n hq dX8_take_64 2 rfl ?_
  refine k_gi hq (C := RX8) (T := TX8) 8 3 rfl (by decide) (lay_X8 3 (by decide)) tw_273 dX8_take_65 fun v20 => ?_
  refine k_iload hq dX8_take_68 5 rfl ?_
  refine k_callS hq (na := 2) (As := [.int v20, .int l4]) (st := [.ref l0]) (con_X9_greater _ _ _ _ N v20 l4) tw_624 tw_65 tw_622 tw_623 ⟨by decide, by decide, by decide +kernel⟩ rfl (by decide) rfl (Nat.le_of_ble_eq_true rfl) dX8_take_70 fun v21 h22 => ?_
  refine k_aload_n hq dX8_take_73 2 rfl ?_
  refine k_gi hq (C := RX8) (T := TX8) 8 0 rfl (by decide) (lay_X8 0 (by decide)) tw_267 dX8_take_74 fun v23 => ?_
  refine k_iload hq dX8_take_77 1 rfl ?_
  refine k_callS hq (na := 3) (As := [.int v21, .int v23, .int v15]) (st := [.ref l0]) (con_X9_with _ _ _ _ v21 v23 v15) tw_575 tw_65 tw_629 tw_574 ⟨by decide, by decide, by decide +kernel⟩ rfl (by decide) rfl (Nat.le_of_ble_eq_true rfl) dX8_take_79 fun v24 h25 => ?_
  refine k_p hq (C := RX8) (T := TX8) 8 3 rfl (by decide) lay_X8 tyX8 tyX8_ok nmX8 tw_273 rfl rfl rfl dX8_take_82 fun h26 => ?_
  refine k_aload_n hq dX8_take_85 2 rfl ?_
  refine k_gr hq (C := RX8) (T := TX8) 8 1 rfl (by decide) (lay_X8 1 (by decide)) tw_268 dX8_take_86 fun v27 => ?_
  refine k_iload hq dX8_take_89 0 rfl ?_
  refine k_lload_n hq dX8_take_91 3 rfl ?_
  refine k_iload_n hq dX8_take_92 4 rfl ?_
  refine k_iload hq dX8_take_93 5 rfl ?_
  refine k_iload hq dX8_take_95 6 rfl ?_
  refine k_callV hq (na := 5) (As := [.int v18, .long l1, .int l3, .int l4, .int l5]) (st := []) 3 (C := RX3) (T := TX3) rfl (con_X3_note _ _ _ _ v27 v18 l1 l3 l4 l5) tw_633 tw_55 tw_630 tw_631 tw_632 ⟨by decide, by decide, by decide +kernel⟩ rfl (by decide) rfl (Nat.le_of_ble_eq_true rfl) dX8_take_97 fun v28 h29 => ?_
  refine k_aload_n hq dX8_take_100 2 rfl ?_
  refine k_gr hq (C := RX8) (T := TX8) 8 2 rfl (by decide) (lay_X8 2 (by decide)) tw_270 dX8_take_101 fun v30 => ?_
  refine k_iload hq dX8_take_104 0 rfl ?_
  refine k_callV hq (na := 1) (As := [.int v18]) (st := []) 1 (C := RX1) (T := TX1) rfl (con_X1_add _ _ _ _ v30 v18) tw_637 tw_56 tw_634 tw_635 tw_636 ⟨by decide, by decide, by decide +kernel⟩ rfl (by decide) rfl (Nat.le_of_ble_eq_true rfl) dX8_take_106 fun v31 h32 => ?_
  exact k_vret hq dX8_take_109
theorem con_X8_take (l : Launch) (G : eG) (B0 n : Nat) (N : Nat) (l0 : Nat) (l1 : Int64) (l3 : Int32) (l4 : Int32) (l5 : Int32) : e_C eV l G B0 n yX8_take cX8_take 8 none 3 65 [.ref l0, .long l1, .int l3, .int l4, .int l5] (F_X8_take N l0 l1 l3 l4 l5) := by
  refine e_mk (by decide) (Nat.le_of_ble_eq_true rfl) fun q r0 h0 h hq e1 e2 e3 e4 => ?_
  subst e1; subst e2; subst e3; subst e4
  exact P_X8_take_0 hq N l0 l1 l3 l4 l5 h
set_option maxRecDepth 100000 in
set_option maxHeartbeats 4000000 in
theorem P_X8_receive_0 {q : eT} {r0 : Unit} {h0 : eH} (hq : e_B q yX8_receive.cls cX8_receive 2 3 70 none yX8_receive.name) (N : Nat) (l0 : Nat) (l1 : Nat) (h : eH) : e_K eV q r0 h0 0 [(0, .ref l0), (1, .ref l1)] [] h (F_X8_receive N l0 l1 h) := by
  unfold F_X8_receive
  refine k_aload_n hq dX8_receive_0 0 rfl ?_
  refine k_gr hq (C := RX8) (T := TX8) 8 2 rfl (by decide) (lay_X8 2 (by decide)) tw_270 dX8_receive_1 fun v1 => ?_
  refine k_aload_n hq dX8_receive_4 0 rfl ?_
  refine k_gi hq (C := RX8) (T := TX8) 8 3 rfl (by decide) (lay_X8 3 (by decide)) tw_273 dX8_receive_5 fun v2 => ?_
  refine k_aload_n hq dX8_receive_8 1 rfl ?_
  refine k_gr hq (C := RX8) (T := TX8) 8 2 rfl (by decide) (lay_X8 2 (by decide)) tw_270 dX8_receive_9 fun v3 => ?_
  refine k_aload_n hq dX8_receive_12 1 rfl ?_
  refine k_gi hq (C := RX8) (T := TX8) 8 3 rfl (by decide) (lay_X8 3 (by decide)) tw_273 dX8_receive_13 fun v4 => ?_
  refine k_callV hq (na := 3) (As := [.int v2, .ref v3, .int v4]) (st := []) 1 (C := RX1) (T := TX1) rfl (con_X1_join _ _ _ _ N v1 v2 v3 v4) tw_680 tw_56 tw_677 tw_678 tw_679 ⟨by decide, by decide, by decide +kernel⟩ rfl (by decide) rfl (Nat.le_of_ble_eq_true rfl) dX8_receive_16 fun v5 h6 => ?_
  refine k_aload_n hq dX8_receive_19 0 rfl ?_
  refine k_aload_n hq dX8_receive_20 0 rfl ?_
  refine k_gi hq (C := RX8) (T := TX8) 8 3 rfl (by decide) (lay_X8 3 (by decide)) tw_273 dX8_receive_21 fun v7 => ?_
  refine k_aload_n hq dX8_receive_24 1 rfl ?_
  refine k_gi hq (C := RX8) (T := TX8) 8 3 rfl (by decide) (lay_X8 3 (by decide)) tw_273 dX8_receive_25 fun v8 => ?_
  refine k_callS hq (na := 2) (As := [.int v7, .int v8]) (st := [.ref l0]) (con_X9_greater _ _ _ _ N v7 v8) tw_624 tw_65 tw_622 tw_623 ⟨by decide, by decide, by decide +kernel⟩ rfl (by decide) rfl (Nat.le_of_ble_eq_true rfl) dX8_receive_28 fun v9 h10 => ?_
  refine k_p hq (C := RX8) (T := TX8) 8 3 rfl (by decide) lay_X8 tyX8 tyX8_ok nmX8 tw_273 rfl rfl rfl dX8_receive_31 fun h11 => ?_
  exact k_vret hq dX8_receive_34
theorem con_X8_receive (l : Launch) (G : eG) (B0 n : Nat) (N : Nat) (l0 : Nat) (l1 : Nat) : e_C eV l G B0 n yX8_receive cX8_receive 2 none 3 70 [.ref l0, .ref l1] (F_X8_receive N l0 l1) := by
  refine e_mk (by decide) (Nat.le_of_ble_eq_true rfl) fun q r0 h0 h hq e1 e2 e3 e4 => ?_
  subst e1; subst e2; subst e3; subst e4
  exact P_X8_receive_0 hq N l0 l1 h
set_option maxRecDepth 100000 in
set_option maxHeartbeats 4000000 in
theorem P_X8_dropBeyond_10b {q : eT} {r0 : Unit} {h0 : eH} (hq : e_B q yX8_dropBeyond.cls cX8_dropBeyond 4 4 87 none yX8_dropBeyond.name) (N : Nat) (k10 : Nat → Int32 → eH → Option (Unit × eH)) (hk10 : ∀ (l0 : Nat) (l2 : Int32) h, e_K eV q r0 h0 10 [(0, .ref l0), (2, .int l2)] [] h (k10 l0 l2 h)) (l0 : Nat) (l2 : Int32) (h : eH) : e_K eV q r0 h0 10 [(0, .ref l0), (2, .int l2)] [] h (F_X8_dropBeyond_10b N k10 l0 l2 h) := by
  unfold F_X8_dropBeyond_10b
  refine k_iload_n hq dX8_dropBeyond_10 1 rfl ?_
  refine k_if_le hq (tgt := 52) dX8_dropBeyond_11 (by decide) (fun _ => ?_) (fun _ => ?_)
  · exact k_vret hq dX8_dropBeyond_52
  · refine k_aload_n hq dX8_dropBeyond_14 0 rfl ?_
    refine k_gr hq (C := RX8) (T := TX8) 8 1 rfl (by decide) (lay_X8 1 (by decide)) tw_268 dX8_dropBeyond_15 fun v1 => ?_
    refine k_aload_n hq dX8_dropBeyond_18 0 rfl ?_
    refine k_gr hq (C := RX8) (T := TX8) 8 2 rfl (by decide) (lay_X8 2 (by decide)) tw_270 dX8_dropBeyond_19 fun v2 => ?_
    refine k_iconst hq dX8_dropBeyond_22 (v := 0) rfl ?_
    refine k_callV hq (na := 2) (As := [.ref v2, .int 0]) (st := []) 3 (C := RX3) (T := TX3) rfl (con_X3_nextByStamp _ _ _ _ N v1 v2 0) tw_652 tw_55 tw_649 tw_650 tw_651 ⟨by decide, by decide, by decide +kernel⟩ rfl (by decide) rfl (Nat.le_of_ble_eq_true rfl) dX8_dropBeyond_23 fun v3 h4 => ?_
    refine k_istore_n hq dX8_dropBeyond_26 rfl (by decide) (ls' := [(3, .int v3), (0, .ref l0), (2, .int l2)]) rfl ?_
    refine k_aload_n hq dX8_dropBeyond_27 1 rfl ?_
    refine k_gr hq (C := RX8) (T := TX8) 8 2 rfl (by decide) (lay_X8 2 (by decide)) tw_270 dX8_dropBeyond_28 fun v5 => ?_
    refine k_iload_n hq dX8_dropBeyond_31 0 rfl ?_
    refine k_callV hq (na := 1) (As := [.int v3]) (st := []) 1 (C := RX1) (T := TX1) rfl (con_X1_remove _ _ _ _ v5 v3) tw_660 tw_56 tw_657 tw_658 tw_659 ⟨by decide, by decide, by decide +kernel⟩ rfl (by decide) rfl (Nat.le_of_ble_eq_true rfl) dX8_dropBeyond_32 fun v6 h7 => ?_
    refine k_aload_n hq dX8_dropBeyond_35 1 rfl ?_
    refine k_gr hq (C := RX8) (T := TX8) 8 1 rfl (by decide) (lay_X8 1 (by decide)) tw_268 dX8_dropBeyond_36 fun v8 => ?_
    refine k_grN hq (C := RX3) (T := TX3) 3 5 rfl (by decide) (lay_X3 5 (by decide)) tw_219 dX8_dropBeyond_39 fun v9 => ?_
    refine k_iload_n hq dX8_dropBeyond_42 0 rfl ?_
    refine k_callV hq (na := 1) (As := [.int v3]) (st := []) 1 (C := RX1) (T := TX1) rfl (con_X1_add _ _ _ _ v9 v3) tw_637 tw_56 tw_634 tw_635 tw_636 ⟨by decide, by decide, by decide +kernel⟩ rfl (by decide) rfl (Nat.le_of_ble_eq_true rfl) dX8_dropBeyond_43 fun v10 h11 => ?_
    refine k_iinc hq dX8_dropBeyond_46 2 rfl (v := l2 + (-1)) rfl (by decide) (ls' := [(2, .int (l2 + (-1))), (3, .int v3), (0, .ref l0)]) rfl ?_
    refine k_goto hq (tgt := 10) dX8_dropBeyond_49 (by decide) ?_
    exact k_sub [2, 0] rfl (hk10 l0 (l2 + (-1)) h11)
theorem Q_X8_dropBeyond_10 {q : eT} {r0 : Unit} {h0 : eH} (hq : e_B q yX8_dropBeyond.cls cX8_dropBeyond 4 4 87 none yX8_dropBeyond.name) (N : Nat) (l0 : Nat) (l2 : Int32) (h : eH) : e_K eV q r0 h0 10 [(0, .ref l0), (2, .int l2)] [] h (L_X8_dropBeyond_10 N l0 l2 h) :=
  k_loop (mk := (fun s => [(0, .ref s.1), (2, .int s.2.1)])) (hp := fun s => s.2.2) (fun k hk s => P_X8_dropBeyond_10b hq N (fun l0 l2 h => k (l0, l2, h)) (fun l0 l2 h => hk (l0, l2, h)) s.1 s.2.1 s.2.2) N (l0, l2, h)
set_option maxRecDepth 100000 in
set_option maxHeartbeats 4000000 in
theorem P_X8_dropBeyond_0 {q : eT} {r0 : Unit} {h0 : eH} (hq : e_B q yX8_dropBeyond.cls cX8_dropBeyond 4 4 87 none yX8_dropBeyond.name) (N : Nat) (l0 : Nat) (l1 : Int32) (h : eH) : e_K eV q r0 h0 0 [(0, .ref l0), (1, .int l1)] [] h (F_X8_dropBeyond N l0 l1 h) := by
  unfold F_X8_dropBeyond
  refine k_aload_n hq dX8_dropBeyond_0 0 rfl ?_
  refine k_gr hq (C := RX8) (T := TX8) 8 2 rfl (by decide) (lay_X8 2 (by decide)) tw_270 dX8_dropBeyond_1 fun v1 => ?_
  refine k_callV hq (na := 0) (As := []) (st := []) 1 (C := RX1) (T := TX1) rfl (con_X1_size _ _ _ _ N v1) tw_583 tw_56 tw_648 tw_581 tw_582 ⟨by decide, by decide, by decide +kernel⟩ rfl (by decide) rfl (Nat.le_of_ble_eq_true rfl) dX8_dropBeyond_4 fun v2 h3 => ?_
  refine k_iload_n hq dX8_dropBeyond_7 1 rfl ?_
  refine k_isub hq dX8_dropBeyond_8 ?_
  refine k_let (mk := fun z => .int z :: []) fun v4 _ => ?_
  refine k_istore_n hq dX8_dropBeyond_9 rfl (by decide) (ls' := [(2, .int v4), (0, .ref l0), (1, .int l1)]) rfl ?_
  exact k_sub [1, 0] rfl (Q_X8_dropBeyond_10 hq N l0 v4 h3)
theorem con_X8_dropBeyond (l : Launch) (G : eG) (B0 n : Nat) (N : Nat) (l0 : Nat) (l1 : Int32) : e_C eV l G B0 n yX8_dropBeyond cX8_dropBeyond 4 none 4 87 [.ref l0, .int l1] (F_X8_dropBeyond N l0 l1) := by
  refine e_mk (by decide) (Nat.le_of_ble_eq_true rfl) fun q r0 h0 h hq e1 e2 e3 e4 => ?_
  subst e1; subst e2; subst e3; subst e4
  exact P_X8_dropBeyond_0 hq N l0 l1 h
set_option maxRecDepth 100000 in
set_option maxHeartbeats 4000000 in
theorem P_X8_blend_23b {q : eT} {r0 : Unit} {h0 : eH} (hq : e_B q yX8_blend.cls cX8_blend 6 4 87 none yX8_blend.name) (N : Nat) (k23 : Nat → Nat → Int32 → Int32 → eH → Option (Unit × eH)) (hk23 : ∀ (l0 : Nat) (l1 : Nat) (l3 : Int32) (l4 : Int32) h, e_K eV q r0 h0 23 [(0, .ref l0), (1, .ref l1), (3, .int l3), (4, .int l4)] [] h (k23 l0 l1 l3 l4 h)) (l0 : Nat) (l1 : Nat) (l3 : Int32) (l4 : Int32) (h : eH) : e_K eV q r0 h0 23 [(0, .ref l0), (1, .ref l1), (3, .int l3), (4, .int l4)] [] h (F_X8_blend_23b N k23 l0 l1 l3 l4 h) := by
  unfold F_X8_blend_23b
  refine k_iload hq dX8_blend_23 3 rfl ?_
  refine k_if_le hq (tgt := 71) dX8_blend_25 (by decide) (fun _ => ?_) (fun _ => ?_)
  · refine k_aload_n hq dX8_blend_71 1 rfl ?_
    refine k_callV hq (na := 0) (As := []) (st := []) 6 (C := RX6) (T := TX6) rfl (con_X6_end _ _ _ _ l1) tw_741 tw_52 tw_738 tw_739 tw_740 ⟨by decide, by decide, by decide +kernel⟩ rfl (by decide) rfl (Nat.le_of_ble_eq_true rfl) dX8_blend_72 fun v1 h2 => ?_
    exact k_vret hq dX8_blend_75
  · refine k_aload_n hq dX8_blend_28 0 rfl ?_
    refine k_gr hq (C := RX8) (T := TX8) 8 1 rfl (by decide) (lay_X8 1 (by decide)) tw_268 dX8_blend_29 fun v3 => ?_
    refine k_aload_n hq dX8_blend_32 0 rfl ?_
    refine k_gr hq (C := RX8) (T := TX8) 8 2 rfl (by decide) (lay_X8 2 (by decide)) tw_270 dX8_blend_33 fun v4 => ?_
    refine k_iload_n hq dX8_blend_36 2 rfl ?_
    refine k_callV hq (na := 2) (As := [.ref v4, .int l3]) (st := []) 3 (C := RX3) (T := TX3) rfl (con_X3_nextByStamp _ _ _ _ N v3 v4 l3) tw_652 tw_55 tw_649 tw_650 tw_651 ⟨by decide, by decide, by decide +kernel⟩ rfl (by decide) rfl (Nat.le_of_ble_eq_true rfl) dX8_blend_37 fun v5 h6 => ?_
    refine k_istore hq dX8_blend_40 (by decide) (ls' := [(5, .int v5), (0, .ref l0), (1, .ref l1), (3, .int l3), (4, .int l4)]) rfl ?_
    refine k_aload_n hq dX8_blend_42 1 rfl ?_
    refine k_gr hq (C := RX8) (T := TX8) 8 1 rfl (by decide) (lay_X8 1 (by decide)) tw_268 dX8_blend_43 fun v7 => ?_
    refine k_iload hq dX8_blend_46 0 rfl ?_
    refine k_callV hq (na := 1) (As := [.int v5]) (st := []) 3 (C := RX3) (T := TX3) rfl (con_X3_stampOf _ _ _ _ v7 v5) tw_559 tw_55 tw_712 tw_557 tw_558 ⟨by decide, by decide, by decide +kernel⟩ rfl (by decide) rfl (Nat.le_of_ble_eq_true rfl) dX8_blend_48 fun v8 h9 => ?_
    refine k_istore_n hq dX8_blend_51 rfl (by decide) (ls' := [(3, .int v8), (5, .int v5), (0, .ref l0), (1, .ref l1), (4, .int l4)]) rfl ?_
    refine k_aload_n hq dX8_blend_52 3 rfl ?_
    refine k_aload_n hq dX8_blend_53 2 rfl ?_
    refine k_gr hq (C := RX8) (T := TX8) 8 1 rfl (by decide) (lay_X8 1 (by decide)) tw_268 dX8_blend_54 fun v10 => ?_
    refine k_iload hq dX8_blend_57 1 rfl ?_
    refine k_callV hq (na := 1) (As := [.int v5]) (st := [.ref l1]) 3 (C := RX3) (T := TX3) rfl (con_X3_valueOf _ _ _ _ v10 v5) tw_716 tw_55 tw_713 tw_714 tw_715 ⟨by decide, by decide, by decide +kernel⟩ rfl (by decide) rfl (Nat.le_of_ble_eq_true rfl) dX8_blend_59 fun v11 h12 => ?_
    refine k_callV hq (na := 1) (As := [.long v11]) (st := []) 6 (C := RX6) (T := TX6) rfl (con_X6_add _ _ _ _ N l1 v11) tw_720 tw_52 tw_717 tw_718 tw_719 ⟨by decide, by decide, by decide +kernel⟩ rfl (by decide) rfl (Nat.le_of_ble_eq_true rfl) dX8_blend_62 fun v13 h14 => ?_
    refine k_iinc hq dX8_blend_65 4 rfl (v := l4 + (-1)) rfl (by decide) (ls' := [(4, .int (l4 + (-1))), (3, .int v8), (5, .int v5), (0, .ref l0), (1, .ref l1)]) rfl ?_
    refine k_goto hq (tgt := 23) dX8_blend_68 (by decide) ?_
    exact k_sub [3, 4, 1, 0] rfl (hk23 l0 l1 v8 (l4 + (-1)) h14)
theorem Q_X8_blend_23 {q : eT} {r0 : Unit} {h0 : eH} (hq : e_B q yX8_blend.cls cX8_blend 6 4 87 none yX8_blend.name) (N : Nat) (l0 : Nat) (l1 : Nat) (l3 : Int32) (l4 : Int32) (h : eH) : e_K eV q r0 h0 23 [(0, .ref l0), (1, .ref l1), (3, .int l3), (4, .int l4)] [] h (L_X8_blend_23 N l0 l1 l3 l4 h) :=
  k_loop (mk := (fun s => [(0, .ref s.1), (1, .ref s.2.1), (3, .int s.2.2.1), (4, .int s.2.2.2.1)])) (hp := fun s => s.2.2.2.2) (fun k hk s => P_X8_blend_23b hq N (fun l0 l1 l3 l4 h => k (l0, l1, l3, l4, h)) (fun l0 l1 l3 l4 h => hk (l0, l1, l3, l4, h)) s.1 s.2.1 s.2.2.1 s.2.2.2.1 s.2.2.2.2) N (l0, l1, l3, l4, h)
set_option maxRecDepth 100000 in
set_option maxHeartbeats 4000000 in
theorem P_X8_blend_0 {q : eT} {r0 : Unit} {h0 : eH} (hq : e_B q yX8_blend.cls cX8_blend 6 4 87 none yX8_blend.name) (N : Nat) (l0 : Nat) (l1 : Nat) (l2 : Int32) (h : eH) : e_K eV q r0 h0 0 [(0, .ref l0), (1, .ref l1), (2, .int l2)] [] h (F_X8_blend N l0 l1 l2 h) := by
  unfold F_X8_blend
  refine k_aload_n hq dX8_blend_0 1 rfl ?_
  refine k_aload_n hq dX8_blend_1 0 rfl ?_
  refine k_gr hq (C := RX8) (T := TX8) 8 1 rfl (by decide) (lay_X8 1 (by decide)) tw_268 dX8_blend_2 fun v1 => ?_
  refine k_giN hq (C := RX3) (T := TX3) 3 8 rfl (by decide) (lay_X3 8 (by decide)) tw_229 dX8_blend_5 fun v2 => ?_
  refine k_iload_n hq dX8_blend_8 2 rfl ?_
  refine k_callV hq (na := 2) (As := [.int v2, .int l2]) (st := []) 6 (C := RX6) (T := TX6) rfl (con_X6_begin _ _ _ _ l1 v2 l2) tw_708 tw_52 tw_705 tw_706 tw_707 ⟨by decide, by decide, by decide +kernel⟩ rfl (by decide) rfl (Nat.le_of_ble_eq_true rfl) dX8_blend_9 fun v3 h4 => ?_
  refine k_iconst hq dX8_blend_12 (v := 0) rfl ?_
  refine k_istore_n hq dX8_blend_13 rfl (by decide) (ls' := [(3, .int 0), (0, .ref l0), (1, .ref l1), (2, .int l2)]) rfl ?_
  refine k_aload_n hq dX8_blend_14 1 rfl ?_
  refine k_gr hq (C := RX8) (T := TX8) 8 2 rfl (by decide) (lay_X8 2 (by decide)) tw_270 dX8_blend_15 fun v5 => ?_
  refine k_callV hq (na := 0) (As := []) (st := []) 1 (C := RX1) (T := TX1) rfl (con_X1_size _ _ _ _ N v5) tw_583 tw_56 tw_648 tw_581 tw_582 ⟨by decide, by decide, by decide +kernel⟩ rfl (by decide) rfl (Nat.le_of_ble_eq_true rfl) dX8_blend_18 fun v6 h7 => ?_
  refine k_istore hq dX8_blend_21 (by decide) (ls' := [(4, .int v6), (3, .int 0), (0, .ref l0), (1, .ref l1), (2, .int l2)]) rfl ?_
  exact k_sub [2, 3, 1, 0] rfl (Q_X8_blend_23 hq N l0 l1 0 v6 h7)
theorem con_X8_blend (l : Launch) (G : eG) (B0 n : Nat) (N : Nat) (l0 : Nat) (l1 : Nat) (l2 : Int32) : e_C eV l G B0 n yX8_blend cX8_blend 6 none 4 87 [.ref l0, .ref l1, .int l2] (F_X8_blend N l0 l1 l2) := by
  refine e_mk (by decide) (Nat.le_of_ble_eq_true rfl) fun q r0 h0 h hq e1 e2 e3 e4 => ?_
  subst e1; subst e2; subst e3; subst e4
  exact P_X8_blend_0 hq N l0 l1 l2 h
set_option maxRecDepth 100000 in
set_option maxHeartbeats 4000000 in
theorem P_X8_mergeInto_0 {q : eT} {r0 : Unit} {h0 : eH} (hq : e_B q yX8_mergeInto.cls cX8_mergeInto 4 4 92 none yX8_mergeInto.name) (N : Nat) (l0 : Nat) (l1 : Int64) (l3 : Int32) (h : eH) : e_K eV q r0 h0 0 [(0, .ref l0), (1, .long l1), (3, .int l3)] [] h (F_X8_mergeInto N l0 l1 l3 h) := by
  unfold F_X8_mergeInto
  refine k_aload_n hq dX8_mergeInto_0 0 rfl ?_
  refine k_gr hq (C := RX8) (T := TX8) 8 1 rfl (by decide) (lay_X8 1 (by decide)) tw_268 dX8_mergeInto_1 fun v1 => ?_
  refine k_grN hq (C := RX3) (T := TX3) 3 4 rfl (by decide) (lay_X3 4 (by decide)) tw_217 dX8_mergeInto_4 fun v2 => ?_
  refine k_aload_n hq dX8_mergeInto_7 0 rfl ?_
  refine k_gr hq (C := RX8) (T := TX8) 8 2 rfl (by decide) (lay_X8 2 (by decide)) tw_270 dX8_mergeInto_8 fun v3 => ?_
  refine k_callV hq (na := 1) (As := [.ref v3]) (st := []) 1 (C := RX1) (T := TX1) rfl (con_X1_addAll _ _ _ _ N v2 v3) tw_579 tw_56 tw_746 tw_577 tw_578 ⟨by decide, by decide, by decide +kernel⟩ rfl (by decide) rfl (Nat.le_of_ble_eq_true rfl) dX8_mergeInto_11 fun v4 h5 => ?_
  refine k_aload_n hq dX8_mergeInto_14 0 rfl ?_
  refine k_gr hq (C := RX8) (T := TX8) 8 1 rfl (by decide) (lay_X8 1 (by decide)) tw_268 dX8_mergeInto_15 fun v6 => ?_
  refine k_grN hq (C := RX3) (T := TX3) 3 7 rfl (by decide) (lay_X3 7 (by decide)) tw_225 dX8_mergeInto_18 fun v7 => ?_
  refine k_aload_n hq dX8_mergeInto_21 0 rfl ?_
  refine k_gr hq (C := RX8) (T := TX8) 8 2 rfl (by decide) (lay_X8 2 (by decide)) tw_270 dX8_mergeInto_22 fun v8 => ?_
  refine k_callV hq (na := 1) (As := [.ref v8]) (st := []) 1 (C := RX1) (T := TX1) rfl (con_X1_addAll _ _ _ _ N v7 v8) tw_579 tw_56 tw_746 tw_577 tw_578 ⟨by decide, by decide, by decide +kernel⟩ rfl (by decide) rfl (Nat.le_of_ble_eq_true rfl) dX8_mergeInto_25 fun v9 h10 => ?_
  refine k_aload_n hq dX8_mergeInto_28 0 rfl ?_
  refine k_gr hq (C := RX8) (T := TX8) 8 2 rfl (by decide) (lay_X8 2 (by decide)) tw_270 dX8_mergeInto_29 fun v11 => ?_
  refine k_callV hq (na := 0) (As := []) (st := []) 1 (C := RX1) (T := TX1) rfl (con_X1_empty _ _ _ _ N v11) tw_499 tw_56 tw_504 tw_497 tw_498 ⟨by decide, by decide, by decide +kernel⟩ rfl (by decide) rfl (Nat.le_of_ble_eq_true rfl) dX8_mergeInto_32 fun v12 h13 => ?_
  refine k_aload_n hq dX8_mergeInto_35 0 rfl ?_
  refine k_lload_n hq dX8_mergeInto_36 1 rfl ?_
  refine k_iload_n hq dX8_mergeInto_37 2 rfl ?_
  refine k_aload_n hq dX8_mergeInto_38 0 rfl ?_
  refine k_gi hq (C := RX8) (T := TX8) 8 3 rfl (by decide) (lay_X8 3 (by decide)) tw_273 dX8_mergeInto_39 fun v14 => ?_
  refine k_aload_n hq dX8_mergeInto_42 0 rfl ?_
  refine k_gi hq (C := RX8) (T := TX8) 8 3 rfl (by decide) (lay_X8 3 (by decide)) tw_273 dX8_mergeInto_43 fun v15 => ?_
  refine k_callV hq (na := 4) (As := [.long l1, .int l3, .int v14, .int v15]) (st := []) 8 (C := RX8) (T := TX8) rfl (con_X8_take _ _ _ _ N l0 l1 l3 v14 v15) tw_602 tw_57 tw_747 tw_600 tw_601 ⟨by decide, by decide, by decide +kernel⟩ rfl (by decide) rfl (Nat.le_of_ble_eq_true rfl) dX8_mergeInto_46 fun v16 h17 => ?_
  exact k_vret hq dX8_mergeInto_49
theorem con_X8_mergeInto (l : Launch) (G : eG) (B0 n : Nat) (N : Nat) (l0 : Nat) (l1 : Int64) (l3 : Int32) : e_C eV l G B0 n yX8_mergeInto cX8_mergeInto 4 none 4 92 [.ref l0, .long l1, .int l3] (F_X8_mergeInto N l0 l1 l3) := by
  refine e_mk (by decide) (Nat.le_of_ble_eq_true rfl) fun q r0 h0 h hq e1 e2 e3 e4 => ?_
  subst e1; subst e2; subst e3; subst e4
  exact P_X8_mergeInto_0 hq N l0 l1 l3 h
