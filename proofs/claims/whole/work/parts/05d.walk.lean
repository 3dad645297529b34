set_option maxRecDepth 100000 in
set_option maxHeartbeats 4000000 in
theorem P_X7_takesWords_111 {q : eT} {r0 : Int32} {h0 : eH} (hq : e_B q yX7_takesWords.cls cX7_takesWords 2 6 172 (some .boolean) yX7_takesWords.name) (he : e_E q) (N : Nat) (l0 : Nat) (l1 : Nat) (h : eH) : e_K eI q r0 h0 111 [(0, .ref l0), (1, .ref l1)] [] h (F_X7_takesWords_111 N (e_G q) l0 l1 h) := by
  unfold F_X7_takesWords_111
  refine k_aload_n hq dX7_takesWords_111 1 rfl ?_
  refine k_ldcS hq 4 (by decide) rfl rfl dX7_takesWords_112 ?_
  refine k_callV hq (na := 1) (As := [.ref ((e_G q).2.2.1 4)]) (st := []) 9 (C := RX10) (T := TX10) rfl (con_X10_isWord _ _ _ _ N l1 ((e_G q).2.2.1 4)) tw_411 tw_49 tw_408 tw_409 tw_410 ⟨by decide, by decide, by decide +kernel⟩ rfl (by decide) rfl (Nat.le_of_ble_eq_true rfl) dX7_takesWords_114 fun v1 h2 => ?_
  refine k_if_eq hq (tgt := 151) dX7_takesWords_117 (by decide) (fun _ => ?_) (fun _ => ?_)
  · refine k_iconst hq dX7_takesWords_151 (v := 0) rfl ?_
    exact k_zret hq dX7_takesWords_152 he
  · refine k_aload_n hq dX7_takesWords_120 0 rfl ?_
    refine k_gi hq (C := RX7) (T := TX7) 7 3 rfl (by decide) (lay_X7 3 (by decide)) tw_112 dX7_takesWords_121 fun v3 => ?_
    refine k_if_ne hq (tgt := 151) dX7_takesWords_124 (by decide) (fun _ => ?_) (fun _ => ?_)
    · refine k_aload_n hq dX7_takesWords_127 0 rfl ?_
      refine k_aload_n hq dX7_takesWords_128 0 rfl ?_
      refine k_aload_n hq dX7_takesWords_129 1 rfl ?_
      refine k_iconst hq dX7_takesWords_130 (v := 1) rfl ?_
      refine k_iconst hq dX7_takesWords_131 (v := 4) rfl ?_
      refine k_callV hq (na := 3) (As := [.ref l1, .int 1, .int 4]) (st := [.ref l0]) 7 (C := RX7) (T := TX7) rfl (con_X7_takenNumber _ _ _ _ N l0 l1 1 4) tw_469 tw_50 tw_466 tw_468 tw_6 ⟨by decide, by decide, by decide +kernel⟩ rfl (by decide) rfl (Nat.le_of_ble_eq_true rfl) dX7_takesWords_132 fun v4 h5 => ?_
      refine k_p hq (C := RX7) (T := TX7) 7 3 rfl (by decide) lay_X7 tyX7 tyX7_ok nmX7 tw_112 rfl rfl rfl dX7_takesWords_135 fun h6 => ?_
      refine k_aload_n hq dX7_takesWords_138 0 rfl ?_
      refine k_gi hq (C := RX7) (T := TX7) 7 3 rfl (by decide) (lay_X7 3 (by decide)) tw_112 dX7_takesWords_139 fun v7 => ?_
      refine k_if_eq hq (tgt := 149) dX7_takesWords_142 (by decide) (fun _ => ?_) (fun _ => ?_)
      · refine k_iconst hq dX7_takesWords_149 (v := 0) rfl ?_
        exact k_zret hq dX7_takesWords_150 he
      · refine k_iconst hq dX7_takesWords_145 (v := 1) rfl ?_
        refine k_goto hq (tgt := 150) dX7_takesWords_146 (by decide) ?_
        exact k_zret hq dX7_takesWords_150 he
    · refine k_iconst hq dX7_takesWords_151 (v := 0) rfl ?_
      exact k_zret hq dX7_takesWords_152 he
set_option maxRecDepth 100000 in
set_option maxHeartbeats 4000000 in
theorem P_X7_takesWords_70 {q : eT} {r0 : Int32} {h0 : eH} (hq : e_B q yX7_takesWords.cls cX7_takesWords 2 6 172 (some .boolean) yX7_takesWords.name) (he : e_E q) (N : Nat) (l0 : Nat) (l1 : Nat) (h : eH) : e_K eI q r0 h0 70 [(0, .ref l0), (1, .ref l1)] [] h (F_X7_takesWords_70 N (e_G q) l0 l1 h) := by
  unfold F_X7_takesWords_70
  refine k_aload_n hq dX7_takesWords_70 1 rfl ?_
  refine k_ldcS hq 3 (by decide) rfl rfl dX7_takesWords_71 ?_
  refine k_callV hq (na := 1) (As := [.ref ((e_G q).2.2.1 3)]) (st := []) 9 (C := RX10) (T := TX10) rfl (con_X10_isWord _ _ _ _ N l1 ((e_G q).2.2.1 3)) tw_411 tw_49 tw_408 tw_409 tw_410 ⟨by decide, by decide, by decide +kernel⟩ rfl (by decide) rfl (Nat.le_of_ble_eq_true rfl) dX7_takesWords_73 fun v1 h2 => ?_
  refine k_if_eq hq (tgt := 111) dX7_takesWords_76 (by decide) (fun _ => ?_) (fun _ => ?_)
  · exact k_sub [0, 1] rfl (P_X7_takesWords_111 hq he N l0 l1 h2)
  · refine k_aload_n hq dX7_takesWords_79 0 rfl ?_
    refine k_gi hq (C := RX7) (T := TX7) 7 2 rfl (by decide) (lay_X7 2 (by decide)) tw_110 dX7_takesWords_80 fun v3 => ?_
    refine k_if_ne hq (tgt := 111) dX7_takesWords_83 (by decide) (fun _ => ?_) (fun _ => ?_)
    · refine k_aload_n hq dX7_takesWords_86 0 rfl ?_
      refine k_aload_n hq dX7_takesWords_87 0 rfl ?_
      refine k_aload_n hq dX7_takesWords_88 1 rfl ?_
      refine k_iconst hq dX7_takesWords_89 (v := 1) rfl ?_
      refine k_bipush hq dX7_takesWords_90 (v := 6) rfl ?_
      refine k_callV hq (na := 3) (As := [.ref l1, .int 1, .int 6]) (st := [.ref l0]) 7 (C := RX7) (T := TX7) rfl (con_X7_takenNumber _ _ _ _ N l0 l1 1 6) tw_469 tw_50 tw_466 tw_468 tw_6 ⟨by decide, by decide, by decide +kernel⟩ rfl (by decide) rfl (Nat.le_of_ble_eq_true rfl) dX7_takesWords_92 fun v4 h5 => ?_
      refine k_p hq (C := RX7) (T := TX7) 7 2 rfl (by decide) lay_X7 tyX7 tyX7_ok nmX7 tw_110 rfl rfl rfl dX7_takesWords_95 fun h6 => ?_
      refine k_aload_n hq dX7_takesWords_98 0 rfl ?_
      refine k_gi hq (C := RX7) (T := TX7) 7 2 rfl (by decide) (lay_X7 2 (by decide)) tw_110 dX7_takesWords_99 fun v7 => ?_
      refine k_if_eq hq (tgt := 109) dX7_takesWords_102 (by decide) (fun _ => ?_) (fun _ => ?_)
      · refine k_iconst hq dX7_takesWords_109 (v := 0) rfl ?_
        exact k_zret hq dX7_takesWords_110 he
      · refine k_iconst hq dX7_takesWords_105 (v := 1) rfl ?_
        refine k_goto hq (tgt := 110) dX7_takesWords_106 (by decide) ?_
        exact k_zret hq dX7_takesWords_110 he
    · exact k_sub [0, 1] rfl (P_X7_takesWords_111 hq he N l0 l1 h2)
set_option maxRecDepth 100000 in
set_option maxHeartbeats 4000000 in
theorem P_X7_takesWords_0 {q : eT} {r0 : Int32} {h0 : eH} (hq : e_B q yX7_takesWords.cls cX7_takesWords 2 6 172 (some .boolean) yX7_takesWords.name) (he : e_E q) (N : Nat) (l0 : Nat) (l1 : Nat) (h : eH) : e_K eI q r0 h0 0 [(0, .ref l0), (1, .ref l1)] [] h (F_X7_takesWords N (e_G q) l0 l1 h) := by
  unfold F_X7_takesWords
  refine k_aload_n hq dX7_takesWords_0 1 rfl ?_
  refine k_ldcS hq 0 (by decide) rfl rfl dX7_takesWords_1 ?_
  refine k_callV hq (na := 1) (As := [.ref ((e_G q).2.2.1 0)]) (st := []) 9 (C := RX10) (T := TX10) rfl (con_X10_isWord _ _ _ _ N l1 ((e_G q).2.2.1 0)) tw_411 tw_49 tw_408 tw_409 tw_410 ⟨by decide, by decide, by decide +kernel⟩ rfl (by decide) rfl (Nat.le_of_ble_eq_true rfl) dX7_takesWords_3 fun v1 h2 => ?_
  refine k_if_eq hq (tgt := 15) dX7_takesWords_6 (by decide) (fun _ => ?_) (fun _ => ?_)
  · refine k_aload_n hq dX7_takesWords_15 1 rfl ?_
    refine k_ldcS hq 1 (by decide) rfl rfl dX7_takesWords_16 ?_
    refine k_callV hq (na := 1) (As := [.ref ((e_G q).2.2.1 1)]) (st := []) 9 (C := RX10) (T := TX10) rfl (con_X10_isWord _ _ _ _ N l1 ((e_G q).2.2.1 1)) tw_411 tw_49 tw_408 tw_409 tw_410 ⟨by decide, by decide, by decide +kernel⟩ rfl (by decide) rfl (Nat.le_of_ble_eq_true rfl) dX7_takesWords_18 fun v3 h4 => ?_
    refine k_if_eq hq (tgt := 30) dX7_takesWords_21 (by decide) (fun _ => ?_) (fun _ => ?_)
    · refine k_aload_n hq dX7_takesWords_30 1 rfl ?_
      refine k_ldcS hq 2 (by decide) rfl rfl dX7_takesWords_31 ?_
      refine k_callV hq (na := 1) (As := [.ref ((e_G q).2.2.1 2)]) (st := []) 9 (C := RX10) (T := TX10) rfl (con_X10_isWord _ _ _ _ N l1 ((e_G q).2.2.1 2)) tw_411 tw_49 tw_408 tw_409 tw_410 ⟨by decide, by decide, by decide +kernel⟩ rfl (by decide) rfl (Nat.le_of_ble_eq_true rfl) dX7_takesWords_33 fun v5 h6 => ?_
      refine k_if_eq hq (tgt := 70) dX7_takesWords_36 (by decide) (fun _ => ?_) (fun _ => ?_)
      · exact k_sub [0, 1] rfl (P_X7_takesWords_70 hq he N l0 l1 h6)
      · refine k_aload_n hq dX7_takesWords_39 0 rfl ?_
        refine k_gi hq (C := RX7) (T := TX7) 7 1 rfl (by decide) (lay_X7 1 (by decide)) tw_108 dX7_takesWords_40 fun v7 => ?_
        refine k_if_ne hq (tgt := 70) dX7_takesWords_43 (by decide) (fun _ => ?_) (fun _ => ?_)
        · refine k_aload_n hq dX7_takesWords_46 0 rfl ?_
          refine k_aload_n hq dX7_takesWords_47 0 rfl ?_
          refine k_aload_n hq dX7_takesWords_48 1 rfl ?_
          refine k_iconst hq dX7_takesWords_49 (v := 2) rfl ?_
          refine k_iconst hq dX7_takesWords_50 (v := 4) rfl ?_
          refine k_callV hq (na := 3) (As := [.ref l1, .int 2, .int 4]) (st := [.ref l0]) 7 (C := RX7) (T := TX7) rfl (con_X7_takenNumber _ _ _ _ N l0 l1 2 4) tw_469 tw_50 tw_466 tw_468 tw_6 ⟨by decide, by decide, by decide +kernel⟩ rfl (by decide) rfl (Nat.le_of_ble_eq_true rfl) dX7_takesWords_51 fun v8 h9 => ?_
          refine k_p hq (C := RX7) (T := TX7) 7 1 rfl (by decide) lay_X7 tyX7 tyX7_ok nmX7 tw_108 rfl rfl rfl dX7_takesWords_54 fun h10 => ?_
          refine k_aload_n hq dX7_takesWords_57 0 rfl ?_
          refine k_gi hq (C := RX7) (T := TX7) 7 1 rfl (by decide) (lay_X7 1 (by decide)) tw_108 dX7_takesWords_58 fun v11 => ?_
          refine k_if_eq hq (tgt := 68) dX7_takesWords_61 (by decide) (fun _ => ?_) (fun _ => ?_)
          · refine k_iconst hq dX7_takesWords_68 (v := 0) rfl ?_
            exact k_zret hq dX7_takesWords_69 he
          · refine k_iconst hq dX7_takesWords_64 (v := 1) rfl ?_
            refine k_goto hq (tgt := 69) dX7_takesWords_65 (by decide) ?_
            exact k_zret hq dX7_takesWords_69 he
        · exact k_sub [0, 1] rfl (P_X7_takesWords_70 hq he N l0 l1 h6)
    · refine k_aload_n hq dX7_takesWords_24 0 rfl ?_
      refine k_iconst hq dX7_takesWords_25 (v := 1) rfl ?_
      refine k_callV hq (na := 1) (As := [.int 1]) (st := []) 7 (C := RX7) (T := TX7) rfl (con_X7_takesKey _ _ _ _ l0 1) tw_463 tw_50 tw_460 tw_462 tw_5 ⟨by decide, by decide, by decide +kernel⟩ rfl (by decide) rfl (Nat.le_of_ble_eq_true rfl) dX7_takesWords_26 fun v12 h13 => ?_
      exact k_zret hq dX7_takesWords_29 he
  · refine k_aload_n hq dX7_takesWords_9 0 rfl ?_
    refine k_iconst hq dX7_takesWords_10 (v := 0) rfl ?_
    refine k_callV hq (na := 1) (As := [.int 0]) (st := []) 7 (C := RX7) (T := TX7) rfl (con_X7_takesKey _ _ _ _ l0 0) tw_463 tw_50 tw_460 tw_462 tw_5 ⟨by decide, by decide, by decide +kernel⟩ rfl (by decide) rfl (Nat.le_of_ble_eq_true rfl) dX7_takesWords_11 fun v14 h15 => ?_
    exact k_zret hq dX7_takesWords_14 he
theorem con_X7_takesWords (l : Launch) (G : eG) (B0 n : Nat) (N : Nat) (l0 : Nat) (l1 : Nat) : e_C eI l G B0 n yX7_takesWords cX7_takesWords 2 (some .boolean) 6 172 [.ref l0, .ref l1] (F_X7_takesWords N G l0 l1) := by
  refine e_mk (by decide) (Nat.le_of_ble_eq_true rfl) fun q r0 h0 h hq he e1 e2 e3 e4 => ?_
  subst e1; subst e2; subst e3; subst e4
  exact P_X7_takesWords_0 hq he N l0 l1 h
set_option maxRecDepth 100000 in
set_option maxHeartbeats 4000000 in
theorem P_X7_takesSemicolon_0 {q : eT} {r0 : Int32} {h0 : eH} (hq : e_B q yX7_takesSemicolon.cls cX7_takesSemicolon 2 3 64 (some .boolean) yX7_takesSemicolon.name) (he : e_E q) (N : Nat) (l0 : Nat) (l1 : Nat) (h : eH) : e_K eI q r0 h0 0 [(0, .ref l0), (1, .ref l1)] [] h (F_X7_takesSemicolon N l0 l1 h) := by
  unfold F_X7_takesSemicolon
  refine k_aload_n hq dX7_takesSemicolon_0 1 rfl ?_
  refine k_callV hq (na := 0) (As := []) (st := []) 9 (C := RX10) (T := TX10) rfl (con_X10_step _ _ _ _ N l1) tw_387 tw_49 tw_384 tw_385 tw_386 ⟨by decide, by decide, by decide +kernel⟩ rfl (by decide) rfl (Nat.le_of_ble_eq_true rfl) dX7_takesSemicolon_1 fun v1 h2 => ?_
  refine k_aload_n hq dX7_takesSemicolon_4 1 rfl ?_
  refine k_giN hq (C := RX10) (T := TX10) 9 4 rfl (by decide) (lay_X10 4 (by decide)) tw_87 dX7_takesSemicolon_5 fun v3 => ?_
  refine k_iconst hq dX7_takesSemicolon_8 (v := 3) rfl ?_
  refine k_icmp_ne hq (tgt := 16) dX7_takesSemicolon_9 (by decide) (fun _ => ?_) (fun _ => ?_)
  · refine k_iconst hq dX7_takesSemicolon_12 (v := 1) rfl ?_
    refine k_goto hq (tgt := 17) dX7_takesSemicolon_13 (by decide) ?_
    exact k_zret hq dX7_takesSemicolon_17 he
  · refine k_iconst hq dX7_takesSemicolon_16 (v := 0) rfl ?_
    exact k_zret hq dX7_takesSemicolon_17 he
theorem con_X7_takesSemicolon (l : Launch) (G : eG) (B0 n : Nat) (N : Nat) (l0 : Nat) (l1 : Nat) : e_C eI l G B0 n yX7_takesSemicolon cX7_takesSemicolon 2 (some .boolean) 3 64 [.ref l0, .ref l1] (F_X7_takesSemicolon N l0 l1) := by
  refine e_mk (by decide) (Nat.le_of_ble_eq_true rfl) fun q r0 h0 h hq he e1 e2 e3 e4 => ?_
  subst e1; subst e2; subst e3; subst e4
  exact P_X7_takesSemicolon_0 hq he N l0 l1 h
set_option maxRecDepth 100000 in
set_option maxHeartbeats 4000000 in
theorem P_X7_fill_10b {q : eT} {r0 : Int32} {h0 : eH} (hq : e_B q yX7_fill.cls cX7_fill 3 7 193 (some .int) yX7_fill.name) (he : e_E q) (N : Nat) (k10 : Nat → Nat → Int32 → eH → Option (Int32 × eH)) (hk10 : ∀ (l0 : Nat) (l1 : Nat) (l2 : Int32) h, e_K eI q r0 h0 10 [(0, .ref l0), (1, .ref l1), (2, .int l2)] [] h (k10 l0 l1 l2 h)) (l0 : Nat) (l1 : Nat) (l2 : Int32) (h : eH) : e_K eI q r0 h0 10 [(0, .ref l0), (1, .ref l1), (2, .int l2)] [] h (F_X7_fill_10b N (e_G q) k10 l0 l1 l2 h) := by
  unfold F_X7_fill_10b
  refine k_iload_n hq dX7_fill_10 2 rfl ?_
  refine k_bipush hq dX7_fill_11 (v := 7) rfl ?_
  refine k_icmp_gt hq (tgt := 70) dX7_fill_13 (by decide) (fun _ => ?_) (fun _ => ?_)
  · refine k_aload_n hq dX7_fill_70 1 rfl ?_
    refine k_giN hq (C := RX10) (T := TX10) 9 2 rfl (by decide) (lay_X10 2 (by decide)) tw_84 dX7_fill_71 fun v1 => ?_
    exact k_iret hq dX7_fill_74 he
  · refine k_aload_n hq dX7_fill_16 1 rfl ?_
    refine k_callV hq (na := 0) (As := []) (st := []) 9 (C := RX10) (T := TX10) rfl (con_X10_step _ _ _ _ N l1) tw_387 tw_49 tw_384 tw_385 tw_386 ⟨by decide, by decide, by decide +kernel⟩ rfl (by decide) rfl (Nat.le_of_ble_eq_true rfl) dX7_fill_17 fun v2 h3 => ?_
    refine k_aload_n hq dX7_fill_20 1 rfl ?_
    refine k_giN hq (C := RX10) (T := TX10) 9 4 rfl (by decide) (lay_X10 4 (by decide)) tw_87 dX7_fill_21 fun v4 => ?_
    refine k_if_ne hq (tgt := 33) dX7_fill_24 (by decide) (fun _ => ?_) (fun _ => ?_)
    · refine k_aload_n hq dX7_fill_27 0 rfl ?_
      refine k_callV hq (na := 0) (As := []) (st := []) 7 (C := RX7) (T := TX7) rfl (con_X7_putUsual _ _ _ _ l0) tw_402 tw_50 tw_399 tw_401 tw_3 ⟨by decide, by decide, by decide +kernel⟩ rfl (by decide) rfl (Nat.le_of_ble_eq_true rfl) dX7_fill_28 fun v13 h14 => ?_
      refine k_iconst hq dX7_fill_31 (v := (-1)) rfl ?_
      exact k_iret hq dX7_fill_32 he
    · refine k_aload_n hq dX7_fill_33 0 rfl ?_
      refine k_aload_n hq dX7_fill_34 1 rfl ?_
      refine k_callV hq (na := 1) (As := [.ref l1]) (st := []) 7 (C := RX7) (T := TX7) rfl (con_X7_takesWords _ _ _ _ N l0 l1) tw_406 tw_50 tw_403 tw_405 tw_4 ⟨by decide, by decide, by decide +kernel⟩ rfl (by decide) rfl (Nat.le_of_ble_eq_true rfl) dX7_fill_35 fun v5 h6 => ?_
      refine k_if_eq hq (tgt := 49) dX7_fill_38 (by decide) (fun _ => ?_) (fun _ => ?_)
      · refine k_aload_n hq dX7_fill_49 1 rfl ?_
        refine k_giN hq (C := RX10) (T := TX10) 9 2 rfl (by decide) (lay_X10 2 (by decide)) tw_84 dX7_fill_50 fun v7 => ?_
        exact k_iret hq dX7_fill_53 he
      · refine k_aload_n hq dX7_fill_41 0 rfl ?_
        refine k_aload_n hq dX7_fill_42 1 rfl ?_
        refine k_callV hq (na := 1) (As := [.ref l1]) (st := []) 7 (C := RX7) (T := TX7) rfl (con_X7_takesSemicolon _ _ _ _ N l0 l1) tw_479 tw_50 tw_476 tw_478 tw_7 ⟨by decide, by decide, by decide +kernel⟩ rfl (by decide) rfl (Nat.le_of_ble_eq_true rfl) dX7_fill_43 fun v8 h9 => ?_
        refine k_if_ne hq (tgt := 54) dX7_fill_46 (by decide) (fun _ => ?_) (fun _ => ?_)
        · refine k_aload_n hq dX7_fill_49 1 rfl ?_
          refine k_giN hq (C := RX10) (T := TX10) 9 2 rfl (by decide) (lay_X10 2 (by decide)) tw_84 dX7_fill_50 fun v12 => ?_
          exact k_iret hq dX7_fill_53 he
        · refine k_aload_n hq dX7_fill_54 0 rfl ?_
          refine k_dup hq dX7_fill_55 rfl ?_
          refine k_gi hq (C := RX7) (T := TX7) 7 5 rfl (by decide) (lay_X7 5 (by decide)) tw_116 dX7_fill_56 fun v10 => ?_
          refine k_iconst hq dX7_fill_59 (v := 1) rfl ?_
          refine k_iadd hq dX7_fill_60 ?_
          refine k_p hq (C := RX7) (T := TX7) 7 5 rfl (by decide) lay_X7 tyX7 tyX7_ok nmX7 tw_116 rfl rfl rfl dX7_fill_61 fun h11 => ?_
          refine k_iinc hq dX7_fill_64 2 rfl (v := l2 + 1) rfl (by decide) (ls' := [(2, .int (l2 + 1)), (0, .ref l0), (1, .ref l1)]) rfl ?_
          refine k_goto hq (tgt := 10) dX7_fill_67 (by decide) ?_
          exact k_sub [1, 2, 0] rfl (hk10 l0 l1 (l2 + 1) h11)
theorem Q_X7_fill_10 {q : eT} {r0 : Int32} {h0 : eH} (hq : e_B q yX7_fill.cls cX7_fill 3 7 193 (some .int) yX7_fill.name) (he : e_E q) (N : Nat) (l0 : Nat) (l1 : Nat) (l2 : Int32) (h : eH) : e_K eI q r0 h0 10 [(0, .ref l0), (1, .ref l1), (2, .int l2)] [] h (L_X7_fill_10 N (e_G q) l0 l1 l2 h) :=
  k_loop (mk := (fun s => [(0, .ref s.1), (1, .ref s.2.1), (2, .int s.2.2.1)])) (hp := fun s => s.2.2.2) (fun k hk s => P_X7_fill_10b hq he N (fun l0 l1 l2 h => k (l0, l1, l2, h)) (fun l0 l1 l2 h => hk (l0, l1, l2, h)) s.1 s.2.1 s.2.2.1 s.2.2.2) N (l0, l1, l2, h)
set_option maxRecDepth 100000 in
set_option maxHeartbeats 4000000 in
theorem P_X7_fill_0 {q : eT} {r0 : Int32} {h0 : eH} (hq : e_B q yX7_fill.cls cX7_fill 3 7 193 (some .int) yX7_fill.name) (he : e_E q) (N : Nat) (l0 : Nat) (l1 : Nat) (h : eH) : e_K eI q r0 h0 0 [(0, .ref l0), (1, .ref l1)] [] h (F_X7_fill N (e_G q) l0 l1 h) := by
  unfold F_X7_fill
  refine k_aload_n hq dX7_fill_0 0 rfl ?_
  refine k_callV hq (na := 0) (As := []) (st := []) 7 (C := RX7) (T := TX7) rfl (con_X7_forget _ _ _ _ l0) tw_379 tw_50 tw_376 tw_378 tw_0 ⟨by decide, by decide, by decide +kernel⟩ rfl (by decide) rfl (Nat.le_of_ble_eq_true rfl) dX7_fill_1 fun v1 h2 => ?_
  refine k_aload_n hq dX7_fill_4 1 rfl ?_
  refine k_callV hq (na := 0) (As := []) (st := []) 9 (C := RX10) (T := TX10) rfl (con_X10_rewind _ _ _ _ l1) tw_383 tw_49 tw_380 tw_381 tw_382 ⟨by decide, by decide, by decide +kernel⟩ rfl (by decide) rfl (Nat.le_of_ble_eq_true rfl) dX7_fill_5 fun v3 h4 => ?_
  refine k_iconst hq dX7_fill_8 (v := 0) rfl ?_
  refine k_istore_n hq dX7_fill_9 rfl (by decide) (ls' := [(2, .int 0), (0, .ref l0), (1, .ref l1)]) rfl ?_
  exact k_sub [1, 2, 0] rfl (Q_X7_fill_10 hq he N l0 l1 0 h4)
theorem con_X7_fill (l : Launch) (G : eG) (B0 n : Nat) (N : Nat) (l0 : Nat) (l1 : Nat) : e_C eI l G B0 n yX7_fill cX7_fill 3 (some .int) 7 193 [.ref l0, .ref l1] (F_X7_fill N G l0 l1) := by
  refine e_mk (by decide) (Nat.le_of_ble_eq_true rfl) fun q r0 h0 h hq he e1 e2 e3 e4 => ?_
  subst e1; subst e2; subst e3; subst e4
  exact P_X7_fill_0 hq he N l0 l1 h
set_option maxRecDepth 100000 in
set_option maxHeartbeats 4000000 in
theorem P_X7_kindOf_0 {q : eT} {r0 : Int32} {h0 : eH} (hq : e_B q yX7_kindOf.cls cX7_kindOf 2 0 0 (some .int) yX7_kindOf.name) (he : e_E q) (l0 : Nat) (l1 : Int32) (h : eH) : e_K eI q r0 h0 0 [(0, .ref l0), (1, .int l1)] [] h (F_X7_kindOf l0 l1 h) := by
  unfold F_X7_kindOf
  refine k_iload_n hq dX7_kindOf_0 1 rfl ?_
  refine k_if_lt hq (tgt := 30) dX7_kindOf_1 (by decide) (fun _ => ?_) (fun _ => ?_)
  · refine k_iconst hq dX7_kindOf_30 (v := 0) rfl ?_
    exact k_iret hq dX7_kindOf_31 he
  · refine k_iload_n hq dX7_kindOf_4 1 rfl ?_
    refine k_aload_n hq dX7_kindOf_5 0 rfl ?_
    refine k_gi hq (C := RX7) (T := TX7) 7 4 rfl (by decide) (lay_X7 4 (by decide)) tw_114 dX7_kindOf_6 fun v1 => ?_
    refine k_icmp_ge hq (tgt := 30) dX7_kindOf_9 (by decide) (fun _ => ?_) (fun _ => ?_)
    · refine k_iconst hq dX7_kindOf_30 (v := 0) rfl ?_
      exact k_iret hq dX7_kindOf_31 he
    · refine k_iload_n hq dX7_kindOf_12 1 rfl ?_
      refine k_aload_n hq dX7_kindOf_13 0 rfl ?_
      refine k_gr hq (C := RX7) (T := TX7) 7 0 rfl (by decide) (lay_X7 0 (by decide)) tw_107 dX7_kindOf_14 fun v2 => ?_
      refine k_alen hq dX7_kindOf_17 fun v3 => ?_
      refine k_icmp_ge hq (tgt := 30) dX7_kindOf_18 (by decide) (fun _ => ?_) (fun _ => ?_)
      · refine k_iconst hq dX7_kindOf_30 (v := 0) rfl ?_
        exact k_iret hq dX7_kindOf_31 he
      · refine k_aload_n hq dX7_kindOf_21 0 rfl ?_
        refine k_gr hq (C := RX7) (T := TX7) 7 0 rfl (by decide) (lay_X7 0 (by decide)) tw_107 dX7_kindOf_22 fun v4 => ?_
        refine k_iload_n hq dX7_kindOf_25 1 rfl ?_
        refine k_iald hq dX7_kindOf_26 fun v5 => ?_
        refine k_goto hq (tgt := 31) dX7_kindOf_27 (by decide) ?_
        exact k_iret hq dX7_kindOf_31 he
theorem con_X7_kindOf (l : Launch) (G : eG) (B0 n : Nat) (l0 : Nat) (l1 : Int32) : e_C eI l G B0 n yX7_kindOf cX7_kindOf 2 (some .int) 0 0 [.ref l0, .int l1] (F_X7_kindOf l0 l1) := by
  refine e_mk (by decide) (Nat.le_of_ble_eq_true rfl) fun q r0 h0 h hq he e1 e2 e3 e4 => ?_
  subst e1; subst e2; subst e3; subst e4
  exact P_X7_kindOf_0 hq he l0 l1 h
set_option maxRecDepth 100000 in
set_option maxHeartbeats 4000000 in
theorem P_X8_nextNumber_0 {q : eT} {r0 : Int32} {h0 : eH} (hq : e_B q yX8_nextNumber.cls cX8_nextNumber 1 1 21 (some .int) yX8_nextNumber.name) (he : e_E q) (l0 : Nat) (h : eH) : e_K eI q r0 h0 0 [(0, .ref l0)] [] h (F_X8_nextNumber l0 h) := by
  unfold F_X8_nextNumber
  refine k_aload_n hq dX8_nextNumber_0 0 rfl ?_
  refine k_gi hq (C := RX8) (T := TX8) 8 3 rfl (by decide) (lay_X8 3 (by decide)) tw_273 dX8_nextNumber_1 fun v1 => ?_
  refine k_aload_n hq dX8_nextNumber_4 0 rfl ?_
  refine k_gi hq (C := RX8) (T := TX8) 8 0 rfl (by decide) (lay_X8 0 (by decide)) tw_267 dX8_nextNumber_5 fun v2 => ?_
  refine k_callS hq (na := 2) (As := [.int v1, .int v2]) (st := []) (con_X9_number _ _ _ _ v1 v2) tw_547 tw_65 tw_598 tw_546 ⟨by decide, by decide, by decide +kernel⟩ rfl (by decide) rfl (Nat.le_of_ble_eq_true rfl) dX8_nextNumber_8 fun v3 h4 => ?_
  refine k_iconst hq dX8_nextNumber_11 (v := 1) rfl ?_
  refine k_iadd hq dX8_nextNumber_12 ?_
  exact k_iret hq dX8_nextNumber_13 he
theorem con_X8_nextNumber (l : Launch) (G : eG) (B0 n : Nat) (l0 : Nat) : e_C eI l G B0 n yX8_nextNumber cX8_nextNumber 1 (some .int) 1 21 [.ref l0] (F_X8_nextNumber l0) := by
  refine e_mk (by decide) (Nat.le_of_ble_eq_true rfl) fun q r0 h0 h hq he e1 e2 e3 e4 => ?_
  subst e1; subst e2; subst e3; subst e4
  exact P_X8_nextNumber_0 hq he l0 h
set_option maxRecDepth 100000 in
set_option maxHeartbeats 4000000 in
theorem P_X8_take_0 {q : eT} {r0 : Unit} {h0 : eH} (hq : e_B q yX8_take.cls cX8_take 8 3 65 none yX8_take.name) (he : e_E q) (N : Nat) (l0 : Nat) (l1 : Int64) (l3 : Int32) (l4 : Int32) (l5 : Int32) (h : eH) : e_K eV q r0 h0 0 [(0, .ref l0), (1, .long l1), (3, .int l3), (4, .int l4), (5, .int l5)] [] h (F_X8_take N l0 l1 l3 l4 l5 h) := by
  unfold F_X8_take
  refine k_aload_n hq dX8_take_0 0 rfl ?_
  refine k_gr hq (C := RX8) (T := TX8) 8 1 rfl (by decide) (lay_X8 1 (by decide)) tw_268 dX8_take_1 fun v1 => ?_
  refine k_grN hq (C := RX3) (T := TX3) 3 6 rfl (by decide) (lay_X3 6 (by decide)) tw_222 dX8_take_4 fun v2 => ?_
  refine k_aload_n hq dX8_take_7 0 rfl ?_
  refine k_gr hq (C := RX8) (T := TX8) 8 2 rfl (by decide) (lay_X8 2 (by decide)) tw_270 dX8_take_8 fun v3 => ?_
  refine k_iload hq dX8_take_11 3 rfl ?_
  refine k_callV hq (na := 2) (As := [.ref v3, .int l4]) (st := []) 1 (C := RX1) (T := TX1) rfl (con_X1_addCovered _ _ _ _ N v2 v3 l4) tw_606 tw_56 tw_603 tw_604 tw_605 ⟨by decide, by decide, by decide +kernel⟩ rfl (by decide) rfl (Nat.le_of_ble_eq_true rfl) dX8_take_13 fun v4 h5 => ?_
  refine k_aload_n hq dX8_take_16 0 rfl ?_
  refine k_gr hq (C := RX8) (T := TX8) 8 2 rfl (by decide) (lay_X8 2 (by decide)) tw_270 dX8_take_17 fun v6 => ?_
  refine k_iload hq dX8_take_20 3 rfl ?_
  refine k_callV hq (na := 1) (As := [.int l4]) (st := []) 1 (C := RX1) (T := TX1) rfl (con_X1_removeCovered _ _ _ _ N v6 l4) tw_614 tw_56 tw_611 tw_612 tw_613 ⟨by decide, by decide, by decide +kernel⟩ rfl (by decide) rfl (Nat.le_of_ble_eq_true rfl) dX8_take_22 fun v7 h8 => ?_
  refine k_aload_n hq dX8_take_25 0 rfl ?_
  refine k_gr hq (C := RX8) (T := TX8) 8 1 rfl (by decide) (lay_X8 1 (by decide)) tw_268 dX8_take_26 fun v9 => ?_
  refine k_dup hq dX8_take_29 rfl ?_
  refine k_giN hq (C := RX3) (T := TX3) 3 10 rfl (by decide) (lay_X3 10 (by decide)) tw_233 dX8_take_30 fun v10 => ?_
  refine k_aload_n hq dX8_take_33 0 rfl ?_
  refine k_gr hq (C := RX8) (T := TX8) 8 2 rfl (by decide) (lay_X8 2 (by decide)) tw_270 dX8_take_34 fun v11 => ?_
  refine k_iload hq dX8_take_37 4 rfl ?_
  refine k_callV hq (na := 1) (As := [.int l5]) (st := [.int v10, .ref v9]) 1 (C := RX1) (T := TX1) rfl (con_X1_coveredTotal _ _ _ _ N v11 l5) tw_619 tw_56 tw_616 tw_617 tw_618 ⟨by decide, by decide, by decide +kernel⟩ rfl (by decide) rfl (Nat.le_of_ble_eq_true rfl) dX8_take_39 fun v12 h13 => ?_
  refine k_iadd hq dX8_take_42 ?_
  refine k_pN hq (C := RX3) (T := TX3) 3 10 rfl (by decide) lay_X3 tyX3 tyX3_ok nmX3 tw_233 rfl rfl rfl dX8_take_43 fun h14 => ?_
  refine k_aload_n hq dX8_take_46 0 rfl ?_
  refine k_callV hq (na := 0) (As := []) (st := []) 8 (C := RX8) (T := TX8) rfl (con_X8_nextNumber _ _ _ _ l0) tw_597 tw_57 tw_620 tw_595 tw_596 ⟨by decide, by decide, by decide +kernel⟩ rfl (by decide) rfl (Nat.le_of_ble_eq_true rfl) dX8_take_47 fun v15 h16 => ?_
  refine k_istore hq dX8_take_50 (by decide) (ls' := [(6, .int v15), (0, .ref l0), (1, .long l1), (3, .int l3), (4, .int l4), (5, .int l5)]) rfl ?_
  refine k_aload_n hq dX8_take_52 1 rfl ?_
  refine k_gi hq (C := RX8) (T := TX8) 8 0 rfl (by decide) (lay_X8 0 (by decide)) tw_267 dX8_take_53 fun v17 => ?_
  refine k_iload hq dX8_take_56 0 rfl ?_
  refine k_callS hq (na := 2) (As := [.int v17, .int v15]) (st := []) (con_X1_of _ _ _ _ v17 v15) tw_555 tw_56 tw_621 tw_554 ⟨by decide, by decide, by decide +kernel⟩ rfl (by decide) rfl (Nat.le_of_ble_eq_true rfl) dX8_take_58 fun v18 h19 => ?_
  refine k_istore hq dX8_take_61 (by decide) (ls' := [(7, .int v18), (6, .int v15), (0, .ref l0), (1, .long l1), (3, .int l3), (4, .int l4), (5, .int l5)]) rfl ?_
  refine k_aload_n hq dX8_take_63 2 rfl ?_
  refine k_aload_n hq dX8_take_64 2 rfl ?_
  refine k_gi hq (C := RX8) (T := TX8) 8 3 rfl (by decide) (lay_X8 3 (by decide)) tw_273 dX8_take_65 fun v20 => ?_
  refine k_iload hq dX8_take_68 5 rfl ?_
  refine k_callS hq (na := 2) (As := [.int v20, .int l4]) (st := [.ref l0]) (con_X9_greater _ _ _ _ N v20 l4) tw_624 tw_65 tw_622 tw_623 ⟨by decide, by decide, by decide +kernel⟩ rfl (by decide) rfl (Nat.le_of_ble_eq_true rfl) dX8_take_70 fun v21 h22 => ?_
  refine k_aload_n hq dX8_take_73 2 rfl ?_
  refine k_gi hq (C := RX8) (T := TX8) 8 0 rfl (by decide) (lay_X8 0 (by decide)) tw_267 dX8_take_74 fun v23 => ?_
  refine k_iload hq dX8_take_77 1 rfl ?_
  refine k_callS hq (na := 3) (As := [.int v21, .int v23, .int v15]) (st := [.ref l0]) (con_X9_with _ _ _ _ v21 v23 v15) tw_575 tw_65 tw_629 tw_574 ⟨by decide, by decide, by decide +kernel⟩ rfl (by decide) rfl (Nat.le_of_ble_eq_true rfl) dX8_take_79 fun v24 h25 => ?_
  refine k_p hq (C := RX8) (T := TX8) 8 3 rfl (by decide) lay_X8 tyX8 tyX8_ok nmX8 tw_273 rfl rfl rfl dX8_take_82 fun h26 => ?_
  refine k_aload_n hq dX8_take_85 2 rfl ?_
  refine k_gr hq (C := RX8) (T := TX8) 8 1 rfl (by decide) (lay_X8 1 (by decide)) tw_268 dX8_take_86 fun v27 => ?_
  refine k_iload hq dX8_take_89 0 rfl ?_
  refine k_lload_n hq dX8_take_91 3 rfl ?_
  refine k_iload_n hq dX8_take_92 4 rfl ?_
  refine k_iload hq dX8_take_93 5 rfl ?_
  refine k_iload hq dX8_take_95 6 rfl ?_
  refine k_callV hq (na := 5) (As := [.int v18, .long l1, .int l3, .int l4, .int l5]) (st := []) 3 (C := RX3) (T := TX3) rfl (con_X3_note _ _ _ _ v27 v18 l1 l3 l4 l5) tw_633 tw_55 tw_630 tw_631 tw_632 ⟨by decide, by decide, by decide +kernel⟩ rfl (by decide) rfl (Nat.le_of_ble_eq_true rfl) dX8_take_97 fun v28 h29 => ?_
  refine k_aload_n hq dX8_take_100 2 rfl ?_
  refine k_gr hq (C := RX8) (T := TX8) 8 2 rfl (by decide) (lay_X8 2 (by decide)) tw_270 dX8_take_101 fun v30 => ?_
  refine k_iload hq dX8_take_104 0 rfl ?_
  refine k_callV hq (na := 1) (As := [.int v18]) (st := []) 1 (C := RX1) (T := TX1) rfl (con_X1_add _ _ _ _ v30 v18) tw_637 tw_56 tw_634 tw_635 tw_636 ⟨by decide, by decide, by decide +kernel⟩ rfl (by decide) rfl (Nat.le_of_ble_eq_true rfl) dX8_take_106 fun v31 h32 => ?_
  exact k_vret hq dX8_take_109 he
theorem con_X8_take (l : Launch) (G : eG) (B0 n : Nat) (N : Nat) (l0 : Nat) (l1 : Int64) (l3 : Int32) (l4 : Int32) (l5 : Int32) : e_C eV l G B0 n yX8_take cX8_take 8 none 3 65 [.ref l0, .long l1, .int l3, .int l4, .int l5] (F_X8_take N l0 l1 l3 l4 l5) := by
  refine e_mk (by decide) (Nat.le_of_ble_eq_true rfl) fun q r0 h0 h hq he e1 e2 e3 e4 => ?_
  subst e1; subst e2; subst e3; subst e4
  exact P_X8_take_0 hq he N l0 l1 l3 l4 l5 h
set_option maxRecDepth 100000 in
set_option maxHeartbeats 4000000 in
theorem P_X8_receive_0 {q : eT} {r0 : Unit} {h0 : eH} (hq : e_B q yX8_receive.cls cX8_receive 2 3 70 none yX8_receive.name) (he : e_E q) (N : Nat) (l0 : Nat) (l1 : Nat) (h : eH) : e_K eV q r0 h0 0 [(0, .ref l0), (1, .ref l1)] [] h (F_X8_receive N l0 l1 h) := by
  unfold F_X8_receive
  refine k_aload_n hq dX8_receive_0 0 rfl ?_
  refine k_gr hq (C := RX8) (T := TX8) 8 2 rfl (by decide) (lay_X8 2 (by decide)) tw_270 dX8_receive_1 fun v1 => ?_
  refine k_aload_n hq dX8_receive_4 0 rfl ?_
  refine k_gi hq (C := RX8) (T := TX8) 8 3 rfl (by decide) (lay_X8 3 (by decide)) tw_273 dX8_receive_5 fun v2 => ?_
  refine k_aload_n hq dX8_receive_8 1 rfl ?_
  refine k_gr hq (C := RX8) (T := TX8) 8 2 rfl (by decide) (lay_X8 2 (by decide)) tw_270 dX8_receive_9 fun v3 => ?_
  refine k_aload_n hq dX8_receive_12 1 rfl ?_
  refine k_gi hq (C := RX8) (T := TX8) 8 3 rfl (by decide) (lay_X8 3 (by decide)) tw_273 dX8_receive_13 fun v4 => ?_
  refine k_callV hq (na := 3) (As := [.int v2, .ref v3, .int v4]) (st := []) 1 (C := RX1) (T := TX1) rfl (con_X1_join _ _ _ _ N v1 v2 v3 v4) tw_680 tw_56 tw_677 tw_678 tw_679 ⟨by decide, by decide, by decide +kernel⟩ rfl (by decide) rfl (Nat.le_of_ble_eq_true rfl) dX8_receive_16 fun v5 h6 => ?_
  refine k_aload_n hq dX8_receive_19 0 rfl ?_
  refine k_aload_n hq dX8_receive_20 0 rfl ?_
  refine k_gi hq (C := RX8) (T := TX8) 8 3 rfl (by decide) (lay_X8 3 (by decide)) tw_273 dX8_receive_21 fun v7 => ?_
  refine k_aload_n hq dX8_receive_24 1 rfl ?_
  refine k_gi hq (C := RX8) (T := TX8) 8 3 rfl (by decide) (lay_X8 3 (by decide)) tw_273 dX8_receive_25 fun v8 => ?_
  refine k_callS hq (na := 2) (As := [.int v7, .int v8]) (st := [.ref l0]) (con_X9_greater _ _ _ _ N v7 v8) tw_624 tw_65 tw_622 tw_623 ⟨by decide, by decide, by decide +kernel⟩ rfl (by decide) rfl (Nat.le_of_ble_eq_true rfl) dX8_receive_28 fun v9 h10 => ?_
  refine k_p hq (C := RX8) (T := TX8) 8 3 rfl (by decide) lay_X8 tyX8 tyX8_ok nmX8 tw_273 rfl rfl rfl dX8_receive_31 fun h11 => ?_
  exact k_vret hq dX8_receive_34 he
theorem con_X8_receive (l : Launch) (G : eG) (B0 n : Nat) (N : Nat) (l0 : Nat) (l1 : Nat) : e_C eV l G B0 n yX8_receive cX8_receive 2 none 3 70 [.ref l0, .ref l1] (F_X8_receive N l0 l1) := by
  refine e_mk (by decide) (Nat.le_of_ble_eq_true rfl) fun q r0 h0 h hq he e1 e2 e3 e4 => ?_
  subst e1; subst e2; subst e3; subst e4
  exact P_X8_receive_0 hq he N l0 l1 h
set_option maxRecDepth 100000 in
set_option maxHeartbeats 4000000 in
theorem P_X8_dropBeyond_10b {q : eT} {r0 : Unit} {h0 : eH} (hq : e_B q yX8_dropBeyond.cls cX8_dropBeyond 4 4 87 none yX8_dropBeyond.name) (he : e_E q) (N : Nat) (k10 : Nat → Int32 → eH → Option (Unit × eH)) (hk10 : ∀ (l0 : Nat) (l2 : Int32) h, e_K eV q r0 h0 10 [(0, .ref l0), (2, .int l2)] [] h (k10 l0 l2 h)) (l0 : Nat) (l2 : Int32) (h : eH) : e_K eV q r0 h0 10 [(0, .ref l0), (2, .int l2)] [] h (F_X8_dropBeyond_10b N k10 l0 l2 h) := by
  unfold F_X8_dropBeyond_10b
  refine k_iload_n hq dX8_dropBeyond_10 1 rfl ?_
  refine k_if_le hq (tgt := 52) dX8_dropBeyond_11 (by decide) (fun _ => ?_) (fun _ => ?_)
  · exact k_vret hq dX8_dropBeyond_52 he
  · refine k_aload_n hq dX8_dropBeyond_14 0 rfl ?_
    refine k_gr hq (C := RX8) (T := TX8) 8 1 rfl (by decide) (lay_X8 1 (by decide)) tw_268 dX8_dropBeyond_15 fun v1 => ?_
    refine k_aload_n hq dX8_dropBeyond_18 0 rfl ?_
    refine k_gr hq (C := RX8) (T := TX8) 8 2 rfl (by decide) (lay_X8 2 (by decide)) tw_270 dX8_dropBeyond_19 fun v2 => ?_
    refine k_iconst hq dX8_dropBeyond_22 (v := 0) rfl ?_
    refine k_callV hq (na := 2) (As := [.ref v2, .int 0]) (st := []) 3 (C := RX3) (T := TX3) rfl (con_X3_nextByStamp _ _ _ _ N v1 v2 0) tw_652 tw_55 tw_649 tw_650 tw_651 ⟨by decide, by decide, by decide +kernel⟩ rfl (by decide) rfl (Nat.le_of_ble_eq_true rfl) dX8_dropBeyond_23 fun v3 h4 => ?_
    refine k_istore_n hq dX8_dropBeyond_26 rfl (by decide) (ls' := [(3, .int v3), (0, .ref l0), (2, .int l2)]) rfl ?_
    refine k_aload_n hq dX8_dropBeyond_27 1 rfl ?_
    refine k_gr hq (C := RX8) (T := TX8) 8 2 rfl (by decide) (lay_X8 2 (by decide)) tw_270 dX8_dropBeyond_28 fun v5 => ?_
    refine k_iload_n hq dX8_dropBeyond_31 0 rfl ?_
    refine k_callV hq (na := 1) (As := [.int v3]) (st := []) 1 (C := RX1) (T := TX1) rfl (con_X1_remove _ _ _ _ v5 v3) tw_660 tw_56 tw_657 tw_658 tw_659 ⟨by decide, by decide, by decide +kernel⟩ rfl (by decide) rfl (Nat.le_of_ble_eq_true rfl) dX8_dropBeyond_32 fun v6 h7 => ?_
    refine k_aload_n hq dX8_dropBeyond_35 1 rfl ?_
    refine k_gr hq (C := RX8) (T := TX8) 8 1 rfl (by decide) (lay_X8 1 (by decide)) tw_268 dX8_dropBeyond_36 fun v8 => ?_
    refine k_grN hq (C := RX3) (T := TX3) 3 5 rfl (by decide) (lay_X3 5 (by decide)) tw_219 dX8_dropBeyond_39 fun v9 => ?_
    refine k_iload_n hq dX8_dropBeyond_42 0 rfl ?_
    refine k_callV hq (na := 1) (As := [.int v3]) (st := []) 1 (C := RX1) (T := TX1) rfl (con_X1_add _ _ _ _ v9 v3) tw_637 tw_56 tw_634 tw_635 tw_636 ⟨by decide, by decide, by decide +kernel⟩ rfl (by decide) rfl (Nat.le_of_ble_eq_true rfl) dX8_dropBeyond_43 fun v10 h11 => ?_
    refine k_iinc hq dX8_dropBeyond_46 2 rfl (v := l2 + (-1)) rfl (by decide) (ls' := [(2, .int (l2 + (-1))), (3, .int v3), (0, .ref l0)]) rfl ?_
    refine k_goto hq (tgt := 10) dX8_dropBeyond_49 (by decide) ?_
    exact k_sub [2, 0] rfl (hk10 l0 (l2 + (-1)) h11)
theorem Q_X8_dropBeyond_10 {q : eT} {r0 : Unit} {h0 : eH} (hq : e_B q yX8_dropBeyond.cls cX8_dropBeyond 4 4 87 none yX8_dropBeyond.name) (he : e_E q) (N : Nat) (l0 : Nat) (l2 : Int32) (h : eH) : e_K eV q r0 h0 10 [(0, .ref l0), (2, .int l2)] [] h (L_X8_dropBeyond_10 N l0 l2 h) :=
  k_loop (mk := (fun s => [(0, .ref s.1), (2, .int s.2.1)])) (hp := fun s => s.2.2) (fun k hk s => P_X8_dropBeyond_10b hq he N (fun l0 l2 h => k (l0, l2, h)) (fun l0 l2 h => hk (l0, l2, h)) s.1 s.2.1 s.2.2) N (l0, l2, h)
set_option maxRecDepth 100000 in
set_option maxHeartbeats 4000000 in
theorem P_X8_dropBeyond_0 {q : eT} {r0 : Unit} {h0 : eH} (hq : e_B q yX8_dropBeyond.cls cX8_dropBeyond 4 4 87 none yX8_dropBeyond.name) (he : e_E q) (N : Nat) (l0 : Nat) (l1 : Int32) (h : eH) : e_K eV q r0 h0 0 [(0, .ref l0), (1, .int l1)] [] h (F_X8_dropBeyond N l0 l1 h) := by
  unfold F_X8_dropBeyond
  refine k_aload_n hq dX8_dropBeyond_0 0 rfl ?_
  refine k_gr hq (C := RX8) (T := TX8) 8 2 rfl (by decide) (lay_X8 2 (by decide)) tw_270 dX8_dropBeyond_1 fun v1 => ?_
  refine k_callV hq (na := 0) (As := []) (st := []) 1 (C := RX1) (T := TX1) rfl (con_X1_size _ _ _ _ N v1) tw_583 tw_56 tw_648 tw_581 tw_582 ⟨by decide, by decide, by decide +kernel⟩ rfl (by decide) rfl (Nat.le_of_ble_eq_true rfl) dX8_dropBeyond_4 fun v2 h3 => ?_
  refine k_iload_n hq dX8_dropBeyond_7 1 rfl ?_
  refine k_isub hq dX8_dropBeyond_8 ?_
  refine k_let (mk := fun z => .int z :: []) fun v4 _ => ?_
  refine k_istore_n hq dX8_dropBeyond_9 rfl (by decide) (ls' := [(2, .int v4), (0, .ref l0), (1, .int l1)]) rfl ?_
  exact k_sub [1, 0] rfl (Q_X8_dropBeyond_10 hq he N l0 v4 h3)
theorem con_X8_dropBeyond (l : Launch) (G : eG) (B0 n : Nat) (N : Nat) (l0 : Nat) (l1 : Int32) : e_C eV l G B0 n yX8_dropBeyond cX8_dropBeyond 4 none 4 87 [.ref l0, .int l1] (F_X8_dropBeyond N l0 l1) := by
  refine e_mk (by decide) (Nat.le_of_ble_eq_true rfl) fun q r0 h0 h hq he e1 e2 e3 e4 => ?_
  subst e1; subst e2; subst e3; subst e4
  exact P_X8_dropBeyond_0 hq he N l0 l1 h
set_option maxRecDepth 100000 in
set_option maxHeartbeats 4000000 in
theorem P_X8_blend_23b {q : eT} {r0 : Unit} {h0 : eH} (hq : e_B q yX8_blend.cls cX8_blend 6 4 87 none yX8_blend.name) (he : e_E q) (N : Nat) (k23 : Nat → Nat → Int32 → Int32 → eH → Option (Unit × eH)) (hk23 : ∀ (l0 : Nat) (l1 : Nat) (l3 : Int32) (l4 : Int32) h, e_K eV q r0 h0 23 [(0, .ref l0), (1, .ref l1), (3, .int l3), (4, .int l4)] [] h (k23 l0 l1 l3 l4 h)) (l0 : Nat) (l1 : Nat) (l3 : Int32) (l4 : Int32) (h : eH) : e_K eV q r0 h0 23 [(0, .ref l0), (1, .ref l1), (3, .int l3), (4, .int l4)] [] h (F_X8_blend_23b N k23 l0 l1 l3 l4 h) := by
  unfold F_X8_blend_23b
  refine k_iload hq dX8_blend_23 3 rfl ?_
  refine k_if_le hq (tgt := 71) dX8_blend_25 (by decide) (fun _ => ?_) (fun _ => ?_)
  · refine k_aload_n hq dX8_blend_71 1 rfl ?_
    refine k_callV hq (na := 0) (As := []) (st := []) 6 (C := RX6) (T := TX6) rfl (con_X6_end _ _ _ _ l1) tw_741 tw_52 tw_738 tw_739 tw_740 ⟨by decide, by decide, by decide +kernel⟩ rfl (by decide) rfl (Nat.le_of_ble_eq_true rfl) dX8_blend_72 fun v1 h2 => ?_
    exact k_vret hq dX8_blend_75 he
  · refine k_aload_n hq dX8_blend_28 0 rfl ?_
    refine k_gr hq (C := RX8) (T := TX8) 8 1 rfl (by decide) (lay_X8 1 (by decide)) tw_268 dX8_blend_29 fun v3 => ?_
    refine k_aload_n hq dX8_blend_32 0 rfl ?_
    refine k_gr hq (C := RX8) (T := TX8) 8 2 rfl (by decide) (lay_X8 2 (by decide)) tw_270 dX8_blend_33 fun v4 => ?_
    refine k_iload_n hq dX8_blend_36 2 rfl ?_
    refine k_callV hq (na := 2) (As := [.ref v4, .int l3]) (st := []) 3 (C := RX3) (T := TX3) rfl (con_X3_nextByStamp _ _ _ _ N v3 v4 l3) tw_652 tw_55 tw_649 tw_650 tw_651 ⟨by decide, by decide, by decide +kernel⟩ rfl (by decide) rfl (Nat.le_of_ble_eq_true rfl) dX8_blend_37 fun v5 h6 => ?_
    refine k_istore hq dX8_blend_40 (by decide) (ls' := [(5, .int v5), (0, .ref l0), (1, .ref l1), (3, .int l3), (4, .int l4)]) rfl ?_
    refine k_aload_n hq dX8_blend_42 1 rfl ?_
    refine k_gr hq (C := RX8) (T := TX8) 8 1 rfl (by decide) (lay_X8 1 (by decide)) tw_268 dX8_blend_43 fun v7 => ?_
    refine k_iload hq dX8_blend_46 0 rfl ?_
    refine k_callV hq (na := 1) (As := [.int v5]) (st := []) 3 (C := RX3) (T := TX3) rfl (con_X3_stampOf _ _ _ _ v7 v5) tw_559 tw_55 tw_712 tw_557 tw_558 ⟨by decide, by decide, by decide +kernel⟩ rfl (by decide) rfl (Nat.le_of_ble_eq_true rfl) dX8_blend_48 fun v8 h9 => ?_
    refine k_istore_n hq dX8_blend_51 rfl (by decide) (ls' := [(3, .int v8), (5, .int v5), (0, .ref l0), (1, .ref l1), (4, .int l4)]) rfl ?_
    refine k_aload_n hq dX8_blend_52 3 rfl ?_
    refine k_aload_n hq dX8_blend_53 2 rfl ?_
    refine k_gr hq (C := RX8) (T := TX8) 8 1 rfl (by decide) (lay_X8 1 (by decide)) tw_268 dX8_blend_54 fun v10 => ?_
    refine k_iload hq dX8_blend_57 1 rfl ?_
    refine k_callV hq (na := 1) (As := [.int v5]) (st := [.ref l1]) 3 (C := RX3) (T := TX3) rfl (con_X3_valueOf _ _ _ _ v10 v5) tw_716 tw_55 tw_713 tw_714 tw_715 ⟨by decide, by decide, by decide +kernel⟩ rfl (by decide) rfl (Nat.le_of_ble_eq_true rfl) dX8_blend_59 fun v11 h12 => ?_
    refine k_callV hq (na := 1) (As := [.long v11]) (st := []) 6 (C := RX6) (T := TX6) rfl (con_X6_add _ _ _ _ N l1 v11) tw_720 tw_52 tw_717 tw_718 tw_719 ⟨by decide, by decide, by decide +kernel⟩ rfl (by decide) rfl (Nat.le_of_ble_eq_true rfl) dX8_blend_62 fun v13 h14 => ?_
    refine k_iinc hq dX8_blend_65 4 rfl (v := l4 + (-1)) rfl (by decide) (ls' := [(4, .int (l4 + (-1))), (3, .int v8), (5, .int v5), (0, .ref l0), (1, .ref l1)]) rfl ?_
    refine k_goto hq (tgt := 23) dX8_blend_68 (by decide) ?_
    exact k_sub [3, 4, 1, 0] rfl (hk23 l0 l1 v8 (l4 + (-1)) h14)
theorem Q_X8_blend_23 {q : eT} {r0 : Unit} {h0 : eH} (hq : e_B q yX8_blend.cls cX8_blend 6 4 87 none yX8_blend.name) (he : e_E q) (N : Nat) (l0 : Nat) (l1 : Nat) (l3 : Int32) (l4 : Int32) (h : eH) : e_K eV q r0 h0 23 [(0, .ref l0), (1, .ref l1), (3, .int l3), (4, .int l4)] [] h (L_X8_blend_23 N l0 l1 l3 l4 h) :=
  k_loop (mk := (fun s => [(0, .ref s.1), (1, .ref s.2.1), (3, .int s.2.2.1), (4, .int s.2.2.2.1)])) (hp := fun s => s.2.2.2.2) (fun k hk s => P_X8_blend_23b hq he N (fun l0 l1 l3 l4 h => k (l0, l1, l3, l4, h)) (fun l0 l1 l3 l4 h => hk (l0, l1, l3, l4, h)) s.1 s.2.1 s.2.2.1 s.2.2.2.1 s.2.2.2.2) N (l0, l1, l3, l4, h)
set_option maxRecDepth 100000 in
set_option maxHeartbeats 4000000 in
theorem P_X8_blend_0 {q : eT} {r0 : Unit} {h0 : eH} (hq : e_B q yX8_blend.cls cX8_blend 6 4 87 none yX8_blend.name) (he : e_E q) (N : Nat) (l0 : Nat) (l1 : Nat) (l2 : Int32) (h : eH) : e_K eV q r0 h0 0 [(0, .ref l0), (1, .ref l1), (2, .int l2)] [] h (F_X8_blend N l0 l1 l2 h) := by
  unfold F_X8_blend
  refine k_aload_n hq dX8_blend_0 1 rfl ?_
  refine k_aload_n hq dX8_blend_1 0 rfl ?_
  refine k_gr hq (C := RX8) (T := TX8) 8 1 rfl (by decide) (lay_X8 1 (by decide)) tw_268 dX8_blend_2 fun v1 => ?_
  refine k_giN hq (C := RX3) (T := TX3) 3 8 rfl (by decide) (lay_X3 8 (by decide)) tw_229 dX8_blend_5 fun v2 => ?_
  refine k_iload_n hq dX8_blend_8 2 rfl ?_
  refine k_callV hq (na := 2) (As := [.int v2, .int l2]) (st := []) 6 (C := RX6) (T := TX6) rfl (con_X6_begin _ _ _ _ l1 v2 l2) tw_708 tw_52 tw_705 tw_706 tw_707 ⟨by decide, by decide, by decide +kernel⟩ rfl (by decide) rfl (Nat.le_of_ble_eq_true rfl) dX8_blend_9 fun v3 h4 => ?_
  refine k_iconst hq dX8_blend_12 (v := 0) rfl ?_
  refine k_istore_n hq dX8_blend_13 rfl (by decide) (ls' := [(3, .int 0), (0, .ref l0), (1, .ref l1), (2, .int l2)]) rfl ?_
  refine k_aload_n hq dX8_blend_14 1 rfl ?_
  refine k_gr hq (C := RX8) (T := TX8) 8 2 rfl (by decide) (lay_X8 2 (by decide)) tw_270 dX8_blend_15 fun v5 => ?_
  refine k_callV hq (na := 0) (As := []) (st := []) 1 (C := RX1) (T := TX1) rfl (con_X1_size _ _ _ _ N v5) tw_583 tw_56 tw_648 tw_581 tw_582 ⟨by decide, by decide, by decide +kernel⟩ rfl (by decide) rfl (Nat.le_of_ble_eq_true rfl) dX8_blend_18 fun v6 h7 => ?_
  refine k_istore hq dX8_blend_21 (by decide) (ls' := [(4, .int v6), (3, .int 0), (0, .ref l0), (1, .ref l1), (2, .int l2)]) rfl ?_
  exact k_sub [2, 3, 1, 0] rfl (Q_X8_blend_23 hq he N l0 l1 0 v6 h7)
theorem con_X8_blend (l : Launch) (G : eG) (B0 n : Nat) (N : Nat) (l0 : Nat) (l1 : Nat) (l2 : Int32) : e_C eV l G B0 n yX8_blend cX8_blend 6 none 4 87 [.ref l0, .ref l1, .int l2] (F_X8_blend N l0 l1 l2) := by
  refine e_mk (by decide) (Nat.le_of_ble_eq_true rfl) fun q r0 h0 h hq he e1 e2 e3 e4 => ?_
  subst e1; subst e2; subst e3; subst e4
  exact P_X8_blend_0 hq he N l0 l1 l2 h
set_option maxRecDepth 100000 in
set_option maxHeartbeats 4000000 in
theorem P_X8_mergeInto_0 {q : eT} {r0 : Unit} {h0 : eH} (hq : e_B q yX8_mergeInto.cls cX8_mergeInto 4 4 92 none yX8_mergeInto.name) (he : e_E q) (N : Nat) (l0 : Nat) (l1 : Int64) (l3 : Int32) (h : eH) : e_K eV q r0 h0 0 [(0, .ref l0), (1, .long l1), (3, .int l3)] [] h (F_X8_mergeInto N l0 l1 l3 h) := by
  unfold F_X8_mergeInto
  refine k_aload_n hq dX8_mergeInto_0 0 rfl ?_
  refine k_gr hq (C := RX8) (T := TX8) 8 1 rfl (by decide) (lay_X8 1 (by decide)) tw_268 dX8_mergeInto_1 fun v1 => ?_
  refine k_grN hq (C := RX3) (T := TX3) 3 4 rfl (by decide) (lay_X3 4 (by decide)) tw_217 dX8_mergeInto_4 fun v2 => ?_
  refine k_aload_n hq dX8_mergeInto_7 0 rfl ?_
  refine k_gr hq (C := RX8) (T := TX8) 8 2 rfl (by decide) (lay_X8 2 (by decide)) tw_270 dX8_mergeInto_8 fun v3 => ?_
  refine k_callV hq (na := 1) (As := [.ref v3]) (st := []) 1 (C := RX1) (T := TX1) rfl (con_X1_addAll _ _ _ _ N v2 v3) tw_579 tw_56 tw_746 tw_577 tw_578 ⟨by decide, by decide, by decide +kernel⟩ rfl (by decide) rfl (Nat.le_of_ble_eq_true rfl) dX8_mergeInto_11 fun v4 h5 => ?_
  refine k_aload_n hq dX8_mergeInto_14 0 rfl ?_
  refine k_gr hq (C := RX8) (T := TX8) 8 1 rfl (by decide) (lay_X8 1 (by decide)) tw_268 dX8_mergeInto_15 fun v6 => ?_
  refine k_grN hq (C := RX3) (T := TX3) 3 7 rfl (by decide) (lay_X3 7 (by decide)) tw_225 dX8_mergeInto_18 fun v7 => ?_
  refine k_aload_n hq dX8_mergeInto_21 0 rfl ?_
  refine k_gr hq (C := RX8) (T := TX8) 8 2 rfl (by decide) (lay_X8 2 (by decide)) tw_270 dX8_mergeInto_22 fun v8 => ?_
  refine k_callV hq (na := 1) (As := [.ref v8]) (st := []) 1 (C := RX1) (T := TX1) rfl (con_X1_addAll _ _ _ _ N v7 v8) tw_579 tw_56 tw_746 tw_577 tw_578 ⟨by decide, by decide, by decide +kernel⟩ rfl (by decide) rfl (Nat.le_of_ble_eq_true rfl) dX8_mergeInto_25 fun v9 h10 => ?_
  refine k_aload_n hq dX8_mergeInto_28 0 rfl ?_
  refine k_gr hq (C := RX8) (T := TX8) 8 2 rfl (by decide) (lay_X8 2 (by decide)) tw_270 dX8_mergeInto_29 fun v11 => ?_
  refine k_callV hq (na := 0) (As := []) (st := []) 1 (C := RX1) (T := TX1) rfl (con_X1_empty _ _ _ _ N v11) tw_499 tw_56 tw_504 tw_497 tw_498 ⟨by decide, by decide, by decide +kernel⟩ rfl (by decide) rfl (Nat.le_of_ble_eq_true rfl) dX8_mergeInto_32 fun v12 h13 => ?_
  refine k_aload_n hq dX8_mergeInto_35 0 rfl ?_
  refine k_lload_n hq dX8_mergeInto_36 1 rfl ?_
  refine k_iload_n hq dX8_mergeInto_37 2 rfl ?_
  refine k_aload_n hq dX8_mergeInto_38 0 rfl ?_
  refine k_gi hq (C := RX8) (T := TX8) 8 3 rfl (by decide) (lay_X8 3 (by decide)) tw_273 dX8_mergeInto_39 fun v14 => ?_
  refine k_aload_n hq dX8_mergeInto_42 0 rfl ?_
  refine k_gi hq (C := RX8) (T := TX8) 8 3 rfl (by decide) (lay_X8 3 (by decide)) tw_273 dX8_mergeInto_43 fun v15 => ?_
  refine k_callV hq (na := 4) (As := [.long l1, .int l3, .int v14, .int v15]) (st := []) 8 (C := RX8) (T := TX8) rfl (con_X8_take _ _ _ _ N l0 l1 l3 v14 v15) tw_602 tw_57 tw_747 tw_600 tw_601 ⟨by decide, by decide, by decide +kernel⟩ rfl (by decide) rfl (Nat.le_of_ble_eq_true rfl) dX8_mergeInto_46 fun v16 h17 => ?_
  exact k_vret hq dX8_mergeInto_49 he
theorem con_X8_mergeInto (l : Launch) (G : eG) (B0 n : Nat) (N : Nat) (l0 : Nat) (l1 : Int64) (l3 : Int32) : e_C eV l G B0 n yX8_mergeInto cX8_mergeInto 4 none 4 92 [.ref l0, .long l1, .int l3] (F_X8_mergeInto N l0 l1 l3) := by
  refine e_mk (by decide) (Nat.le_of_ble_eq_true rfl) fun q r0 h0 h hq he e1 e2 e3 e4 => ?_
  subst e1; subst e2; subst e3; subst e4
  exact P_X8_mergeInto_0 hq he N l0 l1 l3 h
set_option maxRecDepth 100000 in
set_option maxHeartbeats 4000000 in
theorem P_X9_sum_4b {q : eT} {r0 : Int32} {h0 : eH} (hq : e_B q yX9_sum.cls cX9_sum 3 1 21 (some .int) yX9_sum.name) (he : e_E q) (N : Nat) (k4 : Int32 → Int32 → Int32 → eH → Option (Int32 × eH)) (hk4 : ∀ (l0 : Int32) (l1 : Int32) (l2 : Int32) h, e_K eI q r0 h0 4 [(0, .int l0), (1, .int l1), (2, .int l2)] [] h (k4 l0 l1 l2 h)) (l0 : Int32) (l1 : Int32) (l2 : Int32) (h : eH) : e_K eI q r0 h0 4 [(0, .int l0), (1, .int l1), (2, .int l2)] [] h (F_X9_sum_4b N k4 l0 l1 l2 h) := by
  unfold F_X9_sum_4b
  refine k_iload_n hq dX9_sum_4 2 rfl ?_
  refine k_iconst hq dX9_sum_5 (v := 4) rfl ?_
  refine k_icmp_ge hq (tgt := 23) dX9_sum_6 (by decide) (fun _ => ?_) (fun _ => ?_)
  · refine k_iload_n hq dX9_sum_23 1 rfl ?_
    exact k_iret hq dX9_sum_24 he
  · refine k_iload_n hq dX9_sum_9 1 rfl ?_
    refine k_iload_n hq dX9_sum_10 0 rfl ?_
    refine k_iload_n hq dX9_sum_11 2 rfl ?_
    refine k_callS hq (na := 2) (As := [.int l0, .int l2]) (st := [.int l1]) (con_X9_number _ _ _ _ l0 l2) tw_547 tw_65 tw_545 tw_546 ⟨by decide, by decide, by decide +kernel⟩ rfl (by decide) rfl (Nat.le_of_ble_eq_true rfl) dX9_sum_12 fun v1 h2 => ?_
    refine k_iadd hq dX9_sum_15 ?_
    refine k_let (mk := fun z => .int z :: []) fun v3 _ => ?_
    refine k_istore_n hq dX9_sum_16 rfl (by decide) (ls' := [(1, .int v3), (0, .int l0), (2, .int l2)]) rfl ?_
    refine k_iinc hq dX9_sum_17 2 rfl (v := l2 + 1) rfl (by decide) (ls' := [(2, .int (l2 + 1)), (1, .int v3), (0, .int l0)]) rfl ?_
    refine k_goto hq (tgt := 4) dX9_sum_20 (by decide) ?_
    exact k_sub [2, 1, 0] rfl (hk4 l0 v3 (l2 + 1) h2)
theorem Q_X9_sum_4 {q : eT} {r0 : Int32} {h0 : eH} (hq : e_B q yX9_sum.cls cX9_sum 3 1 21 (some .int) yX9_sum.name) (he : e_E q) (N : Nat) (l0 : Int32) (l1 : Int32) (l2 : Int32) (h : eH) : e_K eI q r0 h0 4 [(0, .int l0), (1, .int l1), (2, .int l2)] [] h (L_X9_sum_4 N l0 l1 l2 h) :=
  k_loop (mk := (fun s => [(0, .int s.1), (1, .int s.2.1), (2, .int s.2.2.1)])) (hp := fun s => s.2.2.2) (fun k hk s => P_X9_sum_4b hq he N (fun l0 l1 l2 h => k (l0, l1, l2, h)) (fun l0 l1 l2 h => hk (l0, l1, l2, h)) s.1 s.2.1 s.2.2.1 s.2.2.2) N (l0, l1, l2, h)
set_option maxRecDepth 100000 in
set_option maxHeartbeats 4000000 in
theorem P_X9_sum_0 {q : eT} {r0 : Int32} {h0 : eH} (hq : e_B q yX9_sum.cls cX9_sum 3 1 21 (some .int) yX9_sum.name) (he : e_E q) (N : Nat) (l0 : Int32) (h : eH) : e_K eI q r0 h0 0 [(0, .int l0)] [] h (F_X9_sum N l0 h) := by
  unfold F_X9_sum
  refine k_iconst hq dX9_sum_0 (v := 0) rfl ?_
  refine k_istore_n hq dX9_sum_1 rfl (by decide) (ls' := [(1, .int 0), (0, .int l0)]) rfl ?_
  refine k_iconst hq dX9_sum_2 (v := 0) rfl ?_
  refine k_istore_n hq dX9_sum_3 rfl (by decide) (ls' := [(2, .int 0), (1, .int 0), (0, .int l0)]) rfl ?_
  exact k_sub [2, 1, 0] rfl (Q_X9_sum_4 hq he N l0 0 0 h)
theorem con_X9_sum (l : Launch) (G : eG) (B0 n : Nat) (N : Nat) (l0 : Int32) : e_C eI l G B0 n yX9_sum cX9_sum 3 (some .int) 1 21 [.int l0] (F_X9_sum N l0) := by
  refine e_mk (by decide) (Nat.le_of_ble_eq_true rfl) fun q r0 h0 h hq he e1 e2 e3 e4 => ?_
  subst e1; subst e2; subst e3; subst e4
  exact P_X9_sum_0 hq he N l0 h
set_option maxRecDepth 100000 in
set_option maxHeartbeats 4000000 in
theorem P_X10_isFull_0 {q : eT} {r0 : Int32} {h0 : eH} (hq : e_B q yX10_isFull.cls cX10_isFull 1 0 0 (some .boolean) yX10_isFull.name) (he : e_E q) (l0 : Nat) (h : eH) : e_K eI q r0 h0 0 [(0, .ref l0)] [] h (F_X10_isFull l0 h) := by
  unfold F_X10_isFull
  refine k_aload_n hq dX10_isFull_0 0 rfl ?_
  refine k_gi hq (C := RX10) (T := TX10) 9 1 rfl (by decide) (lay_X10 1 (by decide)) tw_82 dX10_isFull_1 fun v1 => ?_
  refine k_aload_n hq dX10_isFull_4 0 rfl ?_
  refine k_gr hq (C := RX10) (T := TX10) 9 0 rfl (by decide) (lay_X10 0 (by decide)) tw_81 dX10_isFull_5 fun v2 => ?_
  refine k_alen hq dX10_isFull_8 fun v3 => ?_
  refine k_icmp_lt hq (tgt := 16) dX10_isFull_9 (by decide) (fun _ => ?_) (fun _ => ?_)
  · refine k_iconst hq dX10_isFull_16 (v := 0) rfl ?_
    exact k_zret hq dX10_isFull_17 he
  · refine k_iconst hq dX10_isFull_12 (v := 1) rfl ?_
    refine k_goto hq (tgt := 17) dX10_isFull_13 (by decide) ?_
    exact k_zret hq dX10_isFull_17 he
theorem con_X10_isFull (l : Launch) (G : eG) (B0 n : Nat) (l0 : Nat) : e_C eI l G B0 n yX10_isFull cX10_isFull 1 (some .boolean) 0 0 [.ref l0] (F_X10_isFull l0) := by
  refine e_mk (by decide) (Nat.le_of_ble_eq_true rfl) fun q r0 h0 h hq he e1 e2 e3 e4 => ?_
  subst e1; subst e2; subst e3; subst e4
  exact P_X10_isFull_0 hq he l0 h
set_option maxRecDepth 100000 in
set_option maxHeartbeats 4000000 in
theorem P_X10_append_0 {q : eT} {r0 : Unit} {h0 : eH} (hq : e_B q yX10_append.cls cX10_append 2 0 0 none yX10_append.name) (he : e_E q) (l0 : Nat) (l1 : Int32) (h : eH) : e_K eV q r0 h0 0 [(0, .ref l0), (1, .int l1)] [] h (F_X10_append l0 l1 h) := by
  unfold F_X10_append
  refine k_aload_n hq dX10_append_0 0 rfl ?_
  refine k_gi hq (C := RX10) (T := TX10) 9 1 rfl (by decide) (lay_X10 1 (by decide)) tw_82 dX10_append_1 fun v1 => ?_
  refine k_aload_n hq dX10_append_4 0 rfl ?_
  refine k_gr hq (C := RX10) (T := TX10) 9 0 rfl (by decide) (lay_X10 0 (by decide)) tw_81 dX10_append_5 fun v2 => ?_
  refine k_alen hq dX10_append_8 fun v3 => ?_
  refine k_icmp_ge hq (tgt := 32) dX10_append_9 (by decide) (fun _ => ?_) (fun _ => ?_)
  · exact k_vret hq dX10_append_32 he
  · refine k_aload_n hq dX10_append_12 0 rfl ?_
    refine k_gr hq (C := RX10) (T := TX10) 9 0 rfl (by decide) (lay_X10 0 (by decide)) tw_81 dX10_append_13 fun v4 => ?_
    refine k_aload_n hq dX10_append_16 0 rfl ?_
    refine k_gi hq (C := RX10) (T := TX10) 9 1 rfl (by decide) (lay_X10 1 (by decide)) tw_82 dX10_append_17 fun v5 => ?_
    refine k_iload_n hq dX10_append_20 1 rfl ?_
    refine k_iast hq dX10_append_21 fun h6 => ?_
    refine k_aload_n hq dX10_append_22 0 rfl ?_
    refine k_dup hq dX10_append_23 rfl ?_
    refine k_gi hq (C := RX10) (T := TX10) 9 1 rfl (by decide) (lay_X10 1 (by decide)) tw_82 dX10_append_24 fun v7 => ?_
    refine k_iconst hq dX10_append_27 (v := 1) rfl ?_
    refine k_iadd hq dX10_append_28 ?_
    refine k_p hq (C := RX10) (T := TX10) 9 1 rfl (by decide) lay_X10 tyX10 tyX10_ok nmX10 tw_82 rfl rfl rfl dX10_append_29 fun h8 => ?_
    exact k_vret hq dX10_append_32 he
theorem con_X10_append (l : Launch) (G : eG) (B0 n : Nat) (l0 : Nat) (l1 : Int32) : e_C eV l G B0 n yX10_append cX10_append 2 none 0 0 [.ref l0, .int l1] (F_X10_append l0 l1) := by
  refine e_mk (by decide) (Nat.le_of_ble_eq_true rfl) fun q r0 h0 h hq he e1 e2 e3 e4 => ?_
  subst e1; subst e2; subst e3; subst e4
  exact P_X10_append_0 hq he l0 l1 h
set_option maxRecDepth 100000 in
set_option maxHeartbeats 4000000 in
theorem P_X10_empty_0 {q : eT} {r0 : Unit} {h0 : eH} (hq : e_B q yX10_empty.cls cX10_empty 1 0 0 none yX10_empty.name) (he : e_E q) (l0 : Nat) (h : eH) : e_K eV q r0 h0 0 [(0, .ref l0)] [] h (F_X10_empty l0 h) := by
  unfold F_X10_empty
  refine k_aload_n hq dX10_empty_0 0 rfl ?_
  refine k_iconst hq dX10_empty_1 (v := 0) rfl ?_
  refine k_p hq (C := RX10) (T := TX10) 9 1 rfl (by decide) lay_X10 tyX10 tyX10_ok nmX10 tw_82 rfl rfl rfl dX10_empty_2 fun h1 => ?_
  exact k_vret hq dX10_empty_5 he
theorem con_X10_empty (l : Launch) (G : eG) (B0 n : Nat) (l0 : Nat) : e_C eV l G B0 n yX10_empty cX10_empty 1 none 0 0 [.ref l0] (F_X10_empty l0) := by
  refine e_mk (by decide) (Nat.le_of_ble_eq_true rfl) fun q r0 h0 h hq he e1 e2 e3 e4 => ?_
  subst e1; subst e2; subst e3; subst e4
  exact P_X10_empty_0 hq he l0 h
set_option maxRecDepth 100000 in
set_option maxHeartbeats 4000000 in
theorem P_X11_type_0 {q : eT} {r0 : Int32} {h0 : eH} (hq : e_B q yX11_type.cls cX11_type 2 1 21 (some .int) yX11_type.name) (he : e_E q) (l0 : Nat) (l1 : Int32) (h : eH) : e_K eI q r0 h0 0 [(0, .ref l0), (1, .int l1)] [] h (F_X11_type l0 l1 h) := by
  unfold F_X11_type
  refine k_iload_n hq dX11_type_0 1 rfl ?_
  refine k_if_lt hq (tgt := 11) dX11_type_1 (by decide) (fun _ => ?_) (fun _ => ?_)
  · refine k_iconst hq dX11_type_11 (v := (-1)) rfl ?_
    exact k_iret hq dX11_type_12 he
  · refine k_iload_n hq dX11_type_4 1 rfl ?_
    refine k_sipush hq dX11_type_5 (v := 255) rfl ?_
    refine k_icmp_le hq (tgt := 13) dX11_type_8 (by decide) (fun _ => ?_) (fun _ => ?_)
    · refine k_aload_n hq dX11_type_13 0 rfl ?_
      refine k_gr hq (C := RX11) (T := TX11) 10 0 rfl (by decide) (lay_X11 0 (by decide)) tw_311 dX11_type_14 fun v1 => ?_
      refine k_callV hq (na := 0) (As := []) (st := []) 9 (C := RX10) (T := TX10) rfl (con_X10_isFull _ _ _ _ v1) tw_355 tw_49 tw_352 tw_353 tw_354 ⟨by decide, by decide, by decide +kernel⟩ rfl (by decide) rfl (Nat.le_of_ble_eq_true rfl) dX11_type_17 fun v2 h3 => ?_
      refine k_if_eq hq (tgt := 26) dX11_type_20 (by decide) (fun _ => ?_) (fun _ => ?_)
      · refine k_aload_n hq dX11_type_26 0 rfl ?_
        refine k_gr hq (C := RX11) (T := TX11) 10 0 rfl (by decide) (lay_X11 0 (by decide)) tw_311 dX11_type_27 fun v4 => ?_
        refine k_iload_n hq dX11_type_30 1 rfl ?_
        refine k_callV hq (na := 1) (As := [.int l1]) (st := []) 9 (C := RX10) (T := TX10) rfl (con_X10_append _ _ _ _ v4 l1) tw_359 tw_49 tw_356 tw_357 tw_358 ⟨by decide, by decide, by decide +kernel⟩ rfl (by decide) rfl (Nat.le_of_ble_eq_true rfl) dX11_type_31 fun v5 h6 => ?_
        refine k_aload_n hq dX11_type_34 0 rfl ?_
        refine k_gr hq (C := RX11) (T := TX11) 10 0 rfl (by decide) (lay_X11 0 (by decide)) tw_311 dX11_type_35 fun v7 => ?_
        refine k_giN hq (C := RX10) (T := TX10) 9 1 rfl (by decide) (lay_X10 1 (by decide)) tw_83 dX11_type_38 fun v8 => ?_
        exact k_iret hq dX11_type_41 he
      · refine k_bipush hq dX11_type_23 (v := (-3)) rfl ?_
        exact k_iret hq dX11_type_25 he
    · refine k_iconst hq dX11_type_11 (v := (-1)) rfl ?_
      exact k_iret hq dX11_type_12 he
theorem con_X11_type (l : Launch) (G : eG) (B0 n : Nat) (l0 : Nat) (l1 : Int32) : e_C eI l G B0 n yX11_type cX11_type 2 (some .int) 1 21 [.ref l0, .int l1] (F_X11_type l0 l1) := by
  refine e_mk (by decide) (Nat.le_of_ble_eq_true rfl) fun q r0 h0 h hq he e1 e2 e3 e4 => ?_
  subst e1; subst e2; subst e3; subst e4
  exact P_X11_type_0 hq he l0 l1 h
set_option maxRecDepth 100000 in
set_option maxHeartbeats 4000000 in
theorem P_X11_clear_0 {q : eT} {r0 : Int32} {h0 : eH} (hq : e_B q yX11_clear.cls cX11_clear 2 1 20 (some .int) yX11_clear.name) (he : e_E q) (l0 : Nat) (h : eH) : e_K eI q r0 h0 0 [(0, .ref l0)] [] h (F_X11_clear l0 h) := by
  unfold F_X11_clear
  refine k_aload_n hq dX11_clear_0 0 rfl ?_
  refine k_gr hq (C := RX11) (T := TX11) 10 0 rfl (by decide) (lay_X11 0 (by decide)) tw_311 dX11_clear_1 fun v1 => ?_
  refine k_giN hq (C := RX10) (T := TX10) 9 1 rfl (by decide) (lay_X10 1 (by decide)) tw_83 dX11_clear_4 fun v2 => ?_
  refine k_istore_n hq dX11_clear_7 rfl (by decide) (ls' := [(1, .int v2), (0, .ref l0)]) rfl ?_
  refine k_aload_n hq dX11_clear_8 1 rfl ?_
  refine k_gr hq (C := RX11) (T := TX11) 10 0 rfl (by decide) (lay_X11 0 (by decide)) tw_311 dX11_clear_9 fun v3 => ?_
  refine k_callV hq (na := 0) (As := []) (st := []) 9 (C := RX10) (T := TX10) rfl (con_X10_empty _ _ _ _ v3) tw_367 tw_49 tw_364 tw_365 tw_366 ⟨by decide, by decide, by decide +kernel⟩ rfl (by decide) rfl (Nat.le_of_ble_eq_true rfl) dX11_clear_12 fun v4 h5 => ?_
  refine k_iload_n hq dX11_clear_15 0 rfl ?_
  exact k_iret hq dX11_clear_16 he
theorem con_X11_clear (l : Launch) (G : eG) (B0 n : Nat) (l0 : Nat) : e_C eI l G B0 n yX11_clear cX11_clear 2 (some .int) 1 20 [.ref l0] (F_X11_clear l0) := by
  refine e_mk (by decide) (Nat.le_of_ble_eq_true rfl) fun q r0 h0 h hq he e1 e2 e3 e4 => ?_
  subst e1; subst e2; subst e3; subst e4
  exact P_X11_clear_0 hq he l0 h
set_option maxRecDepth 100000 in
set_option maxHeartbeats 4000000 in
theorem P_X11_beginAnew_85b {q : eT} {r0 : Unit} {h0 : eH} (hq : e_B q yX11_beginAnew.cls cX11_beginAnew 2 3 64 none yX11_beginAnew.name) (he : e_E q) (N : Nat) (k85 : Nat → Int32 → eH → Option (Unit × eH)) (hk85 : ∀ (l0 : Nat) (l1 : Int32) h, e_K eV q r0 h0 85 [(0, .ref l0), (1, .int l1)] [] h (k85 l0 l1 h)) (l0 : Nat) (l1 : Int32) (h : eH) : e_K eV q r0 h0 85 [(0, .ref l0), (1, .int l1)] [] h (F_X11_beginAnew_85b N k85 l0 l1 h) := by
  unfold F_X11_beginAnew_85b
  refine k_iload_n hq dX11_beginAnew_85 1 rfl ?_
  refine k_aload_n hq dX11_beginAnew_86 0 rfl ?_
  refine k_gr hq (C := RX11) (T := TX11) 10 3 rfl (by decide) (lay_X11 3 (by decide)) tw_314 dX11_beginAnew_87 fun v1 => ?_
  refine k_alen hq dX11_beginAnew_90 fun v2 => ?_
  refine k_icmp_ge hq (tgt := 109) dX11_beginAnew_91 (by decide) (fun _ => ?_) (fun _ => ?_)
  · refine k_aload_n hq dX11_beginAnew_109 0 rfl ?_
    refine k_gr hq (C := RX11) (T := TX11) 10 4 rfl (by decide) (lay_X11 4 (by decide)) tw_315 dX11_beginAnew_110 fun v3 => ?_
    refine k_callV hq (na := 0) (As := []) (st := []) 5 (C := RX5) (T := TX5) rfl (con_X5_forget _ _ _ _ v3) tw_512 tw_51 tw_509 tw_510 tw_511 ⟨by decide, by decide, by decide +kernel⟩ rfl (by decide) rfl (Nat.le_of_ble_eq_true rfl) dX11_beginAnew_113 fun v4 h5 => ?_
    exact k_vret hq dX11_beginAnew_116 he
  · refine k_aload_n hq dX11_beginAnew_94 0 rfl ?_
    refine k_gr hq (C := RX11) (T := TX11) 10 3 rfl (by decide) (lay_X11 3 (by decide)) tw_314 dX11_beginAnew_95 fun v6 => ?_
    refine k_iload_n hq dX11_beginAnew_98 1 rfl ?_
    refine k_aald hq 5 (fun _ => rfl) dX11_beginAnew_99 fun v7 => ?_
    refine k_callV hq (na := 0) (As := []) (st := []) 0 (C := RX0) (T := TX0) rfl (con_X0_becomeBlind _ _ _ _ v7) tw_508 tw_58 tw_505 tw_506 tw_507 ⟨by decide, by decide, by decide +kernel⟩ rfl (by decide) rfl (Nat.le_of_ble_eq_true rfl) dX11_beginAnew_100 fun v8 h9 => ?_
    refine k_iinc hq dX11_beginAnew_103 1 rfl (v := l1 + 1) rfl (by decide) (ls' := [(1, .int (l1 + 1)), (0, .ref l0)]) rfl ?_
    refine k_goto hq (tgt := 85) dX11_beginAnew_106 (by decide) ?_
    exact k_sub [1, 0] rfl (hk85 l0 (l1 + 1) h9)
theorem Q_X11_beginAnew_85 {q : eT} {r0 : Unit} {h0 : eH} (hq : e_B q yX11_beginAnew.cls cX11_beginAnew 2 3 64 none yX11_beginAnew.name) (he : e_E q) (N : Nat) (l0 : Nat) (l1 : Int32) (h : eH) : e_K eV q r0 h0 85 [(0, .ref l0), (1, .int l1)] [] h (L_X11_beginAnew_85 N l0 l1 h) :=
  k_loop (mk := (fun s => [(0, .ref s.1), (1, .int s.2.1)])) (hp := fun s => s.2.2) (fun k hk s => P_X11_beginAnew_85b hq he N (fun l0 l1 h => k (l0, l1, h)) (fun l0 l1 h => hk (l0, l1, h)) s.1 s.2.1 s.2.2) N (l0, l1, h)
set_option maxRecDepth 100000 in
set_option maxHeartbeats 4000000 in
theorem P_X11_beginAnew_51b {q : eT} {r0 : Unit} {h0 : eH} (hq : e_B q yX11_beginAnew.cls cX11_beginAnew 2 3 64 none yX11_beginAnew.name) (he : e_E q) (N : Nat) (k51 : Nat → Int32 → eH → Option (Unit × eH)) (hk51 : ∀ (l0 : Nat) (l1 : Int32) h, e_K eV q r0 h0 51 [(0, .ref l0), (1, .int l1)] [] h (k51 l0 l1 h)) (l0 : Nat) (l1 : Int32) (h : eH) : e_K eV q r0 h0 51 [(0, .ref l0), (1, .int l1)] [] h (F_X11_beginAnew_51b N k51 l0 l1 h) := by
  unfold F_X11_beginAnew_51b
  refine k_iload_n hq dX11_beginAnew_51 1 rfl ?_
  refine k_aload_n hq dX11_beginAnew_52 0 rfl ?_
  refine k_gr hq (C := RX11) (T := TX11) 10 2 rfl (by decide) (lay_X11 2 (by decide)) tw_313 dX11_beginAnew_53 fun v1 => ?_
  refine k_alen hq dX11_beginAnew_56 fun v2 => ?_
  refine k_icmp_ge hq (tgt := 83) dX11_beginAnew_57 (by decide) (fun _ => ?_) (fun _ => ?_)
  · refine k_iconst hq dX11_beginAnew_83 (v := 0) rfl ?_
    refine k_istore_n hq dX11_beginAnew_84 rfl (by decide) (ls' := [(1, .int 0), (0, .ref l0)]) rfl ?_
    exact k_sub [1, 0] rfl (Q_X11_beginAnew_85 hq he N l0 0 h)
  · refine k_aload_n hq dX11_beginAnew_60 0 rfl ?_
    refine k_gr hq (C := RX11) (T := TX11) 10 2 rfl (by decide) (lay_X11 2 (by decide)) tw_313 dX11_beginAnew_61 fun v3 => ?_
    refine k_iload_n hq dX11_beginAnew_64 1 rfl ?_
    refine k_aald hq 3 (fun _ => rfl) dX11_beginAnew_65 fun v4 => ?_
    refine k_aload_n hq dX11_beginAnew_66 0 rfl ?_
    refine k_gr hq (C := RX11) (T := TX11) 10 1 rfl (by decide) (lay_X11 1 (by decide)) tw_312 dX11_beginAnew_67 fun v5 => ?_
    refine k_iload_n hq dX11_beginAnew_70 1 rfl ?_
    refine k_callV hq (na := 1) (As := [.int l1]) (st := [.ref v4]) 7 (C := RX7) (T := TX7) rfl (con_X7_kindOf _ _ _ _ v5 l1) tw_487 tw_50 tw_484 tw_485 tw_486 ⟨by decide, by decide, by decide +kernel⟩ rfl (by decide) rfl (Nat.le_of_ble_eq_true rfl) dX11_beginAnew_71 fun v6 h7 => ?_
    refine k_callV hq (na := 1) (As := [.int v6]) (st := []) 4 (C := RX4) (T := TX4) rfl (con_X4_beginAnew _ _ _ _ N v4 v6) tw_491 tw_54 tw_488 tw_489 tw_490 ⟨by decide, by decide, by decide +kernel⟩ rfl (by decide) rfl (Nat.le_of_ble_eq_true rfl) dX11_beginAnew_74 fun v8 h9 => ?_
    refine k_iinc hq dX11_beginAnew_77 1 rfl (v := l1 + 1) rfl (by decide) (ls' := [(1, .int (l1 + 1)), (0, .ref l0)]) rfl ?_
    refine k_goto hq (tgt := 51) dX11_beginAnew_80 (by decide) ?_
    exact k_sub [1, 0] rfl (hk51 l0 (l1 + 1) h9)
theorem Q_X11_beginAnew_51 {q : eT} {r0 : Unit} {h0 : eH} (hq : e_B q yX11_beginAnew.cls cX11_beginAnew 2 3 64 none yX11_beginAnew.name) (he : e_E q) (N : Nat) (l0 : Nat) (l1 : Int32) (h : eH) : e_K eV q r0 h0 51 [(0, .ref l0), (1, .int l1)] [] h (L_X11_beginAnew_51 N l0 l1 h) :=
  k_loop (mk := (fun s => [(0, .ref s.1), (1, .int s.2.1)])) (hp := fun s => s.2.2) (fun k hk s => P_X11_beginAnew_51b hq he N (fun l0 l1 h => k (l0, l1, h)) (fun l0 l1 h => hk (l0, l1, h)) s.1 s.2.1 s.2.2) N (l0, l1, h)
set_option maxRecDepth 100000 in
set_option maxHeartbeats 4000000 in
theorem P_X11_beginAnew_0 {q : eT} {r0 : Unit} {h0 : eH} (hq : e_B q yX11_beginAnew.cls cX11_beginAnew 2 3 64 none yX11_beginAnew.name) (he : e_E q) (N : Nat) (l0 : Nat) (h : eH) : e_K eV q r0 h0 0 [(0, .ref l0)] [] h (F_X11_beginAnew N l0 h) := by
  unfold F_X11_beginAnew
  refine k_aload_n hq dX11_beginAnew_0 0 rfl ?_
  refine k_aload_n hq dX11_beginAnew_1 0 rfl ?_
  refine k_gr hq (C := RX11) (T := TX11) 10 1 rfl (by decide) (lay_X11 1 (by decide)) tw_312 dX11_beginAnew_2 fun v1 => ?_
  refine k_giN hq (C := RX7) (T := TX7) 7 1 rfl (by decide) (lay_X7 1 (by decide)) tw_109 dX11_beginAnew_5 fun v2 => ?_
  refine k_p hq (C := RX11) (T := TX11) 10 7 rfl (by decide) lay_X11 tyX11 tyX11_ok nmX11 tw_318 rfl rfl rfl dX11_beginAnew_8 fun h3 => ?_
  refine k_aload_n hq dX11_beginAnew_11 0 rfl ?_
  refine k_aload_n hq dX11_beginAnew_12 0 rfl ?_
  refine k_gr hq (C := RX11) (T := TX11) 10 1 rfl (by decide) (lay_X11 1 (by decide)) tw_312 dX11_beginAnew_13 fun v4 => ?_
  refine k_giN hq (C := RX7) (T := TX7) 7 2 rfl (by decide) (lay_X7 2 (by decide)) tw_111 dX11_beginAnew_16 fun v5 => ?_
  refine k_p hq (C := RX11) (T := TX11) 10 8 rfl (by decide) lay_X11 tyX11 tyX11_ok nmX11 tw_319 rfl rfl rfl dX11_beginAnew_19 fun h6 => ?_
  refine k_aload_n hq dX11_beginAnew_22 0 rfl ?_
  refine k_aload_n hq dX11_beginAnew_23 0 rfl ?_
  refine k_gr hq (C := RX11) (T := TX11) 10 1 rfl (by decide) (lay_X11 1 (by decide)) tw_312 dX11_beginAnew_24 fun v7 => ?_
  refine k_giN hq (C := RX7) (T := TX7) 7 3 rfl (by decide) (lay_X7 3 (by decide)) tw_113 dX11_beginAnew_27 fun v8 => ?_
  refine k_p hq (C := RX11) (T := TX11) 10 9 rfl (by decide) lay_X11 tyX11 tyX11_ok nmX11 tw_320 rfl rfl rfl dX11_beginAnew_30 fun h9 => ?_
  refine k_aload_n hq dX11_beginAnew_33 0 rfl ?_
  refine k_aload_n hq dX11_beginAnew_34 0 rfl ?_
  refine k_gr hq (C := RX11) (T := TX11) 10 1 rfl (by decide) (lay_X11 1 (by decide)) tw_312 dX11_beginAnew_35 fun v10 => ?_
  refine k_giN hq (C := RX7) (T := TX7) 7 4 rfl (by decide) (lay_X7 4 (by decide)) tw_115 dX11_beginAnew_38 fun v11 => ?_
  refine k_p hq (C := RX11) (T := TX11) 10 10 rfl (by decide) lay_X11 tyX11 tyX11_ok nmX11 tw_321 rfl rfl rfl dX11_beginAnew_41 fun h12 => ?_
  refine k_aload_n hq dX11_beginAnew_44 0 rfl ?_
  refine k_iconst hq dX11_beginAnew_45 (v := 0) rfl ?_
  refine k_p hq (C := RX11) (T := TX11) 10 11 rfl (by decide) lay_X11 tyX11 tyX11_ok nmX11 tw_322 rfl rfl rfl dX11_beginAnew_46 fun h13 => ?_
  refine k_iconst hq dX11_beginAnew_49 (v := 0) rfl ?_
  refine k_istore_n hq dX11_beginAnew_50 rfl (by decide) (ls' := [(1, .int 0), (0, .ref l0)]) rfl ?_
  exact k_sub [1, 0] rfl (Q_X11_beginAnew_51 hq he N l0 0 h13)
theorem con_X11_beginAnew (l : Launch) (G : eG) (B0 n : Nat) (N : Nat) (l0 : Nat) : e_C eV l G B0 n yX11_beginAnew cX11_beginAnew 2 none 3 64 [.ref l0] (F_X11_beginAnew N l0) := by
  refine e_mk (by decide) (Nat.le_of_ble_eq_true rfl) fun q r0 h0 h hq he e1 e2 e3 e4 => ?_
  subst e1; subst e2; subst e3; subst e4
  exact P_X11_beginAnew_0 hq he N l0 h
set_option maxRecDepth 100000 in
set_option maxHeartbeats 4000000 in
theorem P_X11_tells_0 {q : eT} {r0 : Int32} {h0 : eH} (hq : e_B q yX11_tells.cls cX11_tells 2 8 215 (some .int) yX11_tells.name) (he : e_E q) (N : Nat) (l0 : Nat) (h : eH) : e_K eI q r0 h0 0 [(0, .ref l0)] [] h (F_X11_tells N (e_G q) l0 h) := by
  unfold F_X11_tells
  refine k_aload_n hq dX11_tells_0 0 rfl ?_
  refine k_gr hq (C := RX11) (T := TX11) 10 1 rfl (by decide) (lay_X11 1 (by decide)) tw_312 dX11_tells_1 fun v1 => ?_
  refine k_aload_n hq dX11_tells_4 0 rfl ?_
  refine k_gr hq (C := RX11) (T := TX11) 10 0 rfl (by decide) (lay_X11 0 (by decide)) tw_311 dX11_tells_5 fun v2 => ?_
  refine k_callV hq (na := 1) (As := [.ref v2]) (st := []) 7 (C := RX7) (T := TX7) rfl (con_X7_fill _ _ _ _ N v1 v2) tw_375 tw_50 tw_372 tw_373 tw_374 ⟨by decide, by decide, by decide +kernel⟩ rfl (by decide) rfl (Nat.le_of_ble_eq_true rfl) dX11_tells_8 fun v3 h4 => ?_
  refine k_istore_n hq dX11_tells_11 rfl (by decide) (ls' := [(1, .int v3), (0, .ref l0)]) rfl ?_
  refine k_iload_n hq dX11_tells_12 0 rfl ?_
  refine k_iconst hq dX11_tells_13 (v := (-1)) rfl ?_
  refine k_icmp_eq hq (tgt := 22) dX11_tells_14 (by decide) (fun _ => ?_) (fun _ => ?_)
  · refine k_aload_n hq dX11_tells_22 1 rfl ?_
    refine k_gr hq (C := RX11) (T := TX11) 10 0 rfl (by decide) (lay_X11 0 (by decide)) tw_311 dX11_tells_23 fun v5 => ?_
    refine k_callV hq (na := 0) (As := []) (st := []) 9 (C := RX10) (T := TX10) rfl (con_X10_empty _ _ _ _ v5) tw_367 tw_49 tw_364 tw_365 tw_366 ⟨by decide, by decide, by decide +kernel⟩ rfl (by decide) rfl (Nat.le_of_ble_eq_true rfl) dX11_tells_26 fun v6 h7 => ?_
    refine k_aload_n hq dX11_tells_29 1 rfl ?_
    refine k_callV hq (na := 0) (As := []) (st := []) 10 (C := RX11) (T := TX11) rfl (con_X11_beginAnew _ _ _ _ N l0) tw_483 tw_48 tw_480 tw_482 tw_8 ⟨by decide, by decide, by decide +kernel⟩ rfl (by decide) rfl (Nat.le_of_ble_eq_true rfl) dX11_tells_30 fun v8 h9 => ?_
    refine k_aload_n hq dX11_tells_33 1 rfl ?_
    refine k_gr hq (C := RX11) (T := TX11) 10 1 rfl (by decide) (lay_X11 1 (by decide)) tw_312 dX11_tells_34 fun v10 => ?_
    refine k_giN hq (C := RX7) (T := TX7) 7 5 rfl (by decide) (lay_X7 5 (by decide)) tw_117 dX11_tells_37 fun v11 => ?_
    exact k_iret hq dX11_tells_40 he
  · refine k_bipush hq dX11_tells_17 (v := (-10)) rfl ?_
    refine k_iload_n hq dX11_tells_19 0 rfl ?_
    refine k_isub hq dX11_tells_20 ?_
    exact k_iret hq dX11_tells_21 he
theorem con_X11_tells (l : Launch) (G : eG) (B0 n : Nat) (N : Nat) (l0 : Nat) : e_C eI l G B0 n yX11_tells cX11_tells 2 (some .int) 8 215 [.ref l0] (F_X11_tells N G l0) := by
  refine e_mk (by decide) (Nat.le_of_ble_eq_true rfl) fun q r0 h0 h hq he e1 e2 e3 e4 => ?_
  subst e1; subst e2; subst e3; subst e4
  exact P_X11_tells_0 hq he N l0 h
set_option maxRecDepth 100000 in
set_option maxHeartbeats 4000000 in
theorem P_X11_clientAt_0 {q : eT} {r0 : Option Nat} {h0 : eH} (hq : e_B q yX11_clientAt.cls cX11_clientAt 2 0 0 (some (.object "SideVersions$Client")) yX11_clientAt.name) (he : e_E q) (l0 : Nat) (l1 : Int32) (h : eH) : e_K eR q r0 h0 0 [(0, .ref l0), (1, .int l1)] [] h (F_X11_clientAt l0 l1 h) := by
  unfold F_X11_clientAt
  refine k_iload_n hq dX11_clientAt_0 1 rfl ?_
  refine k_if_lt hq (tgt := 22) dX11_clientAt_1 (by decide) (fun _ => ?_) (fun _ => ?_)
  · refine k_aconst_null hq dX11_clientAt_22 ?_
    exact k_aret (v := none) hq dX11_clientAt_23 he
  · refine k_iload_n hq dX11_clientAt_4 1 rfl ?_
    refine k_aload_n hq dX11_clientAt_5 0 rfl ?_
    refine k_gr hq (C := RX11) (T := TX11) 10 3 rfl (by decide) (lay_X11 3 (by decide)) tw_314 dX11_clientAt_6 fun v1 => ?_
    refine k_alen hq dX11_clientAt_9 fun v2 => ?_
    refine k_icmp_ge hq (tgt := 22) dX11_clientAt_10 (by decide) (fun _ => ?_) (fun _ => ?_)
    · refine k_aconst_null hq dX11_clientAt_22 ?_
      exact k_aret (v := none) hq dX11_clientAt_23 he
    · refine k_aload_n hq dX11_clientAt_13 0 rfl ?_
      refine k_gr hq (C := RX11) (T := TX11) 10 3 rfl (by decide) (lay_X11 3 (by decide)) tw_314 dX11_clientAt_14 fun v3 => ?_
      refine k_iload_n hq dX11_clientAt_17 1 rfl ?_
      refine k_aald hq 5 (fun _ => rfl) dX11_clientAt_18 fun v4 => ?_
      refine k_goto hq (tgt := 23) dX11_clientAt_19 (by decide) ?_
      exact k_aret (v := (some v4)) hq dX11_clientAt_23 he
theorem con_X11_clientAt (l : Launch) (G : eG) (B0 n : Nat) (l0 : Nat) (l1 : Int32) : e_C eR l G B0 n yX11_clientAt cX11_clientAt 2 (some (.object "SideVersions$Client")) 0 0 [.ref l0, .int l1] (F_X11_clientAt l0 l1) := by
  refine e_mk (by decide) (Nat.le_of_ble_eq_true rfl) fun q r0 h0 h hq he e1 e2 e3 e4 => ?_
  subst e1; subst e2; subst e3; subst e4
  exact P_X11_clientAt_0 hq he l0 l1 h
set_option maxRecDepth 100000 in
set_option maxHeartbeats 4000000 in
theorem P_X11_keyAt_0 {q : eT} {r0 : Option Nat} {h0 : eH} (hq : e_B q yX11_keyAt.cls cX11_keyAt 2 0 0 (some (.object "SideVersions$Key")) yX11_keyAt.name) (he : e_E q) (l0 : Nat) (l1 : Int32) (h : eH) : e_K eR q r0 h0 0 [(0, .ref l0), (1, .int l1)] [] h (F_X11_keyAt l0 l1 h) := by
  unfold F_X11_keyAt
  refine k_iload_n hq dX11_keyAt_0 1 rfl ?_
  refine k_if_lt hq (tgt := 30) dX11_keyAt_1 (by decide) (fun _ => ?_) (fun _ => ?_)
  · refine k_aconst_null hq dX11_keyAt_30 ?_
    exact k_aret (v := none) hq dX11_keyAt_31 he
  · refine k_iload_n hq dX11_keyAt_4 1 rfl ?_
    refine k_aload_n hq dX11_keyAt_5 0 rfl ?_
    refine k_gi hq (C := RX11) (T := TX11) 10 10 rfl (by decide) (lay_X11 10 (by decide)) tw_321 dX11_keyAt_6 fun v1 => ?_
    refine k_icmp_ge hq (tgt := 30) dX11_keyAt_9 (by decide) (fun _ => ?_) (fun _ => ?_)
    · refine k_aconst_null hq dX11_keyAt_30 ?_
      exact k_aret (v := none) hq dX11_keyAt_31 he
    · refine k_iload_n hq dX11_keyAt_12 1 rfl ?_
      refine k_aload_n hq dX11_keyAt_13 0 rfl ?_
      refine k_gr hq (C := RX11) (T := TX11) 10 2 rfl (by decide) (lay_X11 2 (by decide)) tw_313 dX11_keyAt_14 fun v2 => ?_
      refine k_alen hq dX11_keyAt_17 fun v3 => ?_
      refine k_icmp_ge hq (tgt := 30) dX11_keyAt_18 (by decide) (fun _ => ?_) (fun _ => ?_)
      · refine k_aconst_null hq dX11_keyAt_30 ?_
        exact k_aret (v := none) hq dX11_keyAt_31 he
      · refine k_aload_n hq dX11_keyAt_21 0 rfl ?_
        refine k_gr hq (C := RX11) (T := TX11) 10 2 rfl (by decide) (lay_X11 2 (by decide)) tw_313 dX11_keyAt_22 fun v4 => ?_
        refine k_iload_n hq dX11_keyAt_25 1 rfl ?_
        refine k_aald hq 3 (fun _ => rfl) dX11_keyAt_26 fun v5 => ?_
        refine k_goto hq (tgt := 31) dX11_keyAt_27 (by decide) ?_
        exact k_aret (v := (some v5)) hq dX11_keyAt_31 he
theorem con_X11_keyAt (l : Launch) (G : eG) (B0 n : Nat) (l0 : Nat) (l1 : Int32) : e_C eR l G B0 n yX11_keyAt cX11_keyAt 2 (some (.object "SideVersions$Key")) 0 0 [.ref l0, .int l1] (F_X11_keyAt l0 l1) := by
  refine e_mk (by decide) (Nat.le_of_ble_eq_true rfl) fun q r0 h0 h hq he e1 e2 e3 e4 => ?_
  subst e1; subst e2; subst e3; subst e4
  exact P_X11_keyAt_0 hq he l0 l1 h
set_option maxRecDepth 100000 in
set_option maxHeartbeats 4000000 in
theorem P_X11_isSite_0 {q : eT} {r0 : Int32} {h0 : eH} (hq : e_B q yX11_isSite.cls cX11_isSite 2 0 0 (some .boolean) yX11_isSite.name) (he : e_E q) (l0 : Nat) (l1 : Int32) (h : eH) : e_K eI q r0 h0 0 [(0, .ref l0), (1, .int l1)] [] h (F_X11_isSite l0 l1 h) := by
  unfold F_X11_isSite
  refine k_iload_n hq dX11_isSite_0 1 rfl ?_
  refine k_if_lt hq (tgt := 16) dX11_isSite_1 (by decide) (fun _ => ?_) (fun _ => ?_)
  · refine k_iconst hq dX11_isSite_16 (v := 0) rfl ?_
    exact k_zret hq dX11_isSite_17 he
  · refine k_iload_n hq dX11_isSite_4 1 rfl ?_
    refine k_aload_n hq dX11_isSite_5 0 rfl ?_
    refine k_gi hq (C := RX11) (T := TX11) 10 7 rfl (by decide) (lay_X11 7 (by decide)) tw_318 dX11_isSite_6 fun v1 => ?_
    refine k_icmp_ge hq (tgt := 16) dX11_isSite_9 (by decide) (fun _ => ?_) (fun _ => ?_)
    · refine k_iconst hq dX11_isSite_16 (v := 0) rfl ?_
      exact k_zret hq dX11_isSite_17 he
    · refine k_iconst hq dX11_isSite_12 (v := 1) rfl ?_
      refine k_goto hq (tgt := 17) dX11_isSite_13 (by decide) ?_
      exact k_zret hq dX11_isSite_17 he
theorem con_X11_isSite (l : Launch) (G : eG) (B0 n : Nat) (l0 : Nat) (l1 : Int32) : e_C eI l G B0 n yX11_isSite cX11_isSite 2 (some .boolean) 0 0 [.ref l0, .int l1] (F_X11_isSite l0 l1) := by
  refine e_mk (by decide) (Nat.le_of_ble_eq_true rfl) fun q r0 h0 h hq he e1 e2 e3 e4 => ?_
  subst e1; subst e2; subst e3; subst e4
  exact P_X11_isSite_0 hq he l0 l1 h
set_option maxRecDepth 100000 in
set_option maxHeartbeats 4000000 in
theorem P_X11_replicaAt_0 {q : eT} {r0 : Option Nat} {h0 : eH} (hq : e_B q yX11_replicaAt.cls cX11_replicaAt 4 1 21 (some (.object "SideVersions$Replica")) yX11_replicaAt.name) (he : e_E q) (l0 : Nat) (l1 : Int32) (l2 : Int32) (h : eH) : e_K eR q r0 h0 0 [(0, .ref l0), (1, .int l1), (2, .int l2)] [] h (F_X11_replicaAt l0 l1 l2 h) := by
  unfold F_X11_replicaAt
  refine k_aload_n hq dX11_replicaAt_0 0 rfl ?_
  refine k_iload_n hq dX11_replicaAt_1 2 rfl ?_
  refine k_callV hq (na := 1) (As := [.int l2]) (st := []) 10 (C := RX11) (T := TX11) rfl (con_X11_keyAt _ _ _ _ l0 l2) tw_529 tw_48 tw_526 tw_528 tw_11 ⟨by decide, by decide, by decide +kernel⟩ rfl (by decide) rfl (Nat.le_of_ble_eq_true rfl) dX11_replicaAt_2 fun v1 h2 => ?_
  refine k_qstore_n hq dX11_replicaAt_5 rfl (by decide) (ls' := [(3, va_rf v1), (0, .ref l0), (1, .int l1), (2, .int l2)]) rfl ?_
  refine k_qload_n hq dX11_replicaAt_6 0 rfl ?_
  refine k_ifnull hq (tgt := 26) dX11_replicaAt_7 (by decide) (fun hr => ?_) (fun r3 hr => ?_)
  · subst hr
    refine k_aconst_null hq dX11_replicaAt_26 ?_
    exact k_aret (v := none) hq dX11_replicaAt_27 he
  · subst hr
    refine k_aload_n hq dX11_replicaAt_10 1 rfl ?_
    refine k_iload_n hq dX11_replicaAt_11 2 rfl ?_
    refine k_callV hq (na := 1) (As := [.int l1]) (st := []) 10 (C := RX11) (T := TX11) rfl (con_X11_isSite _ _ _ _ l0 l1) tw_533 tw_48 tw_530 tw_532 tw_12 ⟨by decide, by decide, by decide +kernel⟩ rfl (by decide) rfl (Nat.le_of_ble_eq_true rfl) dX11_replicaAt_12 fun v4 h5 => ?_
    refine k_if_eq hq (tgt := 26) dX11_replicaAt_15 (by decide) (fun _ => ?_) (fun _ => ?_)
    · refine k_aconst_null hq dX11_replicaAt_26 ?_
      exact k_aret (v := none) hq dX11_replicaAt_27 he
    · refine k_aload_n hq dX11_replicaAt_18 0 rfl ?_
      refine k_iload_n hq dX11_replicaAt_19 2 rfl ?_
      refine k_callV hq (na := 1) (As := [.int l1]) (st := []) 4 (C := RX4) (T := TX4) rfl (con_X4_replicaOf _ _ _ _ r3 l1) tw_537 tw_54 tw_534 tw_535 tw_536 ⟨by decide, by decide, by decide +kernel⟩ rfl (by decide) rfl (Nat.le_of_ble_eq_true rfl) dX11_replicaAt_20 fun v6 h7 => ?_
      refine k_goto hq (tgt := 27) dX11_replicaAt_23 (by decide) ?_
      exact k_aret (v := v6) hq dX11_replicaAt_27 he
theorem con_X11_replicaAt (l : Launch) (G : eG) (B0 n : Nat) (l0 : Nat) (l1 : Int32) (l2 : Int32) : e_C eR l G B0 n yX11_replicaAt cX11_replicaAt 4 (some (.object "SideVersions$Replica")) 1 21 [.ref l0, .int l1, .int l2] (F_X11_replicaAt l0 l1 l2) := by
  refine e_mk (by decide) (Nat.le_of_ble_eq_true rfl) fun q r0 h0 h hq he e1 e2 e3 e4 => ?_
  subst e1; subst e2; subst e3; subst e4
  exact P_X11_replicaAt_0 hq he l0 l1 l2 h
set_option maxRecDepth 100000 in
set_option maxHeartbeats 4000000 in
theorem P_X11_reads_0 {q : eT} {r0 : Int32} {h0 : eH} (hq : e_B q yX11_reads.cls cX11_reads 6 5 113 (some .int) yX11_reads.name) (he : e_E q) (N : Nat) (l0 : Nat) (l1 : Int32) (l2 : Int32) (l3 : Int32) (h : eH) : e_K eI q r0 h0 0 [(0, .ref l0), (1, .int l1), (2, .int l2), (3, .int l3)] [] h (F_X11_reads N l0 l1 l2 l3 h) := by
  unfold F_X11_reads
  refine k_aload_n hq dX11_reads_0 0 rfl ?_
  refine k_iload_n hq dX11_reads_1 1 rfl ?_
  refine k_callV hq (na := 1) (As := [.int l1]) (st := []) 10 (C := RX11) (T := TX11) rfl (con_X11_clientAt _ _ _ _ l0 l1) tw_521 tw_48 tw_518 tw_520 tw_9 ⟨by decide, by decide, by decide +kernel⟩ rfl (by decide) rfl (Nat.le_of_ble_eq_true rfl) dX11_reads_2 fun v1 h2 => ?_
  refine k_qstore hq dX11_reads_5 (by decide) (ls' := [(4, va_rf v1), (0, .ref l0), (1, .int l1), (2, .int l2), (3, .int l3)]) rfl ?_
  refine k_aload_n hq dX11_reads_7 1 rfl ?_
  refine k_iload_n hq dX11_reads_8 3 rfl ?_
  refine k_iload_n hq dX11_reads_9 4 rfl ?_
  refine k_callV hq (na := 2) (As := [.int l2, .int l3]) (st := []) 10 (C := RX11) (T := TX11) rfl (con_X11_replicaAt _ _ _ _ l0 l2 l3) tw_525 tw_48 tw_522 tw_524 tw_10 ⟨by decide, by decide, by decide +kernel⟩ rfl (by decide) rfl (Nat.le_of_ble_eq_true rfl) dX11_reads_10 fun v3 h4 => ?_
  refine k_qstore hq dX11_reads_13 (by decide) (ls' := [(5, va_rf v3), (4, va_rf v1), (0, .ref l0), (1, .int l1), (2, .int l2), (3, .int l3)]) (by simp [e_cat]) ?_
  refine k_qload hq dX11_reads_15 1 rfl ?_
  refine k_ifnull hq (tgt := 25) dX11_reads_17 (by decide) (fun hr => ?_) (fun r5 hr => ?_)
  · subst hr
    refine k_iconst hq dX11_reads_25 (v := (-1)) rfl ?_
    exact k_iret hq dX11_reads_26 he
  · subst hr
    refine k_qload hq dX11_reads_20 0 rfl ?_
    refine k_ifnonnull hq (tgt := 27) dX11_reads_22 (by decide) (fun hr => ?_) (fun r6 hr => ?_)
    · subst hr
      refine k_iconst hq dX11_reads_25 (v := (-1)) rfl ?_
      exact k_iret hq dX11_reads_26 he
    · subst hr
      refine k_aload hq dX11_reads_27 1 rfl ?_
      refine k_iload_n hq dX11_reads_29 5 rfl ?_
      refine k_pN hq (C := RX0) (T := TX0) 0 0 rfl (by decide) lay_X0 tyX0 tyX0_ok nmX0 tw_299 rfl rfl rfl dX11_reads_30 fun h7 => ?_
      refine k_aload hq dX11_reads_33 1 rfl ?_
      refine k_aload hq dX11_reads_35 0 rfl ?_
      refine k_giN hq (C := RX8) (T := TX8) 8 3 rfl (by decide) (lay_X8 3 (by decide)) tw_275 dX11_reads_37 fun v8 => ?_
      refine k_pN hq (C := RX0) (T := TX0) 0 1 rfl (by decide) lay_X0 tyX0 tyX0_ok nmX0 tw_301 rfl rfl rfl dX11_reads_40 fun h9 => ?_
      refine k_aload hq dX11_reads_43 1 rfl ?_
      refine k_aload hq dX11_reads_45 0 rfl ?_
      refine k_grN hq (C := RX8) (T := TX8) 8 1 rfl (by decide) (lay_X8 1 (by decide)) tw_269 dX11_reads_47 fun v10 => ?_
      refine k_aload hq dX11_reads_50 0 rfl ?_
      refine k_giN hq (C := RX8) (T := TX8) 8 3 rfl (by decide) (lay_X8 3 (by decide)) tw_275 dX11_reads_52 fun v11 => ?_
      refine k_aload_n hq dX11_reads_55 2 rfl ?_
      refine k_gi hq (C := RX11) (T := TX11) 10 9 rfl (by decide) (lay_X11 9 (by decide)) tw_320 dX11_reads_56 fun v12 => ?_
      refine k_callV hq (na := 2) (As := [.int v11, .int v12]) (st := [.ref r5]) 3 (C := RX3) (T := TX3) rfl (con_X3_pruned _ _ _ _ N v10 v11 v12) tw_541 tw_55 tw_538 tw_539 tw_540 ⟨by decide, by decide, by decide +kernel⟩ rfl (by decide) rfl (Nat.le_of_ble_eq_true rfl) dX11_reads_59 fun v13 h14 => ?_
      refine k_pN hq (C := RX0) (T := TX0) 0 2 rfl (by decide) lay_X0 tyX0 tyX0_ok nmX0 tw_303 rfl rfl rfl dX11_reads_62 fun h15 => ?_
      refine k_aload hq dX11_reads_65 0 rfl ?_
      refine k_grN hq (C := RX8) (T := TX8) 8 1 rfl (by decide) (lay_X8 1 (by decide)) tw_269 dX11_reads_67 fun v16 => ?_
      refine k_grN hq (C := RX3) (T := TX3) 3 4 rfl (by decide) (lay_X3 4 (by decide)) tw_215 dX11_reads_70 fun v17 => ?_
      refine k_aload hq dX11_reads_73 0 rfl ?_
      refine k_grN hq (C := RX8) (T := TX8) 8 2 rfl (by decide) (lay_X8 2 (by decide)) tw_272 dX11_reads_75 fun v18 => ?_
      refine k_callV hq (na := 1) (As := [.ref v18]) (st := []) 1 (C := RX1) (T := TX1) rfl (con_X1_addAll _ _ _ _ N v17 v18) tw_579 tw_56 tw_576 tw_577 tw_578 ⟨by decide, by decide, by decide +kernel⟩ rfl (by decide) rfl (Nat.le_of_ble_eq_true rfl) dX11_reads_78 fun v19 h20 => ?_
      refine k_aload hq dX11_reads_81 0 rfl ?_
      refine k_grN hq (C := RX8) (T := TX8) 8 2 rfl (by decide) (lay_X8 2 (by decide)) tw_272 dX11_reads_83 fun v21 => ?_
      refine k_callV hq (na := 0) (As := []) (st := []) 1 (C := RX1) (T := TX1) rfl (con_X1_size _ _ _ _ N v21) tw_583 tw_56 tw_580 tw_581 tw_582 ⟨by decide, by decide, by decide +kernel⟩ rfl (by decide) rfl (Nat.le_of_ble_eq_true rfl) dX11_reads_86 fun v22 h23 => ?_
      exact k_iret hq dX11_reads_89 he
theorem con_X11_reads (l : Launch) (G : eG) (B0 n : Nat) (N : Nat) (l0 : Nat) (l1 : Int32) (l2 : Int32) (l3 : Int32) : e_C eI l G B0 n yX11_reads cX11_reads 6 (some .int) 5 113 [.ref l0, .int l1, .int l2, .int l3] (F_X11_reads N l0 l1 l2 l3) := by
  refine e_mk (by decide) (Nat.le_of_ble_eq_true rfl) fun q r0 h0 h hq he e1 e2 e3 e4 => ?_
  subst e1; subst e2; subst e3; subst e4
  exact P_X11_reads_0 hq he N l0 l1 l2 l3 h
