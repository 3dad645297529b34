set_option maxRecDepth 100000 in
set_option maxHeartbeats 4000000 in
theorem P_X11_tally_0 {q : eT} {r0 : Int32} {h0 : eH} (hq : e_B q yX11_tally.cls cX11_tally 5 6 127 (some .int) yX11_tally.name) (he : e_E q) (N : Nat) (l0 : Nat) (l1 : Int32) (l2 : Int32) (h : eH) : e_K eI q r0 h0 0 [(0, .ref l0), (1, .int l1), (2, .int l2)] [] h (F_X11_tally N l0 l1 l2 h) := by
  unfold F_X11_tally
  refine k_aload_n hq dX11_tally_0 0 rfl ?_
  refine k_iload_n hq dX11_tally_1 1 rfl ?_
  refine k_callV hq (na := 1) (As := [.int l1]) (st := []) 10 (C := RX11) (T := TX11) rfl (con_X11_keyAt _ _ _ _ l0 l1) tw_529 tw_48 tw_526 tw_528 tw_11 ⟨by decide, by decide, by decide +kernel⟩ rfl (by decide) rfl (Nat.le_of_ble_eq_true rfl) dX11_tally_2 fun v1 h2 => ?_
  refine k_qstore_n hq dX11_tally_5 rfl (by decide) (ls' := [(3, va_rf v1), (0, .ref l0), (1, .int l1), (2, .int l2)]) rfl ?_
  refine k_qload_n hq dX11_tally_6 0 rfl ?_
  refine k_ifnull hq (tgt := 20) dX11_tally_7 (by decide) (fun hr => ?_) (fun r3 hr => ?_)
  · subst hr
    refine k_iconst hq dX11_tally_20 (v := (-1)) rfl ?_
    exact k_iret hq dX11_tally_21 he
  · subst hr
    refine k_iload_n hq dX11_tally_10 3 rfl ?_
    refine k_if_lt hq (tgt := 20) dX11_tally_11 (by decide) (fun _ => ?_) (fun _ => ?_)
    · refine k_iconst hq dX11_tally_20 (v := (-1)) rfl ?_
      exact k_iret hq dX11_tally_21 he
    · refine k_iload_n hq dX11_tally_14 3 rfl ?_
      refine k_bipush hq dX11_tally_15 (v := 6) rfl ?_
      refine k_icmp_le hq (tgt := 22) dX11_tally_17 (by decide) (fun _ => ?_) (fun _ => ?_)
      · refine k_aload_n hq dX11_tally_22 0 rfl ?_
        refine k_grN hq (C := RX4) (T := TX4) 4 0 rfl (by decide) (lay_X4 0 (by decide)) tw_286 dX11_tally_23 fun v4 => ?_
        refine k_astore hq dX11_tally_26 (by decide) (ls' := [(4, .ref v4), (3, .ref r3), (0, .ref l0), (1, .int l1), (2, .int l2)]) rfl ?_
        refine k_iload_n hq dX11_tally_28 4 rfl ?_
        refine k_ite (fun e0 => ?_) (fun n0 => ?_)
        · refine k_tableIn hq (tgt := 68) dX11_tally_29 (by rw [e0]; decide) (by rw [e0]; decide) (off := 39) (by rw [e0]; rfl) (by decide) ?_
          refine k_aload hq dX11_tally_68 0 rfl ?_
          refine k_giN hq (C := RX3) (T := TX3) 3 8 rfl (by decide) (lay_X3 8 (by decide)) tw_228 dX11_tally_70 fun v5 => ?_
          exact k_iret hq dX11_tally_73 he
        refine k_ite (fun e0 => ?_) (fun n1 => ?_)
        · refine k_tableIn hq (tgt := 74) dX11_tally_29 (by rw [e0]; decide) (by rw [e0]; decide) (off := 45) (by rw [e0]; rfl) (by decide) ?_
          refine k_aload hq dX11_tally_74 0 rfl ?_
          refine k_giN hq (C := RX3) (T := TX3) 3 9 rfl (by decide) (lay_X3 9 (by decide)) tw_231 dX11_tally_76 fun v6 => ?_
          refine k_callS hq (na := 1) (As := [.int v6]) (st := []) (con_X9_sum _ _ _ _ N v6) tw_837 tw_65 tw_835 tw_836 ⟨by decide, by decide, by decide +kernel⟩ rfl (by decide) rfl (Nat.le_of_ble_eq_true rfl) dX11_tally_79 fun v7 h8 => ?_
          exact k_iret hq dX11_tally_82 he
        refine k_ite (fun e0 => ?_) (fun n2 => ?_)
        · refine k_tableIn hq (tgt := 83) dX11_tally_29 (by rw [e0]; decide) (by rw [e0]; decide) (off := 54) (by rw [e0]; rfl) (by decide) ?_
          refine k_aload hq dX11_tally_83 0 rfl ?_
          refine k_grN hq (C := RX3) (T := TX3) 3 6 rfl (by decide) (lay_X3 6 (by decide)) tw_223 dX11_tally_85 fun v9 => ?_
          refine k_callV hq (na := 0) (As := []) (st := []) 1 (C := RX1) (T := TX1) rfl (con_X1_size _ _ _ _ N v9) tw_583 tw_56 tw_580 tw_581 tw_582 ⟨by decide, by decide, by decide +kernel⟩ rfl (by decide) rfl (Nat.le_of_ble_eq_true rfl) dX11_tally_88 fun v10 h11 => ?_
          exact k_iret hq dX11_tally_91 he
        refine k_ite (fun e0 => ?_) (fun n3 => ?_)
        · refine k_tableIn hq (tgt := 92) dX11_tally_29 (by rw [e0]; decide) (by rw [e0]; decide) (off := 63) (by rw [e0]; rfl) (by decide) ?_
          refine k_aload hq dX11_tally_92 0 rfl ?_
          refine k_grN hq (C := RX3) (T := TX3) 3 7 rfl (by decide) (lay_X3 7 (by decide)) tw_226 dX11_tally_94 fun v12 => ?_
          refine k_callV hq (na := 0) (As := []) (st := []) 1 (C := RX1) (T := TX1) rfl (con_X1_size _ _ _ _ N v12) tw_583 tw_56 tw_580 tw_581 tw_582 ⟨by decide, by decide, by decide +kernel⟩ rfl (by decide) rfl (Nat.le_of_ble_eq_true rfl) dX11_tally_97 fun v13 h14 => ?_
          exact k_iret hq dX11_tally_100 he
        refine k_ite (fun e0 => ?_) (fun n4 => ?_)
        · refine k_tableIn hq (tgt := 101) dX11_tally_29 (by rw [e0]; decide) (by rw [e0]; decide) (off := 72) (by rw [e0]; rfl) (by decide) ?_
          refine k_aload hq dX11_tally_101 0 rfl ?_
          refine k_grN hq (C := RX3) (T := TX3) 3 5 rfl (by decide) (lay_X3 5 (by decide)) tw_220 dX11_tally_103 fun v15 => ?_
          refine k_callV hq (na := 0) (As := []) (st := []) 1 (C := RX1) (T := TX1) rfl (con_X1_size _ _ _ _ N v15) tw_583 tw_56 tw_580 tw_581 tw_582 ⟨by decide, by decide, by decide +kernel⟩ rfl (by decide) rfl (Nat.le_of_ble_eq_true rfl) dX11_tally_106 fun v16 h17 => ?_
          exact k_iret hq dX11_tally_109 he
        refine k_ite (fun e0 => ?_) (fun n5 => ?_)
        · refine k_tableIn hq (tgt := 110) dX11_tally_29 (by rw [e0]; decide) (by rw [e0]; decide) (off := 81) (by rw [e0]; rfl) (by decide) ?_
          refine k_aload_n hq dX11_tally_110 1 rfl ?_
          refine k_callV hq (na := 0) (As := []) (st := []) 4 (C := RX4) (T := TX4) rfl (con_X4_lostTotal _ _ _ _ N r3) tw_906 tw_54 tw_903 tw_904 tw_905 ⟨by decide, by decide, by decide +kernel⟩ rfl (by decide) rfl (Nat.le_of_ble_eq_true rfl) dX11_tally_111 fun v18 h19 => ?_
          exact k_iret hq dX11_tally_114 he
        refine k_tableOut hq (tgt := 115) dX11_tally_29 (by have m0 := e_ne n0 (show (0 : Int32).toInt = 0 from rfl); have m1 := e_ne n1 (show (1 : Int32).toInt = 1 from rfl); have m2 := e_ne n2 (show (2 : Int32).toInt = 2 from rfl); have m3 := e_ne n3 (show (3 : Int32).toInt = 3 from rfl); have m4 := e_ne n4 (show (4 : Int32).toInt = 4 from rfl); have m5 := e_ne n5 (show (5 : Int32).toInt = 5 from rfl); omega) (by decide) ?_
        refine k_aload hq dX11_tally_115 0 rfl ?_
        refine k_giN hq (C := RX3) (T := TX3) 3 10 rfl (by decide) (lay_X3 10 (by decide)) tw_234 dX11_tally_117 fun v20 => ?_
        exact k_iret hq dX11_tally_120 he
      · refine k_iconst hq dX11_tally_20 (v := (-1)) rfl ?_
        exact k_iret hq dX11_tally_21 he
theorem con_X11_tally (l : Launch) (G : eG) (B0 n : Nat) (N : Nat) (l0 : Nat) (l1 : Int32) (l2 : Int32) : e_C eI l G B0 n yX11_tally cX11_tally 5 (some .int) 6 127 [.ref l0, .int l1, .int l2] (F_X11_tally N l0 l1 l2) := by
  refine e_mk (by decide) (Nat.le_of_ble_eq_true rfl) fun q r0 h0 h hq he e1 e2 e3 e4 => ?_
  subst e1; subst e2; subst e3; subst e4
  exact P_X11_tally_0 hq he N l0 l1 l2 h
set_option maxRecDepth 100000 in
set_option maxHeartbeats 4000000 in
theorem P_X11_count_0 {q : eT} {r0 : Int32} {h0 : eH} (hq : e_B q yX11_count.cls cX11_count 2 0 0 (some .int) yX11_count.name) (he : e_E q) (l0 : Nat) (l1 : Int32) (h : eH) : e_K eI q r0 h0 0 [(0, .ref l0), (1, .int l1)] [] h (F_X11_count l0 l1 h) := by
  unfold F_X11_count
  refine k_iload_n hq dX11_count_0 1 rfl ?_
  refine k_ite (fun e0 => ?_) (fun n0 => ?_)
  · refine k_tableIn hq (tgt := 40) dX11_count_1 (by rw [e0]; decide) (by rw [e0]; decide) (off := 39) (by rw [e0]; rfl) (by decide) ?_
    refine k_aload_n hq dX11_count_40 0 rfl ?_
    refine k_gi hq (C := RX11) (T := TX11) 10 7 rfl (by decide) (lay_X11 7 (by decide)) tw_318 dX11_count_41 fun v1 => ?_
    exact k_iret hq dX11_count_44 he
  refine k_ite (fun e0 => ?_) (fun n1 => ?_)
  · refine k_tableIn hq (tgt := 45) dX11_count_1 (by rw [e0]; decide) (by rw [e0]; decide) (off := 44) (by rw [e0]; rfl) (by decide) ?_
    refine k_aload_n hq dX11_count_45 0 rfl ?_
    refine k_gi hq (C := RX11) (T := TX11) 10 10 rfl (by decide) (lay_X11 10 (by decide)) tw_321 dX11_count_46 fun v2 => ?_
    exact k_iret hq dX11_count_49 he
  refine k_ite (fun e0 => ?_) (fun n2 => ?_)
  · refine k_tableIn hq (tgt := 50) dX11_count_1 (by rw [e0]; decide) (by rw [e0]; decide) (off := 49) (by rw [e0]; rfl) (by decide) ?_
    refine k_aload_n hq dX11_count_50 0 rfl ?_
    refine k_gi hq (C := RX11) (T := TX11) 10 8 rfl (by decide) (lay_X11 8 (by decide)) tw_319 dX11_count_51 fun v3 => ?_
    exact k_iret hq dX11_count_54 he
  refine k_ite (fun e0 => ?_) (fun n3 => ?_)
  · refine k_tableIn hq (tgt := 55) dX11_count_1 (by rw [e0]; decide) (by rw [e0]; decide) (off := 54) (by rw [e0]; rfl) (by decide) ?_
    refine k_aload_n hq dX11_count_55 0 rfl ?_
    refine k_gi hq (C := RX11) (T := TX11) 10 9 rfl (by decide) (lay_X11 9 (by decide)) tw_320 dX11_count_56 fun v4 => ?_
    exact k_iret hq dX11_count_59 he
  refine k_ite (fun e0 => ?_) (fun n4 => ?_)
  · refine k_tableIn hq (tgt := 60) dX11_count_1 (by rw [e0]; decide) (by rw [e0]; decide) (off := 59) (by rw [e0]; rfl) (by decide) ?_
    refine k_aload_n hq dX11_count_60 0 rfl ?_
    refine k_gi hq (C := RX11) (T := TX11) 10 11 rfl (by decide) (lay_X11 11 (by decide)) tw_322 dX11_count_61 fun v5 => ?_
    exact k_iret hq dX11_count_64 he
  refine k_ite (fun e0 => ?_) (fun n5 => ?_)
  · refine k_tableIn hq (tgt := 65) dX11_count_1 (by rw [e0]; decide) (by rw [e0]; decide) (off := 64) (by rw [e0]; rfl) (by decide) ?_
    refine k_aload_n hq dX11_count_65 0 rfl ?_
    refine k_gr hq (C := RX11) (T := TX11) 10 0 rfl (by decide) (lay_X11 0 (by decide)) tw_311 dX11_count_66 fun v6 => ?_
    refine k_giN hq (C := RX10) (T := TX10) 9 1 rfl (by decide) (lay_X10 1 (by decide)) tw_83 dX11_count_69 fun v7 => ?_
    exact k_iret hq dX11_count_72 he
  refine k_tableOut hq (tgt := 73) dX11_count_1 (by have m0 := e_ne n0 (show (0 : Int32).toInt = 0 from rfl); have m1 := e_ne n1 (show (1 : Int32).toInt = 1 from rfl); have m2 := e_ne n2 (show (2 : Int32).toInt = 2 from rfl); have m3 := e_ne n3 (show (3 : Int32).toInt = 3 from rfl); have m4 := e_ne n4 (show (4 : Int32).toInt = 4 from rfl); have m5 := e_ne n5 (show (5 : Int32).toInt = 5 from rfl); omega) (by decide) ?_
  refine k_iconst hq dX11_count_73 (v := (-1)) rfl ?_
  exact k_iret hq dX11_count_74 he
theorem con_X11_count (l : Launch) (G : eG) (B0 n : Nat) (l0 : Nat) (l1 : Int32) : e_C eI l G B0 n yX11_count cX11_count 2 (some .int) 0 0 [.ref l0, .int l1] (F_X11_count l0 l1) := by
  refine e_mk (by decide) (Nat.le_of_ble_eq_true rfl) fun q r0 h0 h hq he e1 e2 e3 e4 => ?_
  subst e1; subst e2; subst e3; subst e4
  exact P_X11_count_0 hq he l0 l1 h
set_option maxRecDepth 100000 in
set_option maxHeartbeats 4000000 in
theorem P_X12_in_0 {q : eT} {r0 : Int32} {h0 : eH} (hq : e_B q yX12_in.cls cX12_in 6 0 0 (some .boolean) yX12_in.name) (he : e_E q) (l0 : Int64) (l2 : Int64) (l4 : Int64) (h : eH) : e_K eI q r0 h0 0 [(0, .long l0), (2, .long l2), (4, .long l4)] [] h (F_X12_in l0 l2 l4 h) := by
  unfold F_X12_in
  refine k_lload_n hq dX12_in_0 0 rfl ?_
  refine k_lload_n hq dX12_in_1 1 rfl ?_
  refine k_lcmp hq dX12_in_2 ?_
  refine k_if_lt hq (tgt := 17) dX12_in_3 (by decide) (fun _ => ?_) (fun _ => ?_)
  · refine k_iconst hq dX12_in_17 (v := 0) rfl ?_
    exact k_zret hq dX12_in_18 he
  · refine k_lload_n hq dX12_in_6 0 rfl ?_
    refine k_lload hq dX12_in_7 2 rfl ?_
    refine k_lcmp hq dX12_in_9 ?_
    refine k_if_gt hq (tgt := 17) dX12_in_10 (by decide) (fun _ => ?_) (fun _ => ?_)
    · refine k_iconst hq dX12_in_17 (v := 0) rfl ?_
      exact k_zret hq dX12_in_18 he
    · refine k_iconst hq dX12_in_13 (v := 1) rfl ?_
      refine k_goto hq (tgt := 18) dX12_in_14 (by decide) ?_
      exact k_zret hq dX12_in_18 he
theorem con_X12_in (l : Launch) (G : eG) (B0 n : Nat) (l0 : Int64) (l2 : Int64) (l4 : Int64) : e_C eI l G B0 n yX12_in cX12_in 6 (some .boolean) 0 0 [.long l0, .long l2, .long l4] (F_X12_in l0 l2 l4) := by
  refine e_mk (by decide) (Nat.le_of_ble_eq_true rfl) fun q r0 h0 h hq he e1 e2 e3 e4 => ?_
  subst e1; subst e2; subst e3; subst e4
  exact P_X12_in_0 hq he l0 l2 l4 h
set_option maxRecDepth 100000 in
set_option maxHeartbeats 4000000 in
theorem P_X12_has_0 {q : eT} {r0 : Int32} {h0 : eH} (hq : e_B q yX12_has.cls cX12_has 2 0 0 (some .boolean) yX12_has.name) (he : e_E q) (l0 : Int32) (l1 : Int32) (h : eH) : e_K eI q r0 h0 0 [(0, .int l0), (1, .int l1)] [] h (F_X12_has l0 l1 h) := by
  unfold F_X12_has
  refine k_iload_n hq dX12_has_0 0 rfl ?_
  refine k_iload_n hq dX12_has_1 1 rfl ?_
  refine k_ishr hq dX12_has_2 ?_
  refine k_iconst hq dX12_has_3 (v := 1) rfl ?_
  refine k_iand hq dX12_has_4 ?_
  refine k_iconst hq dX12_has_5 (v := 1) rfl ?_
  refine k_icmp_ne hq (tgt := 13) dX12_has_6 (by decide) (fun _ => ?_) (fun _ => ?_)
  · refine k_iconst hq dX12_has_9 (v := 1) rfl ?_
    refine k_goto hq (tgt := 14) dX12_has_10 (by decide) ?_
    exact k_zret hq dX12_has_14 he
  · refine k_iconst hq dX12_has_13 (v := 0) rfl ?_
    exact k_zret hq dX12_has_14 he
theorem con_X12_has (l : Launch) (G : eG) (B0 n : Nat) (l0 : Int32) (l1 : Int32) : e_C eI l G B0 n yX12_has cX12_has 2 (some .boolean) 0 0 [.int l0, .int l1] (F_X12_has l0 l1) := by
  refine e_mk (by decide) (Nat.le_of_ble_eq_true rfl) fun q r0 h0 h hq he e1 e2 e3 e4 => ?_
  subst e1; subst e2; subst e3; subst e4
  exact P_X12_has_0 hq he l0 l1 h
set_option maxRecDepth 100000 in
set_option maxHeartbeats 4000000 in
theorem P_X12_forgets_104b {q : eT} {r0 : Unit} {h0 : eH} (hq : e_B q yX12_forgets.cls cX12_forgets 2 0 0 none yX12_forgets.name) (he : e_E q) (N : Nat) (k104 : Nat → Int32 → eH → Option (Unit × eH)) (hk104 : ∀ (l0 : Nat) (l1 : Int32) h, e_K eV q r0 h0 104 [(0, .ref l0), (1, .int l1)] [] h (k104 l0 l1 h)) (l0 : Nat) (l1 : Int32) (h : eH) : e_K eV q r0 h0 104 [(0, .ref l0), (1, .int l1)] [] h (F_X12_forgets_104b N k104 l0 l1 h) := by
  unfold F_X12_forgets_104b
  refine k_iload_n hq dX12_forgets_104 1 rfl ?_
  refine k_iconst hq dX12_forgets_105 (v := 4) rfl ?_
  refine k_icmp_ge hq (tgt := 130) dX12_forgets_106 (by decide) (fun _ => ?_) (fun _ => ?_)
  · exact k_vret hq dX12_forgets_130 he
  · refine k_aload_n hq dX12_forgets_109 0 rfl ?_
    refine k_gr hq (C := RX12) (T := TX12) 11 17 rfl (by decide) (lay_X12 17 (by decide)) tw_944 dX12_forgets_110 fun v1 => ?_
    refine k_iload_n hq dX12_forgets_113 1 rfl ?_
    refine k_iconst hq dX12_forgets_114 (v := 0) rfl ?_
    refine k_iast hq dX12_forgets_115 fun h2 => ?_
    refine k_aload_n hq dX12_forgets_116 0 rfl ?_
    refine k_gr hq (C := RX12) (T := TX12) 11 18 rfl (by decide) (lay_X12 18 (by decide)) tw_945 dX12_forgets_117 fun v3 => ?_
    refine k_iload_n hq dX12_forgets_120 1 rfl ?_
    refine k_bipush hq dX12_forgets_121 (v := (-9)) rfl ?_
    refine k_iast hq dX12_forgets_123 fun h4 => ?_
    refine k_iinc hq dX12_forgets_124 1 rfl (v := l1 + 1) rfl (by decide) (ls' := [(1, .int (l1 + 1)), (0, .ref l0)]) rfl ?_
    refine k_goto hq (tgt := 104) dX12_forgets_127 (by decide) ?_
    exact k_sub [1, 0] rfl (hk104 l0 (l1 + 1) h4)
theorem Q_X12_forgets_104 {q : eT} {r0 : Unit} {h0 : eH} (hq : e_B q yX12_forgets.cls cX12_forgets 2 0 0 none yX12_forgets.name) (he : e_E q) (N : Nat) (l0 : Nat) (l1 : Int32) (h : eH) : e_K eV q r0 h0 104 [(0, .ref l0), (1, .int l1)] [] h (L_X12_forgets_104 N l0 l1 h) :=
  k_loop (mk := (fun s => [(0, .ref s.1), (1, .int s.2.1)])) (hp := fun s => s.2.2) (fun k hk s => P_X12_forgets_104b hq he N (fun l0 l1 h => k (l0, l1, h)) (fun l0 l1 h => hk (l0, l1, h)) s.1 s.2.1 s.2.2) N (l0, l1, h)
set_option maxRecDepth 100000 in
set_option maxHeartbeats 4000000 in
theorem P_X12_forgets_83b {q : eT} {r0 : Unit} {h0 : eH} (hq : e_B q yX12_forgets.cls cX12_forgets 2 0 0 none yX12_forgets.name) (he : e_E q) (N : Nat) (k83 : Nat → Int32 → eH → Option (Unit × eH)) (hk83 : ∀ (l0 : Nat) (l1 : Int32) h, e_K eV q r0 h0 83 [(0, .ref l0), (1, .int l1)] [] h (k83 l0 l1 h)) (l0 : Nat) (l1 : Int32) (h : eH) : e_K eV q r0 h0 83 [(0, .ref l0), (1, .int l1)] [] h (F_X12_forgets_83b N k83 l0 l1 h) := by
  unfold F_X12_forgets_83b
  refine k_iload_n hq dX12_forgets_83 1 rfl ?_
  refine k_bipush hq dX12_forgets_84 (v := 16) rfl ?_
  refine k_icmp_ge hq (tgt := 102) dX12_forgets_86 (by decide) (fun _ => ?_) (fun _ => ?_)
  · refine k_iconst hq dX12_forgets_102 (v := 0) rfl ?_
    refine k_istore_n hq dX12_forgets_103 rfl (by decide) (ls' := [(1, .int 0), (0, .ref l0)]) rfl ?_
    exact k_sub [1, 0] rfl (Q_X12_forgets_104 hq he N l0 0 h)
  · refine k_aload_n hq dX12_forgets_89 0 rfl ?_
    refine k_gr hq (C := RX12) (T := TX12) 11 15 rfl (by decide) (lay_X12 15 (by decide)) tw_942 dX12_forgets_90 fun v1 => ?_
    refine k_iload_n hq dX12_forgets_93 1 rfl ?_
    refine k_iconst hq dX12_forgets_94 (v := 0) rfl ?_
    refine k_iast hq dX12_forgets_95 fun h2 => ?_
    refine k_iinc hq dX12_forgets_96 1 rfl (v := l1 + 1) rfl (by decide) (ls' := [(1, .int (l1 + 1)), (0, .ref l0)]) rfl ?_
    refine k_goto hq (tgt := 83) dX12_forgets_99 (by decide) ?_
    exact k_sub [1, 0] rfl (hk83 l0 (l1 + 1) h2)
theorem Q_X12_forgets_83 {q : eT} {r0 : Unit} {h0 : eH} (hq : e_B q yX12_forgets.cls cX12_forgets 2 0 0 none yX12_forgets.name) (he : e_E q) (N : Nat) (l0 : Nat) (l1 : Int32) (h : eH) : e_K eV q r0 h0 83 [(0, .ref l0), (1, .int l1)] [] h (L_X12_forgets_83 N l0 l1 h) :=
  k_loop (mk := (fun s => [(0, .ref s.1), (1, .int s.2.1)])) (hp := fun s => s.2.2) (fun k hk s => P_X12_forgets_83b hq he N (fun l0 l1 h => k (l0, l1, h)) (fun l0 l1 h => hk (l0, l1, h)) s.1 s.2.1 s.2.2) N (l0, l1, h)
set_option maxRecDepth 100000 in
set_option maxHeartbeats 4000000 in
theorem P_X12_forgets_62b {q : eT} {r0 : Unit} {h0 : eH} (hq : e_B q yX12_forgets.cls cX12_forgets 2 0 0 none yX12_forgets.name) (he : e_E q) (N : Nat) (k62 : Nat → Int32 → eH → Option (Unit × eH)) (hk62 : ∀ (l0 : Nat) (l1 : Int32) h, e_K eV q r0 h0 62 [(0, .ref l0), (1, .int l1)] [] h (k62 l0 l1 h)) (l0 : Nat) (l1 : Int32) (h : eH) : e_K eV q r0 h0 62 [(0, .ref l0), (1, .int l1)] [] h (F_X12_forgets_62b N k62 l0 l1 h) := by
  unfold F_X12_forgets_62b
  refine k_iload_n hq dX12_forgets_62 1 rfl ?_
  refine k_bipush hq dX12_forgets_63 (v := 64) rfl ?_
  refine k_icmp_ge hq (tgt := 81) dX12_forgets_65 (by decide) (fun _ => ?_) (fun _ => ?_)
  · refine k_iconst hq dX12_forgets_81 (v := 0) rfl ?_
    refine k_istore_n hq dX12_forgets_82 rfl (by decide) (ls' := [(1, .int 0), (0, .ref l0)]) rfl ?_
    exact k_sub [1, 0] rfl (Q_X12_forgets_83 hq he N l0 0 h)
  · refine k_aload_n hq dX12_forgets_68 0 rfl ?_
    refine k_gr hq (C := RX12) (T := TX12) 11 16 rfl (by decide) (lay_X12 16 (by decide)) tw_943 dX12_forgets_69 fun v1 => ?_
    refine k_iload_n hq dX12_forgets_72 1 rfl ?_
    refine k_iconst hq dX12_forgets_73 (v := 0) rfl ?_
    refine k_iast hq dX12_forgets_74 fun h2 => ?_
    refine k_iinc hq dX12_forgets_75 1 rfl (v := l1 + 1) rfl (by decide) (ls' := [(1, .int (l1 + 1)), (0, .ref l0)]) rfl ?_
    refine k_goto hq (tgt := 62) dX12_forgets_78 (by decide) ?_
    exact k_sub [1, 0] rfl (hk62 l0 (l1 + 1) h2)
theorem Q_X12_forgets_62 {q : eT} {r0 : Unit} {h0 : eH} (hq : e_B q yX12_forgets.cls cX12_forgets 2 0 0 none yX12_forgets.name) (he : e_E q) (N : Nat) (l0 : Nat) (l1 : Int32) (h : eH) : e_K eV q r0 h0 62 [(0, .ref l0), (1, .int l1)] [] h (L_X12_forgets_62 N l0 l1 h) :=
  k_loop (mk := (fun s => [(0, .ref s.1), (1, .int s.2.1)])) (hp := fun s => s.2.2) (fun k hk s => P_X12_forgets_62b hq he N (fun l0 l1 h => k (l0, l1, h)) (fun l0 l1 h => hk (l0, l1, h)) s.1 s.2.1 s.2.2) N (l0, l1, h)
set_option maxRecDepth 100000 in
set_option maxHeartbeats 4000000 in
theorem P_X12_forgets_12b {q : eT} {r0 : Unit} {h0 : eH} (hq : e_B q yX12_forgets.cls cX12_forgets 2 0 0 none yX12_forgets.name) (he : e_E q) (N : Nat) (k12 : Nat → Int32 → eH → Option (Unit × eH)) (hk12 : ∀ (l0 : Nat) (l1 : Int32) h, e_K eV q r0 h0 12 [(0, .ref l0), (1, .int l1)] [] h (k12 l0 l1 h)) (l0 : Nat) (l1 : Int32) (h : eH) : e_K eV q r0 h0 12 [(0, .ref l0), (1, .int l1)] [] h (F_X12_forgets_12b N k12 l0 l1 h) := by
  unfold F_X12_forgets_12b
  refine k_iload_n hq dX12_forgets_12 1 rfl ?_
  refine k_sipush hq dX12_forgets_13 (v := 656) rfl ?_
  refine k_icmp_ge hq (tgt := 60) dX12_forgets_16 (by decide) (fun _ => ?_) (fun _ => ?_)
  · refine k_iconst hq dX12_forgets_60 (v := 0) rfl ?_
    refine k_istore_n hq dX12_forgets_61 rfl (by decide) (ls' := [(1, .int 0), (0, .ref l0)]) rfl ?_
    exact k_sub [1, 0] rfl (Q_X12_forgets_62 hq he N l0 0 h)
  · refine k_aload_n hq dX12_forgets_19 0 rfl ?_
    refine k_gr hq (C := RX12) (T := TX12) 11 10 rfl (by decide) (lay_X12 10 (by decide)) tw_937 dX12_forgets_20 fun v1 => ?_
    refine k_iload_n hq dX12_forgets_23 1 rfl ?_
    refine k_iconst hq dX12_forgets_24 (v := 0) rfl ?_
    refine k_zast hq dX12_forgets_25 fun h2 => ?_
    refine k_aload_n hq dX12_forgets_26 0 rfl ?_
    refine k_gr hq (C := RX12) (T := TX12) 11 11 rfl (by decide) (lay_X12 11 (by decide)) tw_938 dX12_forgets_27 fun v3 => ?_
    refine k_iload_n hq dX12_forgets_30 1 rfl ?_
    refine k_iconst hq dX12_forgets_31 (v := 0) rfl ?_
    refine k_zast hq dX12_forgets_32 fun h4 => ?_
    refine k_aload_n hq dX12_forgets_33 0 rfl ?_
    refine k_gr hq (C := RX12) (T := TX12) 11 12 rfl (by decide) (lay_X12 12 (by decide)) tw_939 dX12_forgets_34 fun v5 => ?_
    refine k_iload_n hq dX12_forgets_37 1 rfl ?_
    refine k_iconst hq dX12_forgets_38 (v := 0) rfl ?_
    refine k_zast hq dX12_forgets_39 fun h6 => ?_
    refine k_aload_n hq dX12_forgets_40 0 rfl ?_
    refine k_gr hq (C := RX12) (T := TX12) 11 13 rfl (by decide) (lay_X12 13 (by decide)) tw_940 dX12_forgets_41 fun v7 => ?_
    refine k_iload_n hq dX12_forgets_44 1 rfl ?_
    refine k_iconst hq dX12_forgets_45 (v := 0) rfl ?_
    refine k_zast hq dX12_forgets_46 fun h8 => ?_
    refine k_aload_n hq dX12_forgets_47 0 rfl ?_
    refine k_gr hq (C := RX12) (T := TX12) 11 14 rfl (by decide) (lay_X12 14 (by decide)) tw_941 dX12_forgets_48 fun v9 => ?_
    refine k_iload_n hq dX12_forgets_51 1 rfl ?_
    refine k_iconst hq dX12_forgets_52 (v := 0) rfl ?_
    refine k_iast hq dX12_forgets_53 fun h10 => ?_
    refine k_iinc hq dX12_forgets_54 1 rfl (v := l1 + 1) rfl (by decide) (ls' := [(1, .int (l1 + 1)), (0, .ref l0)]) rfl ?_
    refine k_goto hq (tgt := 12) dX12_forgets_57 (by decide) ?_
    exact k_sub [1, 0] rfl (hk12 l0 (l1 + 1) h10)
theorem Q_X12_forgets_12 {q : eT} {r0 : Unit} {h0 : eH} (hq : e_B q yX12_forgets.cls cX12_forgets 2 0 0 none yX12_forgets.name) (he : e_E q) (N : Nat) (l0 : Nat) (l1 : Int32) (h : eH) : e_K eV q r0 h0 12 [(0, .ref l0), (1, .int l1)] [] h (L_X12_forgets_12 N l0 l1 h) :=
  k_loop (mk := (fun s => [(0, .ref s.1), (1, .int s.2.1)])) (hp := fun s => s.2.2) (fun k hk s => P_X12_forgets_12b hq he N (fun l0 l1 h => k (l0, l1, h)) (fun l0 l1 h => hk (l0, l1, h)) s.1 s.2.1 s.2.2) N (l0, l1, h)
set_option maxRecDepth 100000 in
set_option maxHeartbeats 4000000 in
theorem P_X12_forgets_0 {q : eT} {r0 : Unit} {h0 : eH} (hq : e_B q yX12_forgets.cls cX12_forgets 2 0 0 none yX12_forgets.name) (he : e_E q) (N : Nat) (l0 : Nat) (h : eH) : e_K eV q r0 h0 0 [(0, .ref l0)] [] h (F_X12_forgets N l0 h) := by
  unfold F_X12_forgets
  refine k_aload_n hq dX12_forgets_0 0 rfl ?_
  refine k_iconst hq dX12_forgets_1 (v := 0) rfl ?_
  refine k_p hq (C := RX12) (T := TX12) 11 5 rfl (by decide) lay_X12 tyX12 tyX12_ok nmX12 tw_932 rfl rfl rfl dX12_forgets_2 fun h1 => ?_
  refine k_aload_n hq dX12_forgets_5 0 rfl ?_
  refine k_iconst hq dX12_forgets_6 (v := 0) rfl ?_
  refine k_p hq (C := RX12) (T := TX12) 11 21 rfl (by decide) lay_X12 tyX12 tyX12_ok nmX12 tw_948 rfl rfl rfl dX12_forgets_7 fun h2 => ?_
  refine k_iconst hq dX12_forgets_10 (v := 0) rfl ?_
  refine k_istore_n hq dX12_forgets_11 rfl (by decide) (ls' := [(1, .int 0), (0, .ref l0)]) rfl ?_
  exact k_sub [1, 0] rfl (Q_X12_forgets_12 hq he N l0 0 h2)
theorem con_X12_forgets (l : Launch) (G : eG) (B0 n : Nat) (N : Nat) (l0 : Nat) : e_C eV l G B0 n yX12_forgets cX12_forgets 2 none 0 0 [.ref l0] (F_X12_forgets N l0) := by
  refine e_mk (by decide) (Nat.le_of_ble_eq_true rfl) fun q r0 h0 h hq he e1 e2 e3 e4 => ?_
  subst e1; subst e2; subst e3; subst e4
  exact P_X12_forgets_0 hq he N l0 h
set_option maxRecDepth 100000 in
set_option maxHeartbeats 4000000 in
theorem P_X12_begins_0 {q : eT} {r0 : Unit} {h0 : eH} (hq : e_B q yX12_begins.cls cX12_begins 1 1 21 none yX12_begins.name) (he : e_E q) (N : Nat) (l0 : Nat) (h : eH) : e_K eV q r0 h0 0 [(0, .ref l0)] [] h (F_X12_begins N l0 h) := by
  unfold F_X12_begins
  refine k_aload_n hq dX12_begins_0 0 rfl ?_
  refine k_iconst hq dX12_begins_1 (v := 3) rfl ?_
  refine k_p hq (C := RX12) (T := TX12) 11 0 rfl (by decide) lay_X12 tyX12 tyX12_ok nmX12 tw_927 rfl rfl rfl dX12_begins_2 fun h1 => ?_
  refine k_aload_n hq dX12_begins_5 0 rfl ?_
  refine k_iconst hq dX12_begins_6 (v := 4) rfl ?_
  refine k_p hq (C := RX12) (T := TX12) 11 1 rfl (by decide) lay_X12 tyX12 tyX12_ok nmX12 tw_928 rfl rfl rfl dX12_begins_7 fun h2 => ?_
  refine k_aload_n hq dX12_begins_10 0 rfl ?_
  refine k_iconst hq dX12_begins_11 (v := 4) rfl ?_
  refine k_p hq (C := RX12) (T := TX12) 11 2 rfl (by decide) lay_X12 tyX12 tyX12_ok nmX12 tw_929 rfl rfl rfl dX12_begins_12 fun h3 => ?_
  refine k_aload_n hq dX12_begins_15 0 rfl ?_
  refine k_iconst hq dX12_begins_16 (v := 0) rfl ?_
  refine k_p hq (C := RX12) (T := TX12) 11 3 rfl (by decide) lay_X12 tyX12 tyX12_ok nmX12 tw_930 rfl rfl rfl dX12_begins_17 fun h4 => ?_
  refine k_aload_n hq dX12_begins_20 0 rfl ?_
  refine k_callV hq (na := 0) (As := []) (st := []) 11 (C := RX12) (T := TX12) rfl (con_X12_forgets _ _ _ _ N l0) tw_926 tw_59 tw_923 tw_925 tw_22 ⟨by decide, by decide, by decide +kernel⟩ rfl (by decide) rfl (Nat.le_of_ble_eq_true rfl) dX12_begins_21 fun v5 h6 => ?_
  exact k_vret hq dX12_begins_24 he
theorem con_X12_begins (l : Launch) (G : eG) (B0 n : Nat) (N : Nat) (l0 : Nat) : e_C eV l G B0 n yX12_begins cX12_begins 1 none 1 21 [.ref l0] (F_X12_begins N l0) := by
  refine e_mk (by decide) (Nat.le_of_ble_eq_true rfl) fun q r0 h0 h hq he e1 e2 e3 e4 => ?_
  subst e1; subst e2; subst e3; subst e4
  exact P_X12_begins_0 hq he N l0 h
set_option maxRecDepth 100000 in
set_option maxHeartbeats 4000000 in
theorem P_X12_at_0 {q : eT} {r0 : Int32} {h0 : eH} (hq : e_B q yX12_at.cls cX12_at 3 0 0 (some .int) yX12_at.name) (he : e_E q) (l0 : Int32) (l1 : Int32) (l2 : Int32) (h : eH) : e_K eI q r0 h0 0 [(0, .int l0), (1, .int l1), (2, .int l2)] [] h (F_X12_at l0 l1 l2 h) := by
  unfold F_X12_at
  refine k_sipush hq dX12_at_0 (v := 164) rfl ?_
  refine k_iload_n hq dX12_at_3 0 rfl ?_
  refine k_imul hq dX12_at_4 ?_
  refine k_bipush hq dX12_at_5 (v := 41) rfl ?_
  refine k_iload_n hq dX12_at_7 1 rfl ?_
  refine k_imul hq dX12_at_8 ?_
  refine k_iadd hq dX12_at_9 ?_
  refine k_iload_n hq dX12_at_10 2 rfl ?_
  refine k_iadd hq dX12_at_11 ?_
  exact k_iret hq dX12_at_12 he
theorem con_X12_at (l : Launch) (G : eG) (B0 n : Nat) (l0 : Int32) (l1 : Int32) (l2 : Int32) : e_C eI l G B0 n yX12_at cX12_at 3 (some .int) 0 0 [.int l0, .int l1, .int l2] (F_X12_at l0 l1 l2) := by
  refine e_mk (by decide) (Nat.le_of_ble_eq_true rfl) fun q r0 h0 h hq he e1 e2 e3 e4 => ?_
  subst e1; subst e2; subst e3; subst e4
  exact P_X12_at_0 hq he l0 l1 l2 h
set_option maxRecDepth 100000 in
set_option maxHeartbeats 4000000 in
theorem P_X12_rowAt_0 {q : eT} {r0 : Int32} {h0 : eH} (hq : e_B q yX12_rowAt.cls cX12_rowAt 2 0 0 (some .int) yX12_rowAt.name) (he : e_E q) (l0 : Int32) (l1 : Int32) (h : eH) : e_K eI q r0 h0 0 [(0, .int l0), (1, .int l1)] [] h (F_X12_rowAt l0 l1 h) := by
  unfold F_X12_rowAt
  refine k_bipush hq dX12_rowAt_0 (v := 16) rfl ?_
  refine k_iload_n hq dX12_rowAt_2 0 rfl ?_
  refine k_imul hq dX12_rowAt_3 ?_
  refine k_iconst hq dX12_rowAt_4 (v := 4) rfl ?_
  refine k_iload_n hq dX12_rowAt_5 1 rfl ?_
  refine k_imul hq dX12_rowAt_6 ?_
  refine k_iadd hq dX12_rowAt_7 ?_
  exact k_iret hq dX12_rowAt_8 he
theorem con_X12_rowAt (l : Launch) (G : eG) (B0 n : Nat) (l0 : Int32) (l1 : Int32) : e_C eI l G B0 n yX12_rowAt cX12_rowAt 2 (some .int) 0 0 [.int l0, .int l1] (F_X12_rowAt l0 l1) := by
  refine e_mk (by decide) (Nat.le_of_ble_eq_true rfl) fun q r0 h0 h hq he e1 e2 e3 e4 => ?_
  subst e1; subst e2; subst e3; subst e4
  exact P_X12_rowAt_0 hq he l0 l1 h
set_option maxRecDepth 100000 in
set_option maxHeartbeats 4000000 in
theorem P_X12_isSite_0 {q : eT} {r0 : Int32} {h0 : eH} (hq : e_B q yX12_isSite.cls cX12_isSite 2 1 25 (some .boolean) yX12_isSite.name) (he : e_E q) (l0 : Nat) (l1 : Int32) (h : eH) : e_K eI q r0 h0 0 [(0, .ref l0), (1, .int l1)] [] h (F_X12_isSite l0 l1 h) := by
  unfold F_X12_isSite
  refine k_iload_n hq dX12_isSite_0 1 rfl ?_
  refine k_i2l hq dX12_isSite_1 ?_
  refine k_lconst hq dX12_isSite_2 (v := 0) rfl ?_
  refine k_aload_n hq dX12_isSite_3 0 rfl ?_
  refine k_gi hq (C := RX12) (T := TX12) 11 0 rfl (by decide) (lay_X12 0 (by decide)) tw_927 dX12_isSite_4 fun v1 => ?_
  refine k_iconst hq dX12_isSite_7 (v := 1) rfl ?_
  refine k_isub hq dX12_isSite_8 ?_
  refine k_i2l hq dX12_isSite_9 ?_
  refine k_callS hq (na := 3) (As := [.long (l1.toInt64), .long 0, .long ((v1 - 1).toInt64)]) (st := []) (con_X12_in _ _ _ _ (l1.toInt64) 0 ((v1 - 1).toInt64)) tw_1059 tw_59 tw_1057 tw_1058 ⟨by decide, by decide, by decide +kernel⟩ rfl (by decide) rfl (Nat.le_of_ble_eq_true rfl) dX12_isSite_10 fun v2 h3 => ?_
  exact k_zret hq dX12_isSite_13 he
theorem con_X12_isSite (l : Launch) (G : eG) (B0 n : Nat) (l0 : Nat) (l1 : Int32) : e_C eI l G B0 n yX12_isSite cX12_isSite 2 (some .boolean) 1 25 [.ref l0, .int l1] (F_X12_isSite l0 l1) := by
  refine e_mk (by decide) (Nat.le_of_ble_eq_true rfl) fun q r0 h0 h hq he e1 e2 e3 e4 => ?_
  subst e1; subst e2; subst e3; subst e4
  exact P_X12_isSite_0 hq he l0 l1 h
set_option maxRecDepth 100000 in
set_option maxHeartbeats 4000000 in
theorem P_X12_isKey_0 {q : eT} {r0 : Int32} {h0 : eH} (hq : e_B q yX12_isKey.cls cX12_isKey 2 1 25 (some .boolean) yX12_isKey.name) (he : e_E q) (l0 : Nat) (l1 : Int32) (h : eH) : e_K eI q r0 h0 0 [(0, .ref l0), (1, .int l1)] [] h (F_X12_isKey l0 l1 h) := by
  unfold F_X12_isKey
  refine k_iload_n hq dX12_isKey_0 1 rfl ?_
  refine k_i2l hq dX12_isKey_1 ?_
  refine k_lconst hq dX12_isKey_2 (v := 0) rfl ?_
  refine k_aload_n hq dX12_isKey_3 0 rfl ?_
  refine k_gi hq (C := RX12) (T := TX12) 11 3 rfl (by decide) (lay_X12 3 (by decide)) tw_930 dX12_isKey_4 fun v1 => ?_
  refine k_iconst hq dX12_isKey_7 (v := 1) rfl ?_
  refine k_isub hq dX12_isKey_8 ?_
  refine k_i2l hq dX12_isKey_9 ?_
  refine k_callS hq (na := 3) (As := [.long (l1.toInt64), .long 0, .long ((v1 - 1).toInt64)]) (st := []) (con_X12_in _ _ _ _ (l1.toInt64) 0 ((v1 - 1).toInt64)) tw_1059 tw_59 tw_1057 tw_1058 ⟨by decide, by decide, by decide +kernel⟩ rfl (by decide) rfl (Nat.le_of_ble_eq_true rfl) dX12_isKey_10 fun v2 h3 => ?_
  exact k_zret hq dX12_isKey_13 he
theorem con_X12_isKey (l : Launch) (G : eG) (B0 n : Nat) (l0 : Nat) (l1 : Int32) : e_C eI l G B0 n yX12_isKey cX12_isKey 2 (some .boolean) 1 25 [.ref l0, .int l1] (F_X12_isKey l0 l1) := by
  refine e_mk (by decide) (Nat.le_of_ble_eq_true rfl) fun q r0 h0 h hq he e1 e2 e3 e4 => ?_
  subst e1; subst e2; subst e3; subst e4
  exact P_X12_isKey_0 hq he l0 l1 h
set_option maxRecDepth 100000 in
set_option maxHeartbeats 4000000 in
theorem P_X12_isClient_0 {q : eT} {r0 : Int32} {h0 : eH} (hq : e_B q yX12_isClient.cls cX12_isClient 1 1 25 (some .boolean) yX12_isClient.name) (he : e_E q) (l0 : Int32) (h : eH) : e_K eI q r0 h0 0 [(0, .int l0)] [] h (F_X12_isClient l0 h) := by
  unfold F_X12_isClient
  refine k_iload_n hq dX12_isClient_0 0 rfl ?_
  refine k_i2l hq dX12_isClient_1 ?_
  refine k_lconst hq dX12_isClient_2 (v := 0) rfl ?_
  refine k_ldc2 hq (v := 3) tw_1101 dX12_isClient_3 ?_
  refine k_callS hq (na := 3) (As := [.long (l0.toInt64), .long 0, .long 3]) (st := []) (con_X12_in _ _ _ _ (l0.toInt64) 0 3) tw_1059 tw_59 tw_1057 tw_1058 ⟨by decide, by decide, by decide +kernel⟩ rfl (by decide) rfl (Nat.le_of_ble_eq_true rfl) dX12_isClient_6 fun v1 h2 => ?_
  exact k_zret hq dX12_isClient_9 he
theorem con_X12_isClient (l : Launch) (G : eG) (B0 n : Nat) (l0 : Int32) : e_C eI l G B0 n yX12_isClient cX12_isClient 1 (some .boolean) 1 25 [.int l0] (F_X12_isClient l0) := by
  refine e_mk (by decide) (Nat.le_of_ble_eq_true rfl) fun q r0 h0 h hq he e1 e2 e3 e4 => ?_
  subst e1; subst e2; subst e3; subst e4
  exact P_X12_isClient_0 hq he l0 h
set_option maxRecDepth 100000 in
set_option maxHeartbeats 4000000 in
theorem P_X12_isWrite_0 {q : eT} {r0 : Int32} {h0 : eH} (hq : e_B q yX12_isWrite.cls cX12_isWrite 4 2 46 (some .boolean) yX12_isWrite.name) (he : e_E q) (l0 : Nat) (l1 : Int32) (l2 : Int32) (l3 : Int32) (h : eH) : e_K eI q r0 h0 0 [(0, .ref l0), (1, .int l1), (2, .int l2), (3, .int l3)] [] h (F_X12_isWrite l0 l1 l2 l3 h) := by
  unfold F_X12_isWrite
  refine k_aload_n hq dX12_isWrite_0 0 rfl ?_
  refine k_iload_n hq dX12_isWrite_1 1 rfl ?_
  refine k_callV hq (na := 1) (As := [.int l1]) (st := []) 11 (C := RX12) (T := TX12) rfl (con_X12_isKey _ _ _ _ l0 l1) tw_1109 tw_59 tw_1106 tw_1108 tw_29 ⟨by decide, by decide, by decide +kernel⟩ rfl (by decide) rfl (Nat.le_of_ble_eq_true rfl) dX12_isWrite_2 fun v1 h2 => ?_
  refine k_if_eq hq (tgt := 40) dX12_isWrite_5 (by decide) (fun _ => ?_) (fun _ => ?_)
  · refine k_iconst hq dX12_isWrite_40 (v := 0) rfl ?_
    exact k_zret hq dX12_isWrite_41 he
  · refine k_aload_n hq dX12_isWrite_8 0 rfl ?_
    refine k_iload_n hq dX12_isWrite_9 2 rfl ?_
    refine k_callV hq (na := 1) (As := [.int l2]) (st := []) 11 (C := RX12) (T := TX12) rfl (con_X12_isSite _ _ _ _ l0 l2) tw_1105 tw_59 tw_1102 tw_1104 tw_28 ⟨by decide, by decide, by decide +kernel⟩ rfl (by decide) rfl (Nat.le_of_ble_eq_true rfl) dX12_isWrite_10 fun v3 h4 => ?_
    refine k_if_eq hq (tgt := 40) dX12_isWrite_13 (by decide) (fun _ => ?_) (fun _ => ?_)
    · refine k_iconst hq dX12_isWrite_40 (v := 0) rfl ?_
      exact k_zret hq dX12_isWrite_41 he
    · refine k_iload_n hq dX12_isWrite_16 3 rfl ?_
      refine k_i2l hq dX12_isWrite_17 ?_
      refine k_lconst hq dX12_isWrite_18 (v := 1) rfl ?_
      refine k_aload_n hq dX12_isWrite_19 0 rfl ?_
      refine k_gr hq (C := RX12) (T := TX12) 11 15 rfl (by decide) (lay_X12 15 (by decide)) tw_942 dX12_isWrite_20 fun v5 => ?_
      refine k_iconst hq dX12_isWrite_23 (v := 4) rfl ?_
      refine k_iload_n hq dX12_isWrite_24 1 rfl ?_
      refine k_imul hq dX12_isWrite_25 ?_
      refine k_iload_n hq dX12_isWrite_26 2 rfl ?_
      refine k_iadd hq dX12_isWrite_27 ?_
      refine k_iald hq dX12_isWrite_28 fun v6 => ?_
      refine k_i2l hq dX12_isWrite_29 ?_
      refine k_callS hq (na := 3) (As := [.long (l3.toInt64), .long 1, .long (v6.toInt64)]) (st := []) (con_X12_in _ _ _ _ (l3.toInt64) 1 (v6.toInt64)) tw_1059 tw_59 tw_1057 tw_1058 ⟨by decide, by decide, by decide +kernel⟩ rfl (by decide) rfl (Nat.le_of_ble_eq_true rfl) dX12_isWrite_30 fun v7 h8 => ?_
      refine k_if_eq hq (tgt := 40) dX12_isWrite_33 (by decide) (fun _ => ?_) (fun _ => ?_)
      · refine k_iconst hq dX12_isWrite_40 (v := 0) rfl ?_
        exact k_zret hq dX12_isWrite_41 he
      · refine k_iconst hq dX12_isWrite_36 (v := 1) rfl ?_
        refine k_goto hq (tgt := 41) dX12_isWrite_37 (by decide) ?_
        exact k_zret hq dX12_isWrite_41 he
theorem con_X12_isWrite (l : Launch) (G : eG) (B0 n : Nat) (l0 : Nat) (l1 : Int32) (l2 : Int32) (l3 : Int32) : e_C eI l G B0 n yX12_isWrite cX12_isWrite 4 (some .boolean) 2 46 [.ref l0, .int l1, .int l2, .int l3] (F_X12_isWrite l0 l1 l2 l3) := by
  refine e_mk (by decide) (Nat.le_of_ble_eq_true rfl) fun q r0 h0 h hq he e1 e2 e3 e4 => ?_
  subst e1; subst e2; subst e3; subst e4
  exact P_X12_isWrite_0 hq he l0 l1 l2 l3 h
set_option maxRecDepth 100000 in
set_option maxHeartbeats 4000000 in
theorem P_X12_type_0 {q : eT} {r0 : Int32} {h0 : eH} (hq : e_B q yX12_type.cls cX12_type 2 1 25 (some .int) yX12_type.name) (he : e_E q) (l0 : Nat) (l1 : Int32) (h : eH) : e_K eI q r0 h0 0 [(0, .ref l0), (1, .int l1)] [] h (F_X12_type l0 l1 h) := by
  unfold F_X12_type
  refine k_iload_n hq dX12_type_0 1 rfl ?_
  refine k_i2l hq dX12_type_1 ?_
  refine k_lconst hq dX12_type_2 (v := 0) rfl ?_
  refine k_ldc2 hq (v := 255) tw_1056 dX12_type_3 ?_
  refine k_callS hq (na := 3) (As := [.long (l1.toInt64), .long 0, .long 255]) (st := []) (con_X12_in _ _ _ _ (l1.toInt64) 0 255) tw_1059 tw_59 tw_1057 tw_1058 ⟨by decide, by decide, by decide +kernel⟩ rfl (by decide) rfl (Nat.le_of_ble_eq_true rfl) dX12_type_6 fun v1 h2 => ?_
  refine k_if_ne hq (tgt := 14) dX12_type_9 (by decide) (fun _ => ?_) (fun _ => ?_)
  · refine k_iconst hq dX12_type_12 (v := (-1)) rfl ?_
    exact k_iret hq dX12_type_13 he
  · refine k_aload_n hq dX12_type_14 0 rfl ?_
    refine k_gi hq (C := RX12) (T := TX12) 11 24 rfl (by decide) (lay_X12 24 (by decide)) tw_951 dX12_type_15 fun v3 => ?_
    refine k_bipush hq dX12_type_18 (v := 100) rfl ?_
    refine k_icmp_ne hq (tgt := 26) dX12_type_20 (by decide) (fun _ => ?_) (fun _ => ?_)
    · refine k_bipush hq dX12_type_23 (v := (-3)) rfl ?_
      exact k_iret hq dX12_type_25 he
    · refine k_aload_n hq dX12_type_26 0 rfl ?_
      refine k_gr hq (C := RX12) (T := TX12) 11 25 rfl (by decide) (lay_X12 25 (by decide)) tw_952 dX12_type_27 fun v4 => ?_
      refine k_aload_n hq dX12_type_30 0 rfl ?_
      refine k_gi hq (C := RX12) (T := TX12) 11 24 rfl (by decide) (lay_X12 24 (by decide)) tw_951 dX12_type_31 fun v5 => ?_
      refine k_iload_n hq dX12_type_34 1 rfl ?_
      refine k_iast hq dX12_type_35 fun h6 => ?_
      refine k_aload_n hq dX12_type_36 0 rfl ?_
      refine k_dup hq dX12_type_37 rfl ?_
      refine k_gi hq (C := RX12) (T := TX12) 11 24 rfl (by decide) (lay_X12 24 (by decide)) tw_951 dX12_type_38 fun v7 => ?_
      refine k_iconst hq dX12_type_41 (v := 1) rfl ?_
      refine k_iadd hq dX12_type_42 ?_
      refine k_p hq (C := RX12) (T := TX12) 11 24 rfl (by decide) lay_X12 tyX12 tyX12_ok nmX12 tw_951 rfl rfl rfl dX12_type_43 fun h8 => ?_
      refine k_aload_n hq dX12_type_46 0 rfl ?_
      refine k_gi hq (C := RX12) (T := TX12) 11 24 rfl (by decide) (lay_X12 24 (by decide)) tw_951 dX12_type_47 fun v9 => ?_
      exact k_iret hq dX12_type_50 he
theorem con_X12_type (l : Launch) (G : eG) (B0 n : Nat) (l0 : Nat) (l1 : Int32) : e_C eI l G B0 n yX12_type cX12_type 2 (some .int) 1 25 [.ref l0, .int l1] (F_X12_type l0 l1) := by
  refine e_mk (by decide) (Nat.le_of_ble_eq_true rfl) fun q r0 h0 h hq he e1 e2 e3 e4 => ?_
  subst e1; subst e2; subst e3; subst e4
  exact P_X12_type_0 hq he l0 l1 h
set_option maxRecDepth 100000 in
set_option maxHeartbeats 4000000 in
theorem P_X12_clear_0 {q : eT} {r0 : Int32} {h0 : eH} (hq : e_B q yX12_clear.cls cX12_clear 2 0 0 (some .int) yX12_clear.name) (he : e_E q) (l0 : Nat) (h : eH) : e_K eI q r0 h0 0 [(0, .ref l0)] [] h (F_X12_clear l0 h) := by
  unfold F_X12_clear
  refine k_aload_n hq dX12_clear_0 0 rfl ?_
  refine k_gi hq (C := RX12) (T := TX12) 11 24 rfl (by decide) (lay_X12 24 (by decide)) tw_951 dX12_clear_1 fun v1 => ?_
  refine k_istore_n hq dX12_clear_4 rfl (by decide) (ls' := [(1, .int v1), (0, .ref l0)]) rfl ?_
  refine k_aload_n hq dX12_clear_5 1 rfl ?_
  refine k_iconst hq dX12_clear_6 (v := 0) rfl ?_
  refine k_p hq (C := RX12) (T := TX12) 11 24 rfl (by decide) lay_X12 tyX12 tyX12_ok nmX12 tw_951 rfl rfl rfl dX12_clear_7 fun h2 => ?_
  refine k_iload_n hq dX12_clear_10 0 rfl ?_
  exact k_iret hq dX12_clear_11 he
theorem con_X12_clear (l : Launch) (G : eG) (B0 n : Nat) (l0 : Nat) : e_C eI l G B0 n yX12_clear cX12_clear 2 (some .int) 0 0 [.ref l0] (F_X12_clear l0) := by
  refine e_mk (by decide) (Nat.le_of_ble_eq_true rfl) fun q r0 h0 h hq he e1 e2 e3 e4 => ?_
  subst e1; subst e2; subst e3; subst e4
  exact P_X12_clear_0 hq he l0 h
set_option maxRecDepth 100000 in
set_option maxHeartbeats 4000000 in
theorem P_X12_isBetween_0 {q : eT} {r0 : Int32} {h0 : eH} (hq : e_B q yX12_isBetween.cls cX12_isBetween 3 1 25 (some .boolean) yX12_isBetween.name) (he : e_E q) (l0 : Nat) (l1 : Int32) (l2 : Int32) (h : eH) : e_K eI q r0 h0 0 [(0, .ref l0), (1, .int l1), (2, .int l2)] [] h (F_X12_isBetween l0 l1 l2 h) := by
  unfold F_X12_isBetween
  refine k_aload_n hq dX12_isBetween_0 0 rfl ?_
  refine k_gi hq (C := RX12) (T := TX12) 11 26 rfl (by decide) (lay_X12 26 (by decide)) tw_953 dX12_isBetween_1 fun v1 => ?_
  refine k_aload_n hq dX12_isBetween_4 0 rfl ?_
  refine k_gi hq (C := RX12) (T := TX12) 11 24 rfl (by decide) (lay_X12 24 (by decide)) tw_951 dX12_isBetween_5 fun v2 => ?_
  refine k_icmp_ge hq (tgt := 35) dX12_isBetween_8 (by decide) (fun _ => ?_) (fun _ => ?_)
  · refine k_iconst hq dX12_isBetween_35 (v := 0) rfl ?_
    exact k_zret hq dX12_isBetween_36 he
  · refine k_aload_n hq dX12_isBetween_11 0 rfl ?_
    refine k_gr hq (C := RX12) (T := TX12) 11 25 rfl (by decide) (lay_X12 25 (by decide)) tw_952 dX12_isBetween_12 fun v3 => ?_
    refine k_aload_n hq dX12_isBetween_15 0 rfl ?_
    refine k_gi hq (C := RX12) (T := TX12) 11 26 rfl (by decide) (lay_X12 26 (by decide)) tw_953 dX12_isBetween_16 fun v4 => ?_
    refine k_iald hq dX12_isBetween_19 fun v5 => ?_
    refine k_i2l hq dX12_isBetween_20 ?_
    refine k_iload_n hq dX12_isBetween_21 1 rfl ?_
    refine k_i2l hq dX12_isBetween_22 ?_
    refine k_iload_n hq dX12_isBetween_23 2 rfl ?_
    refine k_i2l hq dX12_isBetween_24 ?_
    refine k_callS hq (na := 3) (As := [.long (v5.toInt64), .long (l1.toInt64), .long (l2.toInt64)]) (st := []) (con_X12_in _ _ _ _ (v5.toInt64) (l1.toInt64) (l2.toInt64)) tw_1059 tw_59 tw_1057 tw_1058 ⟨by decide, by decide, by decide +kernel⟩ rfl (by decide) rfl (Nat.le_of_ble_eq_true rfl) dX12_isBetween_25 fun v6 h7 => ?_
    refine k_if_eq hq (tgt := 35) dX12_isBetween_28 (by decide) (fun _ => ?_) (fun _ => ?_)
    · refine k_iconst hq dX12_isBetween_35 (v := 0) rfl ?_
      exact k_zret hq dX12_isBetween_36 he
    · refine k_iconst hq dX12_isBetween_31 (v := 1) rfl ?_
      refine k_goto hq (tgt := 36) dX12_isBetween_32 (by decide) ?_
      exact k_zret hq dX12_isBetween_36 he
theorem con_X12_isBetween (l : Launch) (G : eG) (B0 n : Nat) (l0 : Nat) (l1 : Int32) (l2 : Int32) : e_C eI l G B0 n yX12_isBetween cX12_isBetween 3 (some .boolean) 1 25 [.ref l0, .int l1, .int l2] (F_X12_isBetween l0 l1 l2) := by
  refine e_mk (by decide) (Nat.le_of_ble_eq_true rfl) fun q r0 h0 h hq he e1 e2 e3 e4 => ?_
  subst e1; subst e2; subst e3; subst e4
  exact P_X12_isBetween_0 hq he l0 l1 l2 h
set_option maxRecDepth 100000 in
set_option maxHeartbeats 4000000 in
theorem P_X12_next_129 {q : eT} {r0 : Unit} {h0 : eH} (hq : e_B q yX12_next.cls cX12_next 1 2 47 none yX12_next.name) (he : e_E q) (N : Nat) (k72 : Nat → eH → Option (Unit × eH)) (hk72 : ∀ (l0 : Nat) h, e_K eV q r0 h0 72 [(0, .ref l0)] [] h (k72 l0 h)) (l0 : Nat) (s0 : Nat) (s1 : Int64) (h : eH) : e_K eV q r0 h0 129 [(0, .ref l0)] [.long s1, .ref s0] h (F_X12_next_129 N k72 l0 s0 s1 h) := by
  unfold F_X12_next_129
  refine k_p hq (C := RX12) (T := TX12) 11 29 rfl (by decide) lay_X12 tyX12 tyX12_ok nmX12 tw_956 rfl rfl rfl dX12_next_129 fun h1 => ?_
  refine k_aload_n hq dX12_next_132 0 rfl ?_
  refine k_dup hq dX12_next_133 rfl ?_
  refine k_gi hq (C := RX12) (T := TX12) 11 26 rfl (by decide) (lay_X12 26 (by decide)) tw_953 dX12_next_134 fun v2 => ?_
  refine k_iconst hq dX12_next_137 (v := 1) rfl ?_
  refine k_iadd hq dX12_next_138 ?_
  refine k_p hq (C := RX12) (T := TX12) 11 26 rfl (by decide) lay_X12 tyX12 tyX12_ok nmX12 tw_953 rfl rfl rfl dX12_next_139 fun h3 => ?_
  refine k_goto hq (tgt := 72) dX12_next_142 (by decide) ?_
  exact k_sub [0] rfl (hk72 l0 h3)
set_option maxRecDepth 100000 in
set_option maxHeartbeats 4000000 in
theorem P_X12_next_72b {q : eT} {r0 : Unit} {h0 : eH} (hq : e_B q yX12_next.cls cX12_next 1 2 47 none yX12_next.name) (he : e_E q) (N : Nat) (k72 : Nat → eH → Option (Unit × eH)) (hk72 : ∀ (l0 : Nat) h, e_K eV q r0 h0 72 [(0, .ref l0)] [] h (k72 l0 h)) (l0 : Nat) (h : eH) : e_K eV q r0 h0 72 [(0, .ref l0)] [] h (F_X12_next_72b N k72 l0 h) := by
  unfold F_X12_next_72b
  refine k_aload_n hq dX12_next_72 0 rfl ?_
  refine k_bipush hq dX12_next_73 (v := 97) rfl ?_
  refine k_bipush hq dX12_next_75 (v := 122) rfl ?_
  refine k_callV hq (na := 2) (As := [.int 97, .int 122]) (st := []) 11 (C := RX12) (T := TX12) rfl (con_X12_isBetween _ _ _ _ l0 97 122) tw_1071 tw_59 tw_1068 tw_1070 tw_23 ⟨by decide, by decide, by decide +kernel⟩ rfl (by decide) rfl (Nat.le_of_ble_eq_true rfl) dX12_next_77 fun v1 h2 => ?_
  refine k_if_eq hq (tgt := 250) dX12_next_80 (by decide) (fun _ => ?_) (fun _ => ?_)
  · exact k_vret hq dX12_next_250 he
  · refine k_aload_n hq dX12_next_83 0 rfl ?_
    refine k_aload_n hq dX12_next_84 0 rfl ?_
    refine k_gi hq (C := RX12) (T := TX12) 11 26 rfl (by decide) (lay_X12 26 (by decide)) tw_953 dX12_next_85 fun v3 => ?_
    refine k_aload_n hq dX12_next_88 0 rfl ?_
    refine k_gi hq (C := RX12) (T := TX12) 11 27 rfl (by decide) (lay_X12 27 (by decide)) tw_954 dX12_next_89 fun v4 => ?_
    refine k_isub hq dX12_next_92 ?_
    refine k_bipush hq dX12_next_93 (v := 6) rfl ?_
    refine k_icmp_ge hq (tgt := 126) dX12_next_95 (by decide) (fun _ => ?_) (fun _ => ?_)
    · refine k_ldc2 hq (v := (-1)) tw_1082 dX12_next_126 ?_
      exact k_sub [0] rfl (P_X12_next_129 hq he N k72 hk72 l0 l0 (-1) h2)
    · refine k_ldc2 hq (v := 32) tw_1080 dX12_next_98 ?_
      refine k_aload_n hq dX12_next_101 0 rfl ?_
      refine k_gl hq (C := RX12) (T := TX12) 11 29 rfl (by decide) (lay_X12 29 (by decide)) tw_956 dX12_next_102 fun v5 => ?_
      refine k_lmul hq dX12_next_105 ?_
      refine k_aload_n hq dX12_next_106 0 rfl ?_
      refine k_gr hq (C := RX12) (T := TX12) 11 25 rfl (by decide) (lay_X12 25 (by decide)) tw_952 dX12_next_107 fun v6 => ?_
      refine k_aload_n hq dX12_next_110 0 rfl ?_
      refine k_gi hq (C := RX12) (T := TX12) 11 26 rfl (by decide) (lay_X12 26 (by decide)) tw_953 dX12_next_111 fun v7 => ?_
      refine k_iald hq dX12_next_114 fun v8 => ?_
      refine k_i2l hq dX12_next_115 ?_
      refine k_ladd hq dX12_next_116 ?_
      refine k_ldc2 hq (v := 97) tw_1081 dX12_next_117 ?_
      refine k_lsub hq dX12_next_120 ?_
      refine k_lconst hq dX12_next_121 (v := 1) rfl ?_
      refine k_ladd hq dX12_next_122 ?_
      refine k_goto hq (tgt := 129) dX12_next_123 (by decide) ?_
      exact k_sub [0] rfl (P_X12_next_129 hq he N k72 hk72 l0 l0 ((((32 * v5) + (v8.toInt64)) - 97) + 1) h2)
theorem Q_X12_next_72 {q : eT} {r0 : Unit} {h0 : eH} (hq : e_B q yX12_next.cls cX12_next 1 2 47 none yX12_next.name) (he : e_E q) (N : Nat) (l0 : Nat) (h : eH) : e_K eV q r0 h0 72 [(0, .ref l0)] [] h (L_X12_next_72 N l0 h) :=
  k_loop (mk := (fun s => [(0, .ref s.1)])) (hp := fun s => s.2) (fun k hk s => P_X12_next_72b hq he N (fun l0 h => k (l0, h)) (fun l0 h => hk (l0, h)) s.1 s.2) N (l0, h)
set_option maxRecDepth 100000 in
set_option maxHeartbeats 4000000 in
theorem P_X12_next_188b {q : eT} {r0 : Unit} {h0 : eH} (hq : e_B q yX12_next.cls cX12_next 1 2 47 none yX12_next.name) (he : e_E q) (N : Nat) (k188 : Nat → eH → Option (Unit × eH)) (hk188 : ∀ (l0 : Nat) h, e_K eV q r0 h0 188 [(0, .ref l0)] [] h (k188 l0 h)) (l0 : Nat) (h : eH) : e_K eV q r0 h0 188 [(0, .ref l0)] [] h (F_X12_next_188b N k188 l0 h) := by
  unfold F_X12_next_188b
  refine k_aload_n hq dX12_next_188 0 rfl ?_
  refine k_bipush hq dX12_next_189 (v := 48) rfl ?_
  refine k_bipush hq dX12_next_191 (v := 57) rfl ?_
  refine k_callV hq (na := 2) (As := [.int 48, .int 57]) (st := []) 11 (C := RX12) (T := TX12) rfl (con_X12_isBetween _ _ _ _ l0 48 57) tw_1071 tw_59 tw_1068 tw_1070 tw_23 ⟨by decide, by decide, by decide +kernel⟩ rfl (by decide) rfl (Nat.le_of_ble_eq_true rfl) dX12_next_193 fun v1 h2 => ?_
  refine k_if_eq hq (tgt := 250) dX12_next_196 (by decide) (fun _ => ?_) (fun _ => ?_)
  · exact k_vret hq dX12_next_250 he
  · refine k_aload_n hq dX12_next_199 0 rfl ?_
    refine k_iconst hq dX12_next_200 (v := 4) rfl ?_
    refine k_p hq (C := RX12) (T := TX12) 11 28 rfl (by decide) lay_X12 tyX12 tyX12_ok nmX12 tw_955 rfl rfl rfl dX12_next_201 fun h3 => ?_
    refine k_aload_n hq dX12_next_204 0 rfl ?_
    refine k_dup hq dX12_next_205 rfl ?_
    refine k_gi hq (C := RX12) (T := TX12) 11 26 rfl (by decide) (lay_X12 26 (by decide)) tw_953 dX12_next_206 fun v4 => ?_
    refine k_iconst hq dX12_next_209 (v := 1) rfl ?_
    refine k_iadd hq dX12_next_210 ?_
    refine k_p hq (C := RX12) (T := TX12) 11 26 rfl (by decide) lay_X12 tyX12 tyX12_ok nmX12 tw_953 rfl rfl rfl dX12_next_211 fun h5 => ?_
    refine k_goto hq (tgt := 188) dX12_next_214 (by decide) ?_
    exact k_sub [0] rfl (hk188 l0 h5)
theorem Q_X12_next_188 {q : eT} {r0 : Unit} {h0 : eH} (hq : e_B q yX12_next.cls cX12_next 1 2 47 none yX12_next.name) (he : e_E q) (N : Nat) (l0 : Nat) (h : eH) : e_K eV q r0 h0 188 [(0, .ref l0)] [] h (L_X12_next_188 N l0 h) :=
  k_loop (mk := (fun s => [(0, .ref s.1)])) (hp := fun s => s.2) (fun k hk s => P_X12_next_188b hq he N (fun l0 h => k (l0, h)) (fun l0 h => hk (l0, h)) s.1 s.2) N (l0, h)
set_option maxRecDepth 100000 in
set_option maxHeartbeats 4000000 in
theorem P_X12_next_237 {q : eT} {r0 : Unit} {h0 : eH} (hq : e_B q yX12_next.cls cX12_next 1 2 47 none yX12_next.name) (he : e_E q) (N : Nat) (l0 : Nat) (s0 : Nat) (s1 : Int32) (h : eH) : e_K eV q r0 h0 237 [(0, .ref l0)] [.int s1, .ref s0] h (F_X12_next_237 N l0 s0 s1 h) := by
  unfold F_X12_next_237
  refine k_p hq (C := RX12) (T := TX12) 11 28 rfl (by decide) lay_X12 tyX12 tyX12_ok nmX12 tw_955 rfl rfl rfl dX12_next_237 fun h1 => ?_
  refine k_aload_n hq dX12_next_240 0 rfl ?_
  refine k_dup hq dX12_next_241 rfl ?_
  refine k_gi hq (C := RX12) (T := TX12) 11 26 rfl (by decide) (lay_X12 26 (by decide)) tw_953 dX12_next_242 fun v2 => ?_
  refine k_iconst hq dX12_next_245 (v := 1) rfl ?_
  refine k_iadd hq dX12_next_246 ?_
  refine k_p hq (C := RX12) (T := TX12) 11 26 rfl (by decide) lay_X12 tyX12 tyX12_ok nmX12 tw_953 rfl rfl rfl dX12_next_247 fun h3 => ?_
  exact k_vret hq dX12_next_250 he
set_option maxRecDepth 100000 in
set_option maxHeartbeats 4000000 in
theorem P_X12_next_0b {q : eT} {r0 : Unit} {h0 : eH} (hq : e_B q yX12_next.cls cX12_next 1 2 47 none yX12_next.name) (he : e_E q) (N : Nat) (k0 : Nat → eH → Option (Unit × eH)) (hk0 : ∀ (l0 : Nat) h, e_K eV q r0 h0 0 [(0, .ref l0)] [] h (k0 l0 h)) (l0 : Nat) (h : eH) : e_K eV q r0 h0 0 [(0, .ref l0)] [] h (F_X12_next_0b N k0 l0 h) := by
  unfold F_X12_next_0b
  refine k_aload_n hq dX12_next_0 0 rfl ?_
  refine k_bipush hq dX12_next_1 (v := 32) rfl ?_
  refine k_bipush hq dX12_next_3 (v := 32) rfl ?_
  refine k_callV hq (na := 2) (As := [.int 32, .int 32]) (st := []) 11 (C := RX12) (T := TX12) rfl (con_X12_isBetween _ _ _ _ l0 32 32) tw_1071 tw_59 tw_1068 tw_1070 tw_23 ⟨by decide, by decide, by decide +kernel⟩ rfl (by decide) rfl (Nat.le_of_ble_eq_true rfl) dX12_next_5 fun v1 h2 => ?_
  refine k_if_eq hq (tgt := 24) dX12_next_8 (by decide) (fun _ => ?_) (fun _ => ?_)
  · refine k_aload_n hq dX12_next_24 0 rfl ?_
    refine k_aload_n hq dX12_next_25 0 rfl ?_
    refine k_gi hq (C := RX12) (T := TX12) 11 26 rfl (by decide) (lay_X12 26 (by decide)) tw_953 dX12_next_26 fun v3 => ?_
    refine k_p hq (C := RX12) (T := TX12) 11 27 rfl (by decide) lay_X12 tyX12 tyX12_ok nmX12 tw_954 rfl rfl rfl dX12_next_29 fun h4 => ?_
    refine k_aload_n hq dX12_next_32 0 rfl ?_
    refine k_lconst hq dX12_next_33 (v := 0) rfl ?_
    refine k_p hq (C := RX12) (T := TX12) 11 29 rfl (by decide) lay_X12 tyX12 tyX12_ok nmX12 tw_956 rfl rfl rfl dX12_next_34 fun h5 => ?_
    refine k_aload_n hq dX12_next_37 0 rfl ?_
    refine k_gi hq (C := RX12) (T := TX12) 11 26 rfl (by decide) (lay_X12 26 (by decide)) tw_953 dX12_next_38 fun v6 => ?_
    refine k_aload_n hq dX12_next_41 0 rfl ?_
    refine k_gi hq (C := RX12) (T := TX12) 11 24 rfl (by decide) (lay_X12 24 (by decide)) tw_951 dX12_next_42 fun v7 => ?_
    refine k_icmp_ne hq (tgt := 56) dX12_next_45 (by decide) (fun _ => ?_) (fun _ => ?_)
    · refine k_aload_n hq dX12_next_48 0 rfl ?_
      refine k_iconst hq dX12_next_49 (v := 0) rfl ?_
      refine k_p hq (C := RX12) (T := TX12) 11 28 rfl (by decide) lay_X12 tyX12 tyX12_ok nmX12 tw_955 rfl rfl rfl dX12_next_50 fun h23 => ?_
      refine k_goto hq (tgt := 250) dX12_next_53 (by decide) ?_
      exact k_vret hq dX12_next_250 he
    · refine k_aload_n hq dX12_next_56 0 rfl ?_
      refine k_bipush hq dX12_next_57 (v := 97) rfl ?_
      refine k_bipush hq dX12_next_59 (v := 122) rfl ?_
      refine k_callV hq (na := 2) (As := [.int 97, .int 122]) (st := []) 11 (C := RX12) (T := TX12) rfl (con_X12_isBetween _ _ _ _ l0 97 122) tw_1071 tw_59 tw_1068 tw_1070 tw_23 ⟨by decide, by decide, by decide +kernel⟩ rfl (by decide) rfl (Nat.le_of_ble_eq_true rfl) dX12_next_61 fun v8 h9 => ?_
      refine k_if_eq hq (tgt := 145) dX12_next_64 (by decide) (fun _ => ?_) (fun _ => ?_)
      · refine k_aload_n hq dX12_next_145 0 rfl ?_
        refine k_bipush hq dX12_next_146 (v := 48) rfl ?_
        refine k_bipush hq dX12_next_148 (v := 57) rfl ?_
        refine k_callV hq (na := 2) (As := [.int 48, .int 57]) (st := []) 11 (C := RX12) (T := TX12) rfl (con_X12_isBetween _ _ _ _ l0 48 57) tw_1071 tw_59 tw_1068 tw_1070 tw_23 ⟨by decide, by decide, by decide +kernel⟩ rfl (by decide) rfl (Nat.le_of_ble_eq_true rfl) dX12_next_150 fun v10 h11 => ?_
        refine k_if_eq hq (tgt := 217) dX12_next_153 (by decide) (fun _ => ?_) (fun _ => ?_)
        · refine k_aload_n hq dX12_next_217 0 rfl ?_
          refine k_aload_n hq dX12_next_218 0 rfl ?_
          refine k_gr hq (C := RX12) (T := TX12) 11 25 rfl (by decide) (lay_X12 25 (by decide)) tw_952 dX12_next_219 fun v12 => ?_
          refine k_aload_n hq dX12_next_222 0 rfl ?_
          refine k_gi hq (C := RX12) (T := TX12) 11 26 rfl (by decide) (lay_X12 26 (by decide)) tw_953 dX12_next_223 fun v13 => ?_
          refine k_iald hq dX12_next_226 fun v14 => ?_
          refine k_bipush hq dX12_next_227 (v := 59) rfl ?_
          refine k_icmp_ne hq (tgt := 236) dX12_next_229 (by decide) (fun _ => ?_) (fun _ => ?_)
          · refine k_iconst hq dX12_next_232 (v := 3) rfl ?_
            refine k_goto hq (tgt := 237) dX12_next_233 (by decide) ?_
            exact k_sub [0] rfl (P_X12_next_237 hq he N l0 l0 3 h11)
          · refine k_iconst hq dX12_next_236 (v := 4) rfl ?_
            exact k_sub [0] rfl (P_X12_next_237 hq he N l0 l0 4 h11)
        · refine k_aload_n hq dX12_next_156 0 rfl ?_
          refine k_aload_n hq dX12_next_157 0 rfl ?_
          refine k_gr hq (C := RX12) (T := TX12) 11 25 rfl (by decide) (lay_X12 25 (by decide)) tw_952 dX12_next_158 fun v15 => ?_
          refine k_aload_n hq dX12_next_161 0 rfl ?_
          refine k_gi hq (C := RX12) (T := TX12) 11 26 rfl (by decide) (lay_X12 26 (by decide)) tw_953 dX12_next_162 fun v16 => ?_
          refine k_iald hq dX12_next_165 fun v17 => ?_
          refine k_bipush hq dX12_next_166 (v := 48) rfl ?_
          refine k_isub hq dX12_next_168 ?_
          refine k_i2l hq dX12_next_169 ?_
          refine k_p hq (C := RX12) (T := TX12) 11 29 rfl (by decide) lay_X12 tyX12 tyX12_ok nmX12 tw_956 rfl rfl rfl dX12_next_170 fun h18 => ?_
          refine k_aload_n hq dX12_next_173 0 rfl ?_
          refine k_dup hq dX12_next_174 rfl ?_
          refine k_gi hq (C := RX12) (T := TX12) 11 26 rfl (by decide) (lay_X12 26 (by decide)) tw_953 dX12_next_175 fun v19 => ?_
          refine k_iconst hq dX12_next_178 (v := 1) rfl ?_
          refine k_iadd hq dX12_next_179 ?_
          refine k_p hq (C := RX12) (T := TX12) 11 26 rfl (by decide) lay_X12 tyX12 tyX12_ok nmX12 tw_953 rfl rfl rfl dX12_next_180 fun h20 => ?_
          refine k_aload_n hq dX12_next_183 0 rfl ?_
          refine k_iconst hq dX12_next_184 (v := 2) rfl ?_
          refine k_p hq (C := RX12) (T := TX12) 11 28 rfl (by decide) lay_X12 tyX12 tyX12_ok nmX12 tw_955 rfl rfl rfl dX12_next_185 fun h21 => ?_
          exact k_sub [0] rfl (Q_X12_next_188 hq he N l0 h21)
      · refine k_aload_n hq dX12_next_67 0 rfl ?_
        refine k_iconst hq dX12_next_68 (v := 1) rfl ?_
        refine k_p hq (C := RX12) (T := TX12) 11 28 rfl (by decide) lay_X12 tyX12 tyX12_ok nmX12 tw_955 rfl rfl rfl dX12_next_69 fun h22 => ?_
        exact k_sub [0] rfl (Q_X12_next_72 hq he N l0 h22)
  · refine k_aload_n hq dX12_next_11 0 rfl ?_
    refine k_dup hq dX12_next_12 rfl ?_
    refine k_gi hq (C := RX12) (T := TX12) 11 26 rfl (by decide) (lay_X12 26 (by decide)) tw_953 dX12_next_13 fun v24 => ?_
    refine k_iconst hq dX12_next_16 (v := 1) rfl ?_
    refine k_iadd hq dX12_next_17 ?_
    refine k_p hq (C := RX12) (T := TX12) 11 26 rfl (by decide) lay_X12 tyX12 tyX12_ok nmX12 tw_953 rfl rfl rfl dX12_next_18 fun h25 => ?_
    refine k_goto hq (tgt := 0) dX12_next_21 (by decide) ?_
    exact k_sub [0] rfl (hk0 l0 h25)
theorem Q_X12_next_0 {q : eT} {r0 : Unit} {h0 : eH} (hq : e_B q yX12_next.cls cX12_next 1 2 47 none yX12_next.name) (he : e_E q) (N : Nat) (l0 : Nat) (h : eH) : e_K eV q r0 h0 0 [(0, .ref l0)] [] h (L_X12_next_0 N l0 h) :=
  k_loop (mk := (fun s => [(0, .ref s.1)])) (hp := fun s => s.2) (fun k hk s => P_X12_next_0b hq he N (fun l0 h => k (l0, h)) (fun l0 h => hk (l0, h)) s.1 s.2) N (l0, h)
theorem con_X12_next (l : Launch) (G : eG) (B0 n : Nat) (N : Nat) (l0 : Nat) : e_C eV l G B0 n yX12_next cX12_next 1 none 2 47 [.ref l0] (F_X12_next N l0) := by
  refine e_mk (by decide) (Nat.le_of_ble_eq_true rfl) fun q r0 h0 h hq he e1 e2 e3 e4 => ?_
  subst e1; subst e2; subst e3; subst e4
  exact Q_X12_next_0 hq he N l0 h
set_option maxRecDepth 100000 in
set_option maxHeartbeats 4000000 in
theorem P_X12_word_0 {q : eT} {r0 : Int64} {h0 : eH} (hq : e_B q yX12_word.cls cX12_word 5 0 0 (some .long) yX12_word.name) (he : e_E q) (l0 : Int32) (l1 : Int32) (l2 : Int32) (l3 : Int32) (l4 : Int32) (h : eH) : e_K eL q r0 h0 0 [(0, .int l0), (1, .int l1), (2, .int l2), (3, .int l3), (4, .int l4)] [] h (F_X12_word l0 l1 l2 l3 l4 h) := by
  unfold F_X12_word
  refine k_iload_n hq dX12_word_0 0 rfl ?_
  refine k_i2l hq dX12_word_1 ?_
  refine k_ldc2 hq (v := 32) tw_1080 dX12_word_2 ?_
  refine k_lmul hq dX12_word_5 ?_
  refine k_iload_n hq dX12_word_6 1 rfl ?_
  refine k_i2l hq dX12_word_7 ?_
  refine k_ladd hq dX12_word_8 ?_
  refine k_ldc2 hq (v := 32) tw_1080 dX12_word_9 ?_
  refine k_lmul hq dX12_word_12 ?_
  refine k_iload_n hq dX12_word_13 2 rfl ?_
  refine k_i2l hq dX12_word_14 ?_
  refine k_ladd hq dX12_word_15 ?_
  refine k_ldc2 hq (v := 32) tw_1080 dX12_word_16 ?_
  refine k_lmul hq dX12_word_19 ?_
  refine k_iload_n hq dX12_word_20 3 rfl ?_
  refine k_i2l hq dX12_word_21 ?_
  refine k_ladd hq dX12_word_22 ?_
  refine k_ldc2 hq (v := 32) tw_1080 dX12_word_23 ?_
  refine k_lmul hq dX12_word_26 ?_
  refine k_iload hq dX12_word_27 4 rfl ?_
  refine k_i2l hq dX12_word_29 ?_
  refine k_ladd hq dX12_word_30 ?_
  exact k_lret hq dX12_word_31 he
theorem con_X12_word (l : Launch) (G : eG) (B0 n : Nat) (l0 : Int32) (l1 : Int32) (l2 : Int32) (l3 : Int32) (l4 : Int32) : e_C eL l G B0 n yX12_word cX12_word 5 (some .long) 0 0 [.int l0, .int l1, .int l2, .int l3, .int l4] (F_X12_word l0 l1 l2 l3 l4) := by
  refine e_mk (by decide) (Nat.le_of_ble_eq_true rfl) fun q r0 h0 h hq he e1 e2 e3 e4 => ?_
  subst e1; subst e2; subst e3; subst e4
  exact P_X12_word_0 hq he l0 l1 l2 l3 l4 h
set_option maxRecDepth 100000 in
set_option maxHeartbeats 4000000 in
theorem P_X12_number_0 {q : eT} {r0 : Int32} {h0 : eH} (hq : e_B q yX12_number.cls cX12_number 3 3 67 (some .boolean) yX12_number.name) (he : e_E q) (N : Nat) (l0 : Nat) (l1 : Int32) (l2 : Int32) (h : eH) : e_K eI q r0 h0 0 [(0, .ref l0), (1, .int l1), (2, .int l2)] [] h (F_X12_number N l0 l1 l2 h) := by
  unfold F_X12_number
  refine k_aload_n hq dX12_number_0 0 rfl ?_
  refine k_callV hq (na := 0) (As := []) (st := []) 11 (C := RX12) (T := TX12) rfl (con_X12_next _ _ _ _ N l0) tw_1079 tw_59 tw_1076 tw_1078 tw_25 ⟨by decide, by decide, by decide +kernel⟩ rfl (by decide) rfl (Nat.le_of_ble_eq_true rfl) dX12_number_1 fun v1 h2 => ?_
  refine k_aload_n hq dX12_number_4 0 rfl ?_
  refine k_gi hq (C := RX12) (T := TX12) 11 28 rfl (by decide) (lay_X12 28 (by decide)) tw_955 dX12_number_5 fun v3 => ?_
  refine k_iconst hq dX12_number_8 (v := 2) rfl ?_
  refine k_icmp_ne hq (tgt := 30) dX12_number_9 (by decide) (fun _ => ?_) (fun _ => ?_)
  · refine k_aload_n hq dX12_number_12 0 rfl ?_
    refine k_gl hq (C := RX12) (T := TX12) 11 29 rfl (by decide) (lay_X12 29 (by decide)) tw_956 dX12_number_13 fun v4 => ?_
    refine k_iload_n hq dX12_number_16 1 rfl ?_
    refine k_i2l hq dX12_number_17 ?_
    refine k_iload_n hq dX12_number_18 2 rfl ?_
    refine k_i2l hq dX12_number_19 ?_
    refine k_callS hq (na := 3) (As := [.long v4, .long (l1.toInt64), .long (l2.toInt64)]) (st := []) (con_X12_in _ _ _ _ v4 (l1.toInt64) (l2.toInt64)) tw_1059 tw_59 tw_1057 tw_1058 ⟨by decide, by decide, by decide +kernel⟩ rfl (by decide) rfl (Nat.le_of_ble_eq_true rfl) dX12_number_20 fun v5 h6 => ?_
    refine k_if_eq hq (tgt := 30) dX12_number_23 (by decide) (fun _ => ?_) (fun _ => ?_)
    · refine k_iconst hq dX12_number_30 (v := 0) rfl ?_
      exact k_zret hq dX12_number_31 he
    · refine k_iconst hq dX12_number_26 (v := 1) rfl ?_
      refine k_goto hq (tgt := 31) dX12_number_27 (by decide) ?_
      exact k_zret hq dX12_number_31 he
  · refine k_iconst hq dX12_number_30 (v := 0) rfl ?_
    exact k_zret hq dX12_number_31 he
theorem con_X12_number (l : Launch) (G : eG) (B0 n : Nat) (N : Nat) (l0 : Nat) (l1 : Int32) (l2 : Int32) : e_C eI l G B0 n yX12_number cX12_number 3 (some .boolean) 3 67 [.ref l0, .int l1, .int l2] (F_X12_number N l0 l1 l2) := by
  refine e_mk (by decide) (Nat.le_of_ble_eq_true rfl) fun q r0 h0 h hq he e1 e2 e3 e4 => ?_
  subst e1; subst e2; subst e3; subst e4
  exact P_X12_number_0 hq he N l0 l1 l2 h
set_option maxRecDepth 100000 in
set_option maxHeartbeats 4000000 in
theorem P_X12_stops_0 {q : eT} {r0 : Int32} {h0 : eH} (hq : e_B q yX12_stops.cls cX12_stops 1 3 67 (some .boolean) yX12_stops.name) (he : e_E q) (N : Nat) (l0 : Nat) (h : eH) : e_K eI q r0 h0 0 [(0, .ref l0)] [] h (F_X12_stops N l0 h) := by
  unfold F_X12_stops
  refine k_aload_n hq dX12_stops_0 0 rfl ?_
  refine k_callV hq (na := 0) (As := []) (st := []) 11 (C := RX12) (T := TX12) rfl (con_X12_next _ _ _ _ N l0) tw_1079 tw_59 tw_1076 tw_1078 tw_25 ⟨by decide, by decide, by decide +kernel⟩ rfl (by decide) rfl (Nat.le_of_ble_eq_true rfl) dX12_stops_1 fun v1 h2 => ?_
  refine k_aload_n hq dX12_stops_4 0 rfl ?_
  refine k_gi hq (C := RX12) (T := TX12) 11 28 rfl (by decide) (lay_X12 28 (by decide)) tw_955 dX12_stops_5 fun v3 => ?_
  refine k_iconst hq dX12_stops_8 (v := 3) rfl ?_
  refine k_icmp_ne hq (tgt := 16) dX12_stops_9 (by decide) (fun _ => ?_) (fun _ => ?_)
  · refine k_iconst hq dX12_stops_12 (v := 1) rfl ?_
    refine k_goto hq (tgt := 17) dX12_stops_13 (by decide) ?_
    exact k_zret hq dX12_stops_17 he
  · refine k_iconst hq dX12_stops_16 (v := 0) rfl ?_
    exact k_zret hq dX12_stops_17 he
theorem con_X12_stops (l : Launch) (G : eG) (B0 n : Nat) (N : Nat) (l0 : Nat) : e_C eI l G B0 n yX12_stops cX12_stops 1 (some .boolean) 3 67 [.ref l0] (F_X12_stops N l0) := by
  refine e_mk (by decide) (Nat.le_of_ble_eq_true rfl) fun q r0 h0 h hq he e1 e2 e3 e4 => ?_
  subst e1; subst e2; subst e3; subst e4
  exact P_X12_stops_0 hq he N l0 h
set_option maxRecDepth 100000 in
set_option maxHeartbeats 4000000 in
theorem P_X12_readsItem_237 {q : eT} {r0 : Int32} {h0 : eH} (hq : e_B q yX12_readsItem.cls cX12_readsItem 4 4 89 (some .boolean) yX12_readsItem.name) (he : e_E q) (N : Nat) (l0 : Nat) (s0 : Nat) (s1 : Int32) (s2 : Int32) (h : eH) : e_K eI q r0 h0 237 [(0, .ref l0)] [.int s2, .int s1, .ref s0] h (F_X12_readsItem_237 N l0 s0 s1 s2 h) := by
  unfold F_X12_readsItem_237
  refine k_iast hq dX12_readsItem_237 fun h1 => ?_
  refine k_aload_n hq dX12_readsItem_238 0 rfl ?_
  refine k_dup hq dX12_readsItem_239 rfl ?_
  refine k_gi hq (C := RX12) (T := TX12) 11 33 rfl (by decide) (lay_X12 33 (by decide)) tw_960 dX12_readsItem_240 fun v2 => ?_
  refine k_iconst hq dX12_readsItem_243 (v := 1) rfl ?_
  refine k_iadd hq dX12_readsItem_244 ?_
  refine k_p hq (C := RX12) (T := TX12) 11 33 rfl (by decide) lay_X12 tyX12 tyX12_ok nmX12 tw_960 rfl rfl rfl dX12_readsItem_245 fun h3 => ?_
  refine k_aload_n hq dX12_readsItem_248 0 rfl ?_
  refine k_callV hq (na := 0) (As := []) (st := []) 11 (C := RX12) (T := TX12) rfl (con_X12_stops _ _ _ _ N l0) tw_1093 tw_59 tw_1090 tw_1092 tw_27 ⟨by decide, by decide, by decide +kernel⟩ rfl (by decide) rfl (Nat.le_of_ble_eq_true rfl) dX12_readsItem_249 fun v4 h5 => ?_
  exact k_zret hq dX12_readsItem_252 he
set_option maxRecDepth 100000 in
set_option maxHeartbeats 4000000 in
theorem P_X12_readsItem_220 {q : eT} {r0 : Int32} {h0 : eH} (hq : e_B q yX12_readsItem.cls cX12_readsItem 4 4 89 (some .boolean) yX12_readsItem.name) (he : e_E q) (N : Nat) (l0 : Nat) (l3 : Int32) (h : eH) : e_K eI q r0 h0 220 [(0, .ref l0), (3, .int l3)] [] h (F_X12_readsItem_220 N l0 l3 h) := by
  unfold F_X12_readsItem_220
  refine k_aload_n hq dX12_readsItem_220 0 rfl ?_
  refine k_gr hq (C := RX12) (T := TX12) 11 34 rfl (by decide) (lay_X12 34 (by decide)) tw_961 dX12_readsItem_221 fun v1 => ?_
  refine k_aload_n hq dX12_readsItem_224 0 rfl ?_
  refine k_gi hq (C := RX12) (T := TX12) 11 33 rfl (by decide) (lay_X12 33 (by decide)) tw_960 dX12_readsItem_225 fun v2 => ?_
  refine k_iload_n hq dX12_readsItem_228 1 rfl ?_
  refine k_if_eq hq (tgt := 236) dX12_readsItem_229 (by decide) (fun _ => ?_) (fun _ => ?_)
  · refine k_iconst hq dX12_readsItem_236 (v := 1) rfl ?_
    exact k_sub [0] rfl (P_X12_readsItem_237 hq he N l0 v1 v2 1 h)
  · refine k_iconst hq dX12_readsItem_232 (v := 0) rfl ?_
    refine k_goto hq (tgt := 237) dX12_readsItem_233 (by decide) ?_
    exact k_sub [0] rfl (P_X12_readsItem_237 hq he N l0 v1 v2 0 h)
set_option maxRecDepth 100000 in
set_option maxHeartbeats 4000000 in
theorem P_X12_readsItem_189 {q : eT} {r0 : Int32} {h0 : eH} (hq : e_B q yX12_readsItem.cls cX12_readsItem 4 4 89 (some .boolean) yX12_readsItem.name) (he : e_E q) (N : Nat) (l0 : Nat) (l1 : Int64) (s0 : Int32) (h : eH) : e_K eI q r0 h0 189 [(0, .ref l0), (1, .long l1)] [.int s0] h (F_X12_readsItem_189 N l0 l1 s0 h) := by
  unfold F_X12_readsItem_189
  refine k_istore_n hq dX12_readsItem_189 rfl (by decide) (ls' := [(3, .int s0), (0, .ref l0), (1, .long l1)]) rfl ?_
  refine k_aload_n hq dX12_readsItem_190 1 rfl ?_
  refine k_gi hq (C := RX12) (T := TX12) 11 33 rfl (by decide) (lay_X12 33 (by decide)) tw_960 dX12_readsItem_191 fun v1 => ?_
  refine k_iconst hq dX12_readsItem_194 (v := 4) rfl ?_
  refine k_icmp_eq hq (tgt := 218) dX12_readsItem_195 (by decide) (fun _ => ?_) (fun _ => ?_)
  · refine k_iconst hq dX12_readsItem_218 (v := 0) rfl ?_
    exact k_zret hq dX12_readsItem_219 he
  · refine k_iload_n hq dX12_readsItem_198 0 rfl ?_
    refine k_if_ne hq (tgt := 220) dX12_readsItem_199 (by decide) (fun _ => ?_) (fun _ => ?_)
    · refine k_lload_n hq dX12_readsItem_202 2 rfl ?_
      refine k_iconst hq dX12_readsItem_203 (v := 0) rfl ?_
      refine k_iconst hq dX12_readsItem_204 (v := 2) rfl ?_
      refine k_bipush hq dX12_readsItem_205 (v := 9) rfl ?_
      refine k_bipush hq dX12_readsItem_207 (v := 20) rfl ?_
      refine k_bipush hq dX12_readsItem_209 (v := 19) rfl ?_
      refine k_callS hq (na := 5) (As := [.int 0, .int 2, .int 9, .int 20, .int 19]) (st := [.long l1]) (con_X12_word _ _ _ _ 0 2 9 20 19) tw_1085 tw_59 tw_1083 tw_1084 ⟨by decide, by decide, by decide +kernel⟩ rfl (by decide) rfl (Nat.le_of_ble_eq_true rfl) dX12_readsItem_211 fun v2 h3 => ?_
      refine k_lcmp hq dX12_readsItem_214 ?_
      refine k_if_eq hq (tgt := 220) dX12_readsItem_215 (by decide) (fun _ => ?_) (fun _ => ?_)
      · exact k_sub [1, 0] rfl (P_X12_readsItem_220 hq he N l0 s0 h3)
      · refine k_iconst hq dX12_readsItem_218 (v := 0) rfl ?_
        exact k_zret hq dX12_readsItem_219 he
    · exact k_sub [1, 0] rfl (P_X12_readsItem_220 hq he N l0 s0 h)
set_option maxRecDepth 100000 in
set_option maxHeartbeats 4000000 in
theorem P_X12_readsItem_0 {q : eT} {r0 : Int32} {h0 : eH} (hq : e_B q yX12_readsItem.cls cX12_readsItem 4 4 89 (some .boolean) yX12_readsItem.name) (he : e_E q) (N : Nat) (l0 : Nat) (h : eH) : e_K eI q r0 h0 0 [(0, .ref l0)] [] h (F_X12_readsItem N l0 h) := by
  unfold F_X12_readsItem
  refine k_aload_n hq dX12_readsItem_0 0 rfl ?_
  refine k_callV hq (na := 0) (As := []) (st := []) 11 (C := RX12) (T := TX12) rfl (con_X12_next _ _ _ _ N l0) tw_1079 tw_59 tw_1076 tw_1078 tw_25 ⟨by decide, by decide, by decide +kernel⟩ rfl (by decide) rfl (Nat.le_of_ble_eq_true rfl) dX12_readsItem_1 fun v1 h2 => ?_
  refine k_aload_n hq dX12_readsItem_4 0 rfl ?_
  refine k_gi hq (C := RX12) (T := TX12) 11 28 rfl (by decide) (lay_X12 28 (by decide)) tw_955 dX12_readsItem_5 fun v3 => ?_
  refine k_iconst hq dX12_readsItem_8 (v := 1) rfl ?_
  refine k_icmp_eq hq (tgt := 14) dX12_readsItem_9 (by decide) (fun _ => ?_) (fun _ => ?_)
  · refine k_aload_n hq dX12_readsItem_14 0 rfl ?_
    refine k_gl hq (C := RX12) (T := TX12) 11 29 rfl (by decide) (lay_X12 29 (by decide)) tw_956 dX12_readsItem_15 fun v4 => ?_
    refine k_lstore_n hq dX12_readsItem_18 rfl (by decide) (ls' := [(1, .long v4), (0, .ref l0)]) rfl ?_
    refine k_lload_n hq dX12_readsItem_19 0 rfl ?_
    refine k_bipush hq dX12_readsItem_20 (v := 19) rfl ?_
    refine k_bipush hq dX12_readsItem_22 (v := 9) rfl ?_
    refine k_bipush hq dX12_readsItem_24 (v := 20) rfl ?_
    refine k_iconst hq dX12_readsItem_26 (v := 5) rfl ?_
    refine k_bipush hq dX12_readsItem_27 (v := 19) rfl ?_
    refine k_callS hq (na := 5) (As := [.int 19, .int 9, .int 20, .int 5, .int 19]) (st := [.long v4]) (con_X12_word _ _ _ _ 19 9 20 5 19) tw_1085 tw_59 tw_1083 tw_1084 ⟨by decide, by decide, by decide +kernel⟩ rfl (by decide) rfl (Nat.le_of_ble_eq_true rfl) dX12_readsItem_29 fun v5 h6 => ?_
    refine k_lcmp hq dX12_readsItem_32 ?_
    refine k_if_ne hq (tgt := 68) dX12_readsItem_33 (by decide) (fun _ => ?_) (fun _ => ?_)
    · refine k_aload_n hq dX12_readsItem_36 1 rfl ?_
      refine k_gi hq (C := RX12) (T := TX12) 11 30 rfl (by decide) (lay_X12 30 (by decide)) tw_957 dX12_readsItem_37 fun v27 => ?_
      refine k_if_ne hq (tgt := 52) dX12_readsItem_40 (by decide) (fun _ => ?_) (fun _ => ?_)
      · refine k_aload_n hq dX12_readsItem_43 1 rfl ?_
        refine k_iconst hq dX12_readsItem_44 (v := 2) rfl ?_
        refine k_iconst hq dX12_readsItem_45 (v := 4) rfl ?_
        refine k_callV hq (na := 2) (As := [.int 2, .int 4]) (st := []) 11 (C := RX12) (T := TX12) rfl (con_X12_number _ _ _ _ N l0 2 4) tw_1089 tw_59 tw_1086 tw_1088 tw_26 ⟨by decide, by decide, by decide +kernel⟩ rfl (by decide) rfl (Nat.le_of_ble_eq_true rfl) dX12_readsItem_46 fun v28 h29 => ?_
        refine k_if_ne hq (tgt := 54) dX12_readsItem_49 (by decide) (fun _ => ?_) (fun _ => ?_)
        · refine k_iconst hq dX12_readsItem_52 (v := 0) rfl ?_
          exact k_zret hq dX12_readsItem_53 he
        · refine k_aload_n hq dX12_readsItem_54 1 rfl ?_
          refine k_aload_n hq dX12_readsItem_55 1 rfl ?_
          refine k_gl hq (C := RX12) (T := TX12) 11 29 rfl (by decide) (lay_X12 29 (by decide)) tw_956 dX12_readsItem_56 fun v30 => ?_
          refine k_l2i hq dX12_readsItem_59 ?_
          refine k_p hq (C := RX12) (T := TX12) 11 30 rfl (by decide) lay_X12 tyX12 tyX12_ok nmX12 tw_957 rfl rfl rfl dX12_readsItem_60 fun h31 => ?_
          refine k_aload_n hq dX12_readsItem_63 1 rfl ?_
          refine k_callV hq (na := 0) (As := []) (st := []) 11 (C := RX12) (T := TX12) rfl (con_X12_stops _ _ _ _ N l0) tw_1093 tw_59 tw_1090 tw_1092 tw_27 ⟨by decide, by decide, by decide +kernel⟩ rfl (by decide) rfl (Nat.le_of_ble_eq_true rfl) dX12_readsItem_64 fun v32 h33 => ?_
          exact k_zret hq dX12_readsItem_67 he
      · refine k_iconst hq dX12_readsItem_52 (v := 0) rfl ?_
        exact k_zret hq dX12_readsItem_53 he
    · refine k_lload_n hq dX12_readsItem_68 0 rfl ?_
      refine k_iconst hq dX12_readsItem_69 (v := 2) rfl ?_
      refine k_bipush hq dX12_readsItem_70 (v := 15) rfl ?_
      refine k_bipush hq dX12_readsItem_72 (v := 21) rfl ?_
      refine k_bipush hq dX12_readsItem_74 (v := 14) rfl ?_
      refine k_iconst hq dX12_readsItem_76 (v := 4) rfl ?_
      refine k_callS hq (na := 5) (As := [.int 2, .int 15, .int 21, .int 14, .int 4]) (st := [.long v4]) (con_X12_word _ _ _ _ 2 15 21 14 4) tw_1085 tw_59 tw_1083 tw_1084 ⟨by decide, by decide, by decide +kernel⟩ rfl (by decide) rfl (Nat.le_of_ble_eq_true rfl) dX12_readsItem_77 fun v7 h8 => ?_
      refine k_lcmp hq dX12_readsItem_80 ?_
      refine k_if_ne hq (tgt := 117) dX12_readsItem_81 (by decide) (fun _ => ?_) (fun _ => ?_)
      · refine k_aload_n hq dX12_readsItem_84 1 rfl ?_
        refine k_gi hq (C := RX12) (T := TX12) 11 31 rfl (by decide) (lay_X12 31 (by decide)) tw_958 dX12_readsItem_85 fun v20 => ?_
        refine k_if_ne hq (tgt := 101) dX12_readsItem_88 (by decide) (fun _ => ?_) (fun _ => ?_)
        · refine k_aload_n hq dX12_readsItem_91 1 rfl ?_
          refine k_iconst hq dX12_readsItem_92 (v := 1) rfl ?_
          refine k_bipush hq dX12_readsItem_93 (v := 6) rfl ?_
          refine k_callV hq (na := 2) (As := [.int 1, .int 6]) (st := []) 11 (C := RX12) (T := TX12) rfl (con_X12_number _ _ _ _ N l0 1 6) tw_1089 tw_59 tw_1086 tw_1088 tw_26 ⟨by decide, by decide, by decide +kernel⟩ rfl (by decide) rfl (Nat.le_of_ble_eq_true rfl) dX12_readsItem_95 fun v21 h22 => ?_
          refine k_if_ne hq (tgt := 103) dX12_readsItem_98 (by decide) (fun _ => ?_) (fun _ => ?_)
          · refine k_iconst hq dX12_readsItem_101 (v := 0) rfl ?_
            exact k_zret hq dX12_readsItem_102 he
          · refine k_aload_n hq dX12_readsItem_103 1 rfl ?_
            refine k_aload_n hq dX12_readsItem_104 1 rfl ?_
            refine k_gl hq (C := RX12) (T := TX12) 11 29 rfl (by decide) (lay_X12 29 (by decide)) tw_956 dX12_readsItem_105 fun v23 => ?_
            refine k_l2i hq dX12_readsItem_108 ?_
            refine k_p hq (C := RX12) (T := TX12) 11 31 rfl (by decide) lay_X12 tyX12 tyX12_ok nmX12 tw_958 rfl rfl rfl dX12_readsItem_109 fun h24 => ?_
            refine k_aload_n hq dX12_readsItem_112 1 rfl ?_
            refine k_callV hq (na := 0) (As := []) (st := []) 11 (C := RX12) (T := TX12) rfl (con_X12_stops _ _ _ _ N l0) tw_1093 tw_59 tw_1090 tw_1092 tw_27 ⟨by decide, by decide, by decide +kernel⟩ rfl (by decide) rfl (Nat.le_of_ble_eq_true rfl) dX12_readsItem_113 fun v25 h26 => ?_
            exact k_zret hq dX12_readsItem_116 he
        · refine k_iconst hq dX12_readsItem_101 (v := 0) rfl ?_
          exact k_zret hq dX12_readsItem_102 he
      · refine k_lload_n hq dX12_readsItem_117 0 rfl ?_
        refine k_bipush hq dX12_readsItem_118 (v := 12) rfl ?_
        refine k_bipush hq dX12_readsItem_120 (v := 9) rfl ?_
        refine k_bipush hq dX12_readsItem_122 (v := 13) rfl ?_
        refine k_bipush hq dX12_readsItem_124 (v := 9) rfl ?_
        refine k_bipush hq dX12_readsItem_126 (v := 20) rfl ?_
        refine k_callS hq (na := 5) (As := [.int 12, .int 9, .int 13, .int 9, .int 20]) (st := [.long v4]) (con_X12_word _ _ _ _ 12 9 13 9 20) tw_1085 tw_59 tw_1083 tw_1084 ⟨by decide, by decide, by decide +kernel⟩ rfl (by decide) rfl (Nat.le_of_ble_eq_true rfl) dX12_readsItem_128 fun v9 h10 => ?_
        refine k_lcmp hq dX12_readsItem_131 ?_
        refine k_if_ne hq (tgt := 167) dX12_readsItem_132 (by decide) (fun _ => ?_) (fun _ => ?_)
        · refine k_aload_n hq dX12_readsItem_135 1 rfl ?_
          refine k_gi hq (C := RX12) (T := TX12) 11 32 rfl (by decide) (lay_X12 32 (by decide)) tw_959 dX12_readsItem_136 fun v13 => ?_
          refine k_if_ne hq (tgt := 151) dX12_readsItem_139 (by decide) (fun _ => ?_) (fun _ => ?_)
          · refine k_aload_n hq dX12_readsItem_142 1 rfl ?_
            refine k_iconst hq dX12_readsItem_143 (v := 1) rfl ?_
            refine k_iconst hq dX12_readsItem_144 (v := 4) rfl ?_
            refine k_callV hq (na := 2) (As := [.int 1, .int 4]) (st := []) 11 (C := RX12) (T := TX12) rfl (con_X12_number _ _ _ _ N l0 1 4) tw_1089 tw_59 tw_1086 tw_1088 tw_26 ⟨by decide, by decide, by decide +kernel⟩ rfl (by decide) rfl (Nat.le_of_ble_eq_true rfl) dX12_readsItem_145 fun v14 h15 => ?_
            refine k_if_ne hq (tgt := 153) dX12_readsItem_148 (by decide) (fun _ => ?_) (fun _ => ?_)
            · refine k_iconst hq dX12_readsItem_151 (v := 0) rfl ?_
              exact k_zret hq dX12_readsItem_152 he
            · refine k_aload_n hq dX12_readsItem_153 1 rfl ?_
              refine k_aload_n hq dX12_readsItem_154 1 rfl ?_
              refine k_gl hq (C := RX12) (T := TX12) 11 29 rfl (by decide) (lay_X12 29 (by decide)) tw_956 dX12_readsItem_155 fun v16 => ?_
              refine k_l2i hq dX12_readsItem_158 ?_
              refine k_p hq (C := RX12) (T := TX12) 11 32 rfl (by decide) lay_X12 tyX12 tyX12_ok nmX12 tw_959 rfl rfl rfl dX12_readsItem_159 fun h17 => ?_
              refine k_aload_n hq dX12_readsItem_162 1 rfl ?_
              refine k_callV hq (na := 0) (As := []) (st := []) 11 (C := RX12) (T := TX12) rfl (con_X12_stops _ _ _ _ N l0) tw_1093 tw_59 tw_1090 tw_1092 tw_27 ⟨by decide, by decide, by decide +kernel⟩ rfl (by decide) rfl (Nat.le_of_ble_eq_true rfl) dX12_readsItem_163 fun v18 h19 => ?_
              exact k_zret hq dX12_readsItem_166 he
          · refine k_iconst hq dX12_readsItem_151 (v := 0) rfl ?_
            exact k_zret hq dX12_readsItem_152 he
        · refine k_lload_n hq dX12_readsItem_167 0 rfl ?_
          refine k_bipush hq dX12_readsItem_168 (v := 23) rfl ?_
          refine k_bipush hq dX12_readsItem_170 (v := 8) rfl ?_
          refine k_bipush hq dX12_readsItem_172 (v := 15) rfl ?_
          refine k_bipush hq dX12_readsItem_174 (v := 12) rfl ?_
          refine k_iconst hq dX12_readsItem_176 (v := 5) rfl ?_
          refine k_callS hq (na := 5) (As := [.int 23, .int 8, .int 15, .int 12, .int 5]) (st := [.long v4]) (con_X12_word _ _ _ _ 23 8 15 12 5) tw_1085 tw_59 tw_1083 tw_1084 ⟨by decide, by decide, by decide +kernel⟩ rfl (by decide) rfl (Nat.le_of_ble_eq_true rfl) dX12_readsItem_177 fun v11 h12 => ?_
          refine k_lcmp hq dX12_readsItem_180 ?_
          refine k_if_ne hq (tgt := 188) dX12_readsItem_181 (by decide) (fun _ => ?_) (fun _ => ?_)
          · refine k_iconst hq dX12_readsItem_184 (v := 1) rfl ?_
            refine k_goto hq (tgt := 189) dX12_readsItem_185 (by decide) ?_
            exact k_sub [1, 0] rfl (P_X12_readsItem_189 hq he N l0 v4 1 h12)
          · refine k_iconst hq dX12_readsItem_188 (v := 0) rfl ?_
            exact k_sub [1, 0] rfl (P_X12_readsItem_189 hq he N l0 v4 0 h12)
  · refine k_iconst hq dX12_readsItem_12 (v := 0) rfl ?_
    exact k_zret hq dX12_readsItem_13 he
theorem con_X12_readsItem (l : Launch) (G : eG) (B0 n : Nat) (N : Nat) (l0 : Nat) : e_C eI l G B0 n yX12_readsItem cX12_readsItem 4 (some .boolean) 4 89 [.ref l0] (F_X12_readsItem N l0) := by
  refine e_mk (by decide) (Nat.le_of_ble_eq_true rfl) fun q r0 h0 h hq he e1 e2 e3 e4 => ?_
  subst e1; subst e2; subst e3; subst e4
  exact P_X12_readsItem_0 hq he N l0 h
