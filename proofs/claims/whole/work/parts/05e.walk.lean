set_option maxRecDepth 100000 in
set_option maxHeartbeats 4000000 in
theorem P_X11_writes_148 {q : eT} {r0 : Int32} {h0 : eH} (hq : e_B q yX11_writes.cls cX11_writes 11 5 110 (some .int) yX11_writes.name) (he : e_E q) (N : Nat) (l0 : Nat) (l7 : Nat) (l8 : Nat) (l9 : Int32) (l10 : Int32) (s0 : Nat) (s1 : Int64) (s2 : Int32) (s3 : Int32) (s4 : Int32) (h : eH) : e_K eI q r0 h0 148 [(0, .ref l0), (7, .ref l7), (8, .ref l8), (9, .int l9), (10, .int l10)] [.int s4, .int s3, .int s2, .long s1, .ref s0] h (F_X11_writes_148 N l0 l7 l8 l9 l10 s0 s1 s2 s3 s4 h) := by
  unfold F_X11_writes_148
  refine k_callV hq (na := 4) (As := [.long s1, .int s2, .int s3, .int s4]) (st := []) 8 (C := RX8) (T := TX8) rfl (con_X8_take _ _ _ _ N s0 s1 s2 s3 s4) tw_602 tw_57 tw_599 tw_600 tw_601 ⟨by decide, by decide, by decide +kernel⟩ rfl (by decide) rfl (Nat.le_of_ble_eq_true rfl) dX11_writes_148 fun v1 h2 => ?_
  refine k_aload hq dX11_writes_151 2 rfl ?_
  refine k_aload_n hq dX11_writes_153 0 rfl ?_
  refine k_gi hq (C := RX11) (T := TX11) 10 8 rfl (by decide) (lay_X11 8 (by decide)) tw_319 dX11_writes_154 fun v3 => ?_
  refine k_callV hq (na := 1) (As := [.int v3]) (st := []) 8 (C := RX8) (T := TX8) rfl (con_X8_dropBeyond _ _ _ _ N l8 v3) tw_647 tw_57 tw_644 tw_645 tw_646 ⟨by decide, by decide, by decide +kernel⟩ rfl (by decide) rfl (Nat.le_of_ble_eq_true rfl) dX11_writes_157 fun v4 h5 => ?_
  refine k_iload hq dX11_writes_160 4 rfl ?_
  refine k_if_eq hq (tgt := 170) dX11_writes_162 (by decide) (fun _ => ?_) (fun _ => ?_)
  · refine k_iload hq dX11_writes_170 3 rfl ?_
    exact k_iret hq dX11_writes_172 he
  · refine k_aload hq dX11_writes_165 1 rfl ?_
    refine k_callV hq (na := 0) (As := []) (st := []) 0 (C := RX0) (T := TX0) rfl (con_X0_becomeBlind _ _ _ _ l7) tw_508 tw_58 tw_505 tw_506 tw_507 ⟨by decide, by decide, by decide +kernel⟩ rfl (by decide) rfl (Nat.le_of_ble_eq_true rfl) dX11_writes_167 fun v6 h7 => ?_
    refine k_iload hq dX11_writes_170 3 rfl ?_
    exact k_iret hq dX11_writes_172 he
set_option maxRecDepth 100000 in
set_option maxHeartbeats 4000000 in
theorem P_X11_writes_134 {q : eT} {r0 : Int32} {h0 : eH} (hq : e_B q yX11_writes.cls cX11_writes 11 5 110 (some .int) yX11_writes.name) (he : e_E q) (N : Nat) (l0 : Nat) (l7 : Nat) (l8 : Nat) (l9 : Int32) (l10 : Int32) (s0 : Nat) (s1 : Int64) (s2 : Int32) (s3 : Int32) (h : eH) : e_K eI q r0 h0 134 [(0, .ref l0), (7, .ref l7), (8, .ref l8), (9, .int l9), (10, .int l10)] [.int s3, .int s2, .long s1, .ref s0] h (F_X11_writes_134 N l0 l7 l8 l9 l10 s0 s1 s2 s3 h) := by
  unfold F_X11_writes_134
  refine k_iload hq dX11_writes_134 4 rfl ?_
  refine k_if_eq hq (tgt := 147) dX11_writes_136 (by decide) (fun _ => ?_) (fun _ => ?_)
  · refine k_iconst hq dX11_writes_147 (v := 0) rfl ?_
    exact k_sub [0, 1, 2, 3, 4] rfl (P_X11_writes_148 hq he N l0 l7 l8 l9 l10 s0 s1 s2 s3 0 h)
  · refine k_aload hq dX11_writes_139 1 rfl ?_
    refine k_giN hq (C := RX0) (T := TX0) 0 1 rfl (by decide) (lay_X0 1 (by decide)) tw_301 dX11_writes_141 fun v1 => ?_
    refine k_goto hq (tgt := 148) dX11_writes_144 (by decide) ?_
    exact k_sub [0, 1, 2, 3, 4] rfl (P_X11_writes_148 hq he N l0 l7 l8 l9 l10 s0 s1 s2 s3 v1 h)
set_option maxRecDepth 100000 in
set_option maxHeartbeats 4000000 in
theorem P_X11_writes_100 {q : eT} {r0 : Int32} {h0 : eH} (hq : e_B q yX11_writes.cls cX11_writes 11 5 110 (some .int) yX11_writes.name) (he : e_E q) (N : Nat) (l0 : Nat) (l5 : Int64) (l7 : Nat) (l8 : Nat) (l9 : Int32) (s0 : Int32) (h : eH) : e_K eI q r0 h0 100 [(0, .ref l0), (5, .long l5), (7, .ref l7), (8, .ref l8), (9, .int l9)] [.int s0] h (F_X11_writes_100 N l0 l5 l7 l8 l9 s0 h) := by
  unfold F_X11_writes_100
  refine k_istore hq dX11_writes_100 (by decide) (ls' := [(10, .int s0), (0, .ref l0), (5, .long l5), (7, .ref l7), (8, .ref l8), (9, .int l9)]) rfl ?_
  refine k_aload_n hq dX11_writes_102 1 rfl ?_
  refine k_dup hq dX11_writes_103 rfl ?_
  refine k_gi hq (C := RX11) (T := TX11) 10 11 rfl (by decide) (lay_X11 11 (by decide)) tw_322 dX11_writes_104 fun v1 => ?_
  refine k_iconst hq dX11_writes_107 (v := 1) rfl ?_
  refine k_iadd hq dX11_writes_108 ?_
  refine k_p hq (C := RX11) (T := TX11) 10 11 rfl (by decide) lay_X11 tyX11 tyX11_ok nmX11 tw_322 rfl rfl rfl dX11_writes_109 fun h2 => ?_
  refine k_aload hq dX11_writes_112 4 rfl ?_
  refine k_lload hq dX11_writes_114 2 rfl ?_
  refine k_aload_n hq dX11_writes_116 1 rfl ?_
  refine k_gi hq (C := RX11) (T := TX11) 10 11 rfl (by decide) (lay_X11 11 (by decide)) tw_322 dX11_writes_117 fun v3 => ?_
  refine k_iload hq dX11_writes_120 0 rfl ?_
  refine k_if_eq hq (tgt := 133) dX11_writes_122 (by decide) (fun _ => ?_) (fun _ => ?_)
  · refine k_iconst hq dX11_writes_133 (v := 0) rfl ?_
    exact k_sub [1, 3, 4, 5, 0] rfl (P_X11_writes_134 hq he N l0 l7 l8 l9 s0 l8 l5 v3 0 h2)
  · refine k_aload hq dX11_writes_125 3 rfl ?_
    refine k_giN hq (C := RX0) (T := TX0) 0 2 rfl (by decide) (lay_X0 2 (by decide)) tw_303 dX11_writes_127 fun v4 => ?_
    refine k_goto hq (tgt := 134) dX11_writes_130 (by decide) ?_
    exact k_sub [1, 3, 4, 5, 0] rfl (P_X11_writes_134 hq he N l0 l7 l8 l9 s0 l8 l5 v3 v4 h2)
set_option maxRecDepth 100000 in
set_option maxHeartbeats 4000000 in
theorem P_X11_writes_53 {q : eT} {r0 : Int32} {h0 : eH} (hq : e_B q yX11_writes.cls cX11_writes 11 5 110 (some .int) yX11_writes.name) (he : e_E q) (N : Nat) (l0 : Nat) (l3 : Int32) (l4 : Int32) (l5 : Int64) (l7 : Nat) (l8 : Nat) (h : eH) : e_K eI q r0 h0 53 [(0, .ref l0), (3, .int l3), (4, .int l4), (5, .long l5), (7, .ref l7), (8, .ref l8)] [] h (F_X11_writes_53 N l0 l3 l4 l5 l7 l8 h) := by
  unfold F_X11_writes_53
  refine k_aload hq dX11_writes_53 5 rfl ?_
  refine k_callV hq (na := 0) (As := []) (st := []) 8 (C := RX8) (T := TX8) rfl (con_X8_nextNumber _ _ _ _ l8) tw_597 tw_57 tw_594 tw_595 tw_596 ⟨by decide, by decide, by decide +kernel⟩ rfl (by decide) rfl (Nat.le_of_ble_eq_true rfl) dX11_writes_55 fun v1 h2 => ?_
  refine k_istore hq dX11_writes_58 (by decide) (ls' := [(9, .int v1), (0, .ref l0), (3, .int l3), (4, .int l4), (5, .long l5), (7, .ref l7), (8, .ref l8)]) rfl ?_
  refine k_iload hq dX11_writes_60 0 rfl ?_
  refine k_bipush hq dX11_writes_62 (v := 40) rfl ?_
  refine k_icmp_le hq (tgt := 70) dX11_writes_64 (by decide) (fun _ => ?_) (fun _ => ?_)
  · refine k_aload hq dX11_writes_70 6 rfl ?_
    refine k_grN hq (C := RX8) (T := TX8) 8 1 rfl (by decide) (lay_X8 1 (by decide)) tw_269 dX11_writes_72 fun v3 => ?_
    refine k_giN hq (C := RX3) (T := TX3) 3 8 rfl (by decide) (lay_X3 8 (by decide)) tw_228 dX11_writes_75 fun v4 => ?_
    refine k_iload hq dX11_writes_78 3 rfl ?_
    refine k_icmp_eq hq (tgt := 86) dX11_writes_80 (by decide) (fun _ => ?_) (fun _ => ?_)
    · refine k_aload hq dX11_writes_86 5 rfl ?_
      refine k_giN hq (C := RX0) (T := TX0) 0 0 rfl (by decide) (lay_X0 0 (by decide)) tw_299 dX11_writes_88 fun v5 => ?_
      refine k_iload_n hq dX11_writes_91 2 rfl ?_
      refine k_icmp_ne hq (tgt := 99) dX11_writes_92 (by decide) (fun _ => ?_) (fun _ => ?_)
      · refine k_iconst hq dX11_writes_95 (v := 1) rfl ?_
        refine k_goto hq (tgt := 100) dX11_writes_96 (by decide) ?_
        exact k_sub [1, 4, 5, 6, 0] rfl (P_X11_writes_100 hq he N l0 l5 l7 l8 v1 1 h2)
      · refine k_iconst hq dX11_writes_99 (v := 0) rfl ?_
        exact k_sub [1, 4, 5, 6, 0] rfl (P_X11_writes_100 hq he N l0 l5 l7 l8 v1 0 h2)
    · refine k_bipush hq dX11_writes_83 (v := (-4)) rfl ?_
      exact k_iret hq dX11_writes_85 he
  · refine k_bipush hq dX11_writes_67 (v := (-3)) rfl ?_
    exact k_iret hq dX11_writes_69 he
set_option maxRecDepth 100000 in
set_option maxHeartbeats 4000000 in
theorem P_X11_writes_0 {q : eT} {r0 : Int32} {h0 : eH} (hq : e_B q yX11_writes.cls cX11_writes 11 5 110 (some .int) yX11_writes.name) (he : e_E q) (N : Nat) (l0 : Nat) (l1 : Int32) (l2 : Int32) (l3 : Int32) (l4 : Int32) (l5 : Int64) (h : eH) : e_K eI q r0 h0 0 [(0, .ref l0), (1, .int l1), (2, .int l2), (3, .int l3), (4, .int l4), (5, .long l5)] [] h (F_X11_writes N l0 l1 l2 l3 l4 l5 h) := by
  unfold F_X11_writes
  refine k_aload_n hq dX11_writes_0 0 rfl ?_
  refine k_iload_n hq dX11_writes_1 1 rfl ?_
  refine k_callV hq (na := 1) (As := [.int l1]) (st := []) 10 (C := RX11) (T := TX11) rfl (con_X11_clientAt _ _ _ _ l0 l1) tw_521 tw_48 tw_518 tw_520 tw_9 ⟨by decide, by decide, by decide +kernel⟩ rfl (by decide) rfl (Nat.le_of_ble_eq_true rfl) dX11_writes_2 fun v1 h2 => ?_
  refine k_qstore hq dX11_writes_5 (by decide) (ls' := [(7, va_rf v1), (0, .ref l0), (1, .int l1), (2, .int l2), (3, .int l3), (4, .int l4), (5, .long l5)]) rfl ?_
  refine k_aload_n hq dX11_writes_7 1 rfl ?_
  refine k_iload_n hq dX11_writes_8 3 rfl ?_
  refine k_iload_n hq dX11_writes_9 4 rfl ?_
  refine k_callV hq (na := 2) (As := [.int l2, .int l3]) (st := []) 10 (C := RX11) (T := TX11) rfl (con_X11_replicaAt _ _ _ _ l0 l2 l3) tw_525 tw_48 tw_522 tw_524 tw_10 ⟨by decide, by decide, by decide +kernel⟩ rfl (by decide) rfl (Nat.le_of_ble_eq_true rfl) dX11_writes_10 fun v3 h4 => ?_
  refine k_qstore hq dX11_writes_13 (by decide) (ls' := [(8, va_rf v3), (7, va_rf v1), (0, .ref l0), (1, .int l1), (2, .int l2), (3, .int l3), (4, .int l4), (5, .long l5)]) (by simp [e_cat]) ?_
  refine k_qload hq dX11_writes_15 1 rfl ?_
  refine k_ifnull hq (tgt := 36) dX11_writes_17 (by decide) (fun hr => ?_) (fun r5 hr => ?_)
  · subst hr
    refine k_iconst hq dX11_writes_36 (v := (-1)) rfl ?_
    exact k_iret hq dX11_writes_37 he
  · subst hr
    refine k_qload hq dX11_writes_20 0 rfl ?_
    refine k_ifnull hq (tgt := 36) dX11_writes_22 (by decide) (fun hr => ?_) (fun r6 hr => ?_)
    · subst hr
      refine k_iconst hq dX11_writes_36 (v := (-1)) rfl ?_
      exact k_iret hq dX11_writes_37 he
    · subst hr
      refine k_iload hq dX11_writes_25 6 rfl ?_
      refine k_if_lt hq (tgt := 36) dX11_writes_27 (by decide) (fun _ => ?_) (fun _ => ?_)
      · refine k_iconst hq dX11_writes_36 (v := (-1)) rfl ?_
        exact k_iret hq dX11_writes_37 he
      · refine k_iload hq dX11_writes_30 6 rfl ?_
        refine k_iconst hq dX11_writes_32 (v := 1) rfl ?_
        refine k_icmp_le hq (tgt := 38) dX11_writes_33 (by decide) (fun _ => ?_) (fun _ => ?_)
        · refine k_iload hq dX11_writes_38 6 rfl ?_
          refine k_iconst hq dX11_writes_40 (v := 1) rfl ?_
          refine k_icmp_ne hq (tgt := 53) dX11_writes_41 (by decide) (fun _ => ?_) (fun _ => ?_)
          · refine k_lload hq dX11_writes_44 7 rfl ?_
            refine k_lconst hq dX11_writes_46 (v := 0) rfl ?_
            refine k_lcmp hq dX11_writes_47 ?_
            refine k_if_ge hq (tgt := 53) dX11_writes_48 (by decide) (fun _ => ?_) (fun _ => ?_)
            · exact k_sub [2, 5, 6, 7, 1, 0] rfl (P_X11_writes_53 hq he N l0 l3 l4 l5 r5 r6 h4)
            · refine k_iconst hq dX11_writes_51 (v := (-1)) rfl ?_
              exact k_iret hq dX11_writes_52 he
          · exact k_sub [2, 5, 6, 7, 1, 0] rfl (P_X11_writes_53 hq he N l0 l3 l4 l5 r5 r6 h4)
        · refine k_iconst hq dX11_writes_36 (v := (-1)) rfl ?_
          exact k_iret hq dX11_writes_37 he
theorem con_X11_writes (l : Launch) (G : eG) (B0 n : Nat) (N : Nat) (l0 : Nat) (l1 : Int32) (l2 : Int32) (l3 : Int32) (l4 : Int32) (l5 : Int64) : e_C eI l G B0 n yX11_writes cX11_writes 11 (some .int) 5 110 [.ref l0, .int l1, .int l2, .int l3, .int l4, .long l5] (F_X11_writes N l0 l1 l2 l3 l4 l5) := by
  refine e_mk (by decide) (Nat.le_of_ble_eq_true rfl) fun q r0 h0 h hq he e1 e2 e3 e4 => ?_
  subst e1; subst e2; subst e3; subst e4
  exact P_X11_writes_0 hq he N l0 l1 l2 l3 l4 l5 h
set_option maxRecDepth 100000 in
set_option maxHeartbeats 4000000 in
theorem P_X11_blinds_0 {q : eT} {r0 : Int32} {h0 : eH} (hq : e_B q yX11_blinds.cls cX11_blinds 3 1 21 (some .int) yX11_blinds.name) (he : e_E q) (l0 : Nat) (l1 : Int32) (h : eH) : e_K eI q r0 h0 0 [(0, .ref l0), (1, .int l1)] [] h (F_X11_blinds l0 l1 h) := by
  unfold F_X11_blinds
  refine k_aload_n hq dX11_blinds_0 0 rfl ?_
  refine k_iload_n hq dX11_blinds_1 1 rfl ?_
  refine k_callV hq (na := 1) (As := [.int l1]) (st := []) 10 (C := RX11) (T := TX11) rfl (con_X11_clientAt _ _ _ _ l0 l1) tw_521 tw_48 tw_518 tw_520 tw_9 ⟨by decide, by decide, by decide +kernel⟩ rfl (by decide) rfl (Nat.le_of_ble_eq_true rfl) dX11_blinds_2 fun v1 h2 => ?_
  refine k_qstore_n hq dX11_blinds_5 rfl (by decide) (ls' := [(2, va_rf v1), (0, .ref l0), (1, .int l1)]) rfl ?_
  refine k_qload_n hq dX11_blinds_6 0 rfl ?_
  refine k_ifnonnull hq (tgt := 12) dX11_blinds_7 (by decide) (fun hr => ?_) (fun r3 hr => ?_)
  · subst hr
    refine k_iconst hq dX11_blinds_10 (v := (-1)) rfl ?_
    exact k_iret hq dX11_blinds_11 he
  · subst hr
    refine k_aload_n hq dX11_blinds_12 0 rfl ?_
    refine k_callV hq (na := 0) (As := []) (st := []) 0 (C := RX0) (T := TX0) rfl (con_X0_isBlind _ _ _ _ r3) tw_668 tw_58 tw_665 tw_666 tw_667 ⟨by decide, by decide, by decide +kernel⟩ rfl (by decide) rfl (Nat.le_of_ble_eq_true rfl) dX11_blinds_13 fun v4 h5 => ?_
    refine k_if_eq hq (tgt := 21) dX11_blinds_16 (by decide) (fun _ => ?_) (fun _ => ?_)
    · refine k_aload_n hq dX11_blinds_21 0 rfl ?_
      refine k_callV hq (na := 0) (As := []) (st := []) 0 (C := RX0) (T := TX0) rfl (con_X0_becomeBlind _ _ _ _ r3) tw_508 tw_58 tw_505 tw_506 tw_507 ⟨by decide, by decide, by decide +kernel⟩ rfl (by decide) rfl (Nat.le_of_ble_eq_true rfl) dX11_blinds_22 fun v6 h7 => ?_
      refine k_iconst hq dX11_blinds_25 (v := 1) rfl ?_
      exact k_iret hq dX11_blinds_26 he
    · refine k_iconst hq dX11_blinds_19 (v := 0) rfl ?_
      exact k_iret hq dX11_blinds_20 he
theorem con_X11_blinds (l : Launch) (G : eG) (B0 n : Nat) (l0 : Nat) (l1 : Int32) : e_C eI l G B0 n yX11_blinds cX11_blinds 3 (some .int) 1 21 [.ref l0, .int l1] (F_X11_blinds l0 l1) := by
  refine e_mk (by decide) (Nat.le_of_ble_eq_true rfl) fun q r0 h0 h hq he e1 e2 e3 e4 => ?_
  subst e1; subst e2; subst e3; subst e4
  exact P_X11_blinds_0 hq he l0 l1 h
set_option maxRecDepth 100000 in
set_option maxHeartbeats 4000000 in
theorem P_X11_sends_0 {q : eT} {r0 : Int32} {h0 : eH} (hq : e_B q yX11_sends.cls cX11_sends 6 5 110 (some .int) yX11_sends.name) (he : e_E q) (N : Nat) (l0 : Nat) (l1 : Int32) (l2 : Int32) (l3 : Int32) (h : eH) : e_K eI q r0 h0 0 [(0, .ref l0), (1, .int l1), (2, .int l2), (3, .int l3)] [] h (F_X11_sends N l0 l1 l2 l3 h) := by
  unfold F_X11_sends
  refine k_aload_n hq dX11_sends_0 0 rfl ?_
  refine k_iload_n hq dX11_sends_1 1 rfl ?_
  refine k_iload_n hq dX11_sends_2 3 rfl ?_
  refine k_callV hq (na := 2) (As := [.int l1, .int l3]) (st := []) 10 (C := RX11) (T := TX11) rfl (con_X11_replicaAt _ _ _ _ l0 l1 l3) tw_525 tw_48 tw_522 tw_524 tw_10 ⟨by decide, by decide, by decide +kernel⟩ rfl (by decide) rfl (Nat.le_of_ble_eq_true rfl) dX11_sends_3 fun v1 h2 => ?_
  refine k_qstore hq dX11_sends_6 (by decide) (ls' := [(4, va_rf v1), (0, .ref l0), (1, .int l1), (2, .int l2), (3, .int l3)]) rfl ?_
  refine k_aload_n hq dX11_sends_8 1 rfl ?_
  refine k_iload_n hq dX11_sends_9 3 rfl ?_
  refine k_iload_n hq dX11_sends_10 4 rfl ?_
  refine k_callV hq (na := 2) (As := [.int l2, .int l3]) (st := []) 10 (C := RX11) (T := TX11) rfl (con_X11_replicaAt _ _ _ _ l0 l2 l3) tw_525 tw_48 tw_522 tw_524 tw_10 ⟨by decide, by decide, by decide +kernel⟩ rfl (by decide) rfl (Nat.le_of_ble_eq_true rfl) dX11_sends_11 fun v3 h4 => ?_
  refine k_qstore hq dX11_sends_14 (by decide) (ls' := [(5, va_rf v3), (4, va_rf v1), (0, .ref l0), (1, .int l1), (2, .int l2), (3, .int l3)]) (by simp [e_cat]) ?_
  refine k_qload hq dX11_sends_16 1 rfl ?_
  refine k_ifnull hq (tgt := 31) dX11_sends_18 (by decide) (fun hr => ?_) (fun r5 hr => ?_)
  · subst hr
    refine k_iconst hq dX11_sends_31 (v := (-1)) rfl ?_
    exact k_iret hq dX11_sends_32 he
  · subst hr
    refine k_qload hq dX11_sends_21 0 rfl ?_
    refine k_ifnull hq (tgt := 31) dX11_sends_23 (by decide) (fun hr => ?_) (fun r6 hr => ?_)
    · subst hr
      refine k_iconst hq dX11_sends_31 (v := (-1)) rfl ?_
      exact k_iret hq dX11_sends_32 he
    · subst hr
      refine k_iload_n hq dX11_sends_26 3 rfl ?_
      refine k_iload_n hq dX11_sends_27 4 rfl ?_
      refine k_icmp_ne hq (tgt := 33) dX11_sends_28 (by decide) (fun _ => ?_) (fun _ => ?_)
      · refine k_iconst hq dX11_sends_31 (v := (-1)) rfl ?_
        exact k_iret hq dX11_sends_32 he
      · refine k_aload hq dX11_sends_33 0 rfl ?_
        refine k_aload hq dX11_sends_35 1 rfl ?_
        refine k_callV hq (na := 1) (As := [.ref r5]) (st := []) 8 (C := RX8) (T := TX8) rfl (con_X8_receive _ _ _ _ N r6 r5) tw_676 tw_57 tw_673 tw_674 tw_675 ⟨by decide, by decide, by decide +kernel⟩ rfl (by decide) rfl (Nat.le_of_ble_eq_true rfl) dX11_sends_37 fun v7 h8 => ?_
        refine k_aload hq dX11_sends_40 0 rfl ?_
        refine k_aload_n hq dX11_sends_42 2 rfl ?_
        refine k_gi hq (C := RX11) (T := TX11) 10 8 rfl (by decide) (lay_X11 8 (by decide)) tw_319 dX11_sends_43 fun v9 => ?_
        refine k_callV hq (na := 1) (As := [.int v9]) (st := []) 8 (C := RX8) (T := TX8) rfl (con_X8_dropBeyond _ _ _ _ N r6 v9) tw_647 tw_57 tw_644 tw_645 tw_646 ⟨by decide, by decide, by decide +kernel⟩ rfl (by decide) rfl (Nat.le_of_ble_eq_true rfl) dX11_sends_46 fun v10 h11 => ?_
        refine k_aload hq dX11_sends_49 0 rfl ?_
        refine k_grN hq (C := RX8) (T := TX8) 8 2 rfl (by decide) (lay_X8 2 (by decide)) tw_272 dX11_sends_51 fun v12 => ?_
        refine k_callV hq (na := 0) (As := []) (st := []) 1 (C := RX1) (T := TX1) rfl (con_X1_size _ _ _ _ N v12) tw_583 tw_56 tw_580 tw_581 tw_582 ⟨by decide, by decide, by decide +kernel⟩ rfl (by decide) rfl (Nat.le_of_ble_eq_true rfl) dX11_sends_54 fun v13 h14 => ?_
        exact k_iret hq dX11_sends_57 he
theorem con_X11_sends (l : Launch) (G : eG) (B0 n : Nat) (N : Nat) (l0 : Nat) (l1 : Int32) (l2 : Int32) (l3 : Int32) : e_C eI l G B0 n yX11_sends cX11_sends 6 (some .int) 5 110 [.ref l0, .int l1, .int l2, .int l3] (F_X11_sends N l0 l1 l2 l3) := by
  refine e_mk (by decide) (Nat.le_of_ble_eq_true rfl) fun q r0 h0 h hq he e1 e2 e3 e4 => ?_
  subst e1; subst e2; subst e3; subst e4
  exact P_X11_sends_0 hq he N l0 l1 l2 l3 h
set_option maxRecDepth 100000 in
set_option maxHeartbeats 4000000 in
theorem P_X11_merges_0 {q : eT} {r0 : Int32} {h0 : eH} (hq : e_B q yX11_merges.cls cX11_merges 6 5 115 (some .int) yX11_merges.name) (he : e_E q) (N : Nat) (l0 : Nat) (l1 : Int32) (l2 : Int32) (h : eH) : e_K eI q r0 h0 0 [(0, .ref l0), (1, .int l1), (2, .int l2)] [] h (F_X11_merges N l0 l1 l2 h) := by
  unfold F_X11_merges
  refine k_aload_n hq dX11_merges_0 0 rfl ?_
  refine k_iload_n hq dX11_merges_1 1 rfl ?_
  refine k_iload_n hq dX11_merges_2 2 rfl ?_
  refine k_callV hq (na := 2) (As := [.int l1, .int l2]) (st := []) 10 (C := RX11) (T := TX11) rfl (con_X11_replicaAt _ _ _ _ l0 l1 l2) tw_525 tw_48 tw_522 tw_524 tw_10 ⟨by decide, by decide, by decide +kernel⟩ rfl (by decide) rfl (Nat.le_of_ble_eq_true rfl) dX11_merges_3 fun v1 h2 => ?_
  refine k_qstore_n hq dX11_merges_6 rfl (by decide) (ls' := [(3, va_rf v1), (0, .ref l0), (1, .int l1), (2, .int l2)]) rfl ?_
  refine k_qload_n hq dX11_merges_7 0 rfl ?_
  refine k_ifnonnull hq (tgt := 13) dX11_merges_8 (by decide) (fun hr => ?_) (fun r3 hr => ?_)
  · subst hr
    refine k_iconst hq dX11_merges_11 (v := (-1)) rfl ?_
    exact k_iret hq dX11_merges_12 he
  · subst hr
    refine k_aload_n hq dX11_merges_13 1 rfl ?_
    refine k_gr hq (C := RX11) (T := TX11) 10 4 rfl (by decide) (lay_X11 4 (by decide)) tw_315 dX11_merges_14 fun v4 => ?_
    refine k_iload_n hq dX11_merges_17 3 rfl ?_
    refine k_callV hq (na := 1) (As := [.int l2]) (st := []) 5 (C := RX5) (T := TX5) rfl (con_X5_ruleOf _ _ _ _ N v4 l2) tw_688 tw_51 tw_685 tw_686 tw_687 ⟨by decide, by decide, by decide +kernel⟩ rfl (by decide) rfl (Nat.le_of_ble_eq_true rfl) dX11_merges_18 fun v5 h6 => ?_
    refine k_istore hq dX11_merges_21 (by decide) (ls' := [(4, .int v5), (3, .ref r3), (0, .ref l0), (1, .int l1), (2, .int l2)]) rfl ?_
    refine k_iload hq dX11_merges_23 0 rfl ?_
    refine k_bipush hq dX11_merges_25 (v := (-9)) rfl ?_
    refine k_icmp_eq hq (tgt := 41) dX11_merges_27 (by decide) (fun _ => ?_) (fun _ => ?_)
    · refine k_bipush hq dX11_merges_41 (v := (-2)) rfl ?_
      exact k_iret hq dX11_merges_43 he
    · refine k_aload_n hq dX11_merges_30 1 rfl ?_
      refine k_grN hq (C := RX8) (T := TX8) 8 2 rfl (by decide) (lay_X8 2 (by decide)) tw_272 dX11_merges_31 fun v7 => ?_
      refine k_callV hq (na := 0) (As := []) (st := []) 1 (C := RX1) (T := TX1) rfl (con_X1_size _ _ _ _ N v7) tw_583 tw_56 tw_580 tw_581 tw_582 ⟨by decide, by decide, by decide +kernel⟩ rfl (by decide) rfl (Nat.le_of_ble_eq_true rfl) dX11_merges_34 fun v8 h9 => ?_
      refine k_iconst hq dX11_merges_37 (v := 2) rfl ?_
      refine k_icmp_ge hq (tgt := 44) dX11_merges_38 (by decide) (fun _ => ?_) (fun _ => ?_)
      · refine k_aload_n hq dX11_merges_44 1 rfl ?_
        refine k_callV hq (na := 0) (As := []) (st := []) 8 (C := RX8) (T := TX8) rfl (con_X8_nextNumber _ _ _ _ r3) tw_597 tw_57 tw_594 tw_595 tw_596 ⟨by decide, by decide, by decide +kernel⟩ rfl (by decide) rfl (Nat.le_of_ble_eq_true rfl) dX11_merges_45 fun v10 h11 => ?_
        refine k_istore hq dX11_merges_48 (by decide) (ls' := [(5, .int v10), (4, .int v5), (3, .ref r3), (0, .ref l0), (1, .int l1), (2, .int l2)]) rfl ?_
        refine k_iload hq dX11_merges_50 0 rfl ?_
        refine k_bipush hq dX11_merges_52 (v := 40) rfl ?_
        refine k_icmp_le hq (tgt := 60) dX11_merges_54 (by decide) (fun _ => ?_) (fun _ => ?_)
        · refine k_aload_n hq dX11_merges_60 2 rfl ?_
          refine k_aload_n hq dX11_merges_61 3 rfl ?_
          refine k_gr hq (C := RX11) (T := TX11) 10 5 rfl (by decide) (lay_X11 5 (by decide)) tw_316 dX11_merges_62 fun v12 => ?_
          refine k_iload hq dX11_merges_65 1 rfl ?_
          refine k_callV hq (na := 2) (As := [.ref v12, .int v5]) (st := []) 8 (C := RX8) (T := TX8) rfl (con_X8_blend _ _ _ _ N r3 v12 v5) tw_704 tw_57 tw_701 tw_702 tw_703 ⟨by decide, by decide, by decide +kernel⟩ rfl (by decide) rfl (Nat.le_of_ble_eq_true rfl) dX11_merges_67 fun v13 h14 => ?_
          refine k_aload_n hq dX11_merges_70 3 rfl ?_
          refine k_gr hq (C := RX11) (T := TX11) 10 5 rfl (by decide) (lay_X11 5 (by decide)) tw_316 dX11_merges_71 fun v15 => ?_
          refine k_giN hq (C := RX6) (T := TX6) 6 3 rfl (by decide) (lay_X6 3 (by decide)) tw_162 dX11_merges_74 fun v16 => ?_
          refine k_if_eq hq (tgt := 83) dX11_merges_77 (by decide) (fun _ => ?_) (fun _ => ?_)
          · refine k_aload_n hq dX11_merges_83 3 rfl ?_
            refine k_dup hq dX11_merges_84 rfl ?_
            refine k_gi hq (C := RX11) (T := TX11) 10 11 rfl (by decide) (lay_X11 11 (by decide)) tw_322 dX11_merges_85 fun v17 => ?_
            refine k_iconst hq dX11_merges_88 (v := 1) rfl ?_
            refine k_iadd hq dX11_merges_89 ?_
            refine k_p hq (C := RX11) (T := TX11) 10 11 rfl (by decide) lay_X11 tyX11 tyX11_ok nmX11 tw_322 rfl rfl rfl dX11_merges_90 fun h18 => ?_
            refine k_aload_n hq dX11_merges_93 2 rfl ?_
            refine k_aload_n hq dX11_merges_94 3 rfl ?_
            refine k_gr hq (C := RX11) (T := TX11) 10 5 rfl (by decide) (lay_X11 5 (by decide)) tw_316 dX11_merges_95 fun v19 => ?_
            refine k_glN hq (C := RX6) (T := TX6) 6 2 rfl (by decide) (lay_X6 2 (by decide)) tw_160 dX11_merges_98 fun v20 => ?_
            refine k_aload_n hq dX11_merges_101 3 rfl ?_
            refine k_gi hq (C := RX11) (T := TX11) 10 11 rfl (by decide) (lay_X11 11 (by decide)) tw_322 dX11_merges_102 fun v21 => ?_
            refine k_callV hq (na := 2) (As := [.long v20, .int v21]) (st := []) 8 (C := RX8) (T := TX8) rfl (con_X8_mergeInto _ _ _ _ N r3 v20 v21) tw_745 tw_57 tw_742 tw_743 tw_744 ⟨by decide, by decide, by decide +kernel⟩ rfl (by decide) rfl (Nat.le_of_ble_eq_true rfl) dX11_merges_105 fun v22 h23 => ?_
            refine k_iload hq dX11_merges_108 0 rfl ?_
            exact k_iret hq dX11_merges_110 he
          · refine k_bipush hq dX11_merges_80 (v := (-5)) rfl ?_
            exact k_iret hq dX11_merges_82 he
        · refine k_bipush hq dX11_merges_57 (v := (-3)) rfl ?_
          exact k_iret hq dX11_merges_59 he
      · refine k_bipush hq dX11_merges_41 (v := (-2)) rfl ?_
        exact k_iret hq dX11_merges_43 he
theorem con_X11_merges (l : Launch) (G : eG) (B0 n : Nat) (N : Nat) (l0 : Nat) (l1 : Int32) (l2 : Int32) : e_C eI l G B0 n yX11_merges cX11_merges 6 (some .int) 5 115 [.ref l0, .int l1, .int l2] (F_X11_merges N l0 l1 l2) := by
  refine e_mk (by decide) (Nat.le_of_ble_eq_true rfl) fun q r0 h0 h hq he e1 e2 e3 e4 => ?_
  subst e1; subst e2; subst e3; subst e4
  exact P_X11_merges_0 hq he N l0 l1 l2 h
set_option maxRecDepth 100000 in
set_option maxHeartbeats 4000000 in
theorem P_X11_rules_0 {q : eT} {r0 : Int32} {h0 : eH} (hq : e_B q yX11_rules.cls cX11_rules 3 2 46 (some .int) yX11_rules.name) (he : e_E q) (N : Nat) (l0 : Nat) (l1 : Int32) (l2 : Int32) (h : eH) : e_K eI q r0 h0 0 [(0, .ref l0), (1, .int l1), (2, .int l2)] [] h (F_X11_rules N l0 l1 l2 h) := by
  unfold F_X11_rules
  refine k_aload_n hq dX11_rules_0 0 rfl ?_
  refine k_iload_n hq dX11_rules_1 1 rfl ?_
  refine k_callV hq (na := 1) (As := [.int l1]) (st := []) 10 (C := RX11) (T := TX11) rfl (con_X11_keyAt _ _ _ _ l0 l1) tw_529 tw_48 tw_526 tw_528 tw_11 ⟨by decide, by decide, by decide +kernel⟩ rfl (by decide) rfl (Nat.le_of_ble_eq_true rfl) dX11_rules_2 fun v1 h2 => ?_
  refine k_ifnull hq (tgt := 17) dX11_rules_5 (by decide) (fun hr => ?_) (fun r3 hr => ?_)
  · subst hr
    refine k_iconst hq dX11_rules_17 (v := (-1)) rfl ?_
    exact k_iret hq dX11_rules_18 he
  · subst hr
    refine k_iload_n hq dX11_rules_8 2 rfl ?_
    refine k_if_lt hq (tgt := 17) dX11_rules_9 (by decide) (fun _ => ?_) (fun _ => ?_)
    · refine k_iconst hq dX11_rules_17 (v := (-1)) rfl ?_
      exact k_iret hq dX11_rules_18 he
    · refine k_iload_n hq dX11_rules_12 2 rfl ?_
      refine k_iconst hq dX11_rules_13 (v := 4) rfl ?_
      refine k_icmp_le hq (tgt := 19) dX11_rules_14 (by decide) (fun _ => ?_) (fun _ => ?_)
      · refine k_aload_n hq dX11_rules_19 0 rfl ?_
        refine k_gr hq (C := RX11) (T := TX11) 10 4 rfl (by decide) (lay_X11 4 (by decide)) tw_315 dX11_rules_20 fun v4 => ?_
        refine k_iload_n hq dX11_rules_23 1 rfl ?_
        refine k_iload_n hq dX11_rules_24 2 rfl ?_
        refine k_callV hq (na := 2) (As := [.int l1, .int l2]) (st := []) 5 (C := RX5) (T := TX5) rfl (con_X5_give _ _ _ _ N v4 l1 l2) tw_755 tw_51 tw_752 tw_753 tw_754 ⟨by decide, by decide, by decide +kernel⟩ rfl (by decide) rfl (Nat.le_of_ble_eq_true rfl) dX11_rules_25 fun v5 h6 => ?_
        exact k_iret hq dX11_rules_28 he
      · refine k_iconst hq dX11_rules_17 (v := (-1)) rfl ?_
        exact k_iret hq dX11_rules_18 he
theorem con_X11_rules (l : Launch) (G : eG) (B0 n : Nat) (N : Nat) (l0 : Nat) (l1 : Int32) (l2 : Int32) : e_C eI l G B0 n yX11_rules cX11_rules 3 (some .int) 2 46 [.ref l0, .int l1, .int l2] (F_X11_rules N l0 l1 l2) := by
  refine e_mk (by decide) (Nat.le_of_ble_eq_true rfl) fun q r0 h0 h hq he e1 e2 e3 e4 => ?_
  subst e1; subst e2; subst e3; subst e4
  exact P_X11_rules_0 hq he N l0 l1 l2 h
set_option maxRecDepth 100000 in
set_option maxHeartbeats 4000000 in
theorem P_X11_row_0 {q : eT} {r0 : Int32} {h0 : eH} (hq : e_B q yX11_row.cls cX11_row 5 2 44 (some .int) yX11_row.name) (he : e_E q) (l0 : Nat) (l1 : Int32) (l2 : Int32) (l3 : Int32) (h : eH) : e_K eI q r0 h0 0 [(0, .ref l0), (1, .int l1), (2, .int l2), (3, .int l3)] [] h (F_X11_row l0 l1 l2 l3 h) := by
  unfold F_X11_row
  refine k_aload_n hq dX11_row_0 0 rfl ?_
  refine k_iload_n hq dX11_row_1 1 rfl ?_
  refine k_iload_n hq dX11_row_2 2 rfl ?_
  refine k_callV hq (na := 2) (As := [.int l1, .int l2]) (st := []) 10 (C := RX11) (T := TX11) rfl (con_X11_replicaAt _ _ _ _ l0 l1 l2) tw_525 tw_48 tw_522 tw_524 tw_10 ⟨by decide, by decide, by decide +kernel⟩ rfl (by decide) rfl (Nat.le_of_ble_eq_true rfl) dX11_row_3 fun v1 h2 => ?_
  refine k_qstore hq dX11_row_6 (by decide) (ls' := [(4, va_rf v1), (0, .ref l0), (1, .int l1), (2, .int l2), (3, .int l3)]) rfl ?_
  refine k_qload hq dX11_row_8 0 rfl ?_
  refine k_ifnull hq (tgt := 21) dX11_row_10 (by decide) (fun hr => ?_) (fun r3 hr => ?_)
  · subst hr
    refine k_iconst hq dX11_row_21 (v := (-1)) rfl ?_
    exact k_iret hq dX11_row_22 he
  · subst hr
    refine k_aload_n hq dX11_row_13 1 rfl ?_
    refine k_iload_n hq dX11_row_14 4 rfl ?_
    refine k_callV hq (na := 1) (As := [.int l3]) (st := []) 10 (C := RX11) (T := TX11) rfl (con_X11_isSite _ _ _ _ l0 l3) tw_533 tw_48 tw_530 tw_532 tw_12 ⟨by decide, by decide, by decide +kernel⟩ rfl (by decide) rfl (Nat.le_of_ble_eq_true rfl) dX11_row_15 fun v4 h5 => ?_
    refine k_if_ne hq (tgt := 23) dX11_row_18 (by decide) (fun _ => ?_) (fun _ => ?_)
    · refine k_iconst hq dX11_row_21 (v := (-1)) rfl ?_
      exact k_iret hq dX11_row_22 he
    · refine k_aload hq dX11_row_23 0 rfl ?_
      refine k_giN hq (C := RX8) (T := TX8) 8 3 rfl (by decide) (lay_X8 3 (by decide)) tw_275 dX11_row_25 fun v6 => ?_
      refine k_iload_n hq dX11_row_28 4 rfl ?_
      refine k_callS hq (na := 2) (As := [.int v6, .int l3]) (st := []) (con_X9_number _ _ _ _ v6 l3) tw_547 tw_65 tw_760 tw_546 ⟨by decide, by decide, by decide +kernel⟩ rfl (by decide) rfl (Nat.le_of_ble_eq_true rfl) dX11_row_29 fun v7 h8 => ?_
      exact k_iret hq dX11_row_32 he
theorem con_X11_row (l : Launch) (G : eG) (B0 n : Nat) (l0 : Nat) (l1 : Int32) (l2 : Int32) (l3 : Int32) : e_C eI l G B0 n yX11_row cX11_row 5 (some .int) 2 44 [.ref l0, .int l1, .int l2, .int l3] (F_X11_row l0 l1 l2 l3) := by
  refine e_mk (by decide) (Nat.le_of_ble_eq_true rfl) fun q r0 h0 h hq he e1 e2 e3 e4 => ?_
  subst e1; subst e2; subst e3; subst e4
  exact P_X11_row_0 hq he l0 l1 l2 l3 h
set_option maxRecDepth 100000 in
set_option maxHeartbeats 4000000 in
theorem P_X11_sibling_0 {q : eT} {r0 : Int64} {h0 : eH} (hq : e_B q yX11_sibling.cls cX11_sibling 7 4 84 (some .long) yX11_sibling.name) (he : e_E q) (N : Nat) (l0 : Nat) (l1 : Int32) (l2 : Int32) (l3 : Int32) (l4 : Int32) (h : eH) : e_K eL q r0 h0 0 [(0, .ref l0), (1, .int l1), (2, .int l2), (3, .int l3), (4, .int l4)] [] h (F_X11_sibling N l0 l1 l2 l3 l4 h) := by
  unfold F_X11_sibling
  refine k_aload_n hq dX11_sibling_0 0 rfl ?_
  refine k_iload_n hq dX11_sibling_1 1 rfl ?_
  refine k_iload_n hq dX11_sibling_2 2 rfl ?_
  refine k_callV hq (na := 2) (As := [.int l1, .int l2]) (st := []) 10 (C := RX11) (T := TX11) rfl (con_X11_replicaAt _ _ _ _ l0 l1 l2) tw_525 tw_48 tw_522 tw_524 tw_10 ⟨by decide, by decide, by decide +kernel⟩ rfl (by decide) rfl (Nat.le_of_ble_eq_true rfl) dX11_sibling_3 fun v1 h2 => ?_
  refine k_qstore hq dX11_sibling_6 (by decide) (ls' := [(5, va_rf v1), (0, .ref l0), (1, .int l1), (2, .int l2), (3, .int l3), (4, .int l4)]) rfl ?_
  refine k_qload hq dX11_sibling_8 0 rfl ?_
  refine k_ifnull hq (tgt := 28) dX11_sibling_10 (by decide) (fun hr => ?_) (fun r3 hr => ?_)
  · subst hr
    refine k_ldc2 hq (v := (-1)) tw_765 dX11_sibling_28 ?_
    exact k_lret hq dX11_sibling_31 he
  · subst hr
    refine k_iload_n hq dX11_sibling_13 4 rfl ?_
    refine k_if_lt hq (tgt := 28) dX11_sibling_14 (by decide) (fun _ => ?_) (fun _ => ?_)
    · refine k_ldc2 hq (v := (-1)) tw_765 dX11_sibling_28 ?_
      exact k_lret hq dX11_sibling_31 he
    · refine k_iload hq dX11_sibling_17 5 rfl ?_
      refine k_if_lt hq (tgt := 28) dX11_sibling_19 (by decide) (fun _ => ?_) (fun _ => ?_)
      · refine k_ldc2 hq (v := (-1)) tw_765 dX11_sibling_28 ?_
        exact k_lret hq dX11_sibling_31 he
      · refine k_iload hq dX11_sibling_22 5 rfl ?_
        refine k_iconst hq dX11_sibling_24 (v := 3) rfl ?_
        refine k_icmp_le hq (tgt := 32) dX11_sibling_25 (by decide) (fun _ => ?_) (fun _ => ?_)
        · refine k_aload hq dX11_sibling_32 0 rfl ?_
          refine k_grN hq (C := RX8) (T := TX8) 8 2 rfl (by decide) (lay_X8 2 (by decide)) tw_272 dX11_sibling_34 fun v4 => ?_
          refine k_iload_n hq dX11_sibling_37 4 rfl ?_
          refine k_callV hq (na := 1) (As := [.int l3]) (st := []) 1 (C := RX1) (T := TX1) rfl (con_X1_at _ _ _ _ N v4 l3) tw_769 tw_56 tw_766 tw_767 tw_768 ⟨by decide, by decide, by decide +kernel⟩ rfl (by decide) rfl (Nat.le_of_ble_eq_true rfl) dX11_sibling_38 fun v5 h6 => ?_
          refine k_istore hq dX11_sibling_41 (by decide) (ls' := [(6, .int v5), (5, .ref r3), (0, .ref l0), (1, .int l1), (2, .int l2), (3, .int l3), (4, .int l4)]) rfl ?_
          refine k_iload hq dX11_sibling_43 0 rfl ?_
          refine k_iconst hq dX11_sibling_45 (v := (-1)) rfl ?_
          refine k_icmp_ne hq (tgt := 53) dX11_sibling_46 (by decide) (fun _ => ?_) (fun _ => ?_)
          · refine k_ldc2 hq (v := (-9)) tw_771 dX11_sibling_49 ?_
            exact k_lret hq dX11_sibling_52 he
          · refine k_iload hq dX11_sibling_53 6 rfl ?_
            refine k_ite (fun e0 => ?_) (fun n0 => ?_)
            · refine k_tableIn hq (tgt := 80) dX11_sibling_55 (by rw [e0]; decide) (by rw [e0]; decide) (off := 25) (by rw [e0]; rfl) (by decide) ?_
              refine k_iload hq dX11_sibling_80 0 rfl ?_
              refine k_callS hq (na := 1) (As := [.int v5]) (st := []) (con_X1_siteOf _ _ _ _ v5) tw_569 tw_56 tw_772 tw_568 ⟨by decide, by decide, by decide +kernel⟩ rfl (by decide) rfl (Nat.le_of_ble_eq_true rfl) dX11_sibling_82 fun v7 h8 => ?_
              refine k_i2l hq dX11_sibling_85 ?_
              exact k_lret hq dX11_sibling_86 he
            refine k_ite (fun e0 => ?_) (fun n1 => ?_)
            · refine k_tableIn hq (tgt := 87) dX11_sibling_55 (by rw [e0]; decide) (by rw [e0]; decide) (off := 32) (by rw [e0]; rfl) (by decide) ?_
              refine k_iload hq dX11_sibling_87 0 rfl ?_
              refine k_callS hq (na := 1) (As := [.int v5]) (st := []) (con_X1_numberOf _ _ _ _ v5) tw_572 tw_56 tw_773 tw_571 ⟨by decide, by decide, by decide +kernel⟩ rfl (by decide) rfl (Nat.le_of_ble_eq_true rfl) dX11_sibling_89 fun v9 h10 => ?_
              refine k_i2l hq dX11_sibling_92 ?_
              exact k_lret hq dX11_sibling_93 he
            refine k_ite (fun e0 => ?_) (fun n2 => ?_)
            · refine k_tableIn hq (tgt := 94) dX11_sibling_55 (by rw [e0]; decide) (by rw [e0]; decide) (off := 39) (by rw [e0]; rfl) (by decide) ?_
              refine k_aload hq dX11_sibling_94 1 rfl ?_
              refine k_grN hq (C := RX8) (T := TX8) 8 1 rfl (by decide) (lay_X8 1 (by decide)) tw_269 dX11_sibling_96 fun v11 => ?_
              refine k_iload hq dX11_sibling_99 0 rfl ?_
              refine k_callV hq (na := 1) (As := [.int v5]) (st := []) 3 (C := RX3) (T := TX3) rfl (con_X3_stampOf _ _ _ _ v11 v5) tw_559 tw_55 tw_774 tw_557 tw_558 ⟨by decide, by decide, by decide +kernel⟩ rfl (by decide) rfl (Nat.le_of_ble_eq_true rfl) dX11_sibling_101 fun v12 h13 => ?_
              refine k_i2l hq dX11_sibling_104 ?_
              exact k_lret hq dX11_sibling_105 he
            refine k_tableOut hq (tgt := 106) dX11_sibling_55 (by have m0 := e_ne n0 (show (0 : Int32).toInt = 0 from rfl); have m1 := e_ne n1 (show (1 : Int32).toInt = 1 from rfl); have m2 := e_ne n2 (show (2 : Int32).toInt = 2 from rfl); omega) (by decide) ?_
            refine k_aload hq dX11_sibling_106 1 rfl ?_
            refine k_grN hq (C := RX8) (T := TX8) 8 1 rfl (by decide) (lay_X8 1 (by decide)) tw_269 dX11_sibling_108 fun v14 => ?_
            refine k_iload hq dX11_sibling_111 0 rfl ?_
            refine k_callV hq (na := 1) (As := [.int v5]) (st := []) 3 (C := RX3) (T := TX3) rfl (con_X3_valueOf _ _ _ _ v14 v5) tw_716 tw_55 tw_775 tw_714 tw_715 ⟨by decide, by decide, by decide +kernel⟩ rfl (by decide) rfl (Nat.le_of_ble_eq_true rfl) dX11_sibling_113 fun v15 h16 => ?_
            exact k_lret hq dX11_sibling_116 he
        · refine k_ldc2 hq (v := (-1)) tw_765 dX11_sibling_28 ?_
          exact k_lret hq dX11_sibling_31 he
theorem con_X11_sibling (l : Launch) (G : eG) (B0 n : Nat) (N : Nat) (l0 : Nat) (l1 : Int32) (l2 : Int32) (l3 : Int32) (l4 : Int32) : e_C eL l G B0 n yX11_sibling cX11_sibling 7 (some .long) 4 84 [.ref l0, .int l1, .int l2, .int l3, .int l4] (F_X11_sibling N l0 l1 l2 l3 l4) := by
  refine e_mk (by decide) (Nat.le_of_ble_eq_true rfl) fun q r0 h0 h hq he e1 e2 e3 e4 => ?_
  subst e1; subst e2; subst e3; subst e4
  exact P_X11_sibling_0 hq he N l0 l1 l2 l3 l4 h
set_option maxRecDepth 100000 in
set_option maxHeartbeats 4000000 in
theorem P_X11_context_95 {q : eT} {r0 : Int32} {h0 : eH} (hq : e_B q yX11_context.cls cX11_context 6 1 21 (some .int) yX11_context.name) (he : e_E q) (l5 : Int32) (s0 : Int32) (h : eH) : e_K eI q r0 h0 95 [(5, .int l5)] [.int s0] h (F_X11_context_95 l5 s0 h) := by
  unfold F_X11_context_95
  refine k_iload hq dX11_context_95 0 rfl ?_
  refine k_callS hq (na := 2) (As := [.int s0, .int l5]) (st := []) (con_X9_number _ _ _ _ s0 l5) tw_547 tw_65 tw_760 tw_546 ⟨by decide, by decide, by decide +kernel⟩ rfl (by decide) rfl (Nat.le_of_ble_eq_true rfl) dX11_context_97 fun v1 h2 => ?_
  exact k_iret hq dX11_context_100 he
set_option maxRecDepth 100000 in
set_option maxHeartbeats 4000000 in
theorem P_X11_context_59 {q : eT} {r0 : Int32} {h0 : eH} (hq : e_B q yX11_context.cls cX11_context 6 1 21 (some .int) yX11_context.name) (he : e_E q) (l2 : Int32) (l3 : Nat) (l4 : Int32) (l5 : Int32) (h : eH) : e_K eI q r0 h0 59 [(2, .int l2), (3, .ref l3), (4, .int l4), (5, .int l5)] [] h (F_X11_context_59 l2 l3 l4 l5 h) := by
  unfold F_X11_context_59
  refine k_aload_n hq dX11_context_59 1 rfl ?_
  refine k_callV hq (na := 0) (As := []) (st := []) 0 (C := RX0) (T := TX0) rfl (con_X0_isBlind _ _ _ _ l3) tw_668 tw_58 tw_665 tw_666 tw_667 ⟨by decide, by decide, by decide +kernel⟩ rfl (by decide) rfl (Nat.le_of_ble_eq_true rfl) dX11_context_60 fun v1 h2 => ?_
  refine k_if_eq hq (tgt := 69) dX11_context_63 (by decide) (fun _ => ?_) (fun _ => ?_)
  · refine k_iload_n hq dX11_context_69 0 rfl ?_
    refine k_iconst hq dX11_context_70 (v := (-1)) rfl ?_
    refine k_icmp_ne hq (tgt := 79) dX11_context_71 (by decide) (fun _ => ?_) (fun _ => ?_)
    · refine k_aload_n hq dX11_context_74 1 rfl ?_
      refine k_giN hq (C := RX0) (T := TX0) 0 0 rfl (by decide) (lay_X0 0 (by decide)) tw_299 dX11_context_75 fun v5 => ?_
      exact k_iret hq dX11_context_78 he
    · refine k_iload hq dX11_context_79 2 rfl ?_
      refine k_if_eq hq (tgt := 91) dX11_context_81 (by decide) (fun _ => ?_) (fun _ => ?_)
      · refine k_aload_n hq dX11_context_91 1 rfl ?_
        refine k_giN hq (C := RX0) (T := TX0) 0 1 rfl (by decide) (lay_X0 1 (by decide)) tw_301 dX11_context_92 fun v3 => ?_
        exact k_sub [3] rfl (P_X11_context_95 hq he l5 v3 h2)
      · refine k_aload_n hq dX11_context_84 1 rfl ?_
        refine k_giN hq (C := RX0) (T := TX0) 0 2 rfl (by decide) (lay_X0 2 (by decide)) tw_303 dX11_context_85 fun v4 => ?_
        refine k_goto hq (tgt := 95) dX11_context_88 (by decide) ?_
        exact k_sub [3] rfl (P_X11_context_95 hq he l5 v4 h2)
  · refine k_bipush hq dX11_context_66 (v := (-9)) rfl ?_
    exact k_iret hq dX11_context_68 he
set_option maxRecDepth 100000 in
set_option maxHeartbeats 4000000 in
theorem P_X11_context_41 {q : eT} {r0 : Int32} {h0 : eH} (hq : e_B q yX11_context.cls cX11_context 6 1 21 (some .int) yX11_context.name) (he : e_E q) (l0 : Nat) (l2 : Int32) (l3 : Nat) (l4 : Int32) (s0 : Int32) (h : eH) : e_K eI q r0 h0 41 [(0, .ref l0), (2, .int l2), (3, .ref l3), (4, .int l4)] [.int s0] h (F_X11_context_41 l0 l2 l3 l4 s0 h) := by
  unfold F_X11_context_41
  refine k_istore hq dX11_context_41 (by decide) (ls' := [(5, .int s0), (0, .ref l0), (2, .int l2), (3, .ref l3), (4, .int l4)]) rfl ?_
  refine k_iload_n hq dX11_context_43 2 rfl ?_
  refine k_iconst hq dX11_context_44 (v := (-1)) rfl ?_
  refine k_icmp_eq hq (tgt := 59) dX11_context_45 (by decide) (fun _ => ?_) (fun _ => ?_)
  · exact k_sub [2, 3, 4, 0] rfl (P_X11_context_59 hq he l2 l3 l4 s0 h)
  · refine k_aload_n hq dX11_context_48 1 rfl ?_
    refine k_iload hq dX11_context_49 0 rfl ?_
    refine k_callV hq (na := 1) (As := [.int s0]) (st := []) 10 (C := RX11) (T := TX11) rfl (con_X11_isSite _ _ _ _ l0 s0) tw_533 tw_48 tw_530 tw_532 tw_12 ⟨by decide, by decide, by decide +kernel⟩ rfl (by decide) rfl (Nat.le_of_ble_eq_true rfl) dX11_context_51 fun v1 h2 => ?_
    refine k_if_ne hq (tgt := 59) dX11_context_54 (by decide) (fun _ => ?_) (fun _ => ?_)
    · refine k_iconst hq dX11_context_57 (v := (-1)) rfl ?_
      exact k_iret hq dX11_context_58 he
    · exact k_sub [2, 3, 4, 0] rfl (P_X11_context_59 hq he l2 l3 l4 s0 h2)
set_option maxRecDepth 100000 in
set_option maxHeartbeats 4000000 in
theorem P_X11_context_27 {q : eT} {r0 : Int32} {h0 : eH} (hq : e_B q yX11_context.cls cX11_context 6 1 21 (some .int) yX11_context.name) (he : e_E q) (l0 : Nat) (l2 : Int32) (l3 : Nat) (s0 : Int32) (h : eH) : e_K eI q r0 h0 27 [(0, .ref l0), (2, .int l2), (3, .ref l3)] [.int s0] h (F_X11_context_27 l0 l2 l3 s0 h) := by
  unfold F_X11_context_27
  refine k_istore hq dX11_context_27 (by decide) (ls' := [(4, .int s0), (0, .ref l0), (2, .int l2), (3, .ref l3)]) rfl ?_
  refine k_iload hq dX11_context_29 0 rfl ?_
  refine k_if_eq hq (tgt := 40) dX11_context_31 (by decide) (fun _ => ?_) (fun _ => ?_)
  · refine k_iload_n hq dX11_context_40 2 rfl ?_
    exact k_sub [1, 2, 3, 0] rfl (P_X11_context_41 hq he l0 l2 l3 s0 l2 h)
  · refine k_iload_n hq dX11_context_34 2 rfl ?_
    refine k_iconst hq dX11_context_35 (v := 4) rfl ?_
    refine k_isub hq dX11_context_36 ?_
    refine k_goto hq (tgt := 41) dX11_context_37 (by decide) ?_
    exact k_sub [1, 2, 3, 0] rfl (P_X11_context_41 hq he l0 l2 l3 s0 (l2 - 4) h)
set_option maxRecDepth 100000 in
set_option maxHeartbeats 4000000 in
theorem P_X11_context_0 {q : eT} {r0 : Int32} {h0 : eH} (hq : e_B q yX11_context.cls cX11_context 6 1 21 (some .int) yX11_context.name) (he : e_E q) (l0 : Nat) (l1 : Int32) (l2 : Int32) (h : eH) : e_K eI q r0 h0 0 [(0, .ref l0), (1, .int l1), (2, .int l2)] [] h (F_X11_context l0 l1 l2 h) := by
  unfold F_X11_context
  refine k_aload_n hq dX11_context_0 0 rfl ?_
  refine k_iload_n hq dX11_context_1 1 rfl ?_
  refine k_callV hq (na := 1) (As := [.int l1]) (st := []) 10 (C := RX11) (T := TX11) rfl (con_X11_clientAt _ _ _ _ l0 l1) tw_521 tw_48 tw_518 tw_520 tw_9 ⟨by decide, by decide, by decide +kernel⟩ rfl (by decide) rfl (Nat.le_of_ble_eq_true rfl) dX11_context_2 fun v1 h2 => ?_
  refine k_qstore_n hq dX11_context_5 rfl (by decide) (ls' := [(3, va_rf v1), (0, .ref l0), (1, .int l1), (2, .int l2)]) rfl ?_
  refine k_qload_n hq dX11_context_6 0 rfl ?_
  refine k_ifnull hq (tgt := 15) dX11_context_7 (by decide) (fun hr => ?_) (fun r3 hr => ?_)
  · subst hr
    refine k_iconst hq dX11_context_15 (v := (-1)) rfl ?_
    exact k_iret hq dX11_context_16 he
  · subst hr
    refine k_iload_n hq dX11_context_10 3 rfl ?_
    refine k_iconst hq dX11_context_11 (v := (-1)) rfl ?_
    refine k_icmp_ge hq (tgt := 17) dX11_context_12 (by decide) (fun _ => ?_) (fun _ => ?_)
    · refine k_iload_n hq dX11_context_17 3 rfl ?_
      refine k_iconst hq dX11_context_18 (v := 4) rfl ?_
      refine k_icmp_lt hq (tgt := 26) dX11_context_19 (by decide) (fun _ => ?_) (fun _ => ?_)
      · refine k_iconst hq dX11_context_26 (v := 0) rfl ?_
        exact k_sub [1, 3, 0] rfl (P_X11_context_27 hq he l0 l2 r3 0 h2)
      · refine k_iconst hq dX11_context_22 (v := 1) rfl ?_
        refine k_goto hq (tgt := 27) dX11_context_23 (by decide) ?_
        exact k_sub [1, 3, 0] rfl (P_X11_context_27 hq he l0 l2 r3 1 h2)
    · refine k_iconst hq dX11_context_15 (v := (-1)) rfl ?_
      exact k_iret hq dX11_context_16 he
theorem con_X11_context (l : Launch) (G : eG) (B0 n : Nat) (l0 : Nat) (l1 : Int32) (l2 : Int32) : e_C eI l G B0 n yX11_context cX11_context 6 (some .int) 1 21 [.ref l0, .int l1, .int l2] (F_X11_context l0 l1 l2) := by
  refine e_mk (by decide) (Nat.le_of_ble_eq_true rfl) fun q r0 h0 h hq he e1 e2 e3 e4 => ?_
  subst e1; subst e2; subst e3; subst e4
  exact P_X11_context_0 hq he l0 l1 l2 h
set_option maxRecDepth 100000 in
set_option maxHeartbeats 4000000 in
theorem P_X11_dotAt_0 {q : eT} {r0 : Int32} {h0 : eH} (hq : e_B q yX11_dotAt.cls cX11_dotAt 6 2 42 (some .int) yX11_dotAt.name) (he : e_E q) (l0 : Nat) (l1 : Int32) (l2 : Int32) (l3 : Int32) (h : eH) : e_K eI q r0 h0 0 [(0, .ref l0), (1, .int l1), (2, .int l2), (3, .int l3)] [] h (F_X11_dotAt l0 l1 l2 l3 h) := by
  unfold F_X11_dotAt
  refine k_aload_n hq dX11_dotAt_0 0 rfl ?_
  refine k_iload_n hq dX11_dotAt_1 1 rfl ?_
  refine k_callV hq (na := 1) (As := [.int l1]) (st := []) 10 (C := RX11) (T := TX11) rfl (con_X11_keyAt _ _ _ _ l0 l1) tw_529 tw_48 tw_526 tw_528 tw_11 ⟨by decide, by decide, by decide +kernel⟩ rfl (by decide) rfl (Nat.le_of_ble_eq_true rfl) dX11_dotAt_2 fun v1 h2 => ?_
  refine k_qstore hq dX11_dotAt_5 (by decide) (ls' := [(4, va_rf v1), (0, .ref l0), (1, .int l1), (2, .int l2), (3, .int l3)]) rfl ?_
  refine k_qload hq dX11_dotAt_7 0 rfl ?_
  refine k_ifnull hq (tgt := 31) dX11_dotAt_9 (by decide) (fun hr => ?_) (fun r3 hr => ?_)
  · subst hr
    refine k_iconst hq dX11_dotAt_31 (v := (-1)) rfl ?_
    exact k_iret hq dX11_dotAt_32 he
  · subst hr
    refine k_aload_n hq dX11_dotAt_12 1 rfl ?_
    refine k_iload_n hq dX11_dotAt_13 3 rfl ?_
    refine k_callV hq (na := 1) (As := [.int l2]) (st := []) 10 (C := RX11) (T := TX11) rfl (con_X11_isSite _ _ _ _ l0 l2) tw_533 tw_48 tw_530 tw_532 tw_12 ⟨by decide, by decide, by decide +kernel⟩ rfl (by decide) rfl (Nat.le_of_ble_eq_true rfl) dX11_dotAt_14 fun v4 h5 => ?_
    refine k_if_eq hq (tgt := 31) dX11_dotAt_17 (by decide) (fun _ => ?_) (fun _ => ?_)
    · refine k_iconst hq dX11_dotAt_31 (v := (-1)) rfl ?_
      exact k_iret hq dX11_dotAt_32 he
    · refine k_iload_n hq dX11_dotAt_20 4 rfl ?_
      refine k_iconst hq dX11_dotAt_21 (v := 1) rfl ?_
      refine k_icmp_lt hq (tgt := 31) dX11_dotAt_22 (by decide) (fun _ => ?_) (fun _ => ?_)
      · refine k_iconst hq dX11_dotAt_31 (v := (-1)) rfl ?_
        exact k_iret hq dX11_dotAt_32 he
      · refine k_iload_n hq dX11_dotAt_25 4 rfl ?_
        refine k_bipush hq dX11_dotAt_26 (v := 40) rfl ?_
        refine k_icmp_le hq (tgt := 33) dX11_dotAt_28 (by decide) (fun _ => ?_) (fun _ => ?_)
        · refine k_iload_n hq dX11_dotAt_33 3 rfl ?_
          refine k_iload_n hq dX11_dotAt_34 4 rfl ?_
          refine k_callS hq (na := 2) (As := [.int l2, .int l3]) (st := []) (con_X1_of _ _ _ _ l2 l3) tw_555 tw_56 tw_788 tw_554 ⟨by decide, by decide, by decide +kernel⟩ rfl (by decide) rfl (Nat.le_of_ble_eq_true rfl) dX11_dotAt_35 fun v6 h7 => ?_
          refine k_istore hq dX11_dotAt_38 (by decide) (ls' := [(5, .int v6), (4, .ref r3), (0, .ref l0), (1, .int l1), (2, .int l2), (3, .int l3)]) rfl ?_
          refine k_aload hq dX11_dotAt_40 1 rfl ?_
          refine k_grN hq (C := RX4) (T := TX4) 4 0 rfl (by decide) (lay_X4 0 (by decide)) tw_286 dX11_dotAt_42 fun v8 => ?_
          refine k_iload hq dX11_dotAt_45 0 rfl ?_
          refine k_callV hq (na := 1) (As := [.int v6]) (st := []) 3 (C := RX3) (T := TX3) rfl (con_X3_has _ _ _ _ v8 v6) tw_563 tw_55 tw_789 tw_561 tw_562 ⟨by decide, by decide, by decide +kernel⟩ rfl (by decide) rfl (Nat.le_of_ble_eq_true rfl) dX11_dotAt_47 fun v9 h10 => ?_
          refine k_if_eq hq (tgt := 58) dX11_dotAt_50 (by decide) (fun _ => ?_) (fun _ => ?_)
          · refine k_iconst hq dX11_dotAt_58 (v := (-1)) rfl ?_
            exact k_iret hq dX11_dotAt_59 he
          · refine k_iload hq dX11_dotAt_53 0 rfl ?_
            refine k_goto hq (tgt := 59) dX11_dotAt_55 (by decide) ?_
            exact k_iret hq dX11_dotAt_59 he
        · refine k_iconst hq dX11_dotAt_31 (v := (-1)) rfl ?_
          exact k_iret hq dX11_dotAt_32 he
theorem con_X11_dotAt (l : Launch) (G : eG) (B0 n : Nat) (l0 : Nat) (l1 : Int32) (l2 : Int32) (l3 : Int32) : e_C eI l G B0 n yX11_dotAt cX11_dotAt 6 (some .int) 2 42 [.ref l0, .int l1, .int l2, .int l3] (F_X11_dotAt l0 l1 l2 l3) := by
  refine e_mk (by decide) (Nat.le_of_ble_eq_true rfl) fun q r0 h0 h hq he e1 e2 e3 e4 => ?_
  subst e1; subst e2; subst e3; subst e4
  exact P_X11_dotAt_0 hq he l0 l1 l2 l3 h
set_option maxRecDepth 100000 in
set_option maxHeartbeats 4000000 in
theorem P_X11_write_0 {q : eT} {r0 : Int64} {h0 : eH} (hq : e_B q yX11_write.cls cX11_write 8 5 105 (some .long) yX11_write.name) (he : e_E q) (N : Nat) (l0 : Nat) (l1 : Int32) (l2 : Int32) (l3 : Int32) (l4 : Int32) (h : eH) : e_K eL q r0 h0 0 [(0, .ref l0), (1, .int l1), (2, .int l2), (3, .int l3), (4, .int l4)] [] h (F_X11_write N l0 l1 l2 l3 l4 h) := by
  unfold F_X11_write
  refine k_aload_n hq dX11_write_0 0 rfl ?_
  refine k_iload_n hq dX11_write_1 1 rfl ?_
  refine k_callV hq (na := 1) (As := [.int l1]) (st := []) 10 (C := RX11) (T := TX11) rfl (con_X11_keyAt _ _ _ _ l0 l1) tw_529 tw_48 tw_526 tw_528 tw_11 ⟨by decide, by decide, by decide +kernel⟩ rfl (by decide) rfl (Nat.le_of_ble_eq_true rfl) dX11_write_2 fun v1 h2 => ?_
  refine k_qstore hq dX11_write_5 (by decide) (ls' := [(5, va_rf v1), (0, .ref l0), (1, .int l1), (2, .int l2), (3, .int l3), (4, .int l4)]) rfl ?_
  refine k_aload_n hq dX11_write_7 1 rfl ?_
  refine k_iload_n hq dX11_write_8 2 rfl ?_
  refine k_iload_n hq dX11_write_9 3 rfl ?_
  refine k_iload_n hq dX11_write_10 4 rfl ?_
  refine k_callV hq (na := 3) (As := [.int l1, .int l2, .int l3]) (st := []) 10 (C := RX11) (T := TX11) rfl (con_X11_dotAt _ _ _ _ l0 l1 l2 l3) tw_787 tw_48 tw_784 tw_786 tw_18 ⟨by decide, by decide, by decide +kernel⟩ rfl (by decide) rfl (Nat.le_of_ble_eq_true rfl) dX11_write_11 fun v3 h4 => ?_
  refine k_istore hq dX11_write_14 (by decide) (ls' := [(6, .int v3), (5, va_rf v1), (0, .ref l0), (1, .int l1), (2, .int l2), (3, .int l3), (4, .int l4)]) (by simp [e_cat]) ?_
  refine k_qload hq dX11_write_16 1 rfl ?_
  refine k_ifnull hq (tgt := 39) dX11_write_18 (by decide) (fun hr => ?_) (fun r5 hr => ?_)
  · subst hr
    refine k_ldc2 hq (v := (-1)) tw_765 dX11_write_39 ?_
    exact k_lret hq dX11_write_42 he
  · subst hr
    refine k_iload hq dX11_write_21 0 rfl ?_
    refine k_iconst hq dX11_write_23 (v := (-1)) rfl ?_
    refine k_icmp_eq hq (tgt := 39) dX11_write_24 (by decide) (fun _ => ?_) (fun _ => ?_)
    · refine k_ldc2 hq (v := (-1)) tw_765 dX11_write_39 ?_
      exact k_lret hq dX11_write_42 he
    · refine k_iload hq dX11_write_27 6 rfl ?_
      refine k_if_lt hq (tgt := 39) dX11_write_29 (by decide) (fun _ => ?_) (fun _ => ?_)
      · refine k_ldc2 hq (v := (-1)) tw_765 dX11_write_39 ?_
        exact k_lret hq dX11_write_42 he
      · refine k_iload hq dX11_write_32 6 rfl ?_
        refine k_bipush hq dX11_write_34 (v := 7) rfl ?_
        refine k_icmp_le hq (tgt := 43) dX11_write_36 (by decide) (fun _ => ?_) (fun _ => ?_)
        · refine k_aload hq dX11_write_43 1 rfl ?_
          refine k_grN hq (C := RX4) (T := TX4) 4 0 rfl (by decide) (lay_X4 0 (by decide)) tw_286 dX11_write_45 fun v6 => ?_
          refine k_astore hq dX11_write_48 (by decide) (ls' := [(7, .ref v6), (6, .int v3), (5, .ref r5), (0, .ref l0), (1, .int l1), (2, .int l2), (3, .int l3), (4, .int l4)]) rfl ?_
          refine k_iload hq dX11_write_50 7 rfl ?_
          refine k_ite (fun e0 => ?_) (fun n0 => ?_)
          · refine k_tableIn hq (tgt := 96) dX11_write_52 (by rw [e0]; decide) (by rw [e0]; decide) (off := 44) (by rw [e0]; rfl) (by decide) ?_
            refine k_aload hq dX11_write_96 0 rfl ?_
            refine k_iload hq dX11_write_98 1 rfl ?_
            refine k_callV hq (na := 1) (As := [.int v3]) (st := []) 3 (C := RX3) (T := TX3) rfl (con_X3_valueOf _ _ _ _ v6 v3) tw_716 tw_55 tw_775 tw_714 tw_715 ⟨by decide, by decide, by decide +kernel⟩ rfl (by decide) rfl (Nat.le_of_ble_eq_true rfl) dX11_write_100 fun v7 h8 => ?_
            exact k_lret hq dX11_write_103 he
          refine k_ite (fun e0 => ?_) (fun n1 => ?_)
          · refine k_tableIn hq (tgt := 104) dX11_write_52 (by rw [e0]; decide) (by rw [e0]; decide) (off := 52) (by rw [e0]; rfl) (by decide) ?_
            refine k_aload hq dX11_write_104 0 rfl ?_
            refine k_iload hq dX11_write_106 1 rfl ?_
            refine k_callV hq (na := 1) (As := [.int v3]) (st := []) 3 (C := RX3) (T := TX3) rfl (con_X3_stampOf _ _ _ _ v6 v3) tw_559 tw_55 tw_774 tw_557 tw_558 ⟨by decide, by decide, by decide +kernel⟩ rfl (by decide) rfl (Nat.le_of_ble_eq_true rfl) dX11_write_108 fun v9 h10 => ?_
            refine k_i2l hq dX11_write_111 ?_
            exact k_lret hq dX11_write_112 he
          refine k_ite (fun e0 => ?_) (fun n2 => ?_)
          · refine k_tableIn hq (tgt := 113) dX11_write_52 (by rw [e0]; decide) (by rw [e0]; decide) (off := 61) (by rw [e0]; rfl) (by decide) ?_
            refine k_aload hq dX11_write_113 0 rfl ?_
            refine k_grN hq (C := RX3) (T := TX3) 3 4 rfl (by decide) (lay_X3 4 (by decide)) tw_215 dX11_write_115 fun v11 => ?_
            refine k_iload hq dX11_write_118 1 rfl ?_
            refine k_callV hq (na := 1) (As := [.int v3]) (st := []) 1 (C := RX1) (T := TX1) rfl (con_X1_has _ _ _ _ v11 v3) tw_656 tw_56 tw_790 tw_654 tw_655 ⟨by decide, by decide, by decide +kernel⟩ rfl (by decide) rfl (Nat.le_of_ble_eq_true rfl) dX11_write_120 fun v12 h13 => ?_
            refine k_callS hq (na := 1) (As := [.int v12]) (st := []) (con_X11_bit _ _ _ _ v12) tw_793 tw_48 tw_791 tw_792 ⟨by decide, by decide, by decide +kernel⟩ rfl (by decide) rfl (Nat.le_of_ble_eq_true rfl) dX11_write_123 fun v14 h15 => ?_
            refine k_i2l hq dX11_write_126 ?_
            exact k_lret hq dX11_write_127 he
          refine k_ite (fun e0 => ?_) (fun n3 => ?_)
          · refine k_tableIn hq (tgt := 128) dX11_write_52 (by rw [e0]; decide) (by rw [e0]; decide) (off := 76) (by rw [e0]; rfl) (by decide) ?_
            refine k_aload hq dX11_write_128 0 rfl ?_
            refine k_grN hq (C := RX3) (T := TX3) 3 5 rfl (by decide) (lay_X3 5 (by decide)) tw_220 dX11_write_130 fun v16 => ?_
            refine k_iload hq dX11_write_133 1 rfl ?_
            refine k_callV hq (na := 1) (As := [.int v3]) (st := []) 1 (C := RX1) (T := TX1) rfl (con_X1_has _ _ _ _ v16 v3) tw_656 tw_56 tw_790 tw_654 tw_655 ⟨by decide, by decide, by decide +kernel⟩ rfl (by decide) rfl (Nat.le_of_ble_eq_true rfl) dX11_write_135 fun v17 h18 => ?_
            refine k_callS hq (na := 1) (As := [.int v17]) (st := []) (con_X11_bit _ _ _ _ v17) tw_793 tw_48 tw_791 tw_792 ⟨by decide, by decide, by decide +kernel⟩ rfl (by decide) rfl (Nat.le_of_ble_eq_true rfl) dX11_write_138 fun v19 h20 => ?_
            refine k_i2l hq dX11_write_141 ?_
            exact k_lret hq dX11_write_142 he
          refine k_ite (fun e0 => ?_) (fun n4 => ?_)
          · refine k_tableIn hq (tgt := 143) dX11_write_52 (by rw [e0]; decide) (by rw [e0]; decide) (off := 91) (by rw [e0]; rfl) (by decide) ?_
            refine k_aload hq dX11_write_143 0 rfl ?_
            refine k_grN hq (C := RX3) (T := TX3) 3 6 rfl (by decide) (lay_X3 6 (by decide)) tw_223 dX11_write_145 fun v21 => ?_
            refine k_iload hq dX11_write_148 1 rfl ?_
            refine k_callV hq (na := 1) (As := [.int v3]) (st := []) 1 (C := RX1) (T := TX1) rfl (con_X1_has _ _ _ _ v21 v3) tw_656 tw_56 tw_790 tw_654 tw_655 ⟨by decide, by decide, by decide +kernel⟩ rfl (by decide) rfl (Nat.le_of_ble_eq_true rfl) dX11_write_150 fun v22 h23 => ?_
            refine k_callS hq (na := 1) (As := [.int v22]) (st := []) (con_X11_bit _ _ _ _ v22) tw_793 tw_48 tw_791 tw_792 ⟨by decide, by decide, by decide +kernel⟩ rfl (by decide) rfl (Nat.le_of_ble_eq_true rfl) dX11_write_153 fun v24 h25 => ?_
            refine k_i2l hq dX11_write_156 ?_
            exact k_lret hq dX11_write_157 he
          refine k_ite (fun e0 => ?_) (fun n5 => ?_)
          · refine k_tableIn hq (tgt := 158) dX11_write_52 (by rw [e0]; decide) (by rw [e0]; decide) (off := 106) (by rw [e0]; rfl) (by decide) ?_
            refine k_aload hq dX11_write_158 0 rfl ?_
            refine k_grN hq (C := RX3) (T := TX3) 3 7 rfl (by decide) (lay_X3 7 (by decide)) tw_226 dX11_write_160 fun v26 => ?_
            refine k_iload hq dX11_write_163 1 rfl ?_
            refine k_callV hq (na := 1) (As := [.int v3]) (st := []) 1 (C := RX1) (T := TX1) rfl (con_X1_has _ _ _ _ v26 v3) tw_656 tw_56 tw_790 tw_654 tw_655 ⟨by decide, by decide, by decide +kernel⟩ rfl (by decide) rfl (Nat.le_of_ble_eq_true rfl) dX11_write_165 fun v27 h28 => ?_
            refine k_callS hq (na := 1) (As := [.int v27]) (st := []) (con_X11_bit _ _ _ _ v27) tw_793 tw_48 tw_791 tw_792 ⟨by decide, by decide, by decide +kernel⟩ rfl (by decide) rfl (Nat.le_of_ble_eq_true rfl) dX11_write_168 fun v29 h30 => ?_
            refine k_i2l hq dX11_write_171 ?_
            exact k_lret hq dX11_write_172 he
          refine k_ite (fun e0 => ?_) (fun n6 => ?_)
          · refine k_tableIn hq (tgt := 173) dX11_write_52 (by rw [e0]; decide) (by rw [e0]; decide) (off := 121) (by rw [e0]; rfl) (by decide) ?_
            refine k_aload hq dX11_write_173 2 rfl ?_
            refine k_iload hq dX11_write_175 1 rfl ?_
            refine k_callV hq (na := 1) (As := [.int v3]) (st := []) 4 (C := RX4) (T := TX4) rfl (con_X4_holders _ _ _ _ N r5 v3) tw_797 tw_54 tw_794 tw_795 tw_796 ⟨by decide, by decide, by decide +kernel⟩ rfl (by decide) rfl (Nat.le_of_ble_eq_true rfl) dX11_write_177 fun v31 h32 => ?_
            refine k_i2l hq dX11_write_180 ?_
            exact k_lret hq dX11_write_181 he
          refine k_tableOut hq (tgt := 182) dX11_write_52 (by have m0 := e_ne n0 (show (0 : Int32).toInt = 0 from rfl); have m1 := e_ne n1 (show (1 : Int32).toInt = 1 from rfl); have m2 := e_ne n2 (show (2 : Int32).toInt = 2 from rfl); have m3 := e_ne n3 (show (3 : Int32).toInt = 3 from rfl); have m4 := e_ne n4 (show (4 : Int32).toInt = 4 from rfl); have m5 := e_ne n5 (show (5 : Int32).toInt = 5 from rfl); have m6 := e_ne n6 (show (6 : Int32).toInt = 6 from rfl); omega) (by decide) ?_
          refine k_aload hq dX11_write_182 2 rfl ?_
          refine k_iload hq dX11_write_184 1 rfl ?_
          refine k_callV hq (na := 1) (As := [.int v3]) (st := []) 4 (C := RX4) (T := TX4) rfl (con_X4_isLost _ _ _ _ N r5 v3) tw_803 tw_54 tw_800 tw_801 tw_802 ⟨by decide, by decide, by decide +kernel⟩ rfl (by decide) rfl (Nat.le_of_ble_eq_true rfl) dX11_write_186 fun v33 h34 => ?_
          refine k_callS hq (na := 1) (As := [.int v33]) (st := []) (con_X11_bit _ _ _ _ v33) tw_793 tw_48 tw_791 tw_792 ⟨by decide, by decide, by decide +kernel⟩ rfl (by decide) rfl (Nat.le_of_ble_eq_true rfl) dX11_write_189 fun v35 h36 => ?_
          refine k_i2l hq dX11_write_192 ?_
          exact k_lret hq dX11_write_193 he
        · refine k_ldc2 hq (v := (-1)) tw_765 dX11_write_39 ?_
          exact k_lret hq dX11_write_42 he
theorem con_X11_write (l : Launch) (G : eG) (B0 n : Nat) (N : Nat) (l0 : Nat) (l1 : Int32) (l2 : Int32) (l3 : Int32) (l4 : Int32) : e_C eL l G B0 n yX11_write cX11_write 8 (some .long) 5 105 [.ref l0, .int l1, .int l2, .int l3, .int l4] (F_X11_write N l0 l1 l2 l3 l4) := by
  refine e_mk (by decide) (Nat.le_of_ble_eq_true rfl) fun q r0 h0 h hq he e1 e2 e3 e4 => ?_
  subst e1; subst e2; subst e3; subst e4
  exact P_X11_write_0 hq he N l0 l1 l2 l3 l4 h
set_option maxRecDepth 100000 in
set_option maxHeartbeats 4000000 in
theorem P_X11_ahead_102 {q : eT} {r0 : Int32} {h0 : eH} (hq : e_B q yX11_ahead.cls cX11_ahead 11 3 67 (some .int) yX11_ahead.name) (he : e_E q) (s0 : Int32) (h : eH) : e_K eI q r0 h0 102 [] [.int s0] h (F_X11_ahead_102 s0 h) := by
  unfold F_X11_ahead_102
  refine k_callS hq (na := 1) (As := [.int s0]) (st := []) (con_X11_bit _ _ _ _ s0) tw_793 tw_48 tw_791 tw_792 ⟨by decide, by decide, by decide +kernel⟩ rfl (by decide) rfl (Nat.le_of_ble_eq_true rfl) dX11_ahead_102 fun v1 h2 => ?_
  exact k_iret hq dX11_ahead_105 he
set_option maxRecDepth 100000 in
set_option maxHeartbeats 4000000 in
theorem P_X11_ahead_85 {q : eT} {r0 : Int32} {h0 : eH} (hq : e_B q yX11_ahead.cls cX11_ahead 11 3 67 (some .int) yX11_ahead.name) (he : e_E q) (l2 : Int32) (l3 : Int32) (s0 : Int32) (h : eH) : e_K eI q r0 h0 85 [(2, .int l2), (3, .int l3)] [.int s0] h (F_X11_ahead_85 l2 l3 s0 h) := by
  unfold F_X11_ahead_85
  refine k_istore hq dX11_ahead_85 (by decide) (ls' := [(10, .int s0), (2, .int l2), (3, .int l3)]) rfl ?_
  refine k_iload hq dX11_ahead_87 0 rfl ?_
  refine k_iload_n hq dX11_ahead_89 1 rfl ?_
  refine k_callS hq (na := 2) (As := [.int s0, .int l2]) (st := []) (con_X9_number _ _ _ _ s0 l2) tw_547 tw_65 tw_760 tw_546 ⟨by decide, by decide, by decide +kernel⟩ rfl (by decide) rfl (Nat.le_of_ble_eq_true rfl) dX11_ahead_90 fun v1 h2 => ?_
  refine k_iload_n hq dX11_ahead_93 2 rfl ?_
  refine k_icmp_lt hq (tgt := 101) dX11_ahead_94 (by decide) (fun _ => ?_) (fun _ => ?_)
  · refine k_iconst hq dX11_ahead_101 (v := 0) rfl ?_
    exact k_sub [] rfl (P_X11_ahead_102 hq he 0 h2)
  · refine k_iconst hq dX11_ahead_97 (v := 1) rfl ?_
    refine k_goto hq (tgt := 102) dX11_ahead_98 (by decide) ?_
    exact k_sub [] rfl (P_X11_ahead_102 hq he 1 h2)
set_option maxRecDepth 100000 in
set_option maxHeartbeats 4000000 in
theorem P_X11_ahead_0 {q : eT} {r0 : Int32} {h0 : eH} (hq : e_B q yX11_ahead.cls cX11_ahead 11 3 67 (some .int) yX11_ahead.name) (he : e_E q) (l0 : Nat) (l1 : Int32) (l2 : Int32) (l3 : Int32) (l4 : Int32) (l5 : Int32) (l6 : Int32) (h : eH) : e_K eI q r0 h0 0 [(0, .ref l0), (1, .int l1), (2, .int l2), (3, .int l3), (4, .int l4), (5, .int l5), (6, .int l6)] [] h (F_X11_ahead l0 l1 l2 l3 l4 l5 l6 h) := by
  unfold F_X11_ahead
  refine k_aload_n hq dX11_ahead_0 0 rfl ?_
  refine k_iload_n hq dX11_ahead_1 1 rfl ?_
  refine k_callV hq (na := 1) (As := [.int l1]) (st := []) 10 (C := RX11) (T := TX11) rfl (con_X11_keyAt _ _ _ _ l0 l1) tw_529 tw_48 tw_526 tw_528 tw_11 ⟨by decide, by decide, by decide +kernel⟩ rfl (by decide) rfl (Nat.le_of_ble_eq_true rfl) dX11_ahead_2 fun v1 h2 => ?_
  refine k_qstore hq dX11_ahead_5 (by decide) (ls' := [(7, va_rf v1), (0, .ref l0), (1, .int l1), (2, .int l2), (3, .int l3), (4, .int l4), (5, .int l5), (6, .int l6)]) rfl ?_
  refine k_aload_n hq dX11_ahead_7 1 rfl ?_
  refine k_iload_n hq dX11_ahead_8 2 rfl ?_
  refine k_iload_n hq dX11_ahead_9 3 rfl ?_
  refine k_iload_n hq dX11_ahead_10 4 rfl ?_
  refine k_callV hq (na := 3) (As := [.int l1, .int l2, .int l3]) (st := []) 10 (C := RX11) (T := TX11) rfl (con_X11_dotAt _ _ _ _ l0 l1 l2 l3) tw_787 tw_48 tw_784 tw_786 tw_18 ⟨by decide, by decide, by decide +kernel⟩ rfl (by decide) rfl (Nat.le_of_ble_eq_true rfl) dX11_ahead_11 fun v3 h4 => ?_
  refine k_istore hq dX11_ahead_14 (by decide) (ls' := [(8, .int v3), (7, va_rf v1), (0, .ref l0), (1, .int l1), (2, .int l2), (3, .int l3), (4, .int l4), (5, .int l5), (6, .int l6)]) (by simp [e_cat]) ?_
  refine k_aload_n hq dX11_ahead_16 2 rfl ?_
  refine k_iload_n hq dX11_ahead_17 3 rfl ?_
  refine k_iload hq dX11_ahead_18 6 rfl ?_
  refine k_iload hq dX11_ahead_20 7 rfl ?_
  refine k_callV hq (na := 3) (As := [.int l1, .int l4, .int l5]) (st := []) 10 (C := RX11) (T := TX11) rfl (con_X11_dotAt _ _ _ _ l0 l1 l4 l5) tw_787 tw_48 tw_784 tw_786 tw_18 ⟨by decide, by decide, by decide +kernel⟩ rfl (by decide) rfl (Nat.le_of_ble_eq_true rfl) dX11_ahead_22 fun v5 h6 => ?_
  refine k_istore hq dX11_ahead_25 (by decide) (ls' := [(9, .int v5), (8, .int v3), (7, va_rf v1), (0, .ref l0), (1, .int l1), (2, .int l2), (3, .int l3), (4, .int l4), (5, .int l5), (6, .int l6)]) rfl ?_
  refine k_qload hq dX11_ahead_27 2 rfl ?_
  refine k_ifnull hq (tgt := 55) dX11_ahead_29 (by decide) (fun hr => ?_) (fun r7 hr => ?_)
  · subst hr
    refine k_iconst hq dX11_ahead_55 (v := (-1)) rfl ?_
    exact k_iret hq dX11_ahead_56 he
  · subst hr
    refine k_iload hq dX11_ahead_32 1 rfl ?_
    refine k_iconst hq dX11_ahead_34 (v := (-1)) rfl ?_
    refine k_icmp_eq hq (tgt := 55) dX11_ahead_35 (by decide) (fun _ => ?_) (fun _ => ?_)
    · refine k_iconst hq dX11_ahead_55 (v := (-1)) rfl ?_
      exact k_iret hq dX11_ahead_56 he
    · refine k_iload hq dX11_ahead_38 0 rfl ?_
      refine k_iconst hq dX11_ahead_40 (v := (-1)) rfl ?_
      refine k_icmp_eq hq (tgt := 55) dX11_ahead_41 (by decide) (fun _ => ?_) (fun _ => ?_)
      · refine k_iconst hq dX11_ahead_55 (v := (-1)) rfl ?_
        exact k_iret hq dX11_ahead_56 he
      · refine k_iload hq dX11_ahead_44 9 rfl ?_
        refine k_if_lt hq (tgt := 55) dX11_ahead_46 (by decide) (fun _ => ?_) (fun _ => ?_)
        · refine k_iconst hq dX11_ahead_55 (v := (-1)) rfl ?_
          exact k_iret hq dX11_ahead_56 he
        · refine k_iload hq dX11_ahead_49 9 rfl ?_
          refine k_iconst hq dX11_ahead_51 (v := 1) rfl ?_
          refine k_icmp_le hq (tgt := 57) dX11_ahead_52 (by decide) (fun _ => ?_) (fun _ => ?_)
          · refine k_iload hq dX11_ahead_57 9 rfl ?_
            refine k_if_ne hq (tgt := 75) dX11_ahead_59 (by decide) (fun _ => ?_) (fun _ => ?_)
            · refine k_aload hq dX11_ahead_62 2 rfl ?_
              refine k_grN hq (C := RX4) (T := TX4) 4 0 rfl (by decide) (lay_X4 0 (by decide)) tw_286 dX11_ahead_64 fun v11 => ?_
              refine k_iload hq dX11_ahead_67 0 rfl ?_
              refine k_callV hq (na := 1) (As := [.int v5]) (st := []) 3 (C := RX3) (T := TX3) rfl (con_X3_toldOf _ _ _ _ v11 v5) tw_813 tw_55 tw_810 tw_811 tw_812 ⟨by decide, by decide, by decide +kernel⟩ rfl (by decide) rfl (Nat.le_of_ble_eq_true rfl) dX11_ahead_69 fun v12 h13 => ?_
              refine k_goto hq (tgt := 85) dX11_ahead_72 (by decide) ?_
              exact k_sub [5, 6] rfl (P_X11_ahead_85 hq he l2 l3 v12 h13)
            · refine k_aload hq dX11_ahead_75 2 rfl ?_
              refine k_grN hq (C := RX4) (T := TX4) 4 0 rfl (by decide) (lay_X4 0 (by decide)) tw_286 dX11_ahead_77 fun v8 => ?_
              refine k_iload hq dX11_ahead_80 0 rfl ?_
              refine k_callV hq (na := 1) (As := [.int v5]) (st := []) 3 (C := RX3) (T := TX3) rfl (con_X3_knownOf _ _ _ _ v8 v5) tw_817 tw_55 tw_814 tw_815 tw_816 ⟨by decide, by decide, by decide +kernel⟩ rfl (by decide) rfl (Nat.le_of_ble_eq_true rfl) dX11_ahead_82 fun v9 h10 => ?_
              exact k_sub [5, 6] rfl (P_X11_ahead_85 hq he l2 l3 v9 h10)
          · refine k_iconst hq dX11_ahead_55 (v := (-1)) rfl ?_
            exact k_iret hq dX11_ahead_56 he
theorem con_X11_ahead (l : Launch) (G : eG) (B0 n : Nat) (l0 : Nat) (l1 : Int32) (l2 : Int32) (l3 : Int32) (l4 : Int32) (l5 : Int32) (l6 : Int32) : e_C eI l G B0 n yX11_ahead cX11_ahead 11 (some .int) 3 67 [.ref l0, .int l1, .int l2, .int l3, .int l4, .int l5, .int l6] (F_X11_ahead l0 l1 l2 l3 l4 l5 l6) := by
  refine e_mk (by decide) (Nat.le_of_ble_eq_true rfl) fun q r0 h0 h hq he e1 e2 e3 e4 => ?_
  subst e1; subst e2; subst e3; subst e4
  exact P_X11_ahead_0 hq he l0 l1 l2 l3 l4 l5 l6 h
set_option maxRecDepth 100000 in
set_option maxHeartbeats 4000000 in
theorem P_X11_alike_62 {q : eT} {r0 : Int32} {h0 : eH} (hq : e_B q yX11_alike.cls cX11_alike 6 2 44 (some .int) yX11_alike.name) (he : e_E q) (N : Nat) (s0 : Int32) (h : eH) : e_K eI q r0 h0 62 [] [.int s0] h (F_X11_alike_62 N s0 h) := by
  unfold F_X11_alike_62
  refine k_callS hq (na := 1) (As := [.int s0]) (st := []) (con_X11_bit _ _ _ _ s0) tw_793 tw_48 tw_791 tw_792 ⟨by decide, by decide, by decide +kernel⟩ rfl (by decide) rfl (Nat.le_of_ble_eq_true rfl) dX11_alike_62 fun v1 h2 => ?_
  exact k_iret hq dX11_alike_65 he
set_option maxRecDepth 100000 in
set_option maxHeartbeats 4000000 in
theorem P_X11_alike_61 {q : eT} {r0 : Int32} {h0 : eH} (hq : e_B q yX11_alike.cls cX11_alike 6 2 44 (some .int) yX11_alike.name) (he : e_E q) (N : Nat) (h : eH) : e_K eI q r0 h0 61 [] [] h (F_X11_alike_61 N h) := by
  unfold F_X11_alike_61
  refine k_iconst hq dX11_alike_61 (v := 0) rfl ?_
  exact k_sub [] rfl (P_X11_alike_62 hq he N 0 h)
set_option maxRecDepth 100000 in
set_option maxHeartbeats 4000000 in
theorem P_X11_alike_0 {q : eT} {r0 : Int32} {h0 : eH} (hq : e_B q yX11_alike.cls cX11_alike 6 2 44 (some .int) yX11_alike.name) (he : e_E q) (N : Nat) (l0 : Nat) (l1 : Int32) (l2 : Int32) (l3 : Int32) (h : eH) : e_K eI q r0 h0 0 [(0, .ref l0), (1, .int l1), (2, .int l2), (3, .int l3)] [] h (F_X11_alike N l0 l1 l2 l3 h) := by
  unfold F_X11_alike
  refine k_aload_n hq dX11_alike_0 0 rfl ?_
  refine k_iload_n hq dX11_alike_1 1 rfl ?_
  refine k_iload_n hq dX11_alike_2 3 rfl ?_
  refine k_callV hq (na := 2) (As := [.int l1, .int l3]) (st := []) 10 (C := RX11) (T := TX11) rfl (con_X11_replicaAt _ _ _ _ l0 l1 l3) tw_525 tw_48 tw_522 tw_524 tw_10 ⟨by decide, by decide, by decide +kernel⟩ rfl (by decide) rfl (Nat.le_of_ble_eq_true rfl) dX11_alike_3 fun v1 h2 => ?_
  refine k_qstore hq dX11_alike_6 (by decide) (ls' := [(4, va_rf v1), (0, .ref l0), (1, .int l1), (2, .int l2), (3, .int l3)]) rfl ?_
  refine k_aload_n hq dX11_alike_8 1 rfl ?_
  refine k_iload_n hq dX11_alike_9 3 rfl ?_
  refine k_iload_n hq dX11_alike_10 4 rfl ?_
  refine k_callV hq (na := 2) (As := [.int l2, .int l3]) (st := []) 10 (C := RX11) (T := TX11) rfl (con_X11_replicaAt _ _ _ _ l0 l2 l3) tw_525 tw_48 tw_522 tw_524 tw_10 ⟨by decide, by decide, by decide +kernel⟩ rfl (by decide) rfl (Nat.le_of_ble_eq_true rfl) dX11_alike_11 fun v3 h4 => ?_
  refine k_qstore hq dX11_alike_14 (by decide) (ls' := [(5, va_rf v3), (4, va_rf v1), (0, .ref l0), (1, .int l1), (2, .int l2), (3, .int l3)]) (by simp [e_cat]) ?_
  refine k_qload hq dX11_alike_16 1 rfl ?_
  refine k_ifnull hq (tgt := 26) dX11_alike_18 (by decide) (fun hr => ?_) (fun r5 hr => ?_)
  · subst hr
    refine k_iconst hq dX11_alike_26 (v := (-1)) rfl ?_
    exact k_iret hq dX11_alike_27 he
  · subst hr
    refine k_qload hq dX11_alike_21 0 rfl ?_
    refine k_ifnonnull hq (tgt := 28) dX11_alike_23 (by decide) (fun hr => ?_) (fun r6 hr => ?_)
    · subst hr
      refine k_iconst hq dX11_alike_26 (v := (-1)) rfl ?_
      exact k_iret hq dX11_alike_27 he
    · subst hr
      refine k_aload hq dX11_alike_28 1 rfl ?_
      refine k_giN hq (C := RX8) (T := TX8) 8 3 rfl (by decide) (lay_X8 3 (by decide)) tw_275 dX11_alike_30 fun v7 => ?_
      refine k_aload hq dX11_alike_33 0 rfl ?_
      refine k_giN hq (C := RX8) (T := TX8) 8 3 rfl (by decide) (lay_X8 3 (by decide)) tw_275 dX11_alike_35 fun v8 => ?_
      refine k_icmp_ne hq (tgt := 61) dX11_alike_38 (by decide) (fun _ => ?_) (fun _ => ?_)
      · refine k_aload hq dX11_alike_41 1 rfl ?_
        refine k_grN hq (C := RX8) (T := TX8) 8 2 rfl (by decide) (lay_X8 2 (by decide)) tw_272 dX11_alike_43 fun v9 => ?_
        refine k_aload hq dX11_alike_46 0 rfl ?_
        refine k_grN hq (C := RX8) (T := TX8) 8 2 rfl (by decide) (lay_X8 2 (by decide)) tw_272 dX11_alike_48 fun v10 => ?_
        refine k_callV hq (na := 1) (As := [.ref v10]) (st := []) 1 (C := RX1) (T := TX1) rfl (con_X1_isSame _ _ _ _ N v9 v10) tw_825 tw_56 tw_822 tw_823 tw_824 ⟨by decide, by decide, by decide +kernel⟩ rfl (by decide) rfl (Nat.le_of_ble_eq_true rfl) dX11_alike_51 fun v11 h12 => ?_
        refine k_if_eq hq (tgt := 61) dX11_alike_54 (by decide) (fun _ => ?_) (fun _ => ?_)
        · exact k_sub [] rfl (P_X11_alike_61 hq he N h12)
        · refine k_iconst hq dX11_alike_57 (v := 1) rfl ?_
          refine k_goto hq (tgt := 62) dX11_alike_58 (by decide) ?_
          exact k_sub [] rfl (P_X11_alike_62 hq he N 1 h12)
      · exact k_sub [] rfl (P_X11_alike_61 hq he N h4)
theorem con_X11_alike (l : Launch) (G : eG) (B0 n : Nat) (N : Nat) (l0 : Nat) (l1 : Int32) (l2 : Int32) (l3 : Int32) : e_C eI l G B0 n yX11_alike cX11_alike 6 (some .int) 2 44 [.ref l0, .int l1, .int l2, .int l3] (F_X11_alike N l0 l1 l2 l3) := by
  refine e_mk (by decide) (Nat.le_of_ble_eq_true rfl) fun q r0 h0 h hq he e1 e2 e3 e4 => ?_
  subst e1; subst e2; subst e3; subst e4
  exact P_X11_alike_0 hq he N l0 l1 l2 l3 h
set_option maxRecDepth 100000 in
set_option maxHeartbeats 4000000 in
theorem P_X11_behind_0 {q : eT} {r0 : Int32} {h0 : eH} (hq : e_B q yX11_behind.cls cX11_behind 5 3 76 (some .int) yX11_behind.name) (he : e_E q) (N : Nat) (l0 : Nat) (l1 : Int32) (l2 : Int32) (h : eH) : e_K eI q r0 h0 0 [(0, .ref l0), (1, .int l1), (2, .int l2)] [] h (F_X11_behind N l0 l1 l2 h) := by
  unfold F_X11_behind
  refine k_aload_n hq dX11_behind_0 0 rfl ?_
  refine k_iload_n hq dX11_behind_1 2 rfl ?_
  refine k_callV hq (na := 1) (As := [.int l2]) (st := []) 10 (C := RX11) (T := TX11) rfl (con_X11_keyAt _ _ _ _ l0 l2) tw_529 tw_48 tw_526 tw_528 tw_11 ⟨by decide, by decide, by decide +kernel⟩ rfl (by decide) rfl (Nat.le_of_ble_eq_true rfl) dX11_behind_2 fun v1 h2 => ?_
  refine k_qstore_n hq dX11_behind_5 rfl (by decide) (ls' := [(3, va_rf v1), (0, .ref l0), (1, .int l1), (2, .int l2)]) rfl ?_
  refine k_aload_n hq dX11_behind_6 1 rfl ?_
  refine k_iload_n hq dX11_behind_7 2 rfl ?_
  refine k_iload_n hq dX11_behind_8 3 rfl ?_
  refine k_callV hq (na := 2) (As := [.int l1, .int l2]) (st := []) 10 (C := RX11) (T := TX11) rfl (con_X11_replicaAt _ _ _ _ l0 l1 l2) tw_525 tw_48 tw_522 tw_524 tw_10 ⟨by decide, by decide, by decide +kernel⟩ rfl (by decide) rfl (Nat.le_of_ble_eq_true rfl) dX11_behind_9 fun v3 h4 => ?_
  refine k_qstore hq dX11_behind_12 (by decide) (ls' := [(4, va_rf v3), (3, va_rf v1), (0, .ref l0), (1, .int l1), (2, .int l2)]) (by simp [e_cat]) ?_
  refine k_qload_n hq dX11_behind_14 1 rfl ?_
  refine k_ifnull hq (tgt := 23) dX11_behind_15 (by decide) (fun hr => ?_) (fun r5 hr => ?_)
  · subst hr
    refine k_iconst hq dX11_behind_23 (v := (-1)) rfl ?_
    exact k_iret hq dX11_behind_24 he
  · subst hr
    refine k_qload hq dX11_behind_18 0 rfl ?_
    refine k_ifnonnull hq (tgt := 25) dX11_behind_20 (by decide) (fun hr => ?_) (fun r6 hr => ?_)
    · subst hr
      refine k_iconst hq dX11_behind_23 (v := (-1)) rfl ?_
      exact k_iret hq dX11_behind_24 he
    · subst hr
      refine k_aload_n hq dX11_behind_25 1 rfl ?_
      refine k_callV hq (na := 0) (As := []) (st := []) 4 (C := RX4) (T := TX4) rfl (con_X4_greatestRow _ _ _ _ N r5) tw_833 tw_54 tw_830 tw_831 tw_832 ⟨by decide, by decide, by decide +kernel⟩ rfl (by decide) rfl (Nat.le_of_ble_eq_true rfl) dX11_behind_26 fun v7 h8 => ?_
      refine k_callS hq (na := 1) (As := [.int v7]) (st := []) (con_X9_sum _ _ _ _ N v7) tw_837 tw_65 tw_835 tw_836 ⟨by decide, by decide, by decide +kernel⟩ rfl (by decide) rfl (Nat.le_of_ble_eq_true rfl) dX11_behind_29 fun v9 h10 => ?_
      refine k_aload hq dX11_behind_32 0 rfl ?_
      refine k_giN hq (C := RX8) (T := TX8) 8 3 rfl (by decide) (lay_X8 3 (by decide)) tw_275 dX11_behind_34 fun v11 => ?_
      refine k_callS hq (na := 1) (As := [.int v11]) (st := [.int v9]) (con_X9_sum _ _ _ _ N v11) tw_837 tw_65 tw_835 tw_836 ⟨by decide, by decide, by decide +kernel⟩ rfl (by decide) rfl (Nat.le_of_ble_eq_true rfl) dX11_behind_37 fun v12 h13 => ?_
      refine k_isub hq dX11_behind_40 ?_
      exact k_iret hq dX11_behind_41 he
theorem con_X11_behind (l : Launch) (G : eG) (B0 n : Nat) (N : Nat) (l0 : Nat) (l1 : Int32) (l2 : Int32) : e_C eI l G B0 n yX11_behind cX11_behind 5 (some .int) 3 76 [.ref l0, .int l1, .int l2] (F_X11_behind N l0 l1 l2) := by
  refine e_mk (by decide) (Nat.le_of_ble_eq_true rfl) fun q r0 h0 h hq he e1 e2 e3 e4 => ?_
  subst e1; subst e2; subst e3; subst e4
  exact P_X11_behind_0 hq he N l0 l1 l2 h
set_option maxRecDepth 100000 in
set_option maxHeartbeats 4000000 in
theorem P_X11_spread_0 {q : eT} {r0 : Int32} {h0 : eH} (hq : e_B q yX11_spread.cls cX11_spread 4 13 325 (some .int) yX11_spread.name) (he : e_E q) (N : Nat) (l0 : Nat) (l1 : Int32) (l2 : Int32) (h : eH) : e_K eI q r0 h0 0 [(0, .ref l0), (1, .int l1), (2, .int l2)] [] h (F_X11_spread N l0 l1 l2 h) := by
  unfold F_X11_spread
  refine k_aload_n hq dX11_spread_0 0 rfl ?_
  refine k_iload_n hq dX11_spread_1 1 rfl ?_
  refine k_callV hq (na := 1) (As := [.int l1]) (st := []) 10 (C := RX11) (T := TX11) rfl (con_X11_keyAt _ _ _ _ l0 l1) tw_529 tw_48 tw_526 tw_528 tw_11 ⟨by decide, by decide, by decide +kernel⟩ rfl (by decide) rfl (Nat.le_of_ble_eq_true rfl) dX11_spread_2 fun v1 h2 => ?_
  refine k_qstore_n hq dX11_spread_5 rfl (by decide) (ls' := [(3, va_rf v1), (0, .ref l0), (1, .int l1), (2, .int l2)]) rfl ?_
  refine k_qload_n hq dX11_spread_6 0 rfl ?_
  refine k_ifnull hq (tgt := 19) dX11_spread_7 (by decide) (fun hr => ?_) (fun r3 hr => ?_)
  · subst hr
    refine k_iconst hq dX11_spread_19 (v := (-1)) rfl ?_
    exact k_iret hq dX11_spread_20 he
  · subst hr
    refine k_iload_n hq dX11_spread_10 3 rfl ?_
    refine k_if_lt hq (tgt := 19) dX11_spread_11 (by decide) (fun _ => ?_) (fun _ => ?_)
    · refine k_iconst hq dX11_spread_19 (v := (-1)) rfl ?_
      exact k_iret hq dX11_spread_20 he
    · refine k_iload_n hq dX11_spread_14 3 rfl ?_
      refine k_iconst hq dX11_spread_15 (v := 1) rfl ?_
      refine k_icmp_le hq (tgt := 21) dX11_spread_16 (by decide) (fun _ => ?_) (fun _ => ?_)
      · refine k_aload_n hq dX11_spread_21 1 rfl ?_
        refine k_gr hq (C := RX11) (T := TX11) 10 6 rfl (by decide) (lay_X11 6 (by decide)) tw_317 dX11_spread_22 fun v4 => ?_
        refine k_aload_n hq dX11_spread_25 0 rfl ?_
        refine k_aload_n hq dX11_spread_26 1 rfl ?_
        refine k_gi hq (C := RX11) (T := TX11) 10 7 rfl (by decide) (lay_X11 7 (by decide)) tw_318 dX11_spread_27 fun v5 => ?_
        refine k_callV hq (na := 2) (As := [.ref r3, .int v5]) (st := []) 2 (C := RX2) (T := TX2) rfl (con_X2_lookAt _ _ _ _ N v4 r3 v5) tw_845 tw_53 tw_842 tw_843 tw_844 ⟨by decide, by decide, by decide +kernel⟩ rfl (by decide) rfl (Nat.le_of_ble_eq_true rfl) dX11_spread_30 fun v6 h7 => ?_
        refine k_iload_n hq dX11_spread_33 3 rfl ?_
        refine k_if_ne hq (tgt := 47) dX11_spread_34 (by decide) (fun _ => ?_) (fun _ => ?_)
        · refine k_aload_n hq dX11_spread_37 1 rfl ?_
          refine k_gr hq (C := RX11) (T := TX11) 10 6 rfl (by decide) (lay_X11 6 (by decide)) tw_317 dX11_spread_38 fun v11 => ?_
          refine k_callV hq (na := 0) (As := []) (st := []) 2 (C := RX2) (T := TX2) rfl (con_X2_fewest _ _ _ _ N v11) tw_870 tw_53 tw_867 tw_868 tw_869 ⟨by decide, by decide, by decide +kernel⟩ rfl (by decide) rfl (Nat.le_of_ble_eq_true rfl) dX11_spread_41 fun v12 h13 => ?_
          refine k_goto hq (tgt := 54) dX11_spread_44 (by decide) ?_
          exact k_iret hq dX11_spread_54 he
        · refine k_aload_n hq dX11_spread_47 1 rfl ?_
          refine k_gr hq (C := RX11) (T := TX11) 10 6 rfl (by decide) (lay_X11 6 (by decide)) tw_317 dX11_spread_48 fun v8 => ?_
          refine k_callV hq (na := 0) (As := []) (st := []) 2 (C := RX2) (T := TX2) rfl (con_X2_firstOfFewest _ _ _ _ N v8) tw_888 tw_53 tw_885 tw_886 tw_887 ⟨by decide, by decide, by decide +kernel⟩ rfl (by decide) rfl (Nat.le_of_ble_eq_true rfl) dX11_spread_51 fun v9 h10 => ?_
          exact k_iret hq dX11_spread_54 he
      · refine k_iconst hq dX11_spread_19 (v := (-1)) rfl ?_
        exact k_iret hq dX11_spread_20 he
theorem con_X11_spread (l : Launch) (G : eG) (B0 n : Nat) (N : Nat) (l0 : Nat) (l1 : Int32) (l2 : Int32) : e_C eI l G B0 n yX11_spread cX11_spread 4 (some .int) 13 325 [.ref l0, .int l1, .int l2] (F_X11_spread N l0 l1 l2) := by
  refine e_mk (by decide) (Nat.le_of_ble_eq_true rfl) fun q r0 h0 h hq he e1 e2 e3 e4 => ?_
  subst e1; subst e2; subst e3; subst e4
  exact P_X11_spread_0 hq he N l0 l1 l2 h
set_option maxRecDepth 100000 in
set_option maxHeartbeats 4000000 in
theorem P_X11_rule_0 {q : eT} {r0 : Int32} {h0 : eH} (hq : e_B q yX11_rule.cls cX11_rule 3 2 42 (some .int) yX11_rule.name) (he : e_E q) (l0 : Nat) (l1 : Int32) (l2 : Int32) (h : eH) : e_K eI q r0 h0 0 [(0, .ref l0), (1, .int l1), (2, .int l2)] [] h (F_X11_rule l0 l1 l2 h) := by
  unfold F_X11_rule
  refine k_iload_n hq dX11_rule_0 1 rfl ?_
  refine k_if_lt hq (tgt := 13) dX11_rule_1 (by decide) (fun _ => ?_) (fun _ => ?_)
  · refine k_iconst hq dX11_rule_13 (v := (-1)) rfl ?_
    exact k_iret hq dX11_rule_14 he
  · refine k_iload_n hq dX11_rule_4 2 rfl ?_
    refine k_if_lt hq (tgt := 13) dX11_rule_5 (by decide) (fun _ => ?_) (fun _ => ?_)
    · refine k_iconst hq dX11_rule_13 (v := (-1)) rfl ?_
      exact k_iret hq dX11_rule_14 he
    · refine k_iload_n hq dX11_rule_8 2 rfl ?_
      refine k_iconst hq dX11_rule_9 (v := 1) rfl ?_
      refine k_icmp_le hq (tgt := 15) dX11_rule_10 (by decide) (fun _ => ?_) (fun _ => ?_)
      · refine k_iload_n hq dX11_rule_15 2 rfl ?_
        refine k_if_ne hq (tgt := 30) dX11_rule_16 (by decide) (fun _ => ?_) (fun _ => ?_)
        · refine k_aload_n hq dX11_rule_19 0 rfl ?_
          refine k_gr hq (C := RX11) (T := TX11) 10 4 rfl (by decide) (lay_X11 4 (by decide)) tw_315 dX11_rule_20 fun v4 => ?_
          refine k_iload_n hq dX11_rule_23 1 rfl ?_
          refine k_callV hq (na := 1) (As := [.int l1]) (st := []) 5 (C := RX5) (T := TX5) rfl (con_X5_keyAtPlace _ _ _ _ v4 l1) tw_897 tw_51 tw_894 tw_895 tw_896 ⟨by decide, by decide, by decide +kernel⟩ rfl (by decide) rfl (Nat.le_of_ble_eq_true rfl) dX11_rule_24 fun v5 h6 => ?_
          refine k_goto hq (tgt := 38) dX11_rule_27 (by decide) ?_
          exact k_iret hq dX11_rule_38 he
        · refine k_aload_n hq dX11_rule_30 0 rfl ?_
          refine k_gr hq (C := RX11) (T := TX11) 10 4 rfl (by decide) (lay_X11 4 (by decide)) tw_315 dX11_rule_31 fun v1 => ?_
          refine k_iload_n hq dX11_rule_34 1 rfl ?_
          refine k_callV hq (na := 1) (As := [.int l1]) (st := []) 5 (C := RX5) (T := TX5) rfl (con_X5_ruleAtPlace _ _ _ _ v1 l1) tw_696 tw_51 tw_898 tw_694 tw_695 ⟨by decide, by decide, by decide +kernel⟩ rfl (by decide) rfl (Nat.le_of_ble_eq_true rfl) dX11_rule_35 fun v2 h3 => ?_
          exact k_iret hq dX11_rule_38 he
      · refine k_iconst hq dX11_rule_13 (v := (-1)) rfl ?_
        exact k_iret hq dX11_rule_14 he
theorem con_X11_rule (l : Launch) (G : eG) (B0 n : Nat) (l0 : Nat) (l1 : Int32) (l2 : Int32) : e_C eI l G B0 n yX11_rule cX11_rule 3 (some .int) 2 42 [.ref l0, .int l1, .int l2] (F_X11_rule l0 l1 l2) := by
  refine e_mk (by decide) (Nat.le_of_ble_eq_true rfl) fun q r0 h0 h hq he e1 e2 e3 e4 => ?_
  subst e1; subst e2; subst e3; subst e4
  exact P_X11_rule_0 hq he l0 l1 l2 h
