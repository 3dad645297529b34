set_option maxRecDepth 100000 in
set_option maxHeartbeats 4000000 in
theorem P_X12_spread_146 {q : eT} {r0 : Int32} {h0 : eH} (hq : e_B q yX12_spread.cls cX12_spread 8 3 78 (some .int) yX12_spread.name) (he : e_E q) (N : Nat) (k74 : Nat → Int32 → Int32 → Int32 → eH → Option (Int32 × eH)) (hk74 : ∀ (l0 : Nat) (l3 : Int32) (l4 : Int32) (l5 : Int32) h, e_K eI q r0 h0 74 [(0, .ref l0), (3, .int l3), (4, .int l4), (5, .int l5)] [] h (k74 l0 l3 l4 l5 h)) (l0 : Nat) (l3 : Int32) (l4 : Int32) (l5 : Int32) (h : eH) : e_K eI q r0 h0 146 [(0, .ref l0), (3, .int l3), (4, .int l4), (5, .int l5)] [] h (F_X12_spread_146 N k74 l0 l3 l4 l5 h) := by
  unfold F_X12_spread_146
  refine k_iinc hq dX12_spread_146 3 rfl (v := l5 + 1) rfl (by decide) (ls' := [(5, .int (l5 + 1)), (0, .ref l0), (3, .int l3), (4, .int l4)]) rfl ?_
  refine k_goto hq (tgt := 74) dX12_spread_149 (by decide) ?_
  exact k_sub [1, 2, 3, 0] rfl (hk74 l0 l3 l4 (l5 + 1) h)
set_option maxRecDepth 100000 in
set_option maxHeartbeats 4000000 in
theorem P_X12_spread_74b {q : eT} {r0 : Int32} {h0 : eH} (hq : e_B q yX12_spread.cls cX12_spread 8 3 78 (some .int) yX12_spread.name) (he : e_E q) (N : Nat) (k74 : Nat → Int32 → Int32 → Int32 → eH → Option (Int32 × eH)) (hk74 : ∀ (l0 : Nat) (l3 : Int32) (l4 : Int32) (l5 : Int32) h, e_K eI q r0 h0 74 [(0, .ref l0), (3, .int l3), (4, .int l4), (5, .int l5)] [] h (k74 l0 l3 l4 l5 h)) (l0 : Nat) (l3 : Int32) (l4 : Int32) (l5 : Int32) (h : eH) : e_K eI q r0 h0 74 [(0, .ref l0), (3, .int l3), (4, .int l4), (5, .int l5)] [] h (F_X12_spread_74b N k74 l0 l3 l4 l5 h) := by
  unfold F_X12_spread_74b
  refine k_iload hq dX12_spread_74 3 rfl ?_
  refine k_aload_n hq dX12_spread_76 0 rfl ?_
  refine k_gi hq (C := RX12) (T := TX12) 11 0 rfl (by decide) (lay_X12 0 (by decide)) tw_927 dX12_spread_77 fun v1 => ?_
  refine k_aload_n hq dX12_spread_80 0 rfl ?_
  refine k_gi hq (C := RX12) (T := TX12) 11 0 rfl (by decide) (lay_X12 0 (by decide)) tw_927 dX12_spread_81 fun v2 => ?_
  refine k_imul hq dX12_spread_84 ?_
  refine k_icmp_ge hq (tgt := 152) dX12_spread_85 (by decide) (fun _ => ?_) (fun _ => ?_)
  · refine k_bipush hq dX12_spread_152 (v := (-9)) rfl ?_
    exact k_iret hq dX12_spread_154 he
  · refine k_iload hq dX12_spread_88 2 rfl ?_
    refine k_if_le hq (tgt := 152) dX12_spread_90 (by decide) (fun _ => ?_) (fun _ => ?_)
    · refine k_bipush hq dX12_spread_152 (v := (-9)) rfl ?_
      exact k_iret hq dX12_spread_154 he
    · refine k_iload hq dX12_spread_93 3 rfl ?_
      refine k_aload_n hq dX12_spread_95 0 rfl ?_
      refine k_gi hq (C := RX12) (T := TX12) 11 0 rfl (by decide) (lay_X12 0 (by decide)) tw_927 dX12_spread_96 fun v3 => ?_
      refine k_idiv hq dX12_spread_99 fun _ => ?_
      refine k_let (mk := fun z => .int z :: []) fun v4 _ => ?_
      refine k_istore hq dX12_spread_100 (by decide) (ls' := [(6, .int v4), (0, .ref l0), (3, .int l3), (4, .int l4), (5, .int l5)]) rfl ?_
      refine k_iload hq dX12_spread_102 4 rfl ?_
      refine k_aload_n hq dX12_spread_104 1 rfl ?_
      refine k_gi hq (C := RX12) (T := TX12) 11 0 rfl (by decide) (lay_X12 0 (by decide)) tw_927 dX12_spread_105 fun v5 => ?_
      refine k_irem hq dX12_spread_108 fun _ => ?_
      refine k_let (mk := fun z => .int z :: []) fun v6 _ => ?_
      refine k_istore hq dX12_spread_109 (by decide) (ls' := [(7, .int v6), (6, .int v4), (0, .ref l0), (3, .int l3), (4, .int l4), (5, .int l5)]) rfl ?_
      refine k_iload hq dX12_spread_111 1 rfl ?_
      refine k_iload hq dX12_spread_113 0 rfl ?_
      refine k_icmp_eq hq (tgt := 146) dX12_spread_115 (by decide) (fun _ => ?_) (fun _ => ?_)
      · exact k_sub [2, 3, 4, 5] rfl (P_X12_spread_146 hq he N k74 hk74 l0 l3 l4 l5 h)
      · refine k_aload_n hq dX12_spread_118 2 rfl ?_
        refine k_iload_n hq dX12_spread_119 3 rfl ?_
        refine k_iload hq dX12_spread_120 1 rfl ?_
        refine k_iload hq dX12_spread_122 0 rfl ?_
        refine k_callS hq (na := 3) (As := [.int l3, .int v4, .int v6]) (st := [.ref l0]) (con_X12_sent _ _ _ _ l3 v4 v6) tw_1250 tw_59 tw_1248 tw_1249 ⟨by decide, by decide, by decide +kernel⟩ rfl (by decide) rfl (Nat.le_of_ble_eq_true rfl) dX12_spread_124 fun v7 h8 => ?_
        refine k_callV hq (na := 1) (As := [.int v7]) (st := []) 11 (C := RX12) (T := TX12) rfl (con_X12_fewest _ _ _ _ N l0 v7) tw_1240 tw_59 tw_1237 tw_1239 tw_44 ⟨by decide, by decide, by decide +kernel⟩ rfl (by decide) rfl (Nat.le_of_ble_eq_true rfl) dX12_spread_127 fun v9 h10 => ?_
        refine k_iload hq dX12_spread_130 4 rfl ?_
        refine k_iconst hq dX12_spread_132 (v := 1) rfl ?_
        refine k_isub hq dX12_spread_133 ?_
        refine k_icmp_ne hq (tgt := 146) dX12_spread_134 (by decide) (fun _ => ?_) (fun _ => ?_)
        · refine k_bipush hq dX12_spread_137 (v := 10) rfl ?_
          refine k_iload hq dX12_spread_139 1 rfl ?_
          refine k_imul hq dX12_spread_141 ?_
          refine k_iload hq dX12_spread_142 0 rfl ?_
          refine k_iadd hq dX12_spread_144 ?_
          exact k_iret hq dX12_spread_145 he
        · exact k_sub [2, 3, 4, 5] rfl (P_X12_spread_146 hq he N k74 hk74 l0 l3 l4 l5 h10)
theorem Q_X12_spread_74 {q : eT} {r0 : Int32} {h0 : eH} (hq : e_B q yX12_spread.cls cX12_spread 8 3 78 (some .int) yX12_spread.name) (he : e_E q) (N : Nat) (l0 : Nat) (l3 : Int32) (l4 : Int32) (l5 : Int32) (h : eH) : e_K eI q r0 h0 74 [(0, .ref l0), (3, .int l3), (4, .int l4), (5, .int l5)] [] h (L_X12_spread_74 N l0 l3 l4 l5 h) :=
  k_loop (mk := (fun s => [(0, .ref s.1), (3, .int s.2.1), (4, .int s.2.2.1), (5, .int s.2.2.2.1)])) (hp := fun s => s.2.2.2.2) (fun k hk s => P_X12_spread_74b hq he N (fun l0 l3 l4 l5 h => k (l0, l3, l4, l5, h)) (fun l0 l3 l4 l5 h => hk (l0, l3, l4, l5, h)) s.1 s.2.1 s.2.2.1 s.2.2.2.1 s.2.2.2.2) N (l0, l3, l4, l5, h)
set_option maxRecDepth 100000 in
set_option maxHeartbeats 4000000 in
theorem P_X12_spread_30b {q : eT} {r0 : Int32} {h0 : eH} (hq : e_B q yX12_spread.cls cX12_spread 8 3 78 (some .int) yX12_spread.name) (he : e_E q) (N : Nat) (k30 : Nat → Int32 → Int32 → Int32 → eH → Option (Int32 × eH)) (hk30 : ∀ (l0 : Nat) (l2 : Int32) (l3 : Int32) (l4 : Int32) h, e_K eI q r0 h0 30 [(0, .ref l0), (2, .int l2), (3, .int l3), (4, .int l4)] [] h (k30 l0 l2 l3 l4 h)) (l0 : Nat) (l2 : Int32) (l3 : Int32) (l4 : Int32) (h : eH) : e_K eI q r0 h0 30 [(0, .ref l0), (2, .int l2), (3, .int l3), (4, .int l4)] [] h (F_X12_spread_30b N k30 l0 l2 l3 l4 h) := by
  unfold F_X12_spread_30b
  refine k_iload hq dX12_spread_30 3 rfl ?_
  refine k_aload_n hq dX12_spread_32 0 rfl ?_
  refine k_gi hq (C := RX12) (T := TX12) 11 0 rfl (by decide) (lay_X12 0 (by decide)) tw_927 dX12_spread_33 fun v1 => ?_
  refine k_icmp_ge hq (tgt := 57) dX12_spread_36 (by decide) (fun _ => ?_) (fun _ => ?_)
  · refine k_aload_n hq dX12_spread_57 0 rfl ?_
    refine k_iload_n hq dX12_spread_58 2 rfl ?_
    refine k_callV hq (na := 1) (As := [.int l3]) (st := []) 11 (C := RX12) (T := TX12) rfl (con_X12_fewest _ _ _ _ N l0 l3) tw_1240 tw_59 tw_1237 tw_1239 tw_44 ⟨by decide, by decide, by decide +kernel⟩ rfl (by decide) rfl (Nat.le_of_ble_eq_true rfl) dX12_spread_59 fun v2 h3 => ?_
    refine k_istore hq dX12_spread_62 (by decide) (ls' := [(4, .int v2), (0, .ref l0), (2, .int l2), (3, .int l3)]) rfl ?_
    refine k_iload_n hq dX12_spread_64 2 rfl ?_
    refine k_if_ne hq (tgt := 71) dX12_spread_65 (by decide) (fun _ => ?_) (fun _ => ?_)
    · refine k_iload hq dX12_spread_68 0 rfl ?_
      exact k_iret hq dX12_spread_70 he
    · refine k_iconst hq dX12_spread_71 (v := 0) rfl ?_
      refine k_istore hq dX12_spread_72 (by decide) (ls' := [(5, .int 0), (4, .int v2), (0, .ref l0), (2, .int l2), (3, .int l3)]) rfl ?_
      exact k_sub [2, 4, 1, 0] rfl (Q_X12_spread_74 hq he N l0 l3 v2 0 h3)
  · refine k_iload_n hq dX12_spread_39 2 rfl ?_
    refine k_iconst hq dX12_spread_40 (v := 1) rfl ?_
    refine k_iload hq dX12_spread_41 3 rfl ?_
    refine k_ishl hq dX12_spread_43 ?_
    refine k_iconst hq dX12_spread_44 (v := 4) rfl ?_
    refine k_iload hq dX12_spread_45 3 rfl ?_
    refine k_imul hq dX12_spread_47 ?_
    refine k_ishl hq dX12_spread_48 ?_
    refine k_ior hq dX12_spread_49 ?_
    refine k_let (mk := fun z => .int z :: []) fun v4 _ => ?_
    refine k_istore_n hq dX12_spread_50 rfl (by decide) (ls' := [(3, .int v4), (0, .ref l0), (2, .int l2), (4, .int l4)]) rfl ?_
    refine k_iinc hq dX12_spread_51 3 rfl (v := l4 + 1) rfl (by decide) (ls' := [(4, .int (l4 + 1)), (3, .int v4), (0, .ref l0), (2, .int l2)]) rfl ?_
    refine k_goto hq (tgt := 30) dX12_spread_54 (by decide) ?_
    exact k_sub [2, 3, 1, 0] rfl (hk30 l0 l2 v4 (l4 + 1) h)
theorem Q_X12_spread_30 {q : eT} {r0 : Int32} {h0 : eH} (hq : e_B q yX12_spread.cls cX12_spread 8 3 78 (some .int) yX12_spread.name) (he : e_E q) (N : Nat) (l0 : Nat) (l2 : Int32) (l3 : Int32) (l4 : Int32) (h : eH) : e_K eI q r0 h0 30 [(0, .ref l0), (2, .int l2), (3, .int l3), (4, .int l4)] [] h (L_X12_spread_30 N l0 l2 l3 l4 h) :=
  k_loop (mk := (fun s => [(0, .ref s.1), (2, .int s.2.1), (3, .int s.2.2.1), (4, .int s.2.2.2.1)])) (hp := fun s => s.2.2.2.2) (fun k hk s => P_X12_spread_30b hq he N (fun l0 l2 l3 l4 h => k (l0, l2, l3, l4, h)) (fun l0 l2 l3 l4 h => hk (l0, l2, l3, l4, h)) s.1 s.2.1 s.2.2.1 s.2.2.2.1 s.2.2.2.2) N (l0, l2, l3, l4, h)
set_option maxRecDepth 100000 in
set_option maxHeartbeats 4000000 in
theorem P_X12_spread_0 {q : eT} {r0 : Int32} {h0 : eH} (hq : e_B q yX12_spread.cls cX12_spread 8 3 78 (some .int) yX12_spread.name) (he : e_E q) (N : Nat) (l0 : Nat) (l1 : Int32) (l2 : Int32) (h : eH) : e_K eI q r0 h0 0 [(0, .ref l0), (1, .int l1), (2, .int l2)] [] h (F_X12_spread N l0 l1 l2 h) := by
  unfold F_X12_spread
  refine k_aload_n hq dX12_spread_0 0 rfl ?_
  refine k_iload_n hq dX12_spread_1 1 rfl ?_
  refine k_callV hq (na := 1) (As := [.int l1]) (st := []) 11 (C := RX12) (T := TX12) rfl (con_X12_isKey _ _ _ _ l0 l1) tw_1109 tw_59 tw_1106 tw_1108 tw_29 ⟨by decide, by decide, by decide +kernel⟩ rfl (by decide) rfl (Nat.le_of_ble_eq_true rfl) dX12_spread_2 fun v1 h2 => ?_
  refine k_if_eq hq (tgt := 18) dX12_spread_5 (by decide) (fun _ => ?_) (fun _ => ?_)
  · refine k_iconst hq dX12_spread_18 (v := (-1)) rfl ?_
    exact k_iret hq dX12_spread_19 he
  · refine k_iload_n hq dX12_spread_8 2 rfl ?_
    refine k_i2l hq dX12_spread_9 ?_
    refine k_lconst hq dX12_spread_10 (v := 0) rfl ?_
    refine k_lconst hq dX12_spread_11 (v := 1) rfl ?_
    refine k_callS hq (na := 3) (As := [.long (l2.toInt64), .long 0, .long 1]) (st := []) (con_X12_in _ _ _ _ (l2.toInt64) 0 1) tw_1059 tw_59 tw_1057 tw_1058 ⟨by decide, by decide, by decide +kernel⟩ rfl (by decide) rfl (Nat.le_of_ble_eq_true rfl) dX12_spread_12 fun v3 h4 => ?_
    refine k_if_ne hq (tgt := 20) dX12_spread_15 (by decide) (fun _ => ?_) (fun _ => ?_)
    · refine k_iconst hq dX12_spread_18 (v := (-1)) rfl ?_
      exact k_iret hq dX12_spread_19 he
    · refine k_aload_n hq dX12_spread_20 0 rfl ?_
      refine k_iload_n hq dX12_spread_21 1 rfl ?_
      refine k_callV hq (na := 1) (As := [.int l1]) (st := []) 11 (C := RX12) (T := TX12) rfl (con_X12_laysSets _ _ _ _ N l0 l1) tw_1228 tw_59 tw_1225 tw_1227 tw_41 ⟨by decide, by decide, by decide +kernel⟩ rfl (by decide) rfl (Nat.le_of_ble_eq_true rfl) dX12_spread_22 fun v5 h6 => ?_
      refine k_iconst hq dX12_spread_25 (v := 0) rfl ?_
      refine k_istore_n hq dX12_spread_26 rfl (by decide) (ls' := [(3, .int 0), (0, .ref l0), (1, .int l1), (2, .int l2)]) rfl ?_
      refine k_iconst hq dX12_spread_27 (v := 0) rfl ?_
      refine k_istore hq dX12_spread_28 (by decide) (ls' := [(4, .int 0), (3, .int 0), (0, .ref l0), (1, .int l1), (2, .int l2)]) rfl ?_
      exact k_sub [2, 4, 1, 0] rfl (Q_X12_spread_30 hq he N l0 l2 0 0 h6)
theorem con_X12_spread (l : Launch) (G : eG) (B0 n : Nat) (N : Nat) (l0 : Nat) (l1 : Int32) (l2 : Int32) : e_C eI l G B0 n yX12_spread cX12_spread 8 (some .int) 3 78 [.ref l0, .int l1, .int l2] (F_X12_spread N l0 l1 l2) := by
  refine e_mk (by decide) (Nat.le_of_ble_eq_true rfl) fun q r0 h0 h hq he e1 e2 e3 e4 => ?_
  subst e1; subst e2; subst e3; subst e4
  exact P_X12_spread_0 hq he N l0 l1 l2 h
set_option maxRecDepth 100000 in
set_option maxHeartbeats 4000000 in
theorem P_X12_rule_0 {q : eT} {r0 : Int32} {h0 : eH} (hq : e_B q yX12_rule.cls cX12_rule 3 1 25 (some .int) yX12_rule.name) (he : e_E q) (l0 : Nat) (l1 : Int32) (l2 : Int32) (h : eH) : e_K eI q r0 h0 0 [(0, .ref l0), (1, .int l1), (2, .int l2)] [] h (F_X12_rule l0 l1 l2 h) := by
  unfold F_X12_rule
  refine k_iload_n hq dX12_rule_0 1 rfl ?_
  refine k_if_lt hq (tgt := 14) dX12_rule_1 (by decide) (fun _ => ?_) (fun _ => ?_)
  · refine k_iconst hq dX12_rule_14 (v := (-1)) rfl ?_
    exact k_iret hq dX12_rule_15 he
  · refine k_iload_n hq dX12_rule_4 2 rfl ?_
    refine k_i2l hq dX12_rule_5 ?_
    refine k_lconst hq dX12_rule_6 (v := 0) rfl ?_
    refine k_lconst hq dX12_rule_7 (v := 1) rfl ?_
    refine k_callS hq (na := 3) (As := [.long (l2.toInt64), .long 0, .long 1]) (st := []) (con_X12_in _ _ _ _ (l2.toInt64) 0 1) tw_1059 tw_59 tw_1057 tw_1058 ⟨by decide, by decide, by decide +kernel⟩ rfl (by decide) rfl (Nat.le_of_ble_eq_true rfl) dX12_rule_8 fun v1 h2 => ?_
    refine k_if_ne hq (tgt := 16) dX12_rule_11 (by decide) (fun _ => ?_) (fun _ => ?_)
    · refine k_iconst hq dX12_rule_14 (v := (-1)) rfl ?_
      exact k_iret hq dX12_rule_15 he
    · refine k_iload_n hq dX12_rule_16 1 rfl ?_
      refine k_aload_n hq dX12_rule_17 0 rfl ?_
      refine k_gi hq (C := RX12) (T := TX12) 11 21 rfl (by decide) (lay_X12 21 (by decide)) tw_948 dX12_rule_18 fun v3 => ?_
      refine k_icmp_lt hq (tgt := 29) dX12_rule_21 (by decide) (fun _ => ?_) (fun _ => ?_)
      · refine k_iload_n hq dX12_rule_29 2 rfl ?_
        refine k_if_ne hq (tgt := 42) dX12_rule_30 (by decide) (fun _ => ?_) (fun _ => ?_)
        · refine k_aload_n hq dX12_rule_33 0 rfl ?_
          refine k_gr hq (C := RX12) (T := TX12) 11 22 rfl (by decide) (lay_X12 22 (by decide)) tw_949 dX12_rule_34 fun v6 => ?_
          refine k_iload_n hq dX12_rule_37 1 rfl ?_
          refine k_iald hq dX12_rule_38 fun v7 => ?_
          refine k_goto hq (tgt := 48) dX12_rule_39 (by decide) ?_
          exact k_iret hq dX12_rule_48 he
        · refine k_aload_n hq dX12_rule_42 0 rfl ?_
          refine k_gr hq (C := RX12) (T := TX12) 11 23 rfl (by decide) (lay_X12 23 (by decide)) tw_950 dX12_rule_43 fun v4 => ?_
          refine k_iload_n hq dX12_rule_46 1 rfl ?_
          refine k_iald hq dX12_rule_47 fun v5 => ?_
          exact k_iret hq dX12_rule_48 he
      · refine k_bipush hq dX12_rule_24 (v := (-9)) rfl ?_
        refine k_goto hq (tgt := 48) dX12_rule_26 (by decide) ?_
        exact k_iret hq dX12_rule_48 he
theorem con_X12_rule (l : Launch) (G : eG) (B0 n : Nat) (l0 : Nat) (l1 : Int32) (l2 : Int32) : e_C eI l G B0 n yX12_rule cX12_rule 3 (some .int) 1 25 [.ref l0, .int l1, .int l2] (F_X12_rule l0 l1 l2) := by
  refine e_mk (by decide) (Nat.le_of_ble_eq_true rfl) fun q r0 h0 h hq he e1 e2 e3 e4 => ?_
  subst e1; subst e2; subst e3; subst e4
  exact P_X12_rule_0 hq he l0 l1 l2 h
set_option maxRecDepth 100000 in
set_option maxHeartbeats 4000000 in
theorem P_X12_counted_112 {q : eT} {r0 : Int32} {h0 : eH} (hq : e_B q yX12_counted.cls cX12_counted 8 1 22 (some .int) yX12_counted.name) (he : e_E q) (N : Nat) (k5 : Nat → Int32 → Int32 → Int32 → Int32 → eH → Option (Int32 × eH)) (k17 : Nat → Int32 → Int32 → Int32 → Int32 → Int32 → eH → Option (Int32 × eH)) (hk5 : ∀ (l0 : Nat) (l1 : Int32) (l2 : Int32) (l3 : Int32) (l4 : Int32) h, e_K eI q r0 h0 5 [(0, .ref l0), (1, .int l1), (2, .int l2), (3, .int l3), (4, .int l4)] [] h (k5 l0 l1 l2 l3 l4 h)) (hk17 : ∀ (l0 : Nat) (l1 : Int32) (l2 : Int32) (l3 : Int32) (l4 : Int32) (l5 : Int32) h, e_K eI q r0 h0 17 [(0, .ref l0), (1, .int l1), (2, .int l2), (3, .int l3), (4, .int l4), (5, .int l5)] [] h (k17 l0 l1 l2 l3 l4 l5 h)) (l0 : Nat) (l1 : Int32) (l2 : Int32) (l3 : Int32) (l4 : Int32) (l5 : Int32) (s0 : Int32) (h : eH) : e_K eI q r0 h0 112 [(0, .ref l0), (1, .int l1), (2, .int l2), (3, .int l3), (4, .int l4), (5, .int l5)] [.int s0] h (F_X12_counted_112 N k5 k17 l0 l1 l2 l3 l4 l5 s0 h) := by
  unfold F_X12_counted_112
  refine k_istore hq dX12_counted_112 (by decide) (ls' := [(7, .int s0), (0, .ref l0), (1, .int l1), (2, .int l2), (3, .int l3), (4, .int l4), (5, .int l5)]) rfl ?_
  refine k_iload_n hq dX12_counted_114 4 rfl ?_
  refine k_iload hq dX12_counted_115 0 rfl ?_
  refine k_callS hq (na := 1) (As := [.int s0]) (st := [.int l3]) (con_X12_bit _ _ _ _ s0) tw_1200 tw_59 tw_1198 tw_1199 ⟨by decide, by decide, by decide +kernel⟩ rfl (by decide) rfl (Nat.le_of_ble_eq_true rfl) dX12_counted_117 fun v1 h2 => ?_
  refine k_iadd hq dX12_counted_120 ?_
  refine k_let (mk := fun z => .int z :: []) fun v3 _ => ?_
  refine k_istore_n hq dX12_counted_121 rfl (by decide) (ls' := [(3, .int v3), (7, .int s0), (0, .ref l0), (1, .int l1), (2, .int l2), (4, .int l4), (5, .int l5)]) rfl ?_
  refine k_iinc hq dX12_counted_122 6 rfl (v := l5 + 1) rfl (by decide) (ls' := [(5, .int (l5 + 1)), (3, .int v3), (7, .int s0), (0, .ref l0), (1, .int l1), (2, .int l2), (4, .int l4)]) rfl ?_
  refine k_goto hq (tgt := 17) dX12_counted_125 (by decide) ?_
  exact k_sub [3, 4, 5, 1, 6, 0] rfl (hk17 l0 l1 l2 v3 l4 (l5 + 1) h2)
set_option maxRecDepth 100000 in
set_option maxHeartbeats 4000000 in
theorem P_X12_counted_107 {q : eT} {r0 : Int32} {h0 : eH} (hq : e_B q yX12_counted.cls cX12_counted 8 1 22 (some .int) yX12_counted.name) (he : e_E q) (N : Nat) (k5 : Nat → Int32 → Int32 → Int32 → Int32 → eH → Option (Int32 × eH)) (k17 : Nat → Int32 → Int32 → Int32 → Int32 → Int32 → eH → Option (Int32 × eH)) (hk5 : ∀ (l0 : Nat) (l1 : Int32) (l2 : Int32) (l3 : Int32) (l4 : Int32) h, e_K eI q r0 h0 5 [(0, .ref l0), (1, .int l1), (2, .int l2), (3, .int l3), (4, .int l4)] [] h (k5 l0 l1 l2 l3 l4 h)) (hk17 : ∀ (l0 : Nat) (l1 : Int32) (l2 : Int32) (l3 : Int32) (l4 : Int32) (l5 : Int32) h, e_K eI q r0 h0 17 [(0, .ref l0), (1, .int l1), (2, .int l2), (3, .int l3), (4, .int l4), (5, .int l5)] [] h (k17 l0 l1 l2 l3 l4 l5 h)) (l0 : Nat) (l1 : Int32) (l2 : Int32) (l3 : Int32) (l4 : Int32) (l5 : Int32) (h : eH) : e_K eI q r0 h0 107 [(0, .ref l0), (1, .int l1), (2, .int l2), (3, .int l3), (4, .int l4), (5, .int l5)] [] h (F_X12_counted_107 N k5 k17 l0 l1 l2 l3 l4 l5 h) := by
  unfold F_X12_counted_107
  refine k_iconst hq dX12_counted_107 (v := 1) rfl ?_
  refine k_goto hq (tgt := 112) dX12_counted_108 (by decide) ?_
  exact k_sub [0, 1, 2, 3, 4, 5] rfl (P_X12_counted_112 hq he N k5 k17 hk5 hk17 l0 l1 l2 l3 l4 l5 1 h)
set_option maxRecDepth 100000 in
set_option maxHeartbeats 4000000 in
theorem P_X12_counted_111 {q : eT} {r0 : Int32} {h0 : eH} (hq : e_B q yX12_counted.cls cX12_counted 8 1 22 (some .int) yX12_counted.name) (he : e_E q) (N : Nat) (k5 : Nat → Int32 → Int32 → Int32 → Int32 → eH → Option (Int32 × eH)) (k17 : Nat → Int32 → Int32 → Int32 → Int32 → Int32 → eH → Option (Int32 × eH)) (hk5 : ∀ (l0 : Nat) (l1 : Int32) (l2 : Int32) (l3 : Int32) (l4 : Int32) h, e_K eI q r0 h0 5 [(0, .ref l0), (1, .int l1), (2, .int l2), (3, .int l3), (4, .int l4)] [] h (k5 l0 l1 l2 l3 l4 h)) (hk17 : ∀ (l0 : Nat) (l1 : Int32) (l2 : Int32) (l3 : Int32) (l4 : Int32) (l5 : Int32) h, e_K eI q r0 h0 17 [(0, .ref l0), (1, .int l1), (2, .int l2), (3, .int l3), (4, .int l4), (5, .int l5)] [] h (k17 l0 l1 l2 l3 l4 l5 h)) (l0 : Nat) (l1 : Int32) (l2 : Int32) (l3 : Int32) (l4 : Int32) (l5 : Int32) (h : eH) : e_K eI q r0 h0 111 [(0, .ref l0), (1, .int l1), (2, .int l2), (3, .int l3), (4, .int l4), (5, .int l5)] [] h (F_X12_counted_111 N k5 k17 l0 l1 l2 l3 l4 l5 h) := by
  unfold F_X12_counted_111
  refine k_iconst hq dX12_counted_111 (v := 0) rfl ?_
  exact k_sub [0, 1, 2, 3, 4, 5] rfl (P_X12_counted_112 hq he N k5 k17 hk5 hk17 l0 l1 l2 l3 l4 l5 0 h)
set_option maxRecDepth 100000 in
set_option maxHeartbeats 4000000 in
theorem P_X12_counted_93 {q : eT} {r0 : Int32} {h0 : eH} (hq : e_B q yX12_counted.cls cX12_counted 8 1 22 (some .int) yX12_counted.name) (he : e_E q) (N : Nat) (k5 : Nat → Int32 → Int32 → Int32 → Int32 → eH → Option (Int32 × eH)) (k17 : Nat → Int32 → Int32 → Int32 → Int32 → Int32 → eH → Option (Int32 × eH)) (hk5 : ∀ (l0 : Nat) (l1 : Int32) (l2 : Int32) (l3 : Int32) (l4 : Int32) h, e_K eI q r0 h0 5 [(0, .ref l0), (1, .int l1), (2, .int l2), (3, .int l3), (4, .int l4)] [] h (k5 l0 l1 l2 l3 l4 h)) (hk17 : ∀ (l0 : Nat) (l1 : Int32) (l2 : Int32) (l3 : Int32) (l4 : Int32) (l5 : Int32) h, e_K eI q r0 h0 17 [(0, .ref l0), (1, .int l1), (2, .int l2), (3, .int l3), (4, .int l4), (5, .int l5)] [] h (k17 l0 l1 l2 l3 l4 l5 h)) (l0 : Nat) (l1 : Int32) (l2 : Int32) (l3 : Int32) (l4 : Int32) (l5 : Int32) (l6 : Int32) (h : eH) : e_K eI q r0 h0 93 [(0, .ref l0), (1, .int l1), (2, .int l2), (3, .int l3), (4, .int l4), (5, .int l5), (6, .int l6)] [] h (F_X12_counted_93 N k5 k17 l0 l1 l2 l3 l4 l5 l6 h) := by
  unfold F_X12_counted_93
  refine k_iload_n hq dX12_counted_93 2 rfl ?_
  refine k_iconst hq dX12_counted_94 (v := 5) rfl ?_
  refine k_icmp_ne hq (tgt := 111) dX12_counted_95 (by decide) (fun _ => ?_) (fun _ => ?_)
  · refine k_aload_n hq dX12_counted_98 0 rfl ?_
    refine k_iload hq dX12_counted_99 6 rfl ?_
    refine k_callV hq (na := 1) (As := [.int l6]) (st := []) 11 (C := RX12) (T := TX12) rfl (con_X12_isLost _ _ _ _ l0 l6) tw_1204 tw_59 tw_1201 tw_1203 tw_39 ⟨by decide, by decide, by decide +kernel⟩ rfl (by decide) rfl (Nat.le_of_ble_eq_true rfl) dX12_counted_101 fun v1 h2 => ?_
    refine k_if_eq hq (tgt := 111) dX12_counted_104 (by decide) (fun _ => ?_) (fun _ => ?_)
    · exact k_sub [0, 1, 2, 3, 4, 5] rfl (P_X12_counted_111 hq he N k5 k17 hk5 hk17 l0 l1 l2 l3 l4 l5 h2)
    · exact k_sub [0, 1, 2, 3, 4, 5] rfl (P_X12_counted_107 hq he N k5 k17 hk5 hk17 l0 l1 l2 l3 l4 l5 h2)
  · exact k_sub [0, 1, 2, 3, 4, 5] rfl (P_X12_counted_111 hq he N k5 k17 hk5 hk17 l0 l1 l2 l3 l4 l5 h)
set_option maxRecDepth 100000 in
set_option maxHeartbeats 4000000 in
theorem P_X12_counted_78 {q : eT} {r0 : Int32} {h0 : eH} (hq : e_B q yX12_counted.cls cX12_counted 8 1 22 (some .int) yX12_counted.name) (he : e_E q) (N : Nat) (k5 : Nat → Int32 → Int32 → Int32 → Int32 → eH → Option (Int32 × eH)) (k17 : Nat → Int32 → Int32 → Int32 → Int32 → Int32 → eH → Option (Int32 × eH)) (hk5 : ∀ (l0 : Nat) (l1 : Int32) (l2 : Int32) (l3 : Int32) (l4 : Int32) h, e_K eI q r0 h0 5 [(0, .ref l0), (1, .int l1), (2, .int l2), (3, .int l3), (4, .int l4)] [] h (k5 l0 l1 l2 l3 l4 h)) (hk17 : ∀ (l0 : Nat) (l1 : Int32) (l2 : Int32) (l3 : Int32) (l4 : Int32) (l5 : Int32) h, e_K eI q r0 h0 17 [(0, .ref l0), (1, .int l1), (2, .int l2), (3, .int l3), (4, .int l4), (5, .int l5)] [] h (k17 l0 l1 l2 l3 l4 l5 h)) (l0 : Nat) (l1 : Int32) (l2 : Int32) (l3 : Int32) (l4 : Int32) (l5 : Int32) (l6 : Int32) (h : eH) : e_K eI q r0 h0 78 [(0, .ref l0), (1, .int l1), (2, .int l2), (3, .int l3), (4, .int l4), (5, .int l5), (6, .int l6)] [] h (F_X12_counted_78 N k5 k17 l0 l1 l2 l3 l4 l5 l6 h) := by
  unfold F_X12_counted_78
  refine k_iload_n hq dX12_counted_78 2 rfl ?_
  refine k_iconst hq dX12_counted_79 (v := 4) rfl ?_
  refine k_icmp_ne hq (tgt := 93) dX12_counted_80 (by decide) (fun _ => ?_) (fun _ => ?_)
  · refine k_aload_n hq dX12_counted_83 0 rfl ?_
    refine k_gr hq (C := RX12) (T := TX12) 11 11 rfl (by decide) (lay_X12 11 (by decide)) tw_938 dX12_counted_84 fun v1 => ?_
    refine k_iload hq dX12_counted_87 6 rfl ?_
    refine k_zald hq dX12_counted_89 fun v2 => ?_
    refine k_if_ne hq (tgt := 107) dX12_counted_90 (by decide) (fun _ => ?_) (fun _ => ?_)
    · exact k_sub [0, 1, 2, 3, 4, 5, 6] rfl (P_X12_counted_93 hq he N k5 k17 hk5 hk17 l0 l1 l2 l3 l4 l5 l6 h)
    · exact k_sub [0, 1, 2, 3, 4, 5] rfl (P_X12_counted_107 hq he N k5 k17 hk5 hk17 l0 l1 l2 l3 l4 l5 h)
  · exact k_sub [0, 1, 2, 3, 4, 5, 6] rfl (P_X12_counted_93 hq he N k5 k17 hk5 hk17 l0 l1 l2 l3 l4 l5 l6 h)
set_option maxRecDepth 100000 in
set_option maxHeartbeats 4000000 in
theorem P_X12_counted_63 {q : eT} {r0 : Int32} {h0 : eH} (hq : e_B q yX12_counted.cls cX12_counted 8 1 22 (some .int) yX12_counted.name) (he : e_E q) (N : Nat) (k5 : Nat → Int32 → Int32 → Int32 → Int32 → eH → Option (Int32 × eH)) (k17 : Nat → Int32 → Int32 → Int32 → Int32 → Int32 → eH → Option (Int32 × eH)) (hk5 : ∀ (l0 : Nat) (l1 : Int32) (l2 : Int32) (l3 : Int32) (l4 : Int32) h, e_K eI q r0 h0 5 [(0, .ref l0), (1, .int l1), (2, .int l2), (3, .int l3), (4, .int l4)] [] h (k5 l0 l1 l2 l3 l4 h)) (hk17 : ∀ (l0 : Nat) (l1 : Int32) (l2 : Int32) (l3 : Int32) (l4 : Int32) (l5 : Int32) h, e_K eI q r0 h0 17 [(0, .ref l0), (1, .int l1), (2, .int l2), (3, .int l3), (4, .int l4), (5, .int l5)] [] h (k17 l0 l1 l2 l3 l4 l5 h)) (l0 : Nat) (l1 : Int32) (l2 : Int32) (l3 : Int32) (l4 : Int32) (l5 : Int32) (l6 : Int32) (h : eH) : e_K eI q r0 h0 63 [(0, .ref l0), (1, .int l1), (2, .int l2), (3, .int l3), (4, .int l4), (5, .int l5), (6, .int l6)] [] h (F_X12_counted_63 N k5 k17 l0 l1 l2 l3 l4 l5 l6 h) := by
  unfold F_X12_counted_63
  refine k_iload_n hq dX12_counted_63 2 rfl ?_
  refine k_iconst hq dX12_counted_64 (v := 3) rfl ?_
  refine k_icmp_ne hq (tgt := 78) dX12_counted_65 (by decide) (fun _ => ?_) (fun _ => ?_)
  · refine k_aload_n hq dX12_counted_68 0 rfl ?_
    refine k_gr hq (C := RX12) (T := TX12) 11 13 rfl (by decide) (lay_X12 13 (by decide)) tw_940 dX12_counted_69 fun v1 => ?_
    refine k_iload hq dX12_counted_72 6 rfl ?_
    refine k_zald hq dX12_counted_74 fun v2 => ?_
    refine k_if_ne hq (tgt := 107) dX12_counted_75 (by decide) (fun _ => ?_) (fun _ => ?_)
    · exact k_sub [0, 1, 2, 3, 4, 5, 6] rfl (P_X12_counted_78 hq he N k5 k17 hk5 hk17 l0 l1 l2 l3 l4 l5 l6 h)
    · exact k_sub [0, 1, 2, 3, 4, 5] rfl (P_X12_counted_107 hq he N k5 k17 hk5 hk17 l0 l1 l2 l3 l4 l5 h)
  · exact k_sub [0, 1, 2, 3, 4, 5, 6] rfl (P_X12_counted_78 hq he N k5 k17 hk5 hk17 l0 l1 l2 l3 l4 l5 l6 h)
set_option maxRecDepth 100000 in
set_option maxHeartbeats 4000000 in
theorem P_X12_counted_17b {q : eT} {r0 : Int32} {h0 : eH} (hq : e_B q yX12_counted.cls cX12_counted 8 1 22 (some .int) yX12_counted.name) (he : e_E q) (N : Nat) (k5 : Nat → Int32 → Int32 → Int32 → Int32 → eH → Option (Int32 × eH)) (k17 : Nat → Int32 → Int32 → Int32 → Int32 → Int32 → eH → Option (Int32 × eH)) (hk5 : ∀ (l0 : Nat) (l1 : Int32) (l2 : Int32) (l3 : Int32) (l4 : Int32) h, e_K eI q r0 h0 5 [(0, .ref l0), (1, .int l1), (2, .int l2), (3, .int l3), (4, .int l4)] [] h (k5 l0 l1 l2 l3 l4 h)) (hk17 : ∀ (l0 : Nat) (l1 : Int32) (l2 : Int32) (l3 : Int32) (l4 : Int32) (l5 : Int32) h, e_K eI q r0 h0 17 [(0, .ref l0), (1, .int l1), (2, .int l2), (3, .int l3), (4, .int l4), (5, .int l5)] [] h (k17 l0 l1 l2 l3 l4 l5 h)) (l0 : Nat) (l1 : Int32) (l2 : Int32) (l3 : Int32) (l4 : Int32) (l5 : Int32) (h : eH) : e_K eI q r0 h0 17 [(0, .ref l0), (1, .int l1), (2, .int l2), (3, .int l3), (4, .int l4), (5, .int l5)] [] h (F_X12_counted_17b N k5 k17 l0 l1 l2 l3 l4 l5 h) := by
  unfold F_X12_counted_17b
  refine k_iload hq dX12_counted_17 5 rfl ?_
  refine k_aload_n hq dX12_counted_19 0 rfl ?_
  refine k_gr hq (C := RX12) (T := TX12) 11 15 rfl (by decide) (lay_X12 15 (by decide)) tw_942 dX12_counted_20 fun v1 => ?_
  refine k_iconst hq dX12_counted_23 (v := 4) rfl ?_
  refine k_iload_n hq dX12_counted_24 1 rfl ?_
  refine k_imul hq dX12_counted_25 ?_
  refine k_iload hq dX12_counted_26 4 rfl ?_
  refine k_iadd hq dX12_counted_28 ?_
  refine k_iald hq dX12_counted_29 fun v2 => ?_
  refine k_icmp_gt hq (tgt := 128) dX12_counted_30 (by decide) (fun _ => ?_) (fun _ => ?_)
  · refine k_iinc hq dX12_counted_128 4 rfl (v := l4 + 1) rfl (by decide) (ls' := [(4, .int (l4 + 1)), (0, .ref l0), (1, .int l1), (2, .int l2), (3, .int l3), (5, .int l5)]) rfl ?_
    refine k_goto hq (tgt := 5) dX12_counted_131 (by decide) ?_
    exact k_sub [1, 2, 3, 4, 0] rfl (hk5 l0 l1 l2 l3 (l4 + 1) h)
  · refine k_iload_n hq dX12_counted_33 1 rfl ?_
    refine k_iload hq dX12_counted_34 4 rfl ?_
    refine k_iload hq dX12_counted_36 5 rfl ?_
    refine k_callS hq (na := 3) (As := [.int l1, .int l4, .int l5]) (st := []) (con_X12_at _ _ _ _ l1 l4 l5) tw_1115 tw_59 tw_1113 tw_1114 ⟨by decide, by decide, by decide +kernel⟩ rfl (by decide) rfl (Nat.le_of_ble_eq_true rfl) dX12_counted_38 fun v3 h4 => ?_
    refine k_istore hq dX12_counted_41 (by decide) (ls' := [(6, .int v3), (0, .ref l0), (1, .int l1), (2, .int l2), (3, .int l3), (4, .int l4), (5, .int l5)]) rfl ?_
    refine k_iload_n hq dX12_counted_43 3 rfl ?_
    refine k_iconst hq dX12_counted_44 (v := 1) rfl ?_
    refine k_icmp_eq hq (tgt := 107) dX12_counted_45 (by decide) (fun _ => ?_) (fun _ => ?_)
    · exact k_sub [1, 2, 3, 4, 5, 6] rfl (P_X12_counted_107 hq he N k5 k17 hk5 hk17 l0 l1 l2 l3 l4 l5 h4)
    · refine k_iload_n hq dX12_counted_48 3 rfl ?_
      refine k_iconst hq dX12_counted_49 (v := 2) rfl ?_
      refine k_icmp_ne hq (tgt := 63) dX12_counted_50 (by decide) (fun _ => ?_) (fun _ => ?_)
      · refine k_aload_n hq dX12_counted_53 1 rfl ?_
        refine k_gr hq (C := RX12) (T := TX12) 11 12 rfl (by decide) (lay_X12 12 (by decide)) tw_939 dX12_counted_54 fun v5 => ?_
        refine k_iload hq dX12_counted_57 0 rfl ?_
        refine k_zald hq dX12_counted_59 fun v6 => ?_
        refine k_if_ne hq (tgt := 107) dX12_counted_60 (by decide) (fun _ => ?_) (fun _ => ?_)
        · exact k_sub [1, 2, 3, 4, 5, 6, 0] rfl (P_X12_counted_63 hq he N k5 k17 hk5 hk17 l0 l1 l2 l3 l4 l5 v3 h4)
        · exact k_sub [1, 2, 3, 4, 5, 6] rfl (P_X12_counted_107 hq he N k5 k17 hk5 hk17 l0 l1 l2 l3 l4 l5 h4)
      · exact k_sub [1, 2, 3, 4, 5, 6, 0] rfl (P_X12_counted_63 hq he N k5 k17 hk5 hk17 l0 l1 l2 l3 l4 l5 v3 h4)
theorem Q_X12_counted_17 {q : eT} {r0 : Int32} {h0 : eH} (hq : e_B q yX12_counted.cls cX12_counted 8 1 22 (some .int) yX12_counted.name) (he : e_E q) (N : Nat) (k5 : Nat → Int32 → Int32 → Int32 → Int32 → eH → Option (Int32 × eH)) (hk5 : ∀ (l0 : Nat) (l1 : Int32) (l2 : Int32) (l3 : Int32) (l4 : Int32) h, e_K eI q r0 h0 5 [(0, .ref l0), (1, .int l1), (2, .int l2), (3, .int l3), (4, .int l4)] [] h (k5 l0 l1 l2 l3 l4 h)) (l0 : Nat) (l1 : Int32) (l2 : Int32) (l3 : Int32) (l4 : Int32) (l5 : Int32) (h : eH) : e_K eI q r0 h0 17 [(0, .ref l0), (1, .int l1), (2, .int l2), (3, .int l3), (4, .int l4), (5, .int l5)] [] h (L_X12_counted_17 N k5 l0 l1 l2 l3 l4 l5 h) :=
  k_loop (mk := (fun s => [(0, .ref s.1), (1, .int s.2.1), (2, .int s.2.2.1), (3, .int s.2.2.2.1), (4, .int s.2.2.2.2.1), (5, .int s.2.2.2.2.2.1)])) (hp := fun s => s.2.2.2.2.2.2) (fun k hk s => P_X12_counted_17b hq he N k5 (fun l0 l1 l2 l3 l4 l5 h => k (l0, l1, l2, l3, l4, l5, h)) hk5 (fun l0 l1 l2 l3 l4 l5 h => hk (l0, l1, l2, l3, l4, l5, h)) s.1 s.2.1 s.2.2.1 s.2.2.2.1 s.2.2.2.2.1 s.2.2.2.2.2.1 s.2.2.2.2.2.2) N (l0, l1, l2, l3, l4, l5, h)
set_option maxRecDepth 100000 in
set_option maxHeartbeats 4000000 in
theorem P_X12_counted_5b {q : eT} {r0 : Int32} {h0 : eH} (hq : e_B q yX12_counted.cls cX12_counted 8 1 22 (some .int) yX12_counted.name) (he : e_E q) (N : Nat) (k5 : Nat → Int32 → Int32 → Int32 → Int32 → eH → Option (Int32 × eH)) (hk5 : ∀ (l0 : Nat) (l1 : Int32) (l2 : Int32) (l3 : Int32) (l4 : Int32) h, e_K eI q r0 h0 5 [(0, .ref l0), (1, .int l1), (2, .int l2), (3, .int l3), (4, .int l4)] [] h (k5 l0 l1 l2 l3 l4 h)) (l0 : Nat) (l1 : Int32) (l2 : Int32) (l3 : Int32) (l4 : Int32) (h : eH) : e_K eI q r0 h0 5 [(0, .ref l0), (1, .int l1), (2, .int l2), (3, .int l3), (4, .int l4)] [] h (F_X12_counted_5b N k5 l0 l1 l2 l3 l4 h) := by
  unfold F_X12_counted_5b
  refine k_iload hq dX12_counted_5 4 rfl ?_
  refine k_aload_n hq dX12_counted_7 0 rfl ?_
  refine k_gi hq (C := RX12) (T := TX12) 11 0 rfl (by decide) (lay_X12 0 (by decide)) tw_927 dX12_counted_8 fun v1 => ?_
  refine k_icmp_ge hq (tgt := 134) dX12_counted_11 (by decide) (fun _ => ?_) (fun _ => ?_)
  · refine k_iload_n hq dX12_counted_134 3 rfl ?_
    exact k_iret hq dX12_counted_135 he
  · refine k_iconst hq dX12_counted_14 (v := 1) rfl ?_
    refine k_istore hq dX12_counted_15 (by decide) (ls' := [(5, .int 1), (0, .ref l0), (1, .int l1), (2, .int l2), (3, .int l3), (4, .int l4)]) rfl ?_
    exact k_sub [1, 2, 3, 4, 5, 0] rfl (Q_X12_counted_17 hq he N k5 hk5 l0 l1 l2 l3 l4 1 h)
theorem Q_X12_counted_5 {q : eT} {r0 : Int32} {h0 : eH} (hq : e_B q yX12_counted.cls cX12_counted 8 1 22 (some .int) yX12_counted.name) (he : e_E q) (N : Nat) (l0 : Nat) (l1 : Int32) (l2 : Int32) (l3 : Int32) (l4 : Int32) (h : eH) : e_K eI q r0 h0 5 [(0, .ref l0), (1, .int l1), (2, .int l2), (3, .int l3), (4, .int l4)] [] h (L_X12_counted_5 N l0 l1 l2 l3 l4 h) :=
  k_loop (mk := (fun s => [(0, .ref s.1), (1, .int s.2.1), (2, .int s.2.2.1), (3, .int s.2.2.2.1), (4, .int s.2.2.2.2.1)])) (hp := fun s => s.2.2.2.2.2) (fun k hk s => P_X12_counted_5b hq he N (fun l0 l1 l2 l3 l4 h => k (l0, l1, l2, l3, l4, h)) (fun l0 l1 l2 l3 l4 h => hk (l0, l1, l2, l3, l4, h)) s.1 s.2.1 s.2.2.1 s.2.2.2.1 s.2.2.2.2.1 s.2.2.2.2.2) N (l0, l1, l2, l3, l4, h)
set_option maxRecDepth 100000 in
set_option maxHeartbeats 4000000 in
theorem P_X12_counted_0 {q : eT} {r0 : Int32} {h0 : eH} (hq : e_B q yX12_counted.cls cX12_counted 8 1 22 (some .int) yX12_counted.name) (he : e_E q) (N : Nat) (l0 : Nat) (l1 : Int32) (l2 : Int32) (h : eH) : e_K eI q r0 h0 0 [(0, .ref l0), (1, .int l1), (2, .int l2)] [] h (F_X12_counted N l0 l1 l2 h) := by
  unfold F_X12_counted
  refine k_iconst hq dX12_counted_0 (v := 0) rfl ?_
  refine k_istore_n hq dX12_counted_1 rfl (by decide) (ls' := [(3, .int 0), (0, .ref l0), (1, .int l1), (2, .int l2)]) rfl ?_
  refine k_iconst hq dX12_counted_2 (v := 0) rfl ?_
  refine k_istore hq dX12_counted_3 (by decide) (ls' := [(4, .int 0), (3, .int 0), (0, .ref l0), (1, .int l1), (2, .int l2)]) rfl ?_
  exact k_sub [2, 3, 4, 1, 0] rfl (Q_X12_counted_5 hq he N l0 l1 l2 0 0 h)
theorem con_X12_counted (l : Launch) (G : eG) (B0 n : Nat) (N : Nat) (l0 : Nat) (l1 : Int32) (l2 : Int32) : e_C eI l G B0 n yX12_counted cX12_counted 8 (some .int) 1 22 [.ref l0, .int l1, .int l2] (F_X12_counted N l0 l1 l2) := by
  refine e_mk (by decide) (Nat.le_of_ble_eq_true rfl) fun q r0 h0 h hq he e1 e2 e3 e4 => ?_
  subst e1; subst e2; subst e3; subst e4
  exact P_X12_counted_0 hq he N l0 l1 l2 h
set_option maxRecDepth 100000 in
set_option maxHeartbeats 4000000 in
theorem P_X12_tally_0 {q : eT} {r0 : Int32} {h0 : eH} (hq : e_B q yX12_tally.cls cX12_tally 3 2 49 (some .int) yX12_tally.name) (he : e_E q) (N : Nat) (l0 : Nat) (l1 : Int32) (l2 : Int32) (h : eH) : e_K eI q r0 h0 0 [(0, .ref l0), (1, .int l1), (2, .int l2)] [] h (F_X12_tally N l0 l1 l2 h) := by
  unfold F_X12_tally
  refine k_aload_n hq dX12_tally_0 0 rfl ?_
  refine k_iload_n hq dX12_tally_1 1 rfl ?_
  refine k_callV hq (na := 1) (As := [.int l1]) (st := []) 11 (C := RX12) (T := TX12) rfl (con_X12_isKey _ _ _ _ l0 l1) tw_1109 tw_59 tw_1106 tw_1108 tw_29 ⟨by decide, by decide, by decide +kernel⟩ rfl (by decide) rfl (Nat.le_of_ble_eq_true rfl) dX12_tally_2 fun v1 h2 => ?_
  refine k_if_eq hq (tgt := 20) dX12_tally_5 (by decide) (fun _ => ?_) (fun _ => ?_)
  · refine k_iconst hq dX12_tally_20 (v := (-1)) rfl ?_
    exact k_iret hq dX12_tally_21 he
  · refine k_iload_n hq dX12_tally_8 2 rfl ?_
    refine k_i2l hq dX12_tally_9 ?_
    refine k_lconst hq dX12_tally_10 (v := 0) rfl ?_
    refine k_ldc2 hq (v := 6) tw_1259 dX12_tally_11 ?_
    refine k_callS hq (na := 3) (As := [.long (l2.toInt64), .long 0, .long 6]) (st := []) (con_X12_in _ _ _ _ (l2.toInt64) 0 6) tw_1059 tw_59 tw_1057 tw_1058 ⟨by decide, by decide, by decide +kernel⟩ rfl (by decide) rfl (Nat.le_of_ble_eq_true rfl) dX12_tally_14 fun v3 h4 => ?_
    refine k_if_ne hq (tgt := 22) dX12_tally_17 (by decide) (fun _ => ?_) (fun _ => ?_)
    · refine k_iconst hq dX12_tally_20 (v := (-1)) rfl ?_
      exact k_iret hq dX12_tally_21 he
    · refine k_iload_n hq dX12_tally_22 2 rfl ?_
      refine k_if_ne hq (tgt := 35) dX12_tally_23 (by decide) (fun _ => ?_) (fun _ => ?_)
      · refine k_aload_n hq dX12_tally_26 0 rfl ?_
        refine k_gr hq (C := RX12) (T := TX12) 11 4 rfl (by decide) (lay_X12 4 (by decide)) tw_931 dX12_tally_27 fun v9 => ?_
        refine k_iload_n hq dX12_tally_30 1 rfl ?_
        refine k_iald hq dX12_tally_31 fun v10 => ?_
        refine k_goto hq (tgt := 56) dX12_tally_32 (by decide) ?_
        exact k_iret hq dX12_tally_56 he
      · refine k_iload_n hq dX12_tally_35 2 rfl ?_
        refine k_bipush hq dX12_tally_36 (v := 6) rfl ?_
        refine k_icmp_ne hq (tgt := 50) dX12_tally_38 (by decide) (fun _ => ?_) (fun _ => ?_)
        · refine k_aload_n hq dX12_tally_41 0 rfl ?_
          refine k_gr hq (C := RX12) (T := TX12) 11 17 rfl (by decide) (lay_X12 17 (by decide)) tw_944 dX12_tally_42 fun v7 => ?_
          refine k_iload_n hq dX12_tally_45 1 rfl ?_
          refine k_iald hq dX12_tally_46 fun v8 => ?_
          refine k_goto hq (tgt := 56) dX12_tally_47 (by decide) ?_
          exact k_iret hq dX12_tally_56 he
        · refine k_aload_n hq dX12_tally_50 0 rfl ?_
          refine k_iload_n hq dX12_tally_51 1 rfl ?_
          refine k_iload_n hq dX12_tally_52 2 rfl ?_
          refine k_callV hq (na := 2) (As := [.int l1, .int l2]) (st := []) 11 (C := RX12) (T := TX12) rfl (con_X12_counted _ _ _ _ N l0 l1 l2) tw_1263 tw_59 tw_1260 tw_1262 tw_46 ⟨by decide, by decide, by decide +kernel⟩ rfl (by decide) rfl (Nat.le_of_ble_eq_true rfl) dX12_tally_53 fun v5 h6 => ?_
          exact k_iret hq dX12_tally_56 he
theorem con_X12_tally (l : Launch) (G : eG) (B0 n : Nat) (N : Nat) (l0 : Nat) (l1 : Int32) (l2 : Int32) : e_C eI l G B0 n yX12_tally cX12_tally 3 (some .int) 2 49 [.ref l0, .int l1, .int l2] (F_X12_tally N l0 l1 l2) := by
  refine e_mk (by decide) (Nat.le_of_ble_eq_true rfl) fun q r0 h0 h hq he e1 e2 e3 e4 => ?_
  subst e1; subst e2; subst e3; subst e4
  exact P_X12_tally_0 hq he N l0 l1 l2 h
set_option maxRecDepth 100000 in
set_option maxHeartbeats 4000000 in
theorem P_X12_count_0 {q : eT} {r0 : Int32} {h0 : eH} (hq : e_B q yX12_count.cls cX12_count 2 0 0 (some .int) yX12_count.name) (he : e_E q) (l0 : Nat) (l1 : Int32) (h : eH) : e_K eI q r0 h0 0 [(0, .ref l0), (1, .int l1)] [] h (F_X12_count l0 l1 h) := by
  unfold F_X12_count
  refine k_iload_n hq dX12_count_0 1 rfl ?_
  refine k_ite (fun e0 => ?_) (fun n0 => ?_)
  · refine k_tableIn hq (tgt := 40) dX12_count_1 (by rw [e0]; decide) (by rw [e0]; decide) (off := 39) (by rw [e0]; rfl) (by decide) ?_
    refine k_aload_n hq dX12_count_40 0 rfl ?_
    refine k_gi hq (C := RX12) (T := TX12) 11 0 rfl (by decide) (lay_X12 0 (by decide)) tw_927 dX12_count_41 fun v1 => ?_
    exact k_iret hq dX12_count_44 he
  refine k_ite (fun e0 => ?_) (fun n1 => ?_)
  · refine k_tableIn hq (tgt := 45) dX12_count_1 (by rw [e0]; decide) (by rw [e0]; decide) (off := 44) (by rw [e0]; rfl) (by decide) ?_
    refine k_aload_n hq dX12_count_45 0 rfl ?_
    refine k_gi hq (C := RX12) (T := TX12) 11 3 rfl (by decide) (lay_X12 3 (by decide)) tw_930 dX12_count_46 fun v2 => ?_
    exact k_iret hq dX12_count_49 he
  refine k_ite (fun e0 => ?_) (fun n2 => ?_)
  · refine k_tableIn hq (tgt := 50) dX12_count_1 (by rw [e0]; decide) (by rw [e0]; decide) (off := 49) (by rw [e0]; rfl) (by decide) ?_
    refine k_aload_n hq dX12_count_50 0 rfl ?_
    refine k_gi hq (C := RX12) (T := TX12) 11 1 rfl (by decide) (lay_X12 1 (by decide)) tw_928 dX12_count_51 fun v3 => ?_
    exact k_iret hq dX12_count_54 he
  refine k_ite (fun e0 => ?_) (fun n3 => ?_)
  · refine k_tableIn hq (tgt := 55) dX12_count_1 (by rw [e0]; decide) (by rw [e0]; decide) (off := 54) (by rw [e0]; rfl) (by decide) ?_
    refine k_aload_n hq dX12_count_55 0 rfl ?_
    refine k_gi hq (C := RX12) (T := TX12) 11 2 rfl (by decide) (lay_X12 2 (by decide)) tw_929 dX12_count_56 fun v4 => ?_
    exact k_iret hq dX12_count_59 he
  refine k_ite (fun e0 => ?_) (fun n4 => ?_)
  · refine k_tableIn hq (tgt := 60) dX12_count_1 (by rw [e0]; decide) (by rw [e0]; decide) (off := 59) (by rw [e0]; rfl) (by decide) ?_
    refine k_aload_n hq dX12_count_60 0 rfl ?_
    refine k_gi hq (C := RX12) (T := TX12) 11 5 rfl (by decide) (lay_X12 5 (by decide)) tw_932 dX12_count_61 fun v5 => ?_
    exact k_iret hq dX12_count_64 he
  refine k_ite (fun e0 => ?_) (fun n5 => ?_)
  · refine k_tableIn hq (tgt := 65) dX12_count_1 (by rw [e0]; decide) (by rw [e0]; decide) (off := 64) (by rw [e0]; rfl) (by decide) ?_
    refine k_aload_n hq dX12_count_65 0 rfl ?_
    refine k_gi hq (C := RX12) (T := TX12) 11 24 rfl (by decide) (lay_X12 24 (by decide)) tw_951 dX12_count_66 fun v6 => ?_
    exact k_iret hq dX12_count_69 he
  refine k_tableOut hq (tgt := 70) dX12_count_1 (by have m0 := e_ne n0 (show (0 : Int32).toInt = 0 from rfl); have m1 := e_ne n1 (show (1 : Int32).toInt = 1 from rfl); have m2 := e_ne n2 (show (2 : Int32).toInt = 2 from rfl); have m3 := e_ne n3 (show (3 : Int32).toInt = 3 from rfl); have m4 := e_ne n4 (show (4 : Int32).toInt = 4 from rfl); have m5 := e_ne n5 (show (5 : Int32).toInt = 5 from rfl); omega) (by decide) ?_
  refine k_iconst hq dX12_count_70 (v := (-1)) rfl ?_
  exact k_iret hq dX12_count_71 he
theorem con_X12_count (l : Launch) (G : eG) (B0 n : Nat) (l0 : Nat) (l1 : Int32) : e_C eI l G B0 n yX12_count cX12_count 2 (some .int) 0 0 [.ref l0, .int l1] (F_X12_count l0 l1) := by
  refine e_mk (by decide) (Nat.le_of_ble_eq_true rfl) fun q r0 h0 h hq he e1 e2 e3 e4 => ?_
  subst e1; subst e2; subst e3; subst e4
  exact P_X12_count_0 hq he l0 l1 h
