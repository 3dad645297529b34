set_option maxRecDepth 100000 in
set_option maxHeartbeats 4000000 in
theorem P_X5_placeOf_2b {q : eT} {r0 : Int32} {h0 : eH} (hq : e_B q yX5_placeOf.cls cX5_placeOf 3 0 0 (some .int) yX5_placeOf.name) (he : e_E q) (N : Nat) (k2 : Nat → Int32 → Int32 → eH → Option (Int32 × eH)) (hk2 : ∀ (l0 : Nat) (l1 : Int32) (l2 : Int32) h, e_K eI q r0 h0 2 [(0, .ref l0), (1, .int l1), (2, .int l2)] [] h (k2 l0 l1 l2 h)) (l0 : Nat) (l1 : Int32) (l2 : Int32) (h : eH) : e_K eI q r0 h0 2 [(0, .ref l0), (1, .int l1), (2, .int l2)] [] h (F_X5_placeOf_2b N k2 l0 l1 l2 h) := by
  unfold F_X5_placeOf_2b
  refine k_iload_n hq dX5_placeOf_2 2 rfl ?_
  refine k_aload_n hq dX5_placeOf_3 0 rfl ?_
  refine k_gi hq (C := RX5) (T := TX5) 5 2 rfl (by decide) (lay_X5 2 (by decide)) tw_143 dX5_placeOf_4 fun v1 => ?_
  refine k_icmp_ge hq (tgt := 37) dX5_placeOf_7 (by decide) (fun _ => ?_) (fun _ => ?_)
  · refine k_iconst hq dX5_placeOf_37 (v := (-1)) rfl ?_
    exact k_iret hq dX5_placeOf_38 he
  · refine k_iload_n hq dX5_placeOf_10 2 rfl ?_
    refine k_aload_n hq dX5_placeOf_11 0 rfl ?_
    refine k_gr hq (C := RX5) (T := TX5) 5 0 rfl (by decide) (lay_X5 0 (by decide)) tw_141 dX5_placeOf_12 fun v2 => ?_
    refine k_alen hq dX5_placeOf_15 fun v3 => ?_
    refine k_icmp_ge hq (tgt := 37) dX5_placeOf_16 (by decide) (fun _ => ?_) (fun _ => ?_)
    · refine k_iconst hq dX5_placeOf_37 (v := (-1)) rfl ?_
      exact k_iret hq dX5_placeOf_38 he
    · refine k_aload_n hq dX5_placeOf_19 0 rfl ?_
      refine k_gr hq (C := RX5) (T := TX5) 5 0 rfl (by decide) (lay_X5 0 (by decide)) tw_141 dX5_placeOf_20 fun v4 => ?_
      refine k_iload_n hq dX5_placeOf_23 2 rfl ?_
      refine k_iald hq dX5_placeOf_24 fun v5 => ?_
      refine k_iload_n hq dX5_placeOf_25 1 rfl ?_
      refine k_icmp_ne hq (tgt := 31) dX5_placeOf_26 (by decide) (fun _ => ?_) (fun _ => ?_)
      · refine k_iload_n hq dX5_placeOf_29 2 rfl ?_
        exact k_iret hq dX5_placeOf_30 he
      · refine k_iinc hq dX5_placeOf_31 2 rfl (v := l2 + 1) rfl (by decide) (ls' := [(2, .int (l2 + 1)), (0, .ref l0), (1, .int l1)]) rfl ?_
        refine k_goto hq (tgt := 2) dX5_placeOf_34 (by decide) ?_
        exact k_sub [1, 2, 0] rfl (hk2 l0 l1 (l2 + 1) h)
theorem Q_X5_placeOf_2 {q : eT} {r0 : Int32} {h0 : eH} (hq : e_B q yX5_placeOf.cls cX5_placeOf 3 0 0 (some .int) yX5_placeOf.name) (he : e_E q) (N : Nat) (l0 : Nat) (l1 : Int32) (l2 : Int32) (h : eH) : e_K eI q r0 h0 2 [(0, .ref l0), (1, .int l1), (2, .int l2)] [] h (L_X5_placeOf_2 N l0 l1 l2 h) :=
  k_loop (mk := (fun s => [(0, .ref s.1), (1, .int s.2.1), (2, .int s.2.2.1)])) (hp := fun s => s.2.2.2) (fun k hk s => P_X5_placeOf_2b hq he N (fun l0 l1 l2 h => k (l0, l1, l2, h)) (fun l0 l1 l2 h => hk (l0, l1, l2, h)) s.1 s.2.1 s.2.2.1 s.2.2.2) N (l0, l1, l2, h)
set_option maxRecDepth 100000 in
set_option maxHeartbeats 4000000 in
theorem P_X5_placeOf_0 {q : eT} {r0 : Int32} {h0 : eH} (hq : e_B q yX5_placeOf.cls cX5_placeOf 3 0 0 (some .int) yX5_placeOf.name) (he : e_E q) (N : Nat) (l0 : Nat) (l1 : Int32) (h : eH) : e_K eI q r0 h0 0 [(0, .ref l0), (1, .int l1)] [] h (F_X5_placeOf N l0 l1 h) := by
  unfold F_X5_placeOf
  refine k_iconst hq dX5_placeOf_0 (v := 0) rfl ?_
  refine k_istore_n hq dX5_placeOf_1 rfl (by decide) (ls' := [(2, .int 0), (0, .ref l0), (1, .int l1)]) rfl ?_
  exact k_sub [1, 2, 0] rfl (Q_X5_placeOf_2 hq he N l0 l1 0 h)
theorem con_X5_placeOf (l : Launch) (G : eG) (B0 n : Nat) (N : Nat) (l0 : Nat) (l1 : Int32) : e_C eI l G B0 n yX5_placeOf cX5_placeOf 3 (some .int) 0 0 [.ref l0, .int l1] (F_X5_placeOf N l0 l1) := by
  refine e_mk (by decide) (Nat.le_of_ble_eq_true rfl) fun q r0 h0 h hq he e1 e2 e3 e4 => ?_
  subst e1; subst e2; subst e3; subst e4
  exact P_X5_placeOf_0 hq he N l0 l1 h
set_option maxRecDepth 100000 in
set_option maxHeartbeats 4000000 in
theorem P_X5_give_73 {q : eT} {r0 : Int32} {h0 : eH} (hq : e_B q yX5_give.cls cX5_give 5 1 22 (some .int) yX5_give.name) (he : e_E q) (N : Nat) (l0 : Nat) (l1 : Int32) (l2 : Int32) (l4 : Int32) (h : eH) : e_K eI q r0 h0 73 [(0, .ref l0), (1, .int l1), (2, .int l2), (4, .int l4)] [] h (F_X5_give_73 N l0 l1 l2 l4 h) := by
  unfold F_X5_give_73
  refine k_aload_n hq dX5_give_73 0 rfl ?_
  refine k_gr hq (C := RX5) (T := TX5) 5 0 rfl (by decide) (lay_X5 0 (by decide)) tw_141 dX5_give_74 fun v1 => ?_
  refine k_aload_n hq dX5_give_77 0 rfl ?_
  refine k_gi hq (C := RX5) (T := TX5) 5 2 rfl (by decide) (lay_X5 2 (by decide)) tw_143 dX5_give_78 fun v2 => ?_
  refine k_iload_n hq dX5_give_81 1 rfl ?_
  refine k_iast hq dX5_give_82 fun h3 => ?_
  refine k_aload_n hq dX5_give_83 0 rfl ?_
  refine k_gr hq (C := RX5) (T := TX5) 5 1 rfl (by decide) (lay_X5 1 (by decide)) tw_142 dX5_give_84 fun v4 => ?_
  refine k_aload_n hq dX5_give_87 0 rfl ?_
  refine k_gi hq (C := RX5) (T := TX5) 5 2 rfl (by decide) (lay_X5 2 (by decide)) tw_143 dX5_give_88 fun v5 => ?_
  refine k_iload_n hq dX5_give_91 2 rfl ?_
  refine k_iast hq dX5_give_92 fun h6 => ?_
  refine k_aload_n hq dX5_give_93 0 rfl ?_
  refine k_dup hq dX5_give_94 rfl ?_
  refine k_gi hq (C := RX5) (T := TX5) 5 2 rfl (by decide) (lay_X5 2 (by decide)) tw_143 dX5_give_95 fun v7 => ?_
  refine k_iconst hq dX5_give_98 (v := 1) rfl ?_
  refine k_iadd hq dX5_give_99 ?_
  refine k_p hq (C := RX5) (T := TX5) 5 2 rfl (by decide) lay_X5 tyX5 tyX5_ok nmX5 tw_143 rfl rfl rfl dX5_give_100 fun h8 => ?_
  refine k_iload hq dX5_give_103 3 rfl ?_
  exact k_iret hq dX5_give_105 he
set_option maxRecDepth 100000 in
set_option maxHeartbeats 4000000 in
theorem P_X5_give_0 {q : eT} {r0 : Int32} {h0 : eH} (hq : e_B q yX5_give.cls cX5_give 5 1 22 (some .int) yX5_give.name) (he : e_E q) (N : Nat) (l0 : Nat) (l1 : Int32) (l2 : Int32) (h : eH) : e_K eI q r0 h0 0 [(0, .ref l0), (1, .int l1), (2, .int l2)] [] h (F_X5_give N l0 l1 l2 h) := by
  unfold F_X5_give
  refine k_aload_n hq dX5_give_0 0 rfl ?_
  refine k_iload_n hq dX5_give_1 1 rfl ?_
  refine k_callV hq (na := 1) (As := [.int l1]) (st := []) 5 (C := RX5) (T := TX5) rfl (con_X5_placeOf _ _ _ _ N l0 l1) tw_692 tw_51 tw_689 tw_691 tw_14 ⟨by decide, by decide, by decide +kernel⟩ rfl (by decide) rfl (Nat.le_of_ble_eq_true rfl) dX5_give_2 fun v1 h2 => ?_
  refine k_istore_n hq dX5_give_5 rfl (by decide) (ls' := [(3, .int v1), (0, .ref l0), (1, .int l1), (2, .int l2)]) rfl ?_
  refine k_iload_n hq dX5_give_6 0 rfl ?_
  refine k_if_lt hq (tgt := 20) dX5_give_7 (by decide) (fun _ => ?_) (fun _ => ?_)
  · refine k_bipush hq dX5_give_20 (v := (-9)) rfl ?_
    refine k_istore hq dX5_give_22 (by decide) (ls' := [(4, .int (-9)), (3, .int v1), (0, .ref l0), (1, .int l1), (2, .int l2)]) rfl ?_
    refine k_aload_n hq dX5_give_24 2 rfl ?_
    refine k_gi hq (C := RX5) (T := TX5) 5 2 rfl (by decide) (lay_X5 2 (by decide)) tw_143 dX5_give_25 fun v3 => ?_
    refine k_aload_n hq dX5_give_28 2 rfl ?_
    refine k_gr hq (C := RX5) (T := TX5) 5 0 rfl (by decide) (lay_X5 0 (by decide)) tw_141 dX5_give_29 fun v4 => ?_
    refine k_alen hq dX5_give_32 fun v5 => ?_
    refine k_icmp_lt hq (tgt := 73) dX5_give_33 (by decide) (fun _ => ?_) (fun _ => ?_)
    · exact k_sub [2, 3, 4, 0] rfl (P_X5_give_73 hq he N l0 l1 l2 (-9) h2)
    · refine k_aload_n hq dX5_give_36 2 rfl ?_
      refine k_gr hq (C := RX5) (T := TX5) 5 0 rfl (by decide) (lay_X5 0 (by decide)) tw_141 dX5_give_37 fun v6 => ?_
      refine k_iconst hq dX5_give_40 (v := 0) rfl ?_
      refine k_iald hq dX5_give_41 fun v7 => ?_
      refine k_istore hq dX5_give_42 (by decide) (ls' := [(4, .int v7), (3, .int v1), (0, .ref l0), (1, .int l1), (2, .int l2)]) rfl ?_
      refine k_aload_n hq dX5_give_44 2 rfl ?_
      refine k_gr hq (C := RX5) (T := TX5) 5 0 rfl (by decide) (lay_X5 0 (by decide)) tw_141 dX5_give_45 fun v8 => ?_
      refine k_iconst hq dX5_give_48 (v := 0) rfl ?_
      refine k_aload_n hq dX5_give_49 2 rfl ?_
      refine k_gr hq (C := RX5) (T := TX5) 5 0 rfl (by decide) (lay_X5 0 (by decide)) tw_141 dX5_give_50 fun v9 => ?_
      refine k_iconst hq dX5_give_53 (v := 1) rfl ?_
      refine k_iald hq dX5_give_54 fun v10 => ?_
      refine k_iast hq dX5_give_55 fun h11 => ?_
      refine k_aload_n hq dX5_give_56 2 rfl ?_
      refine k_gr hq (C := RX5) (T := TX5) 5 1 rfl (by decide) (lay_X5 1 (by decide)) tw_142 dX5_give_57 fun v12 => ?_
      refine k_iconst hq dX5_give_60 (v := 0) rfl ?_
      refine k_aload_n hq dX5_give_61 2 rfl ?_
      refine k_gr hq (C := RX5) (T := TX5) 5 1 rfl (by decide) (lay_X5 1 (by decide)) tw_142 dX5_give_62 fun v13 => ?_
      refine k_iconst hq dX5_give_65 (v := 1) rfl ?_
      refine k_iald hq dX5_give_66 fun v14 => ?_
      refine k_iast hq dX5_give_67 fun h15 => ?_
      refine k_aload_n hq dX5_give_68 2 rfl ?_
      refine k_iconst hq dX5_give_69 (v := 1) rfl ?_
      refine k_p hq (C := RX5) (T := TX5) 5 2 rfl (by decide) lay_X5 tyX5 tyX5_ok nmX5 tw_143 rfl rfl rfl dX5_give_70 fun h16 => ?_
      exact k_sub [2, 3, 4, 0] rfl (P_X5_give_73 hq he N l0 l1 l2 v7 h16)
  · refine k_aload_n hq dX5_give_10 1 rfl ?_
    refine k_gr hq (C := RX5) (T := TX5) 5 1 rfl (by decide) (lay_X5 1 (by decide)) tw_142 dX5_give_11 fun v17 => ?_
    refine k_iload_n hq dX5_give_14 0 rfl ?_
    refine k_iload_n hq dX5_give_15 3 rfl ?_
    refine k_iast hq dX5_give_16 fun h18 => ?_
    refine k_bipush hq dX5_give_17 (v := (-9)) rfl ?_
    exact k_iret hq dX5_give_19 he
theorem con_X5_give (l : Launch) (G : eG) (B0 n : Nat) (N : Nat) (l0 : Nat) (l1 : Int32) (l2 : Int32) : e_C eI l G B0 n yX5_give cX5_give 5 (some .int) 1 22 [.ref l0, .int l1, .int l2] (F_X5_give N l0 l1 l2) := by
  refine e_mk (by decide) (Nat.le_of_ble_eq_true rfl) fun q r0 h0 h hq he e1 e2 e3 e4 => ?_
  subst e1; subst e2; subst e3; subst e4
  exact P_X5_give_0 hq he N l0 l1 l2 h
set_option maxRecDepth 100000 in
set_option maxHeartbeats 4000000 in
theorem P_X5_isPlace_0 {q : eT} {r0 : Int32} {h0 : eH} (hq : e_B q yX5_isPlace.cls cX5_isPlace 2 0 0 (some .boolean) yX5_isPlace.name) (he : e_E q) (l0 : Nat) (l1 : Int32) (h : eH) : e_K eI q r0 h0 0 [(0, .ref l0), (1, .int l1)] [] h (F_X5_isPlace l0 l1 h) := by
  unfold F_X5_isPlace
  refine k_iload_n hq dX5_isPlace_0 1 rfl ?_
  refine k_if_lt hq (tgt := 25) dX5_isPlace_1 (by decide) (fun _ => ?_) (fun _ => ?_)
  · refine k_iconst hq dX5_isPlace_25 (v := 0) rfl ?_
    exact k_zret hq dX5_isPlace_26 he
  · refine k_iload_n hq dX5_isPlace_4 1 rfl ?_
    refine k_aload_n hq dX5_isPlace_5 0 rfl ?_
    refine k_gi hq (C := RX5) (T := TX5) 5 2 rfl (by decide) (lay_X5 2 (by decide)) tw_143 dX5_isPlace_6 fun v1 => ?_
    refine k_icmp_ge hq (tgt := 25) dX5_isPlace_9 (by decide) (fun _ => ?_) (fun _ => ?_)
    · refine k_iconst hq dX5_isPlace_25 (v := 0) rfl ?_
      exact k_zret hq dX5_isPlace_26 he
    · refine k_iload_n hq dX5_isPlace_12 1 rfl ?_
      refine k_aload_n hq dX5_isPlace_13 0 rfl ?_
      refine k_gr hq (C := RX5) (T := TX5) 5 0 rfl (by decide) (lay_X5 0 (by decide)) tw_141 dX5_isPlace_14 fun v2 => ?_
      refine k_alen hq dX5_isPlace_17 fun v3 => ?_
      refine k_icmp_ge hq (tgt := 25) dX5_isPlace_18 (by decide) (fun _ => ?_) (fun _ => ?_)
      · refine k_iconst hq dX5_isPlace_25 (v := 0) rfl ?_
        exact k_zret hq dX5_isPlace_26 he
      · refine k_iconst hq dX5_isPlace_21 (v := 1) rfl ?_
        refine k_goto hq (tgt := 26) dX5_isPlace_22 (by decide) ?_
        exact k_zret hq dX5_isPlace_26 he
theorem con_X5_isPlace (l : Launch) (G : eG) (B0 n : Nat) (l0 : Nat) (l1 : Int32) : e_C eI l G B0 n yX5_isPlace cX5_isPlace 2 (some .boolean) 0 0 [.ref l0, .int l1] (F_X5_isPlace l0 l1) := by
  refine e_mk (by decide) (Nat.le_of_ble_eq_true rfl) fun q r0 h0 h hq he e1 e2 e3 e4 => ?_
  subst e1; subst e2; subst e3; subst e4
  exact P_X5_isPlace_0 hq he l0 l1 h
set_option maxRecDepth 100000 in
set_option maxHeartbeats 4000000 in
theorem P_X5_ruleAtPlace_0 {q : eT} {r0 : Int32} {h0 : eH} (hq : e_B q yX5_ruleAtPlace.cls cX5_ruleAtPlace 2 1 21 (some .int) yX5_ruleAtPlace.name) (he : e_E q) (l0 : Nat) (l1 : Int32) (h : eH) : e_K eI q r0 h0 0 [(0, .ref l0), (1, .int l1)] [] h (F_X5_ruleAtPlace l0 l1 h) := by
  unfold F_X5_ruleAtPlace
  refine k_aload_n hq dX5_ruleAtPlace_0 0 rfl ?_
  refine k_iload_n hq dX5_ruleAtPlace_1 1 rfl ?_
  refine k_callV hq (na := 1) (As := [.int l1]) (st := []) 5 (C := RX5) (T := TX5) rfl (con_X5_isPlace _ _ _ _ l0 l1) tw_700 tw_51 tw_697 tw_699 tw_15 ⟨by decide, by decide, by decide +kernel⟩ rfl (by decide) rfl (Nat.le_of_ble_eq_true rfl) dX5_ruleAtPlace_2 fun v1 h2 => ?_
  refine k_if_eq hq (tgt := 17) dX5_ruleAtPlace_5 (by decide) (fun _ => ?_) (fun _ => ?_)
  · refine k_bipush hq dX5_ruleAtPlace_17 (v := (-9)) rfl ?_
    exact k_iret hq dX5_ruleAtPlace_19 he
  · refine k_aload_n hq dX5_ruleAtPlace_8 0 rfl ?_
    refine k_gr hq (C := RX5) (T := TX5) 5 1 rfl (by decide) (lay_X5 1 (by decide)) tw_142 dX5_ruleAtPlace_9 fun v3 => ?_
    refine k_iload_n hq dX5_ruleAtPlace_12 1 rfl ?_
    refine k_iald hq dX5_ruleAtPlace_13 fun v4 => ?_
    refine k_goto hq (tgt := 19) dX5_ruleAtPlace_14 (by decide) ?_
    exact k_iret hq dX5_ruleAtPlace_19 he
theorem con_X5_ruleAtPlace (l : Launch) (G : eG) (B0 n : Nat) (l0 : Nat) (l1 : Int32) : e_C eI l G B0 n yX5_ruleAtPlace cX5_ruleAtPlace 2 (some .int) 1 21 [.ref l0, .int l1] (F_X5_ruleAtPlace l0 l1) := by
  refine e_mk (by decide) (Nat.le_of_ble_eq_true rfl) fun q r0 h0 h hq he e1 e2 e3 e4 => ?_
  subst e1; subst e2; subst e3; subst e4
  exact P_X5_ruleAtPlace_0 hq he l0 l1 h
set_option maxRecDepth 100000 in
set_option maxHeartbeats 4000000 in
theorem P_X5_ruleOf_0 {q : eT} {r0 : Int32} {h0 : eH} (hq : e_B q yX5_ruleOf.cls cX5_ruleOf 2 2 42 (some .int) yX5_ruleOf.name) (he : e_E q) (N : Nat) (l0 : Nat) (l1 : Int32) (h : eH) : e_K eI q r0 h0 0 [(0, .ref l0), (1, .int l1)] [] h (F_X5_ruleOf N l0 l1 h) := by
  unfold F_X5_ruleOf
  refine k_aload_n hq dX5_ruleOf_0 0 rfl ?_
  refine k_aload_n hq dX5_ruleOf_1 0 rfl ?_
  refine k_iload_n hq dX5_ruleOf_2 1 rfl ?_
  refine k_callV hq (na := 1) (As := [.int l1]) (st := [.ref l0]) 5 (C := RX5) (T := TX5) rfl (con_X5_placeOf _ _ _ _ N l0 l1) tw_692 tw_51 tw_689 tw_691 tw_14 ⟨by decide, by decide, by decide +kernel⟩ rfl (by decide) rfl (Nat.le_of_ble_eq_true rfl) dX5_ruleOf_3 fun v1 h2 => ?_
  refine k_callV hq (na := 1) (As := [.int v1]) (st := []) 5 (C := RX5) (T := TX5) rfl (con_X5_ruleAtPlace _ _ _ _ l0 v1) tw_696 tw_51 tw_693 tw_694 tw_695 ⟨by decide, by decide, by decide +kernel⟩ rfl (by decide) rfl (Nat.le_of_ble_eq_true rfl) dX5_ruleOf_6 fun v3 h4 => ?_
  exact k_iret hq dX5_ruleOf_9 he
theorem con_X5_ruleOf (l : Launch) (G : eG) (B0 n : Nat) (N : Nat) (l0 : Nat) (l1 : Int32) : e_C eI l G B0 n yX5_ruleOf cX5_ruleOf 2 (some .int) 2 42 [.ref l0, .int l1] (F_X5_ruleOf N l0 l1) := by
  refine e_mk (by decide) (Nat.le_of_ble_eq_true rfl) fun q r0 h0 h hq he e1 e2 e3 e4 => ?_
  subst e1; subst e2; subst e3; subst e4
  exact P_X5_ruleOf_0 hq he N l0 l1 h
set_option maxRecDepth 100000 in
set_option maxHeartbeats 4000000 in
theorem P_X5_keyAtPlace_0 {q : eT} {r0 : Int32} {h0 : eH} (hq : e_B q yX5_keyAtPlace.cls cX5_keyAtPlace 2 1 21 (some .int) yX5_keyAtPlace.name) (he : e_E q) (l0 : Nat) (l1 : Int32) (h : eH) : e_K eI q r0 h0 0 [(0, .ref l0), (1, .int l1)] [] h (F_X5_keyAtPlace l0 l1 h) := by
  unfold F_X5_keyAtPlace
  refine k_aload_n hq dX5_keyAtPlace_0 0 rfl ?_
  refine k_iload_n hq dX5_keyAtPlace_1 1 rfl ?_
  refine k_callV hq (na := 1) (As := [.int l1]) (st := []) 5 (C := RX5) (T := TX5) rfl (con_X5_isPlace _ _ _ _ l0 l1) tw_700 tw_51 tw_697 tw_699 tw_15 ⟨by decide, by decide, by decide +kernel⟩ rfl (by decide) rfl (Nat.le_of_ble_eq_true rfl) dX5_keyAtPlace_2 fun v1 h2 => ?_
  refine k_if_eq hq (tgt := 17) dX5_keyAtPlace_5 (by decide) (fun _ => ?_) (fun _ => ?_)
  · refine k_bipush hq dX5_keyAtPlace_17 (v := (-9)) rfl ?_
    exact k_iret hq dX5_keyAtPlace_19 he
  · refine k_aload_n hq dX5_keyAtPlace_8 0 rfl ?_
    refine k_gr hq (C := RX5) (T := TX5) 5 0 rfl (by decide) (lay_X5 0 (by decide)) tw_141 dX5_keyAtPlace_9 fun v3 => ?_
    refine k_iload_n hq dX5_keyAtPlace_12 1 rfl ?_
    refine k_iald hq dX5_keyAtPlace_13 fun v4 => ?_
    refine k_goto hq (tgt := 19) dX5_keyAtPlace_14 (by decide) ?_
    exact k_iret hq dX5_keyAtPlace_19 he
theorem con_X5_keyAtPlace (l : Launch) (G : eG) (B0 n : Nat) (l0 : Nat) (l1 : Int32) : e_C eI l G B0 n yX5_keyAtPlace cX5_keyAtPlace 2 (some .int) 1 21 [.ref l0, .int l1] (F_X5_keyAtPlace l0 l1) := by
  refine e_mk (by decide) (Nat.le_of_ble_eq_true rfl) fun q r0 h0 h hq he e1 e2 e3 e4 => ?_
  subst e1; subst e2; subst e3; subst e4
  exact P_X5_keyAtPlace_0 hq he l0 l1 h
set_option maxRecDepth 100000 in
set_option maxHeartbeats 4000000 in
theorem P_X6_init_0 {q : eT} {r0 : Unit} {h0 : eH} (hq : e_B q yX6_init.cls cX6_init 1 1 28 none yX6_init.name) (he : e_E q) (l0 : Nat) (h : eH) : e_K eV q r0 h0 0 [(0, .ref l0)] [] h (F_X6_init l0 h) := by
  unfold F_X6_init
  refine k_aload_n hq dX6_init_0 0 rfl ?_
  refine k_objInit hq tw_156 tw_73 tw_74 (by decide) (Nat.le_of_ble_eq_true rfl) dX6_init_1 ?_
  exact k_vret hq dX6_init_4 he
theorem con_X6_init (l : Launch) (G : eG) (B0 n : Nat) (l0 : Nat) : e_C eV l G B0 n yX6_init cX6_init 1 none 1 28 [.ref l0] (F_X6_init l0) := by
  refine e_mk (by decide) (Nat.le_of_ble_eq_true rfl) fun q r0 h0 h hq he e1 e2 e3 e4 => ?_
  subst e1; subst e2; subst e3; subst e4
  exact P_X6_init_0 hq he l0 h
set_option maxRecDepth 100000 in
set_option maxHeartbeats 4000000 in
theorem P_X6_begin_0 {q : eT} {r0 : Unit} {h0 : eH} (hq : e_B q yX6_begin.cls cX6_begin 3 0 0 none yX6_begin.name) (he : e_E q) (l0 : Nat) (l1 : Int32) (l2 : Int32) (h : eH) : e_K eV q r0 h0 0 [(0, .ref l0), (1, .int l1), (2, .int l2)] [] h (F_X6_begin l0 l1 l2 h) := by
  unfold F_X6_begin
  refine k_aload_n hq dX6_begin_0 0 rfl ?_
  refine k_iload_n hq dX6_begin_1 1 rfl ?_
  refine k_p hq (C := RX6) (T := TX6) 6 0 rfl (by decide) lay_X6 tyX6 tyX6_ok nmX6 tw_157 rfl rfl rfl dX6_begin_2 fun h1 => ?_
  refine k_aload_n hq dX6_begin_5 0 rfl ?_
  refine k_iload_n hq dX6_begin_6 2 rfl ?_
  refine k_p hq (C := RX6) (T := TX6) 6 1 rfl (by decide) lay_X6 tyX6 tyX6_ok nmX6 tw_158 rfl rfl rfl dX6_begin_7 fun h2 => ?_
  refine k_aload_n hq dX6_begin_10 0 rfl ?_
  refine k_iconst hq dX6_begin_11 (v := 0) rfl ?_
  refine k_pz hq (C := RX6) (T := TX6) 6 3 rfl (by decide) lay_X6 tyX6 tyX6_ok nmX6 tw_161 rfl rfl dX6_begin_12 fun h3 => ?_
  refine k_aload_n hq dX6_begin_15 0 rfl ?_
  refine k_lconst hq dX6_begin_16 (v := 0) rfl ?_
  refine k_p hq (C := RX6) (T := TX6) 6 2 rfl (by decide) lay_X6 tyX6 tyX6_ok nmX6 tw_159 rfl rfl rfl dX6_begin_17 fun h4 => ?_
  refine k_aload_n hq dX6_begin_20 0 rfl ?_
  refine k_gi hq (C := RX6) (T := TX6) 6 1 rfl (by decide) (lay_X6 1 (by decide)) tw_158 dX6_begin_21 fun v5 => ?_
  refine k_if_ne hq (tgt := 37) dX6_begin_24 (by decide) (fun _ => ?_) (fun _ => ?_)
  · refine k_aload_n hq dX6_begin_27 0 rfl ?_
    refine k_ldc2 hq (v := (-9223372036854775808)) tw_709 dX6_begin_28 ?_
    refine k_p hq (C := RX6) (T := TX6) 6 2 rfl (by decide) lay_X6 tyX6 tyX6_ok nmX6 tw_159 rfl rfl rfl dX6_begin_31 fun h11 => ?_
    refine k_goto hq (tgt := 78) dX6_begin_34 (by decide) ?_
    exact k_vret hq dX6_begin_78 he
  · refine k_aload_n hq dX6_begin_37 0 rfl ?_
    refine k_gi hq (C := RX6) (T := TX6) 6 1 rfl (by decide) (lay_X6 1 (by decide)) tw_158 dX6_begin_38 fun v6 => ?_
    refine k_iconst hq dX6_begin_41 (v := 1) rfl ?_
    refine k_icmp_ne hq (tgt := 55) dX6_begin_42 (by decide) (fun _ => ?_) (fun _ => ?_)
    · refine k_aload_n hq dX6_begin_45 0 rfl ?_
      refine k_ldc2 hq (v := 9223372036854775807) tw_710 dX6_begin_46 ?_
      refine k_p hq (C := RX6) (T := TX6) 6 2 rfl (by decide) lay_X6 tyX6 tyX6_ok nmX6 tw_159 rfl rfl rfl dX6_begin_49 fun h10 => ?_
      refine k_goto hq (tgt := 78) dX6_begin_52 (by decide) ?_
      exact k_vret hq dX6_begin_78 he
    · refine k_aload_n hq dX6_begin_55 0 rfl ?_
      refine k_gi hq (C := RX6) (T := TX6) 6 1 rfl (by decide) (lay_X6 1 (by decide)) tw_158 dX6_begin_56 fun v7 => ?_
      refine k_iconst hq dX6_begin_59 (v := 3) rfl ?_
      refine k_icmp_ne hq (tgt := 78) dX6_begin_60 (by decide) (fun _ => ?_) (fun _ => ?_)
      · refine k_aload_n hq dX6_begin_63 0 rfl ?_
        refine k_gi hq (C := RX6) (T := TX6) 6 0 rfl (by decide) (lay_X6 0 (by decide)) tw_157 dX6_begin_64 fun v8 => ?_
        refine k_iconst hq dX6_begin_67 (v := 1) rfl ?_
        refine k_icmp_ne hq (tgt := 78) dX6_begin_68 (by decide) (fun _ => ?_) (fun _ => ?_)
        · refine k_aload_n hq dX6_begin_71 0 rfl ?_
          refine k_ldc2 hq (v := (-1)) tw_711 dX6_begin_72 ?_
          refine k_p hq (C := RX6) (T := TX6) 6 2 rfl (by decide) lay_X6 tyX6 tyX6_ok nmX6 tw_159 rfl rfl rfl dX6_begin_75 fun h9 => ?_
          exact k_vret hq dX6_begin_78 he
        · exact k_vret hq dX6_begin_78 he
      · exact k_vret hq dX6_begin_78 he
theorem con_X6_begin (l : Launch) (G : eG) (B0 n : Nat) (l0 : Nat) (l1 : Int32) (l2 : Int32) : e_C eV l G B0 n yX6_begin cX6_begin 3 none 0 0 [.ref l0, .int l1, .int l2] (F_X6_begin l0 l1 l2) := by
  refine e_mk (by decide) (Nat.le_of_ble_eq_true rfl) fun q r0 h0 h hq he e1 e2 e3 e4 => ?_
  subst e1; subst e2; subst e3; subst e4
  exact P_X6_begin_0 hq he l0 l1 l2 h
set_option maxRecDepth 100000 in
set_option maxHeartbeats 4000000 in
theorem P_X6_putTogether_54 {q : eT} {r0 : Unit} {h0 : eH} (hq : e_B q yX6_putTogether.cls cX6_putTogether 5 0 0 none yX6_putTogether.name) (he : e_E q) (l0 : Nat) (l3 : Int64) (s0 : Nat) (s1 : Int32) (h : eH) : e_K eV q r0 h0 54 [(0, .ref l0), (3, .long l3)] [.int s1, .ref s0] h (F_X6_putTogether_54 l0 l3 s0 s1 h) := by
  unfold F_X6_putTogether_54
  refine k_pz hq (C := RX6) (T := TX6) 6 3 rfl (by decide) lay_X6 tyX6 tyX6_ok nmX6 tw_161 rfl rfl dX6_putTogether_54 fun h1 => ?_
  refine k_aload_n hq dX6_putTogether_57 0 rfl ?_
  refine k_lload_n hq dX6_putTogether_58 1 rfl ?_
  refine k_p hq (C := RX6) (T := TX6) 6 2 rfl (by decide) lay_X6 tyX6 tyX6_ok nmX6 tw_159 rfl rfl rfl dX6_putTogether_59 fun h2 => ?_
  exact k_vret hq dX6_putTogether_62 he
set_option maxRecDepth 100000 in
set_option maxHeartbeats 4000000 in
theorem P_X6_putTogether_49 {q : eT} {r0 : Unit} {h0 : eH} (hq : e_B q yX6_putTogether.cls cX6_putTogether 5 0 0 none yX6_putTogether.name) (he : e_E q) (l0 : Nat) (l3 : Int64) (s0 : Nat) (h : eH) : e_K eV q r0 h0 49 [(0, .ref l0), (3, .long l3)] [.ref s0] h (F_X6_putTogether_49 l0 l3 s0 h) := by
  unfold F_X6_putTogether_49
  refine k_iconst hq dX6_putTogether_49 (v := 1) rfl ?_
  refine k_goto hq (tgt := 54) dX6_putTogether_50 (by decide) ?_
  exact k_sub [0, 1] rfl (P_X6_putTogether_54 hq he l0 l3 s0 1 h)
set_option maxRecDepth 100000 in
set_option maxHeartbeats 4000000 in
theorem P_X6_putTogether_0 {q : eT} {r0 : Unit} {h0 : eH} (hq : e_B q yX6_putTogether.cls cX6_putTogether 5 0 0 none yX6_putTogether.name) (he : e_E q) (l0 : Nat) (l1 : Int64) (h : eH) : e_K eV q r0 h0 0 [(0, .ref l0), (1, .long l1)] [] h (F_X6_putTogether l0 l1 h) := by
  unfold F_X6_putTogether
  refine k_aload_n hq dX6_putTogether_0 0 rfl ?_
  refine k_gi hq (C := RX6) (T := TX6) 6 0 rfl (by decide) (lay_X6 0 (by decide)) tw_157 dX6_putTogether_1 fun v1 => ?_
  refine k_iconst hq dX6_putTogether_4 (v := 1) rfl ?_
  refine k_icmp_ne hq (tgt := 19) dX6_putTogether_5 (by decide) (fun _ => ?_) (fun _ => ?_)
  · refine k_aload_n hq dX6_putTogether_8 0 rfl ?_
    refine k_dup hq dX6_putTogether_9 rfl ?_
    refine k_gl hq (C := RX6) (T := TX6) 6 2 rfl (by decide) (lay_X6 2 (by decide)) tw_159 dX6_putTogether_10 fun v6 => ?_
    refine k_lload_n hq dX6_putTogether_13 1 rfl ?_
    refine k_lor hq dX6_putTogether_14 ?_
    refine k_p hq (C := RX6) (T := TX6) 6 2 rfl (by decide) lay_X6 tyX6 tyX6_ok nmX6 tw_159 rfl rfl rfl dX6_putTogether_15 fun h7 => ?_
    exact k_vret hq dX6_putTogether_18 he
  · refine k_aload_n hq dX6_putTogether_19 0 rfl ?_
    refine k_gl hq (C := RX6) (T := TX6) 6 2 rfl (by decide) (lay_X6 2 (by decide)) tw_159 dX6_putTogether_20 fun v2 => ?_
    refine k_lload_n hq dX6_putTogether_23 1 rfl ?_
    refine k_ladd hq dX6_putTogether_24 ?_
    refine k_let (mk := fun z => .long z :: []) fun v3 _ => ?_
    refine k_lstore_n hq dX6_putTogether_25 rfl (by decide) (ls' := [(3, .long v3), (0, .ref l0), (1, .long l1)]) rfl ?_
    refine k_aload_n hq dX6_putTogether_26 1 rfl ?_
    refine k_aload_n hq dX6_putTogether_27 1 rfl ?_
    refine k_gi hq (C := RX6) (T := TX6) 6 3 rfl (by decide) (lay_X6 3 (by decide)) tw_161 dX6_putTogether_28 fun v4 => ?_
    refine k_if_ne hq (tgt := 49) dX6_putTogether_31 (by decide) (fun _ => ?_) (fun _ => ?_)
    · refine k_aload_n hq dX6_putTogether_34 1 rfl ?_
      refine k_gl hq (C := RX6) (T := TX6) 6 2 rfl (by decide) (lay_X6 2 (by decide)) tw_159 dX6_putTogether_35 fun v5 => ?_
      refine k_lload_n hq dX6_putTogether_38 0 rfl ?_
      refine k_lxor hq dX6_putTogether_39 ?_
      refine k_lload_n hq dX6_putTogether_40 2 rfl ?_
      refine k_lload_n hq dX6_putTogether_41 0 rfl ?_
      refine k_lxor hq dX6_putTogether_42 ?_
      refine k_land hq dX6_putTogether_43 ?_
      refine k_lconst hq dX6_putTogether_44 (v := 0) rfl ?_
      refine k_lcmp hq dX6_putTogether_45 ?_
      refine k_if_ge hq (tgt := 53) dX6_putTogether_46 (by decide) (fun _ => ?_) (fun _ => ?_)
      · refine k_iconst hq dX6_putTogether_53 (v := 0) rfl ?_
        exact k_sub [1, 0] rfl (P_X6_putTogether_54 hq he l0 v3 l0 0 h)
      · exact k_sub [1, 0] rfl (P_X6_putTogether_49 hq he l0 v3 l0 h)
    · exact k_sub [1, 0] rfl (P_X6_putTogether_49 hq he l0 v3 l0 h)
theorem con_X6_putTogether (l : Launch) (G : eG) (B0 n : Nat) (l0 : Nat) (l1 : Int64) : e_C eV l G B0 n yX6_putTogether cX6_putTogether 5 none 0 0 [.ref l0, .long l1] (F_X6_putTogether l0 l1) := by
  refine e_mk (by decide) (Nat.le_of_ble_eq_true rfl) fun q r0 h0 h hq he e1 e2 e3 e4 => ?_
  subst e1; subst e2; subst e3; subst e4
  exact P_X6_putTogether_0 hq he l0 l1 h
set_option maxRecDepth 100000 in
set_option maxHeartbeats 4000000 in
theorem P_X6_divisorOf_9b {q : eT} {r0 : Int64} {h0 : eH} (hq : e_B q yX6_divisorOf.cls cX6_divisorOf 11 0 0 (some .long) yX6_divisorOf.name) (he : e_E q) (N : Nat) (k9 : Int64 → Int64 → Int32 → eH → Option (Int64 × eH)) (hk9 : ∀ (l4 : Int64) (l6 : Int64) (l8 : Int32) h, e_K eL q r0 h0 9 [(4, .long l4), (6, .long l6), (8, .int l8)] [] h (k9 l4 l6 l8 h)) (l4 : Int64) (l6 : Int64) (l8 : Int32) (h : eH) : e_K eL q r0 h0 9 [(4, .long l4), (6, .long l6), (8, .int l8)] [] h (F_X6_divisorOf_9b N k9 l4 l6 l8 h) := by
  unfold F_X6_divisorOf_9b
  refine k_iload hq dX6_divisorOf_9 2 rfl ?_
  refine k_sipush hq dX6_divisorOf_11 (v := 1000) rfl ?_
  refine k_icmp_ge hq (tgt := 45) dX6_divisorOf_14 (by decide) (fun _ => ?_) (fun _ => ?_)
  · refine k_lload hq dX6_divisorOf_45 0 rfl ?_
    exact k_lret hq dX6_divisorOf_47 he
  · refine k_lload hq dX6_divisorOf_17 1 rfl ?_
    refine k_lconst hq dX6_divisorOf_19 (v := 0) rfl ?_
    refine k_lcmp hq dX6_divisorOf_20 ?_
    refine k_if_eq hq (tgt := 45) dX6_divisorOf_21 (by decide) (fun _ => ?_) (fun _ => ?_)
    · refine k_lload hq dX6_divisorOf_45 0 rfl ?_
      exact k_lret hq dX6_divisorOf_47 he
    · refine k_lload hq dX6_divisorOf_24 0 rfl ?_
      refine k_lload hq dX6_divisorOf_26 1 rfl ?_
      refine k_lrem hq dX6_divisorOf_28 fun _ => ?_
      refine k_let (mk := fun z => .long z :: []) fun v1 _ => ?_
      refine k_lstore hq dX6_divisorOf_29 (by decide) (ls' := [(9, .long v1), (4, .long l4), (6, .long l6), (8, .int l8)]) rfl ?_
      refine k_lload hq dX6_divisorOf_31 2 rfl ?_
      refine k_lstore hq dX6_divisorOf_33 (by decide) (ls' := [(4, .long l6), (9, .long v1), (6, .long l6), (8, .int l8)]) rfl ?_
      refine k_lload hq dX6_divisorOf_35 1 rfl ?_
      refine k_lstore hq dX6_divisorOf_37 (by decide) (ls' := [(6, .long v1), (4, .long l6), (9, .long v1), (8, .int l8)]) rfl ?_
      refine k_iinc hq dX6_divisorOf_39 3 rfl (v := l8 + 1) rfl (by decide) (ls' := [(8, .int (l8 + 1)), (6, .long v1), (4, .long l6), (9, .long v1)]) rfl ?_
      refine k_goto hq (tgt := 9) dX6_divisorOf_42 (by decide) ?_
      exact k_sub [2, 1, 0] rfl (hk9 l6 v1 (l8 + 1) h)
theorem Q_X6_divisorOf_9 {q : eT} {r0 : Int64} {h0 : eH} (hq : e_B q yX6_divisorOf.cls cX6_divisorOf 11 0 0 (some .long) yX6_divisorOf.name) (he : e_E q) (N : Nat) (l4 : Int64) (l6 : Int64) (l8 : Int32) (h : eH) : e_K eL q r0 h0 9 [(4, .long l4), (6, .long l6), (8, .int l8)] [] h (L_X6_divisorOf_9 N l4 l6 l8 h) :=
  k_loop (mk := (fun s => [(4, .long s.1), (6, .long s.2.1), (8, .int s.2.2.1)])) (hp := fun s => s.2.2.2) (fun k hk s => P_X6_divisorOf_9b hq he N (fun l4 l6 l8 h => k (l4, l6, l8, h)) (fun l4 l6 l8 h => hk (l4, l6, l8, h)) s.1 s.2.1 s.2.2.1 s.2.2.2) N (l4, l6, l8, h)
set_option maxRecDepth 100000 in
set_option maxHeartbeats 4000000 in
theorem P_X6_divisorOf_0 {q : eT} {r0 : Int64} {h0 : eH} (hq : e_B q yX6_divisorOf.cls cX6_divisorOf 11 0 0 (some .long) yX6_divisorOf.name) (he : e_E q) (N : Nat) (l0 : Int64) (l2 : Int64) (h : eH) : e_K eL q r0 h0 0 [(0, .long l0), (2, .long l2)] [] h (F_X6_divisorOf N l0 l2 h) := by
  unfold F_X6_divisorOf
  refine k_lload_n hq dX6_divisorOf_0 0 rfl ?_
  refine k_lstore hq dX6_divisorOf_1 (by decide) (ls' := [(4, .long l0), (0, .long l0), (2, .long l2)]) rfl ?_
  refine k_lload_n hq dX6_divisorOf_3 2 rfl ?_
  refine k_lstore hq dX6_divisorOf_4 (by decide) (ls' := [(6, .long l2), (4, .long l0), (0, .long l0), (2, .long l2)]) rfl ?_
  refine k_iconst hq dX6_divisorOf_6 (v := 0) rfl ?_
  refine k_istore hq dX6_divisorOf_7 (by decide) (ls' := [(8, .int 0), (6, .long l2), (4, .long l0), (0, .long l0), (2, .long l2)]) rfl ?_
  exact k_sub [2, 1, 0] rfl (Q_X6_divisorOf_9 hq he N l0 l2 0 h)
theorem con_X6_divisorOf (l : Launch) (G : eG) (B0 n : Nat) (N : Nat) (l0 : Int64) (l2 : Int64) : e_C eL l G B0 n yX6_divisorOf cX6_divisorOf 11 (some .long) 0 0 [.long l0, .long l2] (F_X6_divisorOf N l0 l2) := by
  refine e_mk (by decide) (Nat.le_of_ble_eq_true rfl) fun q r0 h0 h hq he e1 e2 e3 e4 => ?_
  subst e1; subst e2; subst e3; subst e4
  exact P_X6_divisorOf_0 hq he N l0 l2 h
set_option maxRecDepth 100000 in
set_option maxHeartbeats 4000000 in
theorem P_X6_keepCommon_36 {q : eT} {r0 : Unit} {h0 : eH} (hq : e_B q yX6_keepCommon.cls cX6_keepCommon 3 1 30 none yX6_keepCommon.name) (he : e_E q) (N : Nat) (s0 : Nat) (s1 : Int64) (s2 : Int64) (h : eH) : e_K eV q r0 h0 36 [] [.long s2, .long s1, .ref s0] h (F_X6_keepCommon_36 N s0 s1 s2 h) := by
  unfold F_X6_keepCommon_36
  refine k_callS hq (na := 2) (As := [.long s1, .long s2]) (st := [.ref s0]) (con_X6_divisorOf _ _ _ _ N s1 s2) tw_737 tw_52 tw_735 tw_736 ⟨by decide, by decide, by decide +kernel⟩ rfl (by decide) rfl (Nat.le_of_ble_eq_true rfl) dX6_keepCommon_36 fun v1 h2 => ?_
  refine k_p hq (C := RX6) (T := TX6) 6 2 rfl (by decide) lay_X6 tyX6 tyX6_ok nmX6 tw_159 rfl rfl rfl dX6_keepCommon_39 fun h3 => ?_
  exact k_vret hq dX6_keepCommon_42 he
set_option maxRecDepth 100000 in
set_option maxHeartbeats 4000000 in
theorem P_X6_keepCommon_0 {q : eT} {r0 : Unit} {h0 : eH} (hq : e_B q yX6_keepCommon.cls cX6_keepCommon 3 1 30 none yX6_keepCommon.name) (he : e_E q) (N : Nat) (l0 : Nat) (l1 : Int64) (h : eH) : e_K eV q r0 h0 0 [(0, .ref l0), (1, .long l1)] [] h (F_X6_keepCommon N l0 l1 h) := by
  unfold F_X6_keepCommon
  refine k_aload_n hq dX6_keepCommon_0 0 rfl ?_
  refine k_gi hq (C := RX6) (T := TX6) 6 0 rfl (by decide) (lay_X6 0 (by decide)) tw_157 dX6_keepCommon_1 fun v1 => ?_
  refine k_iconst hq dX6_keepCommon_4 (v := 1) rfl ?_
  refine k_icmp_ne hq (tgt := 19) dX6_keepCommon_5 (by decide) (fun _ => ?_) (fun _ => ?_)
  · refine k_aload_n hq dX6_keepCommon_8 0 rfl ?_
    refine k_dup hq dX6_keepCommon_9 rfl ?_
    refine k_gl hq (C := RX6) (T := TX6) 6 2 rfl (by decide) (lay_X6 2 (by decide)) tw_159 dX6_keepCommon_10 fun v3 => ?_
    refine k_lload_n hq dX6_keepCommon_13 1 rfl ?_
    refine k_land hq dX6_keepCommon_14 ?_
    refine k_p hq (C := RX6) (T := TX6) 6 2 rfl (by decide) lay_X6 tyX6 tyX6_ok nmX6 tw_159 rfl rfl rfl dX6_keepCommon_15 fun h4 => ?_
    exact k_vret hq dX6_keepCommon_18 he
  · refine k_aload_n hq dX6_keepCommon_19 0 rfl ?_
    refine k_aload_n hq dX6_keepCommon_20 0 rfl ?_
    refine k_gl hq (C := RX6) (T := TX6) 6 2 rfl (by decide) (lay_X6 2 (by decide)) tw_159 dX6_keepCommon_21 fun v2 => ?_
    refine k_lload_n hq dX6_keepCommon_24 1 rfl ?_
    refine k_lconst hq dX6_keepCommon_25 (v := 0) rfl ?_
    refine k_lcmp hq dX6_keepCommon_26 ?_
    refine k_if_le hq (tgt := 35) dX6_keepCommon_27 (by decide) (fun _ => ?_) (fun _ => ?_)
    · refine k_lload_n hq dX6_keepCommon_35 1 rfl ?_
      exact k_sub [] rfl (P_X6_keepCommon_36 hq he N l0 v2 l1 h)
    · refine k_lload_n hq dX6_keepCommon_30 1 rfl ?_
      refine k_lneg hq dX6_keepCommon_31 ?_
      refine k_goto hq (tgt := 36) dX6_keepCommon_32 (by decide) ?_
      exact k_sub [] rfl (P_X6_keepCommon_36 hq he N l0 v2 (-l1) h)
theorem con_X6_keepCommon (l : Launch) (G : eG) (B0 n : Nat) (N : Nat) (l0 : Nat) (l1 : Int64) : e_C eV l G B0 n yX6_keepCommon cX6_keepCommon 3 none 1 30 [.ref l0, .long l1] (F_X6_keepCommon N l0 l1) := by
  refine e_mk (by decide) (Nat.le_of_ble_eq_true rfl) fun q r0 h0 h hq he e1 e2 e3 e4 => ?_
  subst e1; subst e2; subst e3; subst e4
  exact P_X6_keepCommon_0 hq he N l0 l1 h
set_option maxRecDepth 100000 in
set_option maxHeartbeats 4000000 in
theorem P_X6_add_0 {q : eT} {r0 : Unit} {h0 : eH} (hq : e_B q yX6_add.cls cX6_add 3 2 52 none yX6_add.name) (he : e_E q) (N : Nat) (l0 : Nat) (l1 : Int64) (h : eH) : e_K eV q r0 h0 0 [(0, .ref l0), (1, .long l1)] [] h (F_X6_add N l0 l1 h) := by
  unfold F_X6_add
  refine k_aload_n hq dX6_add_0 0 rfl ?_
  refine k_gi hq (C := RX6) (T := TX6) 6 1 rfl (by decide) (lay_X6 1 (by decide)) tw_158 dX6_add_1 fun v1 => ?_
  refine k_if_ne hq (tgt := 22) dX6_add_4 (by decide) (fun _ => ?_) (fun _ => ?_)
  · refine k_aload_n hq dX6_add_7 0 rfl ?_
    refine k_aload_n hq dX6_add_8 0 rfl ?_
    refine k_gl hq (C := RX6) (T := TX6) 6 2 rfl (by decide) (lay_X6 2 (by decide)) tw_159 dX6_add_9 fun v12 => ?_
    refine k_lload_n hq dX6_add_12 1 rfl ?_
    refine k_mmaxL hq tw_721 tw_722 tw_60 tw_723 (by decide) (Nat.le_of_ble_eq_true rfl) dX6_add_13 ?_
    refine k_p hq (C := RX6) (T := TX6) 6 2 rfl (by decide) lay_X6 tyX6 tyX6_ok nmX6 tw_159 rfl rfl rfl dX6_add_16 fun h13 => ?_
    refine k_goto hq (tgt := 82) dX6_add_19 (by decide) ?_
    exact k_vret hq dX6_add_82 he
  · refine k_aload_n hq dX6_add_22 0 rfl ?_
    refine k_gi hq (C := RX6) (T := TX6) 6 1 rfl (by decide) (lay_X6 1 (by decide)) tw_158 dX6_add_23 fun v2 => ?_
    refine k_iconst hq dX6_add_26 (v := 1) rfl ?_
    refine k_icmp_ne hq (tgt := 45) dX6_add_27 (by decide) (fun _ => ?_) (fun _ => ?_)
    · refine k_aload_n hq dX6_add_30 0 rfl ?_
      refine k_aload_n hq dX6_add_31 0 rfl ?_
      refine k_gl hq (C := RX6) (T := TX6) 6 2 rfl (by decide) (lay_X6 2 (by decide)) tw_159 dX6_add_32 fun v10 => ?_
      refine k_lload_n hq dX6_add_35 1 rfl ?_
      refine k_mminL hq tw_724 tw_725 tw_60 tw_726 (by decide) (Nat.le_of_ble_eq_true rfl) dX6_add_36 ?_
      refine k_p hq (C := RX6) (T := TX6) 6 2 rfl (by decide) lay_X6 tyX6 tyX6_ok nmX6 tw_159 rfl rfl rfl dX6_add_39 fun h11 => ?_
      refine k_goto hq (tgt := 82) dX6_add_42 (by decide) ?_
      exact k_vret hq dX6_add_82 he
    · refine k_aload_n hq dX6_add_45 0 rfl ?_
      refine k_gi hq (C := RX6) (T := TX6) 6 1 rfl (by decide) (lay_X6 1 (by decide)) tw_158 dX6_add_46 fun v3 => ?_
      refine k_iconst hq dX6_add_49 (v := 2) rfl ?_
      refine k_icmp_ne hq (tgt := 61) dX6_add_50 (by decide) (fun _ => ?_) (fun _ => ?_)
      · refine k_aload_n hq dX6_add_53 0 rfl ?_
        refine k_lload_n hq dX6_add_54 1 rfl ?_
        refine k_callV hq (na := 1) (As := [.long l1]) (st := []) 6 (C := RX6) (T := TX6) rfl (con_X6_putTogether _ _ _ _ l0 l1) tw_730 tw_52 tw_727 tw_729 tw_16 ⟨by decide, by decide, by decide +kernel⟩ rfl (by decide) rfl (Nat.le_of_ble_eq_true rfl) dX6_add_55 fun v8 h9 => ?_
        refine k_goto hq (tgt := 82) dX6_add_58 (by decide) ?_
        exact k_vret hq dX6_add_82 he
      · refine k_aload_n hq dX6_add_61 0 rfl ?_
        refine k_gi hq (C := RX6) (T := TX6) 6 1 rfl (by decide) (lay_X6 1 (by decide)) tw_158 dX6_add_62 fun v4 => ?_
        refine k_iconst hq dX6_add_65 (v := 3) rfl ?_
        refine k_icmp_ne hq (tgt := 77) dX6_add_66 (by decide) (fun _ => ?_) (fun _ => ?_)
        · refine k_aload_n hq dX6_add_69 0 rfl ?_
          refine k_lload_n hq dX6_add_70 1 rfl ?_
          refine k_callV hq (na := 1) (As := [.long l1]) (st := []) 6 (C := RX6) (T := TX6) rfl (con_X6_keepCommon _ _ _ _ N l0 l1) tw_734 tw_52 tw_731 tw_733 tw_17 ⟨by decide, by decide, by decide +kernel⟩ rfl (by decide) rfl (Nat.le_of_ble_eq_true rfl) dX6_add_71 fun v6 h7 => ?_
          refine k_goto hq (tgt := 82) dX6_add_74 (by decide) ?_
          exact k_vret hq dX6_add_82 he
        · refine k_aload_n hq dX6_add_77 0 rfl ?_
          refine k_lload_n hq dX6_add_78 1 rfl ?_
          refine k_p hq (C := RX6) (T := TX6) 6 2 rfl (by decide) lay_X6 tyX6 tyX6_ok nmX6 tw_159 rfl rfl rfl dX6_add_79 fun h5 => ?_
          exact k_vret hq dX6_add_82 he
theorem con_X6_add (l : Launch) (G : eG) (B0 n : Nat) (N : Nat) (l0 : Nat) (l1 : Int64) : e_C eV l G B0 n yX6_add cX6_add 3 none 2 52 [.ref l0, .long l1] (F_X6_add N l0 l1) := by
  refine e_mk (by decide) (Nat.le_of_ble_eq_true rfl) fun q r0 h0 h hq he e1 e2 e3 e4 => ?_
  subst e1; subst e2; subst e3; subst e4
  exact P_X6_add_0 hq he N l0 l1 h
set_option maxRecDepth 100000 in
set_option maxHeartbeats 4000000 in
theorem P_X6_end_32 {q : eT} {r0 : Unit} {h0 : eH} (hq : e_B q yX6_end.cls cX6_end 1 0 0 none yX6_end.name) (he : e_E q) (l0 : Nat) (s0 : Nat) (s1 : Int32) (h : eH) : e_K eV q r0 h0 32 [(0, .ref l0)] [.int s1, .ref s0] h (F_X6_end_32 l0 s0 s1 h) := by
  unfold F_X6_end_32
  refine k_pz hq (C := RX6) (T := TX6) 6 3 rfl (by decide) lay_X6 tyX6 tyX6_ok nmX6 tw_161 rfl rfl dX6_end_32 fun h1 => ?_
  refine k_aload_n hq dX6_end_35 0 rfl ?_
  refine k_aload_n hq dX6_end_36 0 rfl ?_
  refine k_gl hq (C := RX6) (T := TX6) 6 2 rfl (by decide) (lay_X6 2 (by decide)) tw_159 dX6_end_37 fun v2 => ?_
  refine k_lneg hq dX6_end_40 ?_
  refine k_p hq (C := RX6) (T := TX6) 6 2 rfl (by decide) lay_X6 tyX6 tyX6_ok nmX6 tw_159 rfl rfl rfl dX6_end_41 fun h3 => ?_
  exact k_vret hq dX6_end_44 he
set_option maxRecDepth 100000 in
set_option maxHeartbeats 4000000 in
theorem P_X6_end_0 {q : eT} {r0 : Unit} {h0 : eH} (hq : e_B q yX6_end.cls cX6_end 1 0 0 none yX6_end.name) (he : e_E q) (l0 : Nat) (h : eH) : e_K eV q r0 h0 0 [(0, .ref l0)] [] h (F_X6_end l0 h) := by
  unfold F_X6_end
  refine k_aload_n hq dX6_end_0 0 rfl ?_
  refine k_gi hq (C := RX6) (T := TX6) 6 1 rfl (by decide) (lay_X6 1 (by decide)) tw_158 dX6_end_1 fun v1 => ?_
  refine k_iconst hq dX6_end_4 (v := 3) rfl ?_
  refine k_icmp_ne hq (tgt := 44) dX6_end_5 (by decide) (fun _ => ?_) (fun _ => ?_)
  · refine k_aload_n hq dX6_end_8 0 rfl ?_
    refine k_gi hq (C := RX6) (T := TX6) 6 0 rfl (by decide) (lay_X6 0 (by decide)) tw_157 dX6_end_9 fun v2 => ?_
    refine k_if_ne hq (tgt := 44) dX6_end_12 (by decide) (fun _ => ?_) (fun _ => ?_)
    · refine k_aload_n hq dX6_end_15 0 rfl ?_
      refine k_aload_n hq dX6_end_16 0 rfl ?_
      refine k_gl hq (C := RX6) (T := TX6) 6 2 rfl (by decide) (lay_X6 2 (by decide)) tw_159 dX6_end_17 fun v3 => ?_
      refine k_ldc2 hq (v := (-9223372036854775808)) tw_709 dX6_end_20 ?_
      refine k_lcmp hq dX6_end_23 ?_
      refine k_if_ne hq (tgt := 31) dX6_end_24 (by decide) (fun _ => ?_) (fun _ => ?_)
      · refine k_iconst hq dX6_end_27 (v := 1) rfl ?_
        refine k_goto hq (tgt := 32) dX6_end_28 (by decide) ?_
        exact k_sub [0] rfl (P_X6_end_32 hq he l0 l0 1 h)
      · refine k_iconst hq dX6_end_31 (v := 0) rfl ?_
        exact k_sub [0] rfl (P_X6_end_32 hq he l0 l0 0 h)
    · exact k_vret hq dX6_end_44 he
  · exact k_vret hq dX6_end_44 he
theorem con_X6_end (l : Launch) (G : eG) (B0 n : Nat) (l0 : Nat) : e_C eV l G B0 n yX6_end cX6_end 1 none 0 0 [.ref l0] (F_X6_end l0) := by
  refine e_mk (by decide) (Nat.le_of_ble_eq_true rfl) fun q r0 h0 h hq he e1 e2 e3 e4 => ?_
  subst e1; subst e2; subst e3; subst e4
  exact P_X6_end_0 hq he l0 h
set_option maxRecDepth 100000 in
set_option maxHeartbeats 4000000 in
theorem P_X7_forget_0 {q : eT} {r0 : Unit} {h0 : eH} (hq : e_B q yX7_forget.cls cX7_forget 1 0 0 none yX7_forget.name) (he : e_E q) (l0 : Nat) (h : eH) : e_K eV q r0 h0 0 [(0, .ref l0)] [] h (F_X7_forget l0 h) := by
  unfold F_X7_forget
  refine k_aload_n hq dX7_forget_0 0 rfl ?_
  refine k_iconst hq dX7_forget_1 (v := 0) rfl ?_
  refine k_p hq (C := RX7) (T := TX7) 7 1 rfl (by decide) lay_X7 tyX7 tyX7_ok nmX7 tw_108 rfl rfl rfl dX7_forget_2 fun h1 => ?_
  refine k_aload_n hq dX7_forget_5 0 rfl ?_
  refine k_iconst hq dX7_forget_6 (v := 0) rfl ?_
  refine k_p hq (C := RX7) (T := TX7) 7 2 rfl (by decide) lay_X7 tyX7 tyX7_ok nmX7 tw_110 rfl rfl rfl dX7_forget_7 fun h2 => ?_
  refine k_aload_n hq dX7_forget_10 0 rfl ?_
  refine k_iconst hq dX7_forget_11 (v := 0) rfl ?_
  refine k_p hq (C := RX7) (T := TX7) 7 3 rfl (by decide) lay_X7 tyX7 tyX7_ok nmX7 tw_112 rfl rfl rfl dX7_forget_12 fun h3 => ?_
  refine k_aload_n hq dX7_forget_15 0 rfl ?_
  refine k_iconst hq dX7_forget_16 (v := 0) rfl ?_
  refine k_p hq (C := RX7) (T := TX7) 7 4 rfl (by decide) lay_X7 tyX7 tyX7_ok nmX7 tw_114 rfl rfl rfl dX7_forget_17 fun h4 => ?_
  refine k_aload_n hq dX7_forget_20 0 rfl ?_
  refine k_iconst hq dX7_forget_21 (v := 0) rfl ?_
  refine k_p hq (C := RX7) (T := TX7) 7 5 rfl (by decide) lay_X7 tyX7 tyX7_ok nmX7 tw_116 rfl rfl rfl dX7_forget_22 fun h5 => ?_
  exact k_vret hq dX7_forget_25 he
theorem con_X7_forget (l : Launch) (G : eG) (B0 n : Nat) (l0 : Nat) : e_C eV l G B0 n yX7_forget cX7_forget 1 none 0 0 [.ref l0] (F_X7_forget l0) := by
  refine e_mk (by decide) (Nat.le_of_ble_eq_true rfl) fun q r0 h0 h hq he e1 e2 e3 e4 => ?_
  subst e1; subst e2; subst e3; subst e4
  exact P_X7_forget_0 hq he l0 h
set_option maxRecDepth 100000 in
set_option maxHeartbeats 4000000 in
theorem P_X10_rewind_0 {q : eT} {r0 : Unit} {h0 : eH} (hq : e_B q yX10_rewind.cls cX10_rewind 1 0 0 none yX10_rewind.name) (he : e_E q) (l0 : Nat) (h : eH) : e_K eV q r0 h0 0 [(0, .ref l0)] [] h (F_X10_rewind l0 h) := by
  unfold F_X10_rewind
  refine k_aload_n hq dX10_rewind_0 0 rfl ?_
  refine k_iconst hq dX10_rewind_1 (v := 0) rfl ?_
  refine k_p hq (C := RX10) (T := TX10) 9 3 rfl (by decide) lay_X10 tyX10 tyX10_ok nmX10 tw_86 rfl rfl rfl dX10_rewind_2 fun h1 => ?_
  exact k_vret hq dX10_rewind_5 he
theorem con_X10_rewind (l : Launch) (G : eG) (B0 n : Nat) (l0 : Nat) : e_C eV l G B0 n yX10_rewind cX10_rewind 1 none 0 0 [.ref l0] (F_X10_rewind l0) := by
  refine e_mk (by decide) (Nat.le_of_ble_eq_true rfl) fun q r0 h0 h hq he e1 e2 e3 e4 => ?_
  subst e1; subst e2; subst e3; subst e4
  exact P_X10_rewind_0 hq he l0 h
set_option maxRecDepth 100000 in
set_option maxHeartbeats 4000000 in
theorem P_X10_byteAt_0 {q : eT} {r0 : Int32} {h0 : eH} (hq : e_B q yX10_byteAt.cls cX10_byteAt 2 0 0 (some .int) yX10_byteAt.name) (he : e_E q) (l0 : Nat) (l1 : Int32) (h : eH) : e_K eI q r0 h0 0 [(0, .ref l0), (1, .int l1)] [] h (F_X10_byteAt l0 l1 h) := by
  unfold F_X10_byteAt
  refine k_iload_n hq dX10_byteAt_0 1 rfl ?_
  refine k_if_lt hq (tgt := 30) dX10_byteAt_1 (by decide) (fun _ => ?_) (fun _ => ?_)
  · refine k_iconst hq dX10_byteAt_30 (v := (-1)) rfl ?_
    exact k_iret hq dX10_byteAt_31 he
  · refine k_iload_n hq dX10_byteAt_4 1 rfl ?_
    refine k_aload_n hq dX10_byteAt_5 0 rfl ?_
    refine k_gi hq (C := RX10) (T := TX10) 9 1 rfl (by decide) (lay_X10 1 (by decide)) tw_82 dX10_byteAt_6 fun v1 => ?_
    refine k_icmp_ge hq (tgt := 30) dX10_byteAt_9 (by decide) (fun _ => ?_) (fun _ => ?_)
    · refine k_iconst hq dX10_byteAt_30 (v := (-1)) rfl ?_
      exact k_iret hq dX10_byteAt_31 he
    · refine k_iload_n hq dX10_byteAt_12 1 rfl ?_
      refine k_aload_n hq dX10_byteAt_13 0 rfl ?_
      refine k_gr hq (C := RX10) (T := TX10) 9 0 rfl (by decide) (lay_X10 0 (by decide)) tw_81 dX10_byteAt_14 fun v2 => ?_
      refine k_alen hq dX10_byteAt_17 fun v3 => ?_
      refine k_icmp_ge hq (tgt := 30) dX10_byteAt_18 (by decide) (fun _ => ?_) (fun _ => ?_)
      · refine k_iconst hq dX10_byteAt_30 (v := (-1)) rfl ?_
        exact k_iret hq dX10_byteAt_31 he
      · refine k_aload_n hq dX10_byteAt_21 0 rfl ?_
        refine k_gr hq (C := RX10) (T := TX10) 9 0 rfl (by decide) (lay_X10 0 (by decide)) tw_81 dX10_byteAt_22 fun v4 => ?_
        refine k_iload_n hq dX10_byteAt_25 1 rfl ?_
        refine k_iald hq dX10_byteAt_26 fun v5 => ?_
        refine k_goto hq (tgt := 31) dX10_byteAt_27 (by decide) ?_
        exact k_iret hq dX10_byteAt_31 he
theorem con_X10_byteAt (l : Launch) (G : eG) (B0 n : Nat) (l0 : Nat) (l1 : Int32) : e_C eI l G B0 n yX10_byteAt cX10_byteAt 2 (some .int) 0 0 [.ref l0, .int l1] (F_X10_byteAt l0 l1) := by
  refine e_mk (by decide) (Nat.le_of_ble_eq_true rfl) fun q r0 h0 h hq he e1 e2 e3 e4 => ?_
  subst e1; subst e2; subst e3; subst e4
  exact P_X10_byteAt_0 hq he l0 l1 h
set_option maxRecDepth 100000 in
set_option maxHeartbeats 4000000 in
theorem P_X10_sortAt_40 {q : eT} {r0 : Int32} {h0 : eH} (hq : e_B q yX10_sortAt.cls cX10_sortAt 3 1 21 (some .int) yX10_sortAt.name) (he : e_E q) (l2 : Int32) (h : eH) : e_K eI q r0 h0 40 [(2, .int l2)] [] h (F_X10_sortAt_40 l2 h) := by
  unfold F_X10_sortAt_40
  refine k_iload_n hq dX10_sortAt_40 0 rfl ?_
  refine k_bipush hq dX10_sortAt_41 (v := 59) rfl ?_
  refine k_icmp_ne hq (tgt := 48) dX10_sortAt_43 (by decide) (fun _ => ?_) (fun _ => ?_)
  · refine k_iconst hq dX10_sortAt_46 (v := 3) rfl ?_
    exact k_iret hq dX10_sortAt_47 he
  · refine k_iload_n hq dX10_sortAt_48 0 rfl ?_
    refine k_bipush hq dX10_sortAt_49 (v := 32) rfl ?_
    refine k_icmp_ne hq (tgt := 58) dX10_sortAt_51 (by decide) (fun _ => ?_) (fun _ => ?_)
    · refine k_iconst hq dX10_sortAt_54 (v := 4) rfl ?_
      refine k_goto hq (tgt := 59) dX10_sortAt_55 (by decide) ?_
      exact k_iret hq dX10_sortAt_59 he
    · refine k_iconst hq dX10_sortAt_58 (v := 5) rfl ?_
      exact k_iret hq dX10_sortAt_59 he
set_option maxRecDepth 100000 in
set_option maxHeartbeats 4000000 in
theorem P_X10_sortAt_26 {q : eT} {r0 : Int32} {h0 : eH} (hq : e_B q yX10_sortAt.cls cX10_sortAt 3 1 21 (some .int) yX10_sortAt.name) (he : e_E q) (l2 : Int32) (h : eH) : e_K eI q r0 h0 26 [(2, .int l2)] [] h (F_X10_sortAt_26 l2 h) := by
  unfold F_X10_sortAt_26
  refine k_iload_n hq dX10_sortAt_26 0 rfl ?_
  refine k_bipush hq dX10_sortAt_27 (v := 48) rfl ?_
  refine k_icmp_lt hq (tgt := 40) dX10_sortAt_29 (by decide) (fun _ => ?_) (fun _ => ?_)
  · exact k_sub [0] rfl (P_X10_sortAt_40 hq he l2 h)
  · refine k_iload_n hq dX10_sortAt_32 0 rfl ?_
    refine k_bipush hq dX10_sortAt_33 (v := 57) rfl ?_
    refine k_icmp_gt hq (tgt := 40) dX10_sortAt_35 (by decide) (fun _ => ?_) (fun _ => ?_)
    · exact k_sub [0] rfl (P_X10_sortAt_40 hq he l2 h)
    · refine k_iconst hq dX10_sortAt_38 (v := 2) rfl ?_
      exact k_iret hq dX10_sortAt_39 he
set_option maxRecDepth 100000 in
set_option maxHeartbeats 4000000 in
theorem P_X10_sortAt_0 {q : eT} {r0 : Int32} {h0 : eH} (hq : e_B q yX10_sortAt.cls cX10_sortAt 3 1 21 (some .int) yX10_sortAt.name) (he : e_E q) (l0 : Nat) (l1 : Int32) (h : eH) : e_K eI q r0 h0 0 [(0, .ref l0), (1, .int l1)] [] h (F_X10_sortAt l0 l1 h) := by
  unfold F_X10_sortAt
  refine k_aload_n hq dX10_sortAt_0 0 rfl ?_
  refine k_iload_n hq dX10_sortAt_1 1 rfl ?_
  refine k_callV hq (na := 1) (As := [.int l1]) (st := []) 9 (C := RX10) (T := TX10) rfl (con_X10_byteAt _ _ _ _ l0 l1) tw_395 tw_49 tw_392 tw_394 tw_2 ⟨by decide, by decide, by decide +kernel⟩ rfl (by decide) rfl (Nat.le_of_ble_eq_true rfl) dX10_sortAt_2 fun v1 h2 => ?_
  refine k_istore_n hq dX10_sortAt_5 rfl (by decide) (ls' := [(2, .int v1), (0, .ref l0), (1, .int l1)]) rfl ?_
  refine k_iload_n hq dX10_sortAt_6 0 rfl ?_
  refine k_if_ge hq (tgt := 12) dX10_sortAt_7 (by decide) (fun _ => ?_) (fun _ => ?_)
  · refine k_iload_n hq dX10_sortAt_12 0 rfl ?_
    refine k_bipush hq dX10_sortAt_13 (v := 97) rfl ?_
    refine k_icmp_lt hq (tgt := 26) dX10_sortAt_15 (by decide) (fun _ => ?_) (fun _ => ?_)
    · exact k_sub [0] rfl (P_X10_sortAt_26 hq he v1 h2)
    · refine k_iload_n hq dX10_sortAt_18 0 rfl ?_
      refine k_bipush hq dX10_sortAt_19 (v := 122) rfl ?_
      refine k_icmp_gt hq (tgt := 26) dX10_sortAt_21 (by decide) (fun _ => ?_) (fun _ => ?_)
      · exact k_sub [0] rfl (P_X10_sortAt_26 hq he v1 h2)
      · refine k_iconst hq dX10_sortAt_24 (v := 1) rfl ?_
        exact k_iret hq dX10_sortAt_25 he
  · refine k_iconst hq dX10_sortAt_10 (v := 0) rfl ?_
    exact k_iret hq dX10_sortAt_11 he
theorem con_X10_sortAt (l : Launch) (G : eG) (B0 n : Nat) (l0 : Nat) (l1 : Int32) : e_C eI l G B0 n yX10_sortAt cX10_sortAt 3 (some .int) 1 21 [.ref l0, .int l1] (F_X10_sortAt l0 l1) := by
  refine e_mk (by decide) (Nat.le_of_ble_eq_true rfl) fun q r0 h0 h hq he e1 e2 e3 e4 => ?_
  subst e1; subst e2; subst e3; subst e4
  exact P_X10_sortAt_0 hq he l0 l1 h
set_option maxRecDepth 100000 in
set_option maxHeartbeats 4000000 in
theorem P_X10_step_95b {q : eT} {r0 : Unit} {h0 : eH} (hq : e_B q yX10_step.cls cX10_step 2 2 43 none yX10_step.name) (he : e_E q) (N : Nat) (k95 : Nat → Int32 → eH → Option (Unit × eH)) (hk95 : ∀ (l0 : Nat) (l1 : Int32) h, e_K eV q r0 h0 95 [(0, .ref l0), (1, .int l1)] [] h (k95 l0 l1 h)) (l0 : Nat) (l1 : Int32) (h : eH) : e_K eV q r0 h0 95 [(0, .ref l0), (1, .int l1)] [] h (F_X10_step_95b N k95 l0 l1 h) := by
  unfold F_X10_step_95b
  refine k_iload_n hq dX10_step_95 1 rfl ?_
  refine k_if_eq hq (tgt := 138) dX10_step_96 (by decide) (fun _ => ?_) (fun _ => ?_)
  · exact k_vret hq dX10_step_138 he
  · refine k_aload_n hq dX10_step_99 0 rfl ?_
    refine k_gi hq (C := RX10) (T := TX10) 9 3 rfl (by decide) (lay_X10 3 (by decide)) tw_86 dX10_step_100 fun v1 => ?_
    refine k_aload_n hq dX10_step_103 0 rfl ?_
    refine k_gi hq (C := RX10) (T := TX10) 9 1 rfl (by decide) (lay_X10 1 (by decide)) tw_82 dX10_step_104 fun v2 => ?_
    refine k_icmp_ge hq (tgt := 138) dX10_step_107 (by decide) (fun _ => ?_) (fun _ => ?_)
    · exact k_vret hq dX10_step_138 he
    · refine k_aload_n hq dX10_step_110 0 rfl ?_
      refine k_aload_n hq dX10_step_111 0 rfl ?_
      refine k_gi hq (C := RX10) (T := TX10) 9 3 rfl (by decide) (lay_X10 3 (by decide)) tw_86 dX10_step_112 fun v3 => ?_
      refine k_callV hq (na := 1) (As := [.int v3]) (st := []) 9 (C := RX10) (T := TX10) rfl (con_X10_sortAt _ _ _ _ l0 v3) tw_391 tw_49 tw_388 tw_390 tw_1 ⟨by decide, by decide, by decide +kernel⟩ rfl (by decide) rfl (Nat.le_of_ble_eq_true rfl) dX10_step_115 fun v4 h5 => ?_
      refine k_aload_n hq dX10_step_118 0 rfl ?_
      refine k_gi hq (C := RX10) (T := TX10) 9 4 rfl (by decide) (lay_X10 4 (by decide)) tw_88 dX10_step_119 fun v6 => ?_
      refine k_icmp_ne hq (tgt := 138) dX10_step_122 (by decide) (fun _ => ?_) (fun _ => ?_)
      · refine k_aload_n hq dX10_step_125 0 rfl ?_
        refine k_dup hq dX10_step_126 rfl ?_
        refine k_gi hq (C := RX10) (T := TX10) 9 3 rfl (by decide) (lay_X10 3 (by decide)) tw_86 dX10_step_127 fun v7 => ?_
        refine k_iconst hq dX10_step_130 (v := 1) rfl ?_
        refine k_iadd hq dX10_step_131 ?_
        refine k_p hq (C := RX10) (T := TX10) 9 3 rfl (by decide) lay_X10 tyX10 tyX10_ok nmX10 tw_86 rfl rfl rfl dX10_step_132 fun h8 => ?_
        refine k_goto hq (tgt := 95) dX10_step_135 (by decide) ?_
        exact k_sub [0, 1] rfl (hk95 l0 l1 h8)
      · exact k_vret hq dX10_step_138 he
theorem Q_X10_step_95 {q : eT} {r0 : Unit} {h0 : eH} (hq : e_B q yX10_step.cls cX10_step 2 2 43 none yX10_step.name) (he : e_E q) (N : Nat) (l0 : Nat) (l1 : Int32) (h : eH) : e_K eV q r0 h0 95 [(0, .ref l0), (1, .int l1)] [] h (L_X10_step_95 N l0 l1 h) :=
  k_loop (mk := (fun s => [(0, .ref s.1), (1, .int s.2.1)])) (hp := fun s => s.2.2) (fun k hk s => P_X10_step_95b hq he N (fun l0 l1 h => k (l0, l1, h)) (fun l0 l1 h => hk (l0, l1, h)) s.1 s.2.1 s.2.2) N (l0, l1, h)
set_option maxRecDepth 100000 in
set_option maxHeartbeats 4000000 in
theorem P_X10_step_94 {q : eT} {r0 : Unit} {h0 : eH} (hq : e_B q yX10_step.cls cX10_step 2 2 43 none yX10_step.name) (he : e_E q) (N : Nat) (l0 : Nat) (s0 : Int32) (h : eH) : e_K eV q r0 h0 94 [(0, .ref l0)] [.int s0] h (F_X10_step_94 N l0 s0 h) := by
  unfold F_X10_step_94
  refine k_istore_n hq dX10_step_94 rfl (by decide) (ls' := [(1, .int s0), (0, .ref l0)]) rfl ?_
  exact k_sub [1, 0] rfl (Q_X10_step_95 hq he N l0 s0 h)
set_option maxRecDepth 100000 in
set_option maxHeartbeats 4000000 in
theorem P_X10_step_89 {q : eT} {r0 : Unit} {h0 : eH} (hq : e_B q yX10_step.cls cX10_step 2 2 43 none yX10_step.name) (he : e_E q) (N : Nat) (l0 : Nat) (h : eH) : e_K eV q r0 h0 89 [(0, .ref l0)] [] h (F_X10_step_89 N l0 h) := by
  unfold F_X10_step_89
  refine k_iconst hq dX10_step_89 (v := 1) rfl ?_
  refine k_goto hq (tgt := 94) dX10_step_90 (by decide) ?_
  exact k_sub [0] rfl (P_X10_step_94 hq he N l0 1 h)
set_option maxRecDepth 100000 in
set_option maxHeartbeats 4000000 in
theorem P_X10_step_44 {q : eT} {r0 : Unit} {h0 : eH} (hq : e_B q yX10_step.cls cX10_step 2 2 43 none yX10_step.name) (he : e_E q) (N : Nat) (l0 : Nat) (h : eH) : e_K eV q r0 h0 44 [(0, .ref l0)] [] h (F_X10_step_44 N l0 h) := by
  unfold F_X10_step_44
  refine k_aload_n hq dX10_step_44 0 rfl ?_
  refine k_aload_n hq dX10_step_45 0 rfl ?_
  refine k_aload_n hq dX10_step_46 0 rfl ?_
  refine k_gi hq (C := RX10) (T := TX10) 9 2 rfl (by decide) (lay_X10 2 (by decide)) tw_85 dX10_step_47 fun v1 => ?_
  refine k_callV hq (na := 1) (As := [.int v1]) (st := [.ref l0]) 9 (C := RX10) (T := TX10) rfl (con_X10_sortAt _ _ _ _ l0 v1) tw_391 tw_49 tw_388 tw_390 tw_1 ⟨by decide, by decide, by decide +kernel⟩ rfl (by decide) rfl (Nat.le_of_ble_eq_true rfl) dX10_step_50 fun v2 h3 => ?_
  refine k_p hq (C := RX10) (T := TX10) 9 4 rfl (by decide) lay_X10 tyX10 tyX10_ok nmX10 tw_88 rfl rfl rfl dX10_step_53 fun h4 => ?_
  refine k_aload_n hq dX10_step_56 0 rfl ?_
  refine k_aload_n hq dX10_step_57 0 rfl ?_
  refine k_gi hq (C := RX10) (T := TX10) 9 2 rfl (by decide) (lay_X10 2 (by decide)) tw_85 dX10_step_58 fun v5 => ?_
  refine k_iconst hq dX10_step_61 (v := 1) rfl ?_
  refine k_iadd hq dX10_step_62 ?_
  refine k_aload_n hq dX10_step_63 0 rfl ?_
  refine k_gi hq (C := RX10) (T := TX10) 9 1 rfl (by decide) (lay_X10 1 (by decide)) tw_82 dX10_step_64 fun v6 => ?_
  refine k_mmin hq tw_396 tw_397 tw_60 tw_398 (by decide) (Nat.le_of_ble_eq_true rfl) dX10_step_67 ?_
  refine k_p hq (C := RX10) (T := TX10) 9 3 rfl (by decide) lay_X10 tyX10 tyX10_ok nmX10 tw_86 rfl rfl rfl dX10_step_70 fun h7 => ?_
  refine k_aload_n hq dX10_step_73 0 rfl ?_
  refine k_gi hq (C := RX10) (T := TX10) 9 4 rfl (by decide) (lay_X10 4 (by decide)) tw_88 dX10_step_74 fun v8 => ?_
  refine k_iconst hq dX10_step_77 (v := 1) rfl ?_
  refine k_icmp_eq hq (tgt := 89) dX10_step_78 (by decide) (fun _ => ?_) (fun _ => ?_)
  · exact k_sub [0] rfl (P_X10_step_89 hq he N l0 h7)
  · refine k_aload_n hq dX10_step_81 0 rfl ?_
    refine k_gi hq (C := RX10) (T := TX10) 9 4 rfl (by decide) (lay_X10 4 (by decide)) tw_88 dX10_step_82 fun v9 => ?_
    refine k_iconst hq dX10_step_85 (v := 2) rfl ?_
    refine k_icmp_ne hq (tgt := 93) dX10_step_86 (by decide) (fun _ => ?_) (fun _ => ?_)
    · exact k_sub [0] rfl (P_X10_step_89 hq he N l0 h7)
    · refine k_iconst hq dX10_step_93 (v := 0) rfl ?_
      exact k_sub [0] rfl (P_X10_step_94 hq he N l0 0 h7)
set_option maxRecDepth 100000 in
set_option maxHeartbeats 4000000 in
theorem P_X10_step_8b {q : eT} {r0 : Unit} {h0 : eH} (hq : e_B q yX10_step.cls cX10_step 2 2 43 none yX10_step.name) (he : e_E q) (N : Nat) (k8 : Nat → eH → Option (Unit × eH)) (hk8 : ∀ (l0 : Nat) h, e_K eV q r0 h0 8 [(0, .ref l0)] [] h (k8 l0 h)) (l0 : Nat) (h : eH) : e_K eV q r0 h0 8 [(0, .ref l0)] [] h (F_X10_step_8b N k8 l0 h) := by
  unfold F_X10_step_8b
  refine k_aload_n hq dX10_step_8 0 rfl ?_
  refine k_gi hq (C := RX10) (T := TX10) 9 2 rfl (by decide) (lay_X10 2 (by decide)) tw_85 dX10_step_9 fun v1 => ?_
  refine k_aload_n hq dX10_step_12 0 rfl ?_
  refine k_gi hq (C := RX10) (T := TX10) 9 1 rfl (by decide) (lay_X10 1 (by decide)) tw_82 dX10_step_13 fun v2 => ?_
  refine k_icmp_ge hq (tgt := 44) dX10_step_16 (by decide) (fun _ => ?_) (fun _ => ?_)
  · exact k_sub [0] rfl (P_X10_step_44 hq he N l0 h)
  · refine k_aload_n hq dX10_step_19 0 rfl ?_
    refine k_aload_n hq dX10_step_20 0 rfl ?_
    refine k_gi hq (C := RX10) (T := TX10) 9 2 rfl (by decide) (lay_X10 2 (by decide)) tw_85 dX10_step_21 fun v3 => ?_
    refine k_callV hq (na := 1) (As := [.int v3]) (st := []) 9 (C := RX10) (T := TX10) rfl (con_X10_sortAt _ _ _ _ l0 v3) tw_391 tw_49 tw_388 tw_390 tw_1 ⟨by decide, by decide, by decide +kernel⟩ rfl (by decide) rfl (Nat.le_of_ble_eq_true rfl) dX10_step_24 fun v4 h5 => ?_
    refine k_iconst hq dX10_step_27 (v := 4) rfl ?_
    refine k_icmp_ne hq (tgt := 44) dX10_step_28 (by decide) (fun _ => ?_) (fun _ => ?_)
    · refine k_aload_n hq dX10_step_31 0 rfl ?_
      refine k_dup hq dX10_step_32 rfl ?_
      refine k_gi hq (C := RX10) (T := TX10) 9 2 rfl (by decide) (lay_X10 2 (by decide)) tw_85 dX10_step_33 fun v6 => ?_
      refine k_iconst hq dX10_step_36 (v := 1) rfl ?_
      refine k_iadd hq dX10_step_37 ?_
      refine k_p hq (C := RX10) (T := TX10) 9 2 rfl (by decide) lay_X10 tyX10 tyX10_ok nmX10 tw_85 rfl rfl rfl dX10_step_38 fun h7 => ?_
      refine k_goto hq (tgt := 8) dX10_step_41 (by decide) ?_
      exact k_sub [0] rfl (hk8 l0 h7)
    · exact k_sub [0] rfl (P_X10_step_44 hq he N l0 h5)
theorem Q_X10_step_8 {q : eT} {r0 : Unit} {h0 : eH} (hq : e_B q yX10_step.cls cX10_step 2 2 43 none yX10_step.name) (he : e_E q) (N : Nat) (l0 : Nat) (h : eH) : e_K eV q r0 h0 8 [(0, .ref l0)] [] h (L_X10_step_8 N l0 h) :=
  k_loop (mk := (fun s => [(0, .ref s.1)])) (hp := fun s => s.2) (fun k hk s => P_X10_step_8b hq he N (fun l0 h => k (l0, h)) (fun l0 h => hk (l0, h)) s.1 s.2) N (l0, h)
set_option maxRecDepth 100000 in
set_option maxHeartbeats 4000000 in
theorem P_X10_step_0 {q : eT} {r0 : Unit} {h0 : eH} (hq : e_B q yX10_step.cls cX10_step 2 2 43 none yX10_step.name) (he : e_E q) (N : Nat) (l0 : Nat) (h : eH) : e_K eV q r0 h0 0 [(0, .ref l0)] [] h (F_X10_step N l0 h) := by
  unfold F_X10_step
  refine k_aload_n hq dX10_step_0 0 rfl ?_
  refine k_aload_n hq dX10_step_1 0 rfl ?_
  refine k_gi hq (C := RX10) (T := TX10) 9 3 rfl (by decide) (lay_X10 3 (by decide)) tw_86 dX10_step_2 fun v1 => ?_
  refine k_p hq (C := RX10) (T := TX10) 9 2 rfl (by decide) lay_X10 tyX10 tyX10_ok nmX10 tw_85 rfl rfl rfl dX10_step_5 fun h2 => ?_
  exact k_sub [0] rfl (Q_X10_step_8 hq he N l0 h2)
theorem con_X10_step (l : Launch) (G : eG) (B0 n : Nat) (N : Nat) (l0 : Nat) : e_C eV l G B0 n yX10_step cX10_step 2 none 2 43 [.ref l0] (F_X10_step N l0) := by
  refine e_mk (by decide) (Nat.le_of_ble_eq_true rfl) fun q r0 h0 h hq he e1 e2 e3 e4 => ?_
  subst e1; subst e2; subst e3; subst e4
  exact P_X10_step_0 hq he N l0 h
set_option maxRecDepth 100000 in
set_option maxHeartbeats 4000000 in
theorem P_X7_putUsual_54 {q : eT} {r0 : Unit} {h0 : eH} (hq : e_B q yX7_putUsual.cls cX7_putUsual 1 0 0 none yX7_putUsual.name) (he : e_E q) (s0 : Nat) (s1 : Int32) (h : eH) : e_K eV q r0 h0 54 [] [.int s1, .ref s0] h (F_X7_putUsual_54 s0 s1 h) := by
  unfold F_X7_putUsual_54
  refine k_p hq (C := RX7) (T := TX7) 7 3 rfl (by decide) lay_X7 tyX7 tyX7_ok nmX7 tw_112 rfl rfl rfl dX7_putUsual_54 fun h1 => ?_
  exact k_vret hq dX7_putUsual_57 he
set_option maxRecDepth 100000 in
set_option maxHeartbeats 4000000 in
theorem P_X7_putUsual_35 {q : eT} {r0 : Unit} {h0 : eH} (hq : e_B q yX7_putUsual.cls cX7_putUsual 1 0 0 none yX7_putUsual.name) (he : e_E q) (l0 : Nat) (s0 : Nat) (s1 : Int32) (h : eH) : e_K eV q r0 h0 35 [(0, .ref l0)] [.int s1, .ref s0] h (F_X7_putUsual_35 l0 s0 s1 h) := by
  unfold F_X7_putUsual_35
  refine k_p hq (C := RX7) (T := TX7) 7 2 rfl (by decide) lay_X7 tyX7 tyX7_ok nmX7 tw_110 rfl rfl rfl dX7_putUsual_35 fun h1 => ?_
  refine k_aload_n hq dX7_putUsual_38 0 rfl ?_
  refine k_aload_n hq dX7_putUsual_39 0 rfl ?_
  refine k_gi hq (C := RX7) (T := TX7) 7 3 rfl (by decide) (lay_X7 3 (by decide)) tw_112 dX7_putUsual_40 fun v2 => ?_
  refine k_if_ne hq (tgt := 50) dX7_putUsual_43 (by decide) (fun _ => ?_) (fun _ => ?_)
  · refine k_iconst hq dX7_putUsual_46 (v := 4) rfl ?_
    refine k_goto hq (tgt := 54) dX7_putUsual_47 (by decide) ?_
    exact k_sub [] rfl (P_X7_putUsual_54 hq he l0 4 h1)
  · refine k_aload_n hq dX7_putUsual_50 0 rfl ?_
    refine k_gi hq (C := RX7) (T := TX7) 7 3 rfl (by decide) (lay_X7 3 (by decide)) tw_112 dX7_putUsual_51 fun v3 => ?_
    exact k_sub [] rfl (P_X7_putUsual_54 hq he l0 v3 h1)
set_option maxRecDepth 100000 in
set_option maxHeartbeats 4000000 in
theorem P_X7_putUsual_16 {q : eT} {r0 : Unit} {h0 : eH} (hq : e_B q yX7_putUsual.cls cX7_putUsual 1 0 0 none yX7_putUsual.name) (he : e_E q) (l0 : Nat) (s0 : Nat) (s1 : Int32) (h : eH) : e_K eV q r0 h0 16 [(0, .ref l0)] [.int s1, .ref s0] h (F_X7_putUsual_16 l0 s0 s1 h) := by
  unfold F_X7_putUsual_16
  refine k_p hq (C := RX7) (T := TX7) 7 1 rfl (by decide) lay_X7 tyX7 tyX7_ok nmX7 tw_108 rfl rfl rfl dX7_putUsual_16 fun h1 => ?_
  refine k_aload_n hq dX7_putUsual_19 0 rfl ?_
  refine k_aload_n hq dX7_putUsual_20 0 rfl ?_
  refine k_gi hq (C := RX7) (T := TX7) 7 2 rfl (by decide) (lay_X7 2 (by decide)) tw_110 dX7_putUsual_21 fun v2 => ?_
  refine k_if_ne hq (tgt := 31) dX7_putUsual_24 (by decide) (fun _ => ?_) (fun _ => ?_)
  · refine k_iconst hq dX7_putUsual_27 (v := 4) rfl ?_
    refine k_goto hq (tgt := 35) dX7_putUsual_28 (by decide) ?_
    exact k_sub [0] rfl (P_X7_putUsual_35 hq he l0 l0 4 h1)
  · refine k_aload_n hq dX7_putUsual_31 0 rfl ?_
    refine k_gi hq (C := RX7) (T := TX7) 7 2 rfl (by decide) (lay_X7 2 (by decide)) tw_110 dX7_putUsual_32 fun v3 => ?_
    exact k_sub [0] rfl (P_X7_putUsual_35 hq he l0 l0 v3 h1)
set_option maxRecDepth 100000 in
set_option maxHeartbeats 4000000 in
theorem P_X7_putUsual_0 {q : eT} {r0 : Unit} {h0 : eH} (hq : e_B q yX7_putUsual.cls cX7_putUsual 1 0 0 none yX7_putUsual.name) (he : e_E q) (l0 : Nat) (h : eH) : e_K eV q r0 h0 0 [(0, .ref l0)] [] h (F_X7_putUsual l0 h) := by
  unfold F_X7_putUsual
  refine k_aload_n hq dX7_putUsual_0 0 rfl ?_
  refine k_aload_n hq dX7_putUsual_1 0 rfl ?_
  refine k_gi hq (C := RX7) (T := TX7) 7 1 rfl (by decide) (lay_X7 1 (by decide)) tw_108 dX7_putUsual_2 fun v1 => ?_
  refine k_if_ne hq (tgt := 12) dX7_putUsual_5 (by decide) (fun _ => ?_) (fun _ => ?_)
  · refine k_iconst hq dX7_putUsual_8 (v := 3) rfl ?_
    refine k_goto hq (tgt := 16) dX7_putUsual_9 (by decide) ?_
    exact k_sub [0] rfl (P_X7_putUsual_16 hq he l0 l0 3 h)
  · refine k_aload_n hq dX7_putUsual_12 0 rfl ?_
    refine k_gi hq (C := RX7) (T := TX7) 7 1 rfl (by decide) (lay_X7 1 (by decide)) tw_108 dX7_putUsual_13 fun v2 => ?_
    exact k_sub [0] rfl (P_X7_putUsual_16 hq he l0 l0 v2 h)
theorem con_X7_putUsual (l : Launch) (G : eG) (B0 n : Nat) (l0 : Nat) : e_C eV l G B0 n yX7_putUsual cX7_putUsual 1 none 0 0 [.ref l0] (F_X7_putUsual l0) := by
  refine e_mk (by decide) (Nat.le_of_ble_eq_true rfl) fun q r0 h0 h hq he e1 e2 e3 e4 => ?_
  subst e1; subst e2; subst e3; subst e4
  exact P_X7_putUsual_0 hq he l0 h
set_option maxRecDepth 100000 in
set_option maxHeartbeats 4000000 in
theorem P_X10_isWord_28b {q : eT} {r0 : Int32} {h0 : eH} (hq : e_B q yX10_isWord.cls cX10_isWord 3 5 150 (some .boolean) yX10_isWord.name) (he : e_E q) (N : Nat) (k28 : Nat → Nat → Int32 → eH → Option (Int32 × eH)) (hk28 : ∀ (l0 : Nat) (l1 : Nat) (l2 : Int32) h, e_K eI q r0 h0 28 [(0, .ref l0), (1, .ref l1), (2, .int l2)] [] h (k28 l0 l1 l2 h)) (l0 : Nat) (l1 : Nat) (l2 : Int32) (h : eH) : e_K eI q r0 h0 28 [(0, .ref l0), (1, .ref l1), (2, .int l2)] [] h (F_X10_isWord_28b N (e_G q) k28 l0 l1 l2 h) := by
  unfold F_X10_isWord_28b
  refine k_iload_n hq dX10_isWord_28 2 rfl ?_
  refine k_aload_n hq dX10_isWord_29 1 rfl ?_
  refine k_callStr hq (na := 0) (As := []) (st := [.int l2]) (c_s_length _ _ _ _ l1) tw_415 tw_61 tw_412 tw_413 tw_414 ⟨by decide, by decide, by decide +kernel⟩ rfl (by decide) rfl (Nat.le_of_ble_eq_true rfl) dX10_isWord_30 fun v1 h2 => ?_
  refine k_icmp_ge hq (tgt := 62) dX10_isWord_33 (by decide) (fun _ => ?_) (fun _ => ?_)
  · refine k_iconst hq dX10_isWord_62 (v := 1) rfl ?_
    exact k_zret hq dX10_isWord_63 he
  · refine k_aload_n hq dX10_isWord_36 0 rfl ?_
    refine k_aload_n hq dX10_isWord_37 0 rfl ?_
    refine k_gi hq (C := RX10) (T := TX10) 9 2 rfl (by decide) (lay_X10 2 (by decide)) tw_85 dX10_isWord_38 fun v3 => ?_
    refine k_iload_n hq dX10_isWord_41 2 rfl ?_
    refine k_iadd hq dX10_isWord_42 ?_
    refine k_callV hq (na := 1) (As := [.int (v3 + l2)]) (st := []) 9 (C := RX10) (T := TX10) rfl (con_X10_byteAt _ _ _ _ l0 (v3 + l2)) tw_395 tw_49 tw_392 tw_394 tw_2 ⟨by decide, by decide, by decide +kernel⟩ rfl (by decide) rfl (Nat.le_of_ble_eq_true rfl) dX10_isWord_43 fun v4 h5 => ?_
    refine k_aload_n hq dX10_isWord_46 1 rfl ?_
    refine k_iload_n hq dX10_isWord_47 2 rfl ?_
    refine k_callStr hq (na := 1) (As := [.int l2]) (st := [.int v4]) (c_s_charAt _ _ _ _ l1 l2) tw_425 tw_61 tw_422 tw_423 tw_424 ⟨by decide, by decide, by decide +kernel⟩ rfl (by decide) rfl (Nat.le_of_ble_eq_true rfl) dX10_isWord_48 fun v6 h7 => ?_
    refine k_icmp_eq hq (tgt := 56) dX10_isWord_51 (by decide) (fun _ => ?_) (fun _ => ?_)
    · refine k_iinc hq dX10_isWord_56 2 rfl (v := l2 + 1) rfl (by decide) (ls' := [(2, .int (l2 + 1)), (0, .ref l0), (1, .ref l1)]) rfl ?_
      refine k_goto hq (tgt := 28) dX10_isWord_59 (by decide) ?_
      exact k_sub [1, 2, 0] rfl (hk28 l0 l1 (l2 + 1) h7)
    · refine k_iconst hq dX10_isWord_54 (v := 0) rfl ?_
      exact k_zret hq dX10_isWord_55 he
theorem Q_X10_isWord_28 {q : eT} {r0 : Int32} {h0 : eH} (hq : e_B q yX10_isWord.cls cX10_isWord 3 5 150 (some .boolean) yX10_isWord.name) (he : e_E q) (N : Nat) (l0 : Nat) (l1 : Nat) (l2 : Int32) (h : eH) : e_K eI q r0 h0 28 [(0, .ref l0), (1, .ref l1), (2, .int l2)] [] h (L_X10_isWord_28 N (e_G q) l0 l1 l2 h) :=
  k_loop (mk := (fun s => [(0, .ref s.1), (1, .ref s.2.1), (2, .int s.2.2.1)])) (hp := fun s => s.2.2.2) (fun k hk s => P_X10_isWord_28b hq he N (fun l0 l1 l2 h => k (l0, l1, l2, h)) (fun l0 l1 l2 h => hk (l0, l1, l2, h)) s.1 s.2.1 s.2.2.1 s.2.2.2) N (l0, l1, l2, h)
set_option maxRecDepth 100000 in
set_option maxHeartbeats 4000000 in
theorem P_X10_isWord_0 {q : eT} {r0 : Int32} {h0 : eH} (hq : e_B q yX10_isWord.cls cX10_isWord 3 5 150 (some .boolean) yX10_isWord.name) (he : e_E q) (N : Nat) (l0 : Nat) (l1 : Nat) (h : eH) : e_K eI q r0 h0 0 [(0, .ref l0), (1, .ref l1)] [] h (F_X10_isWord N (e_G q) l0 l1 h) := by
  unfold F_X10_isWord
  refine k_aload_n hq dX10_isWord_0 0 rfl ?_
  refine k_gi hq (C := RX10) (T := TX10) 9 4 rfl (by decide) (lay_X10 4 (by decide)) tw_88 dX10_isWord_1 fun v1 => ?_
  refine k_iconst hq dX10_isWord_4 (v := 1) rfl ?_
  refine k_icmp_ne hq (tgt := 24) dX10_isWord_5 (by decide) (fun _ => ?_) (fun _ => ?_)
  · refine k_aload_n hq dX10_isWord_8 0 rfl ?_
    refine k_gi hq (C := RX10) (T := TX10) 9 3 rfl (by decide) (lay_X10 3 (by decide)) tw_86 dX10_isWord_9 fun v2 => ?_
    refine k_aload_n hq dX10_isWord_12 0 rfl ?_
    refine k_gi hq (C := RX10) (T := TX10) 9 2 rfl (by decide) (lay_X10 2 (by decide)) tw_85 dX10_isWord_13 fun v3 => ?_
    refine k_isub hq dX10_isWord_16 ?_
    refine k_aload_n hq dX10_isWord_17 1 rfl ?_
    refine k_callStr hq (na := 0) (As := []) (st := [.int (v2 - v3)]) (c_s_length _ _ _ _ l1) tw_415 tw_61 tw_412 tw_413 tw_414 ⟨by decide, by decide, by decide +kernel⟩ rfl (by decide) rfl (Nat.le_of_ble_eq_true rfl) dX10_isWord_18 fun v4 h5 => ?_
    refine k_icmp_eq hq (tgt := 26) dX10_isWord_21 (by decide) (fun _ => ?_) (fun _ => ?_)
    · refine k_iconst hq dX10_isWord_26 (v := 0) rfl ?_
      refine k_istore_n hq dX10_isWord_27 rfl (by decide) (ls' := [(2, .int 0), (0, .ref l0), (1, .ref l1)]) rfl ?_
      exact k_sub [1, 2, 0] rfl (Q_X10_isWord_28 hq he N l0 l1 0 h5)
    · refine k_iconst hq dX10_isWord_24 (v := 0) rfl ?_
      exact k_zret hq dX10_isWord_25 he
  · refine k_iconst hq dX10_isWord_24 (v := 0) rfl ?_
    exact k_zret hq dX10_isWord_25 he
theorem con_X10_isWord (l : Launch) (G : eG) (B0 n : Nat) (N : Nat) (l0 : Nat) (l1 : Nat) : e_C eI l G B0 n yX10_isWord cX10_isWord 3 (some .boolean) 5 150 [.ref l0, .ref l1] (F_X10_isWord N G l0 l1) := by
  refine e_mk (by decide) (Nat.le_of_ble_eq_true rfl) fun q r0 h0 h hq he e1 e2 e3 e4 => ?_
  subst e1; subst e2; subst e3; subst e4
  exact P_X10_isWord_0 hq he N l0 l1 h
set_option maxRecDepth 100000 in
set_option maxHeartbeats 4000000 in
theorem P_X7_takesKey_0 {q : eT} {r0 : Int32} {h0 : eH} (hq : e_B q yX7_takesKey.cls cX7_takesKey 2 0 0 (some .boolean) yX7_takesKey.name) (he : e_E q) (l0 : Nat) (l1 : Int32) (h : eH) : e_K eI q r0 h0 0 [(0, .ref l0), (1, .int l1)] [] h (F_X7_takesKey l0 l1 h) := by
  unfold F_X7_takesKey
  refine k_aload_n hq dX7_takesKey_0 0 rfl ?_
  refine k_gi hq (C := RX7) (T := TX7) 7 4 rfl (by decide) (lay_X7 4 (by decide)) tw_114 dX7_takesKey_1 fun v1 => ?_
  refine k_aload_n hq dX7_takesKey_4 0 rfl ?_
  refine k_gr hq (C := RX7) (T := TX7) 7 0 rfl (by decide) (lay_X7 0 (by decide)) tw_107 dX7_takesKey_5 fun v2 => ?_
  refine k_alen hq dX7_takesKey_8 fun v3 => ?_
  refine k_icmp_lt hq (tgt := 14) dX7_takesKey_9 (by decide) (fun _ => ?_) (fun _ => ?_)
  · refine k_aload_n hq dX7_takesKey_14 0 rfl ?_
    refine k_gr hq (C := RX7) (T := TX7) 7 0 rfl (by decide) (lay_X7 0 (by decide)) tw_107 dX7_takesKey_15 fun v4 => ?_
    refine k_aload_n hq dX7_takesKey_18 0 rfl ?_
    refine k_gi hq (C := RX7) (T := TX7) 7 4 rfl (by decide) (lay_X7 4 (by decide)) tw_114 dX7_takesKey_19 fun v5 => ?_
    refine k_iload_n hq dX7_takesKey_22 1 rfl ?_
    refine k_iast hq dX7_takesKey_23 fun h6 => ?_
    refine k_aload_n hq dX7_takesKey_24 0 rfl ?_
    refine k_dup hq dX7_takesKey_25 rfl ?_
    refine k_gi hq (C := RX7) (T := TX7) 7 4 rfl (by decide) (lay_X7 4 (by decide)) tw_114 dX7_takesKey_26 fun v7 => ?_
    refine k_iconst hq dX7_takesKey_29 (v := 1) rfl ?_
    refine k_iadd hq dX7_takesKey_30 ?_
    refine k_p hq (C := RX7) (T := TX7) 7 4 rfl (by decide) lay_X7 tyX7 tyX7_ok nmX7 tw_114 rfl rfl rfl dX7_takesKey_31 fun h8 => ?_
    refine k_iconst hq dX7_takesKey_34 (v := 1) rfl ?_
    exact k_zret hq dX7_takesKey_35 he
  · refine k_iconst hq dX7_takesKey_12 (v := 0) rfl ?_
    exact k_zret hq dX7_takesKey_13 he
theorem con_X7_takesKey (l : Launch) (G : eG) (B0 n : Nat) (l0 : Nat) (l1 : Int32) : e_C eI l G B0 n yX7_takesKey cX7_takesKey 2 (some .boolean) 0 0 [.ref l0, .int l1] (F_X7_takesKey l0 l1) := by
  refine e_mk (by decide) (Nat.le_of_ble_eq_true rfl) fun q r0 h0 h hq he e1 e2 e3 e4 => ?_
  subst e1; subst e2; subst e3; subst e4
  exact P_X7_takesKey_0 hq he l0 l1 h
set_option maxRecDepth 100000 in
set_option maxHeartbeats 4000000 in
theorem P_X10_digit_0 {q : eT} {r0 : Int32} {h0 : eH} (hq : e_B q yX10_digit.cls cX10_digit 1 1 21 (some .int) yX10_digit.name) (he : e_E q) (l0 : Nat) (h : eH) : e_K eI q r0 h0 0 [(0, .ref l0)] [] h (F_X10_digit l0 h) := by
  unfold F_X10_digit
  refine k_aload_n hq dX10_digit_0 0 rfl ?_
  refine k_gi hq (C := RX10) (T := TX10) 9 4 rfl (by decide) (lay_X10 4 (by decide)) tw_88 dX10_digit_1 fun v1 => ?_
  refine k_iconst hq dX10_digit_4 (v := 2) rfl ?_
  refine k_icmp_ne hq (tgt := 35) dX10_digit_5 (by decide) (fun _ => ?_) (fun _ => ?_)
  · refine k_aload_n hq dX10_digit_8 0 rfl ?_
    refine k_gi hq (C := RX10) (T := TX10) 9 3 rfl (by decide) (lay_X10 3 (by decide)) tw_86 dX10_digit_9 fun v2 => ?_
    refine k_aload_n hq dX10_digit_12 0 rfl ?_
    refine k_gi hq (C := RX10) (T := TX10) 9 2 rfl (by decide) (lay_X10 2 (by decide)) tw_85 dX10_digit_13 fun v3 => ?_
    refine k_isub hq dX10_digit_16 ?_
    refine k_iconst hq dX10_digit_17 (v := 1) rfl ?_
    refine k_icmp_ne hq (tgt := 35) dX10_digit_18 (by decide) (fun _ => ?_) (fun _ => ?_)
    · refine k_aload_n hq dX10_digit_21 0 rfl ?_
      refine k_aload_n hq dX10_digit_22 0 rfl ?_
      refine k_gi hq (C := RX10) (T := TX10) 9 2 rfl (by decide) (lay_X10 2 (by decide)) tw_85 dX10_digit_23 fun v4 => ?_
      refine k_callV hq (na := 1) (As := [.int v4]) (st := []) 9 (C := RX10) (T := TX10) rfl (con_X10_byteAt _ _ _ _ l0 v4) tw_395 tw_49 tw_392 tw_394 tw_2 ⟨by decide, by decide, by decide +kernel⟩ rfl (by decide) rfl (Nat.le_of_ble_eq_true rfl) dX10_digit_26 fun v5 h6 => ?_
      refine k_bipush hq dX10_digit_29 (v := 48) rfl ?_
      refine k_isub hq dX10_digit_31 ?_
      refine k_goto hq (tgt := 36) dX10_digit_32 (by decide) ?_
      exact k_iret hq dX10_digit_36 he
    · refine k_iconst hq dX10_digit_35 (v := (-1)) rfl ?_
      exact k_iret hq dX10_digit_36 he
  · refine k_iconst hq dX10_digit_35 (v := (-1)) rfl ?_
    exact k_iret hq dX10_digit_36 he
theorem con_X10_digit (l : Launch) (G : eG) (B0 n : Nat) (l0 : Nat) : e_C eI l G B0 n yX10_digit cX10_digit 1 (some .int) 1 21 [.ref l0] (F_X10_digit l0) := by
  refine e_mk (by decide) (Nat.le_of_ble_eq_true rfl) fun q r0 h0 h hq he e1 e2 e3 e4 => ?_
  subst e1; subst e2; subst e3; subst e4
  exact P_X10_digit_0 hq he l0 h
set_option maxRecDepth 100000 in
set_option maxHeartbeats 4000000 in
theorem P_X7_takenNumber_0 {q : eT} {r0 : Int32} {h0 : eH} (hq : e_B q yX7_takenNumber.cls cX7_takenNumber 5 3 64 (some .int) yX7_takenNumber.name) (he : e_E q) (N : Nat) (l0 : Nat) (l1 : Nat) (l2 : Int32) (l3 : Int32) (h : eH) : e_K eI q r0 h0 0 [(0, .ref l0), (1, .ref l1), (2, .int l2), (3, .int l3)] [] h (F_X7_takenNumber N l0 l1 l2 l3 h) := by
  unfold F_X7_takenNumber
  refine k_aload_n hq dX7_takenNumber_0 1 rfl ?_
  refine k_callV hq (na := 0) (As := []) (st := []) 9 (C := RX10) (T := TX10) rfl (con_X10_step _ _ _ _ N l1) tw_387 tw_49 tw_384 tw_385 tw_386 ⟨by decide, by decide, by decide +kernel⟩ rfl (by decide) rfl (Nat.le_of_ble_eq_true rfl) dX7_takenNumber_1 fun v1 h2 => ?_
  refine k_aload_n hq dX7_takenNumber_4 1 rfl ?_
  refine k_callV hq (na := 0) (As := []) (st := []) 9 (C := RX10) (T := TX10) rfl (con_X10_digit _ _ _ _ l1) tw_473 tw_49 tw_470 tw_471 tw_472 ⟨by decide, by decide, by decide +kernel⟩ rfl (by decide) rfl (Nat.le_of_ble_eq_true rfl) dX7_takenNumber_5 fun v3 h4 => ?_
  refine k_istore hq dX7_takenNumber_8 (by decide) (ls' := [(4, .int v3), (0, .ref l0), (1, .ref l1), (2, .int l2), (3, .int l3)]) rfl ?_
  refine k_iload hq dX7_takenNumber_10 0 rfl ?_
  refine k_iload_n hq dX7_takenNumber_12 3 rfl ?_
  refine k_icmp_lt hq (tgt := 27) dX7_takenNumber_13 (by decide) (fun _ => ?_) (fun _ => ?_)
  · refine k_iconst hq dX7_takenNumber_27 (v := 0) rfl ?_
    exact k_iret hq dX7_takenNumber_28 he
  · refine k_iload hq dX7_takenNumber_16 0 rfl ?_
    refine k_iload_n hq dX7_takenNumber_18 4 rfl ?_
    refine k_icmp_gt hq (tgt := 27) dX7_takenNumber_19 (by decide) (fun _ => ?_) (fun _ => ?_)
    · refine k_iconst hq dX7_takenNumber_27 (v := 0) rfl ?_
      exact k_iret hq dX7_takenNumber_28 he
    · refine k_iload hq dX7_takenNumber_22 0 rfl ?_
      refine k_goto hq (tgt := 28) dX7_takenNumber_24 (by decide) ?_
      exact k_iret hq dX7_takenNumber_28 he
theorem con_X7_takenNumber (l : Launch) (G : eG) (B0 n : Nat) (N : Nat) (l0 : Nat) (l1 : Nat) (l2 : Int32) (l3 : Int32) : e_C eI l G B0 n yX7_takenNumber cX7_takenNumber 5 (some .int) 3 64 [.ref l0, .ref l1, .int l2, .int l3] (F_X7_takenNumber N l0 l1 l2 l3) := by
  refine e_mk (by decide) (Nat.le_of_ble_eq_true rfl) fun q r0 h0 h hq he e1 e2 e3 e4 => ?_
  subst e1; subst e2; subst e3; subst e4
  exact P_X7_takenNumber_0 hq he N l0 l1 l2 l3 h
