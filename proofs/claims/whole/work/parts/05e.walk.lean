set_option maxRecDepth 100000 in
set_option maxHeartbeats 4000000 in
theorem P_X12_in_0 {q : eT} {r0 : Int32} {h0 : eH} (hq : e_B q yX12_in.cls cX12_in 6 0 0 (some .boolean) yX12_in.name) (l0 : Int64) (l2 : Int64) (l4 : Int64) (h : eH) : e_K eI q r0 h0 0 [(0, .long l0), (2, .long l2), (4, .long l4)] [] h (F_X12_in l0 l2 l4 h) := by
  unfold F_X12_in
  refine k_lload_n hq dX12_in_0 0 rfl ?_
  refine k_lload_n hq dX12_in_1 1 rfl ?_
  refine k_lcmp hq dX12_in_2 ?_
  refine k_if_lt hq (tgt := 17) dX12_in_3 (by decide) (fun _ => ?_) (fun _ => ?_)
  · refine k_iconst hq dX12_in_17 (v := 0) rfl ?_
    exact k_zret hq dX12_in_18
  · refine k_lload_n hq dX12_in_6 0 rfl ?_
    refine k_lload hq dX12_in_7 2 rfl ?_
    refine k_lcmp hq dX12_in_9 ?_
    refine k_if_gt hq (tgt := 17) dX12_in_10 (by decide) (fun _ => ?_) (fun _ => ?_)
    · refine k_iconst hq dX12_in_17 (v := 0) rfl ?_
      exact k_zret hq dX12_in_18
    · refine k_iconst hq dX12_in_13 (v := 1) rfl ?_
      refine k_goto hq (tgt := 18) dX12_in_14 (by decide) ?_
      exact k_zret hq dX12_in_18
theorem con_X12_in (l : Launch) (G : eG) (B0 n : Nat) (l0 : Int64) (l2 : Int64) (l4 : Int64) : e_C eI l G B0 n yX12_in cX12_in 6 (some .boolean) 0 0 [.long l0, .long l2, .long l4] (F_X12_in l0 l2 l4) := by
  refine e_mk (by decide) (Nat.le_of_ble_eq_true rfl) fun q r0 h0 h hq e1 e2 e3 e4 => ?_
  subst e1; subst e2; subst e3; subst e4
  exact P_X12_in_0 hq l0 l2 l4 h
set_option maxRecDepth 100000 in
set_option maxHeartbeats 4000000 in
theorem P_X12_has_0 {q : eT} {r0 : Int32} {h0 : eH} (hq : e_B q yX12_has.cls cX12_has 2 0 0 (some .boolean) yX12_has.name) (l0 : Int32) (l1 : Int32) (h : eH) : e_K eI q r0 h0 0 [(0, .int l0), (1, .int l1)] [] h (F_X12_has l0 l1 h) := by
  unfold F_X12_has
  refine k_iload_n hq dX12_has_0 0 rfl ?_
  refine k_iload_n hq dX12_has_1 1 rfl ?_
  refine k_ishr hq dX12_has_2 ?_
  refine k_iconst hq dX12_has_3 (v := 1) rfl ?_
  refine k_iand hq dX12_has_4 ?_
  refine k_iconst hq dX12_has_5 (v := 1) rfl ?_
  refine k_icmp_ne hq (tgt := 13) dX12_has_6 (by decide) (fun _ => ?_) (fun _ => ?_)
  · refine k_iconst hq dX12_has_9 (v := 1) rfl ?_
    refine k_goto hq (tgt := 14) dX12_has_10 (by decide) ?_
    exact k_zret hq dX12_has_14
  · refine k_iconst hq dX12_has_13 (v := 0) rfl ?_
    exact k_zret hq dX12_has_14
theorem con_X12_has (l : Launch) (G : eG) (B0 n : Nat) (l0 : Int32) (l1 : Int32) : e_C eI l G B0 n yX12_has cX12_has 2 (some .boolean) 0 0 [.int l0, .int l1] (F_X12_has l0 l1) := by
  refine e_mk (by decide) (Nat.le_of_ble_eq_true rfl) fun q r0 h0 h hq e1 e2 e3 e4 => ?_
  subst e1; subst e2; subst e3; subst e4
  exact P_X12_has_0 hq l0 l1 h
set_option maxRecDepth 100000 in
set_option maxHeartbeats 4000000 in
theorem P_X12_forgets_104b {q : eT} {r0 : Unit} {h0 : eH} (hq : e_B q yX12_forgets.cls cX12_forgets 2 0 0 none yX12_forgets.name) (N : Nat) (k104 : Nat → Int32 → eH → Option (Unit × eH)) (hk104 : ∀ (l0 : Nat) (l1 : Int32) h, e_K eV q r0 h0 104 [(0, .ref l0), (1, .int l1)] [] h (k104 l0 l1 h)) (l0 : Nat) (l1 : Int32) (h : eH) : e_K eV q r0 h0 104 [(0, .ref l0), (1, .int l1)] [] h (F_X12_forgets_104b N k104 l0 l1 h) := by
  unfold F_X12_forgets_104b
  refine k_iload_n hq dX12_forgets_104 1 rfl ?_
  refine k_iconst hq dX12_forgets_105 (v := 4) rfl ?_
  refine k_icmp_ge hq (tgt := 130) dX12_forgets_106 (by decide) (fun _ => ?_) (fun _ => ?_)
  · exact k_vret hq dX12_forgets_130
  · refine k_aload_n hq dX12_forgets_109 0 rfl ?_
    refine k_gr hq (C := RX12) (T := TX12) 11 17 rfl (by decide) (lay_X12 17 (by decide)) tw_944 dX12_forgets_110 fun v1 => ?_
    refine k_iload_n hq dX12_forgets_113 1 rfl ?_
    refine k_iconst hq dX12_forgets_114 (v := 0) rfl ?_
    refine k_iast hq dX12_forgets_115 fun h2 => ?_
    refine k_aload_n hq dX12_forgets_116 0 rfl ?_
    refine k_gr hq (C := RX12) (T := TX12) 11 18 rfl (by decide) (lay_X12 18 (by decide)) tw_945 dX12_forgets_117 fun v3 => ?_
    refine k_iload_n hq dX12_forgets_120 1 rfl ?_
    refine k_bipush hq dX12_forgets_121 (v := (-9)) rfl ?_
    refine k_iast hq dX12_forgets_123 fun h4 => ?_
    refine k_iinc hq dX12_forgets_124 1 rfl (v := l1 + 1) rfl (by decide) (ls' := [(1, .int (l1 + 1)), (0, .ref l0)]) rfl ?_
    refine k_goto hq (tgt := 104) dX12_forgets_127 (by decide) ?_
    exact k_sub [1, 0] rfl (hk104 l0 (l1 + 1) h4)
theorem Q_X12_forgets_104 {q : eT} {r0 : Unit} {h0 : eH} (hq : e_B q yX12_forgets.cls cX12_forgets 2 0 0 none yX12_forgets.name) (N : Nat) (l0 : Nat) (l1 : Int32) (h : eH) : e_K eV q r0 h0 104 [(0, .ref l0), (1, .int l1)] [] h (L_X12_forgets_104 N l0 l1 h) :=
  k_loop (mk := (fun s => [(0, .ref s.1), (1, .int s.2.1)])) (hp := fun s => s.2.2) (fun k hk s => P_X12_forgets_104b hq N (fun l0 l1 h => k (l0, l1, h)) (fun l0 l1 h => hk (l0, l1, h)) s.1 s.2.1 s.2.2) N (l0, l1, h)
set_option maxRecDepth 100000 in
set_option maxHeartbeats 4000000 in
theorem P_X12_forgets_83b {q : eT} {r0 : Unit} {h0 : eH} (hq : e_B q yX12_forgets.cls cX12_forgets 2 0 0 none yX12_forgets.name) (N : Nat) (k83 : Nat → Int32 → eH → Option (Unit × eH)) (hk83 : ∀ (l0 : Nat) (l1 : Int32) h, e_K eV q r0 h0 83 [(0, .ref l0), (1, .int l1)] [] h (k83 l0 l1 h)) (l0 : Nat) (l1 : Int32) (h : eH) : e_K eV q r0 h0 83 [(0, .ref l0), (1, .int l1)] [] h (F_X12_forgets_83b N k83 l0 l1 h) := by
  unfold F_X12_forgets_83b
  refine k_iload_n hq dX12_forgets_83 1 rfl ?_
  refine k_bipush hq dX12_forgets_84 (v := 16) rfl ?_
  refine k_icmp_ge hq (tgt := 102) dX12_forgets_86 (by decide) (fun _ => ?_) (fun _ => ?_)
  · refine k_iconst hq dX12_forgets_102 (v := 0) rfl ?_
    refine k_istore_n hq dX12_forgets_103 rfl (by decide) (ls' := [(1, .int 0), (0, .ref l0)]) rfl ?_
    exact k_sub [1, 0] rfl (Q_X12_forgets_104 hq N l0 0 h)
  · refine k_aload_n hq dX12_forgets_89 0 rfl ?_
    refine k_gr hq (C := RX12) (T := TX12) 11 15 rfl (by decide) (lay_X12 15 (by decide)) tw_942 dX12_forgets_90 fun v1 => ?_
    refine k_iload_n hq dX12_forgets_93 1 rfl ?_
    refine k_iconst hq dX12_forgets_94 (v := 0) rfl ?_
    refine k_iast hq dX12_forgets_95 fun h2 => ?_
    refine k_iinc hq dX12_forgets_96 1 rfl (v := l1 + 1) rfl (by decide) (ls' := [(1, .int (l1 + 1)), (0, .ref l0)]) rfl ?_
    refine k_goto hq (tgt := 83) dX12_forgets_99 (by decide) ?_
    exact k_sub [1, 0] rfl (hk83 l0 (l1 + 1) h2)
theorem Q_X12_forgets_83 {q : eT} {r0 : Unit} {h0 : eH} (hq : e_B q yX12_forgets.cls cX12_forgets 2 0 0 none yX12_forgets.name) (N : Nat) (l0 : Nat) (l1 : Int32) (h : eH) : e_K eV q r0 h0 83 [(0, .ref l0), (1, .int l1)] [] h (L_X12_forgets_83 N l0 l1 h) :=
  k_loop (mk := (fun s => [(0, .ref s.1), (1, .int s.2.1)])) (hp := fun s => s.2.2) (fun k hk s => P_X12_forgets_83b hq N (fun l0 l1 h => k (l0, l1, h)) (fun l0 l1 h => hk (l0, l1, h)) s.1 s.2.1 s.2.2) N (l0, l1, h)
set_option maxRecDepth 100000 in
set_option maxHeartbeats 4000000 in
theorem P_X12_forgets_62b {q : eT} {r0 : Unit} {h0 : eH} (hq : e_B q yX12_forgets.cls cX12_forgets 2 0 0 none yX12_forgets.name) (N : Nat) (k62 : Nat → Int32 → eH → Option (Unit × eH)) (hk62 : ∀ (l0 : Nat) (l1 : Int32) h, e_K eV q r0 h0 62 [(0, .ref l0), (1, .int l1)] [] h (k62 l0 l1 h)) (l0 : Nat) (l1 : Int32) (h : eH) : e_K eV q r0 h0 62 [(0, .ref l0), (1, .int l1)] [] h (F_X12_forgets_62b N k62 l0 l1 h) := by
  unfold F_X12_forgets_62b
  refine k_iload_n hq dX12_forgets_62 1 rfl ?_
  refine k_bipush hq dX12_forgets_63 (v := 64) rfl ?_
  refine k_icmp_ge hq (tgt := 81) dX12_forgets_65 (by decide) (fun _ => ?_) (fun _ => ?_)
  · refine k_iconst hq dX12_forgets_81 (v := 0) rfl ?_
    refine k_istore_n hq dX12_forgets_82 rfl (by decide) (ls' := [(1, .int 0), (0, .ref l0)]) rfl ?_
    exact k_sub [1, 0] rfl (Q_X12_forgets_83 hq N l0 0 h)
  · refine k_aload_n hq dX12_forgets_68 0 rfl ?_
    refine k_gr hq (C := RX12) (T := TX12) 11 16 rfl (by decide) (lay_X12 16 (by decide)) tw_943 dX12_forgets_69 fun v1 => ?_
    refine k_iload_n hq dX12_forgets_72 1 rfl ?_
    refine k_iconst hq dX12_forgets_73 (v := 0) rfl ?_
    refine k_iast hq dX12_forgets_74 fun h2 => ?_
    refine k_iinc hq dX12_forgets_75 1 rfl (v := l1 + 1) rfl (by decide) (ls' := [(1, .int (l1 + 1)), (0, .ref l0)]) rfl ?_
    refine k_goto hq (tgt := 62) dX12_forgets_78 (by decide) ?_
    exact k_sub [1, 0] rfl (hk62 l0 (l1 + 1) h2)
theorem Q_X12_forgets_62 {q : eT} {r0 : Unit} {h0 : eH} (hq : e_B q yX12_forgets.cls cX12_forgets 2 0 0 none yX12_forgets.name) (N : Nat) (l0 : Nat) (l1 : Int32) (h : eH) : e_K eV q r0 h0 62 [(0, .ref l0), (1, .int l1)] [] h (L_X12_forgets_62 N l0 l1 h) :=
  k_loop (mk := (fun s => [(0, .ref s.1), (1, .int s.2.1)])) (hp := fun s => s.2.2) (fun k hk s => P_X12_forgets_62b hq N (fun l0 l1 h => k (l0, l1, h)) (fun l0 l1 h => hk (l0, l1, h)) s.1 s.2.1 s.2.2) N (l0, l1, h)
set_option maxRecDepth 100000 in
set_option maxHeartbeats 4000000 in
theorem P_X12_forgets_12b {q : eT} {r0 : Unit} {h0 : eH} (hq : e_B q yX12_forgets.cls cX12_forgets 2 0 0 none yX12_forgets.name) (N : Nat) (k12 : Nat → Int32 → eH → Option (Unit × eH)) (hk12 : ∀ (l0 : Nat) (l1 : Int32) h, e_K eV q r0 h0 12 [(0, .ref l0), (1, .int l1)] [] h (k12 l0 l1 h)) (l0 : Nat) (l1 : Int32) (h : eH) : e_K eV q r0 h0 12 [(0, .ref l0), (1, .int l1)] [] h (F_X12_forgets_12b N k12 l0 l1 h) := by
  unfold F_X12_forgets_12b
  refine k_iload_n hq dX12_forgets_12 1 rfl ?_
  refine k_sipush hq dX12_forgets_13 (v := 656) rfl ?_
  refine k_icmp_ge hq (tgt := 60) dX12_forgets_16 (by decide) (fun _ => ?_) (fun _ => ?_)
  · refine k_iconst hq dX12_forgets_60 (v := 0) rfl ?_
    refine k_istore_n hq dX12_forgets_61 rfl (by decide) (ls' := [(1, .int 0), (0, .ref l0)]) rfl ?_
    exact k_sub [1, 0] rfl (Q_X12_forgets_62 hq N l0 0 h)
  · refine k_aload_n hq dX12_forgets_19 0 rfl ?_
    refine k_gr hq (C := RX12) (T := TX12) 11 10 rfl (by decide) (lay_X12 10 (by decide)) tw_937 dX12_forgets_20 fun v1 => ?_
    refine k_iload_n hq dX12_forgets_23 1 rfl ?_
    refine k_iconst hq dX12_forgets_24 (v := 0) rfl ?_
    refine k_zast hq dX12_forgets_25 fun h2 => ?_
    refine k_aload_n hq dX12_forgets_26 0 rfl ?_
    refine k_gr hq (C := RX12) (T := TX12) 11 11 rfl (by decide) (lay_X12 11 (by decide)) tw_938 dX12_forgets_27 fun v3 => ?_
    refine k_iload_n hq dX12_forgets_30 1 rfl ?_
    refine k_iconst hq dX12_forgets_31 (v := 0) rfl ?_
    refine k_zast hq dX12_forgets_32 fun h4 => ?_
    refine k_aload_n hq dX12_forgets_33 0 rfl ?_
    refine k_gr hq (C := RX12) (T := TX12) 11 12 rfl (by decide) (lay_X12 12 (by decide)) tw_939 dX12_forgets_34 fun v5 => ?_
    refine k_iload_n hq dX12_forgets_37 1 rfl ?_
    refine k_iconst hq dX12_forgets_38 (v := 0) rfl ?_
    refine k_zast hq dX12_forgets_39 fun h6 => ?_
    refine k_aload_n hq dX12_forgets_40 0 rfl ?_
    refine k_gr hq (C := RX12) (T := TX12) 11 13 rfl (by decide) (lay_X12 13 (by decide)) tw_940 dX12_forgets_41 fun v7 => ?_
    refine k_iload_n hq dX12_forgets_44 1 rfl ?_
    refine k_iconst hq dX12_forgets_45 (v := 0) rfl ?_
    refine k_zast hq dX12_forgets_46 fun h8 => ?_
    refine k_aload_n hq dX12_forgets_47 0 rfl ?_
    refine k_gr hq (C := RX12) (T := TX12) 11 14 rfl (by decide) (lay_X12 14 (by decide)) tw_941 dX12_forgets_48 fun v9 => ?_
    refine k_iload_n hq dX12_forgets_51 1 rfl ?_
    refine k_iconst hq dX12_forgets_52 (v := 0) rfl ?_
    refine k_iast hq dX12_forgets_53 fun h10 => ?_
    refine k_iinc hq dX12_forgets_54 1 rfl (v := l1 + 1) rfl (by decide) (ls' := [(1, .int (l1 + 1)), (0, .ref l0)]) rfl ?_
    refine k_goto hq (tgt := 12) dX12_forgets_57 (by decide) ?_
    exact k_sub [1, 0] rfl (hk12 l0 (l1 + 1) h10)
theorem Q_X12_forgets_12 {q : eT} {r0 : Unit} {h0 : eH} (hq : e_B q yX12_forgets.cls cX12_forgets 2 0 0 none yX12_forgets.name) (N : Nat) (l0 : Nat) (l1 : Int32) (h : eH) : e_K eV q r0 h0 12 [(0, .ref l0), (1, .int l1)] [] h (L_X12_forgets_12 N l0 l1 h) :=
  k_loop (mk := (fun s => [(0, .ref s.1), (1, .int s.2.1)])) (hp := fun s => s.2.2) (fun k hk s => P_X12_forgets_12b hq N (fun l0 l1 h => k (l0, l1, h)) (fun l0 l1 h => hk (l0, l1, h)) s.1 s.2.1 s.2.2) N (l0, l1, h)
set_option maxRecDepth 100000 in
set_option maxHeartbeats 4000000 in
theorem P_X12_forgets_0 {q : eT} {r0 : Unit} {h0 : eH} (hq : e_B q yX12_forgets.cls cX12_forgets 2 0 0 none yX12_forgets.name) (N : Nat) (l0 : Nat) (h : eH) : e_K eV q r0 h0 0 [(0, .ref l0)] [] h (F_X12_forgets N l0 h) := by
  unfold F_X12_forgets
  refine k_aload_n hq dX12_forgets_0 0 rfl ?_
  refine k_iconst hq dX12_forgets_1 (v := 0) rfl ?_
  refine k_p hq (C := RX12) (T := TX12) 11 5 rfl (by decide) lay_X12 tyX12 tyX12_ok nmX12 tw_932 rfl rfl rfl dX12_forgets_2 fun h1 => ?_
  refine k_aload_n hq dX12_forgets_5 0 rfl ?_
  refine k_iconst hq dX12_forgets_6 (v := 0) rfl ?_
  refine k_p hq (C := RX12) (T := TX12) 11 21 rfl (by decide) lay_X12 tyX12 tyX12_ok nmX12 tw_948 rfl rfl rfl dX12_forgets_7 fun h2 => ?_
  refine k_iconst hq dX12_forgets_10 (v := 0) rfl ?_
  refine k_istore_n hq dX12_forgets_11 rfl (by decide) (ls' := [(1, .int 0), (0, .ref l0)]) rfl ?_
  exact k_sub [1, 0] rfl (Q_X12_forgets_12 hq N l0 0 h2)
theorem con_X12_forgets (l : Launch) (G : eG) (B0 n : Nat) (N : Nat) (l0 : Nat) : e_C eV l G B0 n yX12_forgets cX12_forgets 2 none 0 0 [.ref l0] (F_X12_forgets N l0) := by
  refine e_mk (by decide) (Nat.le_of_ble_eq_true rfl) fun q r0 h0 h hq e1 e2 e3 e4 => ?_
  subst e1; subst e2; subst e3; subst e4
  exact P_X12_forgets_0 hq N l0 h
set_option maxRecDepth 100000 in
set_option maxHeartbeats 4000000 in
theorem P_X12_begins_0 {q : eT} {r0 : Unit} {h0 : eH} (hq : e_B q yX12_begins.cls cX12_begins 1 1 21 none yX12_begins.name) (N : Nat) (l0 : Nat) (h : eH) : e_K eV q r0 h0 0 [(0, .ref l0)] [] h (F_X12_begins N l0 h) := by
  unfold F_X12_begins
  refine k_aload_n hq dX12_begins_0 0 rfl ?_
  refine k_iconst hq dX12_begins_1 (v := 3) rfl ?_
  refine k_p hq (C := RX12) (T := TX12) 11 0 rfl (by decide) lay_X12 tyX12 tyX12_ok nmX12 tw_927 rfl rfl rfl dX12_begins_2 fun h1 => ?_
  refine k_aload_n hq dX12_begins_5 0 rfl ?_
  refine k_iconst hq dX12_begins_6 (v := 4) rfl ?_
  refine k_p hq (C := RX12) (T := TX12) 11 1 rfl (by decide) lay_X12 tyX12 tyX12_ok nmX12 tw_928 rfl rfl rfl dX12_begins_7 fun h2 => ?_
  refine k_aload_n hq dX12_begins_10 0 rfl ?_
  refine k_iconst hq dX12_begins_11 (v := 4) rfl ?_
  refine k_p hq (C := RX12) (T := TX12) 11 2 rfl (by decide) lay_X12 tyX12 tyX12_ok nmX12 tw_929 rfl rfl rfl dX12_begins_12 fun h3 => ?_
  refine k_aload_n hq dX12_begins_15 0 rfl ?_
  refine k_iconst hq dX12_begins_16 (v := 0) rfl ?_
  refine k_p hq (C := RX12) (T := TX12) 11 3 rfl (by decide) lay_X12 tyX12 tyX12_ok nmX12 tw_930 rfl rfl rfl dX12_begins_17 fun h4 => ?_
  refine k_aload_n hq dX12_begins_20 0 rfl ?_
  refine k_callV hq (na := 0) (As := []) (st := []) 11 (C := RX12) (T := TX12) rfl (con_X12_forgets _ _ _ _ N l0) tw_926 tw_59 tw_923 tw_925 tw_22 ⟨by decide, by decide, by decide +kernel⟩ rfl (by decide) rfl (Nat.le_of_ble_eq_true rfl) dX12_begins_21 fun v5 h6 => ?_
  exact k_vret hq dX12_begins_24
theorem con_X12_begins (l : Launch) (G : eG) (B0 n : Nat) (N : Nat) (l0 : Nat) : e_C eV l G B0 n yX12_begins cX12_begins 1 none 1 21 [.ref l0] (F_X12_begins N l0) := by
  refine e_mk (by decide) (Nat.le_of_ble_eq_true rfl) fun q r0 h0 h hq e1 e2 e3 e4 => ?_
  subst e1; subst e2; subst e3; subst e4
  exact P_X12_begins_0 hq N l0 h
set_option maxRecDepth 100000 in
set_option maxHeartbeats 4000000 in
theorem P_X12_at_0 {q : eT} {r0 : Int32} {h0 : eH} (hq : e_B q yX12_at.cls cX12_at 3 0 0 (some .int) yX12_at.name) (l0 : Int32) (l1 : Int32) (l2 : Int32) (h : eH) : e_K eI q r0 h0 0 [(0, .int l0), (1, .int l1), (2, .int l2)] [] h (F_X12_at l0 l1 l2 h) := by
  unfold F_X12_at
  refine k_sipush hq dX12_at_0 (v := 164) rfl ?_
  refine k_iload_n hq dX12_at_3 0 rfl ?_
  refine k_imul hq dX12_at_4 ?_
  refine k_bipush hq dX12_at_5 (v := 41) rfl ?_
  refine k_iload_n hq dX12_at_7 1 rfl ?_
  refine k_imul hq dX12_at_8 ?_
  refine k_iadd hq dX12_at_9 ?_
  refine k_iload_n hq dX12_at_10 2 rfl ?_
  refine k_iadd hq dX12_at_11 ?_
  exact k_iret hq dX12_at_12
theorem con_X12_at (l : Launch) (G : eG) (B0 n : Nat) (l0 : Int32) (l1 : Int32) (l2 : Int32) : e_C eI l G B0 n yX12_at cX12_at 3 (some .int) 0 0 [.int l0, .int l1, .int l2] (F_X12_at l0 l1 l2) := by
  refine e_mk (by decide) (Nat.le_of_ble_eq_true rfl) fun q r0 h0 h hq e1 e2 e3 e4 => ?_
  subst e1; subst e2; subst e3; subst e4
  exact P_X12_at_0 hq l0 l1 l2 h
set_option maxRecDepth 100000 in
set_option maxHeartbeats 4000000 in
theorem P_X12_rowAt_0 {q : eT} {r0 : Int32} {h0 : eH} (hq : e_B q yX12_rowAt.cls cX12_rowAt 2 0 0 (some .int) yX12_rowAt.name) (l0 : Int32) (l1 : Int32) (h : eH) : e_K eI q r0 h0 0 [(0, .int l0), (1, .int l1)] [] h (F_X12_rowAt l0 l1 h) := by
  unfold F_X12_rowAt
  refine k_bipush hq dX12_rowAt_0 (v := 16) rfl ?_
  refine k_iload_n hq dX12_rowAt_2 0 rfl ?_
  refine k_imul hq dX12_rowAt_3 ?_
  refine k_iconst hq dX12_rowAt_4 (v := 4) rfl ?_
  refine k_iload_n hq dX12_rowAt_5 1 rfl ?_
  refine k_imul hq dX12_rowAt_6 ?_
  refine k_iadd hq dX12_rowAt_7 ?_
  exact k_iret hq dX12_rowAt_8
theorem con_X12_rowAt (l : Launch) (G : eG) (B0 n : Nat) (l0 : Int32) (l1 : Int32) : e_C eI l G B0 n yX12_rowAt cX12_rowAt 2 (some .int) 0 0 [.int l0, .int l1] (F_X12_rowAt l0 l1) := by
  refine e_mk (by decide) (Nat.le_of_ble_eq_true rfl) fun q r0 h0 h hq e1 e2 e3 e4 => ?_
  subst e1; subst e2; subst e3; subst e4
  exact P_X12_rowAt_0 hq l0 l1 h
set_option maxRecDepth 100000 in
set_option maxHeartbeats 4000000 in
theorem P_X12_isSite_0 {q : eT} {r0 : Int32} {h0 : eH} (hq : e_B q yX12_isSite.cls cX12_isSite 2 1 25 (some .boolean) yX12_isSite.name) (l0 : Nat) (l1 : Int32) (h : eH) : e_K eI q r0 h0 0 [(0, .ref l0), (1, .int l1)] [] h (F_X12_isSite l0 l1 h) := by
  unfold F_X12_isSite
  refine k_iload_n hq dX12_isSite_0 1 rfl ?_
  refine k_i2l hq dX12_isSite_1 ?_
  refine k_lconst hq dX12_isSite_2 (v := 0) rfl ?_
  refine k_aload_n hq dX12_isSite_3 0 rfl ?_
  refine k_gi hq (C := RX12) (T := TX12) 11 0 rfl (by decide) (lay_X12 0 (by decide)) tw_927 dX12_isSite_4 fun v1 => ?_
  refine k_iconst hq dX12_isSite_7 (v := 1) rfl ?_
  refine k_isub hq dX12_isSite_8 ?_
  refine k_i2l hq dX12_isSite_9 ?_
  refine k_callS hq (na := 3) (As := [.long (l1.toInt64), .long 0, .long ((v1 - 1).toInt64)]) (st := []) (con_X12_in _ _ _ _ (l1.toInt64) 0 ((v1 - 1).toInt64)) tw_1059 tw_59 tw_1057 tw_1058 ⟨by decide, by decide, by decide +kernel⟩ rfl (by decide) rfl (Nat.le_of_ble_eq_true rfl) dX12_isSite_10 fun v2 h3 => ?_
  exact k_zret hq dX12_isSite_13
theorem con_X12_isSite (l : Launch) (G : eG) (B0 n : Nat) (l0 : Nat) (l1 : Int32) : e_C eI l G B0 n yX12_isSite cX12_isSite 2 (some .boolean) 1 25 [.ref l0, .int l1] (F_X12_isSite l0 l1) := by
  refine e_mk (by decide) (Nat.le_of_ble_eq_true rfl) fun q r0 h0 h hq e1 e2 e3 e4 => ?_
  subst e1; subst e2; subst e3; subst e4
  exact P_X12_isSite_0 hq l0 l1 h
set_option maxRecDepth 100000 in
set_option maxHeartbeats 4000000 in
theorem P_X12_isKey_0 {q : eT} {r0 : Int32} {h0 : eH} (hq : e_B q yX12_isKey.cls cX12_isKey 2 1 25 (some .boolean) yX12_isKey.name) (l0 : Nat) (l1 : Int32) (h : eH) : e_K eI q r0 h0 0 [(0, .ref l0), (1, .int l1)] [] h (F_X12_isKey l0 l1 h) := by
  unfold F_X12_isKey
  refine k_iload_n hq dX12_isKey_0 1 rfl ?_
  refine k_i2l hq dX12_isKey_1 ?_
  refine k_lconst hq dX12_isKey_2 (v := 0) rfl ?_
  refine k_aload_n hq dX12_isKey_3 0 rfl ?_
  refine k_gi hq (C := RX12) (T := TX12) 11 3 rfl (by decide) (lay_X12 3 (by decide)) tw_930 dX12_isKey_4 fun v1 => ?_
  refine k_iconst hq dX12_isKey_7 (v := 1) rfl ?_
  refine k_isub hq dX12_isKey_8 ?_
  refine k_i2l hq dX12_isKey_9 ?_
  refine k_callS hq (na := 3) (As := [.long (l1.toInt64), .long 0, .long ((v1 - 1).toInt64)]) (st := []) (con_X12_in _ _ _ _ (l1.toInt64) 0 ((v1 - 1).toInt64)) tw_1059 tw_59 tw_1057 tw_1058 ⟨by decide, by decide, by decide +kernel⟩ rfl (by decide) rfl (Nat.le_of_ble_eq_true rfl) dX12_isKey_10 fun v2 h3 => ?_
  exact k_zret hq dX12_isKey_13
theorem con_X12_isKey (l : Launch) (G : eG) (B0 n : Nat) (l0 : Nat) (l1 : Int32) : e_C eI l G B0 n yX12_isKey cX12_isKey 2 (some .boolean) 1 25 [.ref l0, .int l1] (F_X12_isKey l0 l1) := by
  refine e_mk (by decide) (Nat.le_of_ble_eq_true rfl) fun q r0 h0 h hq e1 e2 e3 e4 => ?_
  subst e1; subst e2; subst e3; subst e4
  exact P_X12_isKey_0 hq l0 l1 h
set_option maxRecDepth 100000 in
set_option maxHeartbeats 4000000 in
theorem P_X12_isClient_0 {q : eT} {r0 : Int32} {h0 : eH} (hq : e_B q yX12_isClient.cls cX12_isClient 1 1 25 (some .boolean) yX12_isClient.name) (l0 : Int32) (h : eH) : e_K eI q r0 h0 0 [(0, .int l0)] [] h (F_X12_isClient l0 h) := by
  unfold F_X12_isClient
  refine k_iload_n hq dX12_isClient_0 0 rfl ?_
  refine k_i2l hq dX12_isClient_1 ?_
  refine k_lconst hq dX12_isClient_2 (v := 0) rfl ?_
  refine k_ldc2 hq (v := 3) tw_1101 dX12_isClient_3 ?_
  refine k_callS hq (na := 3) (As := [.long (l0.toInt64), .long 0, .long 3]) (st := []) (con_X12_in _ _ _ _ (l0.toInt64) 0 3) tw_1059 tw_59 tw_1057 tw_1058 ⟨by decide, by decide, by decide +kernel⟩ rfl (by decide) rfl (Nat.le_of_ble_eq_true rfl) dX12_isClient_6 fun v1 h2 => ?_
  exact k_zret hq dX12_isClient_9
theorem con_X12_isClient (l : Launch) (G : eG) (B0 n : Nat) (l0 : Int32) : e_C eI l G B0 n yX12_isClient cX12_isClient 1 (some .boolean) 1 25 [.int l0] (F_X12_isClient l0) := by
  refine e_mk (by decide) (Nat.le_of_ble_eq_true rfl) fun q r0 h0 h hq e1 e2 e3 e4 => ?_
  subst e1; subst e2; subst e3; subst e4
  exact P_X12_isClient_0 hq l0 h
set_option maxRecDepth 100000 in
set_option maxHeartbeats 4000000 in
theorem P_X12_isWrite_0 {q : eT} {r0 : Int32} {h0 : eH} (hq : e_B q yX12_isWrite.cls cX12_isWrite 4 2 46 (some .boolean) yX12_isWrite.name) (l0 : Nat) (l1 : Int32) (l2 : Int32) (l3 : Int32) (h : eH) : e_K eI q r0 h0 0 [(0, .ref l0), (1, .int l1), (2, .int l2), (3, .int l3)] [] h (F_X12_isWrite l0 l1 l2 l3 h) := by
  unfold F_X12_isWrite
  refine k_aload_n hq dX12_isWrite_0 0 rfl ?_
  refine k_iload_n hq dX12_isWrite_1 1 rfl ?_
  refine k_callV hq (na := 1) (As := [.int l1]) (st := []) 11 (C := RX12) (T := TX12) rfl (con_X12_isKey _ _ _ _ l0 l1) tw_1109 tw_59 tw_1106 tw_1108 tw_29 ⟨by decide, by decide, by decide +kernel⟩ rfl (by decide) rfl (Nat.le_of_ble_eq_true rfl) dX12_isWrite_2 fun v1 h2 => ?_
  refine k_if_eq hq (tgt := 40) dX12_isWrite_5 (by decide) (fun _ => ?_) (fun _ => ?_)
  · refine k_iconst hq dX12_isWrite_40 (v := 0) rfl ?_
    exact k_zret hq dX12_isWrite_41
  · refine k_aload_n hq dX12_isWrite_8 0 rfl ?_
    refine k_iload_n hq dX12_isWrite_9 2 rfl ?_
    refine k_callV hq (na := 1) (As := [.int l2]) (st := []) 11 (C := RX12) (T := TX12) rfl (con_X12_isSite _ _ _ _ l0 l2) tw_1105 tw_59 tw_1102 tw_1104 tw_28 ⟨by decide, by decide, by decide +kernel⟩ rfl (by decide) rfl (Nat.le_of_ble_eq_true rfl) dX12_isWrite_10 fun v3 h4 => ?_
    refine k_if_eq hq (tgt := 40) dX12_isWrite_13 (by decide) (fun _ => ?_) (fun _ => ?_)
    · refine k_iconst hq dX12_isWrite_40 (v := 0) rfl ?_
      exact k_zret hq dX12_isWrite_41
    · refine k_iload_n hq dX12_isWrite_16 3 rfl ?_
      refine k_i2l hq dX12_isWrite_17 ?_
      refine k_lconst hq dX12_isWrite_18 (v := 1) rfl ?_
      refine k_aload_n hq dX12_isWrite_19 0 rfl ?_
      refine k_gr hq (C := RX12) (T := TX12) 11 15 rfl (by decide) (lay_X12 15 (by decide)) tw_942 dX12_isWrite_20 fun v5 => ?_
      refine k_iconst hq dX12_isWrite_23 (v := 4) rfl ?_
      refine k_iload_n hq dX12_isWrite_24 1 rfl ?_
      refine k_imul hq dX12_isWrite_25 ?_
      refine k_iload_n hq dX12_isWrite_26 2 rfl ?_
      refine k_iadd hq dX12_isWrite_27 ?_
      refine k_iald hq dX12_isWrite_28 fun v6 => ?_
      refine k_i2l hq dX12_isWrite_29 ?_
      refine k_callS hq (na := 3) (As := [.long (l3.toInt64), .long 1, .long (v6.toInt64)]) (st := []) (con_X12_in _ _ _ _ (l3.toInt64) 1 (v6.toInt64)) tw_1059 tw_59 tw_1057 tw_1058 ⟨by decide, by decide, by decide +kernel⟩ rfl (by decide) rfl (Nat.le_of_ble_eq_true rfl) dX12_isWrite_30 fun v7 h8 => ?_
      refine k_if_eq hq (tgt := 40) dX12_isWrite_33 (by decide) (fun _ => ?_) (fun _ => ?_)
      · refine k_iconst hq dX12_isWrite_40 (v := 0) rfl ?_
        exact k_zret hq dX12_isWrite_41
      · refine k_iconst hq dX12_isWrite_36 (v := 1) rfl ?_
        refine k_goto hq (tgt := 41) dX12_isWrite_37 (by decide) ?_
        exact k_zret hq dX12_isWrite_41
theorem con_X12_isWrite (l : Launch) (G : eG) (B0 n : Nat) (l0 : Nat) (l1 : Int32) (l2 : Int32) (l3 : Int32) : e_C eI l G B0 n yX12_isWrite cX12_isWrite 4 (some .boolean) 2 46 [.ref l0, .int l1, .int l2, .int l3] (F_X12_isWrite l0 l1 l2 l3) := by
  refine e_mk (by decide) (Nat.le_of_ble_eq_true rfl) fun q r0 h0 h hq e1 e2 e3 e4 => ?_
  subst e1; subst e2; subst e3; subst e4
  exact P_X12_isWrite_0 hq l0 l1 l2 l3 h
set_option maxRecDepth 100000 in
set_option maxHeartbeats 4000000 in
theorem P_X12_type_0 {q : eT} {r0 : Int32} {h0 : eH} (hq : e_B q yX12_type.cls cX12_type 2 1 25 (some .int) yX12_type.name) (l0 : Nat) (l1 : Int32) (h : eH) : e_K eI q r0 h0 0 [(0, .ref l0), (1, .int l1)] [] h (F_X12_type l0 l1 h) := by
  unfold F_X12_type
  refine k_iload_n hq dX12_type_0 1 rfl ?_
  refine k_i2l hq dX12_type_1 ?_
  refine k_lconst hq dX12_type_2 (v := 0) rfl ?_
  refine k_ldc2 hq (v := 255) tw_1056 dX12_type_3 ?_
  refine k_callS hq (na := 3) (As := [.long (l1.toInt64), .long 0, .long 255]) (st := []) (con_X12_in _ _ _ _ (l1.toInt64) 0 255) tw_1059 tw_59 tw_1057 tw_1058 ⟨by decide, by decide, by decide +kernel⟩ rfl (by decide) rfl (Nat.le_of_ble_eq_true rfl) dX12_type_6 fun v1 h2 => ?_
  refine k_if_ne hq (tgt := 14) dX12_type_9 (by decide) (fun _ => ?_) (fun _ => ?_)
  · refine k_iconst hq dX12_type_12 (v := (-1)) rfl ?_
    exact k_iret hq dX12_type_13
  · refine k_aload_n hq dX12_type_14 0 rfl ?_
    refine k_gi hq (C := RX12) (T := TX12) 11 24 rfl (by decide) (lay_X12 24 (by decide)) tw_951 dX12_type_15 fun v3 => ?_
    refine k_bipush hq dX12_type_18 (v := 100) rfl ?_
    refine k_icmp_ne hq (tgt := 26) dX12_type_20 (by decide) (fun _ => ?_) (fun _ => ?_)
    · refine k_bipush hq dX12_type_23 (v := (-3)) rfl ?_
      exact k_iret hq dX12_type_25
    · refine k_aload_n hq dX12_type_26 0 rfl ?_
      refine k_gr hq (C := RX12) (T := TX12) 11 25 rfl (by decide) (lay_X12 25 (by decide)) tw_952 dX12_type_27 fun v4 => ?_
      refine k_aload_n hq dX12_type_30 0 rfl ?_
      refine k_gi hq (C := RX12) (T := TX12) 11 24 rfl (by decide) (lay_X12 24 (by decide)) tw_951 dX12_type_31 fun v5 => ?_
      refine k_iload_n hq dX12_type_34 1 rfl ?_
      refine k_iast hq dX12_type_35 fun h6 => ?_
      refine k_aload_n hq dX12_type_36 0 rfl ?_
      refine k_dup hq dX12_type_37 rfl ?_
      refine k_gi hq (C := RX12) (T := TX12) 11 24 rfl (by decide) (lay_X12 24 (by decide)) tw_951 dX12_type_38 fun v7 => ?_
      refine k_iconst hq dX12_type_41 (v := 1) rfl ?_
      refine k_iadd hq dX12_type_42 ?_
      refine k_p hq (C := RX12) (T := TX12) 11 24 rfl (by decide) lay_X12 tyX12 tyX12_ok nmX12 tw_951 rfl rfl rfl dX12_type_43 fun h8 => ?_
      refine k_aload_n hq dX12_type_46 0 rfl ?_
      refine k_gi hq (C := RX12) (T := TX12) 11 24 rfl (by decide) (lay_X12 24 (by decide)) tw_951 dX12_type_47 fun v9 => ?_
      exact k_iret hq dX12_type_50
theorem con_X12_type (l : Launch) (G : eG) (B0 n : Nat) (l0 : Nat) (l1 : Int32) : e_C eI l G B0 n yX12_type cX12_type 2 (some .int) 1 25 [.ref l0, .int l1] (F_X12_type l0 l1) := by
  refine e_mk (by decide) (Nat.le_of_ble_eq_true rfl) fun q r0 h0 h hq e1 e2 e3 e4 => ?_
  subst e1; subst e2; subst e3; subst e4
  exact P_X12_type_0 hq l0 l1 h
set_option maxRecDepth 100000 in
set_option maxHeartbeats 4000000 in
theorem P_X12_clear_0 {q : eT} {r0 : Int32} {h0 : eH} (hq : e_B q yX12_clear.cls cX12_clear 2 0 0 (some .int) yX12_clear.name) (l0 : Nat) (h : eH) : e_K eI q r0 h0 0 [(0, .ref l0)] [] h (F_X12_clear l0 h) := by
  unfold F_X12_clear
  refine k_aload_n hq dX12_clear_0 0 rfl ?_
  refine k_gi hq (C := RX12) (T := TX12) 11 24 rfl (by decide) (lay_X12 24 (by decide)) tw_951 dX12_clear_1 fun v1 => ?_
  refine k_istore_n hq dX12_clear_4 rfl (by decide) (ls' := [(1, .int v1), (0, .ref l0)]) rfl ?_
  refine k_aload_n hq dX12_clear_5 1 rfl ?_
  refine k_iconst hq dX12_clear_6 (v := 0) rfl ?_
  refine k_p hq (C := RX12) (T := TX12) 11 24 rfl (by decide) lay_X12 tyX12 tyX12_ok nmX12 tw_951 rfl rfl rfl dX12_clear_7 fun h2 => ?_
  refine k_iload_n hq dX12_clear_10 0 rfl ?_
  exact k_iret hq dX12_clear_11
theorem con_X12_clear (l : Launch) (G : eG) (B0 n : Nat) (l0 : Nat) : e_C eI l G B0 n yX12_clear cX12_clear 2 (some .int) 0 0 [.ref l0] (F_X12_clear l0) := by
  refine e_mk (by decide) (Nat.le_of_ble_eq_true rfl) fun q r0 h0 h hq e1 e2 e3 e4 => ?_
  subst e1; subst e2; subst e3; subst e4
  exact P_X12_clear_0 hq l0 h
set_option maxRecDepth 100000 in
set_option maxHeartbeats 4000000 in
theorem P_X12_isBetween_0 {q : eT} {r0 : Int32} {h0 : eH} (hq : e_B q yX12_isBetween.cls cX12_isBetween 3 1 25 (some .boolean) yX12_isBetween.name) (l0 : Nat) (l1 : Int32) (l2 : Int32) (h : eH) : e_K eI q r0 h0 0 [(0, .ref l0), (1, .int l1), (2, .int l2)] [] h (F_X12_isBetween l0 l1 l2 h) := by
  unfold F_X12_isBetween
  refine k_aload_n hq dX12_isBetween_0 0 rfl ?_
  refine k_gi hq (C := RX12) (T := TX12) 11 26 rfl (by decide) (lay_X12 26 (by decide)) tw_953 dX12_isBetween_1 fun v1 => ?_
  refine k_aload_n hq dX12_isBetween_4 0 rfl ?_
  refine k_gi hq (C := RX12) (T := TX12) 11 24 rfl (by decide) (lay_X12 24 (by decide)) tw_951 dX12_isBetween_5 fun v2 => ?_
  refine k_icmp_ge hq (tgt := 35) dX12_isBetween_8 (by decide) (fun _ => ?_) (fun _ => ?_)
  · refine k_iconst hq dX12_isBetween_35 (v := 0) rfl ?_
    exact k_zret hq dX12_isBetween_36
  · refine k_aload_n hq dX12_isBetween_11 0 rfl ?_
    refine k_gr hq (C := RX12) (T := TX12) 11 25 rfl (by decide) (lay_X12 25 (by decide)) tw_952 dX12_isBetween_12 fun v3 => ?_
    refine k_aload_n hq dX12_isBetween_15 0 rfl ?_
    refine k_gi hq (C := RX12) (T := TX12) 11 26 rfl (by decide) (lay_X12 26 (by decide)) tw_953 dX12_isBetween_16 fun v4 => ?_
    refine k_iald hq dX12_isBetween_19 fun v5 => ?_
    refine k_i2l hq dX12_isBetween_20 ?_
    refine k_iload_n hq dX12_isBetween_21 1 rfl ?_
    refine k_i2l hq dX12_isBetween_22 ?_
    refine k_iload_n hq dX12_isBetween_23 2 rfl ?_
    refine k_i2l hq dX12_isBetween_24 ?_
    refine k_callS hq (na := 3) (As := [.long (v5.toInt64), .long (l1.toInt64), .long (l2.toInt64)]) (st := []) (con_X12_in _ _ _ _ (v5.toInt64) (l1.toInt64) (l2.toInt64)) tw_1059 tw_59 tw_1057 tw_1058 ⟨by decide, by decide, by decide +kernel⟩ rfl (by decide) rfl (Nat.le_of_ble_eq_true rfl) dX12_isBetween_25 fun v6 h7 => ?_
    refine k_if_eq hq (tgt := 35) dX12_isBetween_28 (by decide) (fun _ => ?_) (fun _ => ?_)
    · refine k_iconst hq dX12_isBetween_35 (v := 0) rfl ?_
      exact k_zret hq dX12_isBetween_36
    · refine k_iconst hq dX12_isBetween_31 (v := 1) rfl ?_
      refine k_goto hq (tgt := 36) dX12_isBetween_32 (by decide) ?_
      exact k_zret hq dX12_isBetween_36
theorem con_X12_isBetween (l : Launch) (G : eG) (B0 n : Nat) (l0 : Nat) (l1 : Int32) (l2 : Int32) : e_C eI l G B0 n yX12_isBetween cX12_isBetween 3 (some .boolean) 1 25 [.ref l0, .int l1, .int l2] (F_X12_isBetween l0 l1 l2) := by
  refine e_mk (by decide) (Nat.le_of_ble_eq_true rfl) fun q r0 h0 h hq e1 e2 e3 e4 => ?_
  subst e1; subst e2; subst e3; subst e4
  exact P_X12_isBetween_0 hq l0 l1 l2 h
set_option maxRecDepth 100000 in
set_option maxHeartbeats 4000000 in
theorem P_X12_next_129 {q : eT} {r0 : Unit} {h0 : eH} (hq : e_B q yX12_next.cls cX12_next 1 2 47 none yX12_next.name) (N : Nat) (k72 : Nat → eH → Option (Unit × eH)) (hk72 : ∀ (l0 : Nat) h, e_K eV q r0 h0 72 [(0, .ref l0)] [] h (k72 l0 h)) (l0 : Nat) (s0 : Nat) (s1 : Int64) (h : eH) : e_K eV q r0 h0 129 [(0, .ref l0)] [.long s1, .ref s0] h (F_X12_next_129 N k72 l0 s0 s1 h) := by
  unfold F_X12_next_129
  refine k_p hq (C := RX12) (T := TX12) 11 29 rfl (by decide) lay_X12 tyX12 tyX12_ok nmX12 tw_956 rfl rfl rfl dX12_next_129 fun h1 => ?_
  refine k_aload_n hq dX12_next_132 0 rfl ?_
  refine k_dup hq dX12_next_133 rfl ?_
  refine k_gi hq (C := RX12) (T := TX12) 11 26 rfl (by decide) (lay_X12 26 (by decide)) tw_953 dX12_next_134 fun v2 => ?_
  refine k_iconst hq dX12_next_137 (v := 1) rfl ?_
  refine k_iadd hq dX12_next_138 ?_
  refine k_p hq (C := RX12) (T := TX12) 11 26 rfl (by decide) lay_X12 tyX12 tyX12_ok nmX12 tw_953 rfl rfl rfl dX12_next_139 fun h3 => ?_
  refine k_goto hq (tgt := 72) dX12_next_142 (by decide) ?_
  exact k_sub [0] rfl (hk72 l0 h3)
set_option maxRecDepth 100000 in
set_option maxHeartbeats 4000000 in
theorem P_X12_next_72b {q : eT} {r0 : Unit} {h0 : eH} (hq : e_B q yX12_next.cls cX12_next 1 2 47 none yX12_next.name) (N : Nat) (k72 : Nat → eH → Option (Unit × eH)) (hk72 : ∀ (l0 : Nat) h, e_K eV q r0 h0 72 [(0, .ref l0)] [] h (k72 l0 h)) (l0 : Nat) (h : eH) : e_K eV q r0 h0 72 [(0, .ref l0)] [] h (F_X12_next_72b N k72 l0 h) := by
  unfold F_X12_next_72b
  refine k_aload_n hq dX12_next_72 0 rfl ?_
  refine k_bipush hq dX12_next_73 (v := 97) rfl ?_
  refine k_bipush hq dX12_next_75 (v := 122) rfl ?_
  refine k_callV hq (na := 2) (As := [.int 97, .int 122]) (st := []) 11 (C := RX12) (T := TX12) rfl (con_X12_isBetween _ _ _ _ l0 97 122) tw_1071 tw_59 tw_1068 tw_1070 tw_23 ⟨by decide, by decide, by decide +kernel⟩ rfl (by decide) rfl (Nat.le_of_ble_eq_true rfl) dX12_next_77 fun v1 h2 => ?_
  refine k_if_eq hq (tgt := 250) dX12_next_80 (by decide) (fun _ => ?_) (fun _ => ?_)
  · exact k_vret hq dX12_next_250
  · refine k_aload_n hq dX12_next_83 0 rfl ?_
    refine k_aload_n hq dX12_next_84 0 rfl ?_
    refine k_gi hq (C := RX12) (T := TX12) 11 26 rfl (by decide) (lay_X12 26 (by decide)) tw_953 dX12_next_85 fun v3 => ?_
    refine k_aload_n hq dX12_next_88 0 rfl ?_
    refine k_gi hq (C := RX12) (T := TX12) 11 27 rfl (by decide) (lay_X12 27 (by decide)) tw_954 dX12_next_89 fun v4 => ?_
    refine k_isub hq dX12_next_92 ?_
    refine k_bipush hq dX12_next_93 (v := 6) rfl ?_
    refine k_icmp_ge hq (tgt := 126) dX12_next_95 (by decide) (fun _ => ?_) (fun _ => ?_)
    · refine k_ldc2 hq (v := (-1)) tw_1082 dX12_next_126 ?_
      exact k_sub [0] rfl (P_X12_next_129 hq N k72 hk72 l0 l0 (-1) h2)
    · refine k_ldc2 hq (v := 32) tw_1080 dX12_next_98 ?_
      refine k_aload_n hq dX12_next_101 0 rfl ?_
      refine k_gl hq (C := RX12) (T := TX12) 11 29 rfl (by decide) (lay_X12 29 (by decide)) tw_956 dX12_next_102 fun v5 => ?_
      refine k_lmul hq dX12_next_105 ?_
      refine k_aload_n hq dX12_next_106 0 rfl ?_
      refine k_gr hq (C := RX12) (T := TX12) 11 25 rfl (by decide) (lay_X12 25 (by decide)) tw_952 dX12_next_107 fun v6 => ?_
      refine k_aload_n hq dX12_next_110 0 rfl ?_
      refine k_gi hq (C := RX12) (T := TX12) 11 26 rfl (by decide) (lay_X12 26 (by decide)) tw_953 dX12_next_111 fun v7 => ?_
      refine k_iald hq dX12_next_114 fun v8 => ?_
      refine k_i2l hq dX12_next_115 ?_
      refine k_ladd hq dX12_next_116 ?_
      refine k_ldc2 hq (v := 97) tw_1081 dX12_next_117 ?_
      refine k_lsub hq dX12_next_120 ?_
      refine k_lconst hq dX12_next_121 (v := 1) rfl ?_
      refine k_ladd hq dX12_next_122 ?_
      refine k_goto hq (tgt := 129) dX12_next_123 (by decide) ?_
      exact k_sub [0] rfl (P_X12_next_129 hq N k72 hk72 l0 l0 ((((32 * v5) + (v8.toInt64)) - 97) + 1) h2)
theorem Q_X12_next_72 {q : eT} {r0 : Unit} {h0 : eH} (hq : e_B q yX12_next.cls cX12_next 1 2 47 none yX12_next.name) (N : Nat) (l0 : Nat) (h : eH) : e_K eV q r0 h0 72 [(0, .ref l0)] [] h (L_X12_next_72 N l0 h) :=
  k_loop (mk := (fun s => [(0, .ref s.1)])) (hp := fun s => s.2) (fun k hk s => P_X12_next_72b hq N (fun l0 h => k (l0, h)) (fun l0 h => hk (l0, h)) s.1 s.2) N (l0, h)
set_option maxRecDepth 100000 in
set_option maxHeartbeats 4000000 in
theorem P_X12_next_188b {q : eT} {r0 : Unit} {h0 : eH} (hq : e_B q yX12_next.cls cX12_next 1 2 47 none yX12_next.name) (N : Nat) (k188 : Nat → eH → Option (Unit × eH)) (hk188 : ∀ (l0 : Nat) h, e_K eV q r0 h0 188 [(0, .ref l0)] [] h (k188 l0 h)) (l0 : Nat) (h : eH) : e_K eV q r0 h0 188 [(0, .ref l0)] [] h (F_X12_next_188b N k188 l0 h) := by
  unfold F_X12_next_188b
  refine k_aload_n hq dX12_next_188 0 rfl ?_
  refine k_bipush hq dX12_next_189 (v := 48) rfl ?_
  refine k_bipush hq dX12_next_191 (v := 57) rfl ?_
  refine k_callV hq (na := 2) (As := [.int 48, .int 57]) (st := []) 11 (C := RX12) (T := TX12) rfl (con_X12_isBetween _ _ _ _ l0 48 57) tw_1071 tw_59 tw_1068 tw_1070 tw_23 ⟨by decide, by decide, by decide +kernel⟩ rfl (by decide) rfl (Nat.le_of_ble_eq_true rfl) dX12_next_193 fun v1 h2 => ?_
  refine k_if_eq hq (tgt := 250) dX12_next_196 (by decide) (fun _ => ?_) (fun _ => ?_)
  · exact k_vret hq dX12_next_250
  · refine k_aload_n hq dX12_next_199 0 rfl ?_
    refine k_iconst hq dX12_next_200 (v := 4) rfl ?_
    refine k_p hq (C := RX12) (T := TX12) 11 28 rfl (by decide) lay_X12 tyX12 tyX12_ok nmX12 tw_955 rfl rfl rfl dX12_next_201 fun h3 => ?_
    refine k_aload_n hq dX12_next_204 0 rfl ?_
    refine k_dup hq dX12_next_205 rfl ?_
    refine k_gi hq (C := RX12) (T := TX12) 11 26 rfl (by decide) (lay_X12 26 (by decide)) tw_953 dX12_next_206 fun v4 => ?_
    refine k_iconst hq dX12_next_209 (v := 1) rfl ?_
    refine k_iadd hq dX12_next_210 ?_
    refine k_p hq (C := RX12) (T := TX12) 11 26 rfl (by decide) lay_X12 tyX12 tyX12_ok nmX12 tw_953 rfl rfl rfl dX12_next_211 fun h5 => ?_
    refine k_goto hq (tgt := 188) dX12_next_214 (by decide) ?_
    exact k_sub [0] rfl (hk188 l0 h5)
theorem Q_X12_next_188 {q : eT} {r0 : Unit} {h0 : eH} (hq : e_B q yX12_next.cls cX12_next 1 2 47 none yX12_next.name) (N : Nat) (l0 : Nat) (h : eH) : e_K eV q r0 h0 188 [(0, .ref l0)] [] h (L_X12_next_188 N l0 h) :=
  k_loop (mk := (fun s => [(0, .ref s.1)])) (hp := fun s => s.2) (fun k hk s => P_X12_next_188b hq N (fun l0 h => k (l0, h)) (fun l0 h => hk (l0, h)) s.1 s.2) N (l0, h)
set_option maxRecDepth 100000 in
set_option maxHeartbeats 4000000 in
theorem P_X12_next_237 {q : eT} {r0 : Unit} {h0 : eH} (hq : e_B q yX12_next.cls cX12_next 1 2 47 none yX12_next.name) (N : Nat) (l0 : Nat) (s0 : Nat) (s1 : Int32) (h : eH) : e_K eV q r0 h0 237 [(0, .ref l0)] [.int s1, .ref s0] h (F_X12_next_237 N l0 s0 s1 h) := by
  unfold F_X12_next_237
  refine k_p hq (C := RX12) (T := TX12) 11 28 rfl (by decide) lay_X12 tyX12 tyX12_ok nmX12 tw_955 rfl rfl rfl dX12_next_237 fun h1 => ?_
  refine k_aload_n hq dX12_next_240 0 rfl ?_
  refine k_dup hq dX12_next_241 rfl ?_
  refine k_gi hq (C := RX12) (T := TX12) 11 26 rfl (by decide) (lay_X12 26 (by decide)) tw_953 dX12_next_242 fun v2 => ?_
  refine k_iconst hq dX12_next_245 (v := 1) rfl ?_
  refine k_iadd hq dX12_next_246 ?_
  refine k_p hq (C := RX12) (T := TX12) 11 26 rfl (by decide) lay_X12 tyX12 tyX12_ok nmX12 tw_953 rfl rfl rfl dX12_next_247 fun h3 => ?_
  exact k_vret hq dX12_next_250
set_option maxRecDepth 100000 in
set_option maxHeartbeats 4000000 in
theorem P_X12_next_0b {q : eT} {r0 : Unit} {h0 : eH} (hq : e_B q yX12_next.cls cX12_next 1 2 47 none yX12_next.name) (N : Nat) (k0 : Nat → eH → Option (Unit × eH)) (hk0 : ∀ (l0 : Nat) h, e_K eV q r0 h0 0 [(0, .ref l0)] [] h (k0 l0 h)) (l0 : Nat) (h : eH) : e_K eV q r0 h0 0 [(0, .ref l0)] [] h (F_X12_next_0b N k0 l0 h) := by
  unfold F_X12_next_0b
  refine k_aload_n hq dX12_next_0 0 rfl ?_
  refine k_bipush hq dX12_next_1 (v := 32) rfl ?_
  refine k_bipush hq dX12_next_3 (v := 32) rfl ?_
  refine k_callV hq (na := 2) (As := [.int 32, .int 32]) (st := []) 11 (C := RX12) (T := TX12) rfl (con_X12_isBetween _ _ _ _ l0 32 32) tw_1071 tw_59 tw_1068 tw_1070 tw_23 ⟨by decide, by decide, by decide +kernel⟩ rfl (by decide) rfl (Nat.le_of_ble_eq_true rfl) dX12_next_5 fun v1 h2 => ?_
  refine k_if_eq hq (tgt := 24) dX12_next_8 (by decide) (fun _ => ?_) (fun _ => ?_)
  · refine k_aload_n hq dX12_next_24 0 rfl ?_
    refine k_aload_n hq dX12_next_25 0 rfl ?_
    refine k_gi hq (C := RX12) (T := TX12) 11 26 rfl (by decide) (lay_X12 26 (by decide)) tw_953 dX12_next_26 fun v3 => ?_
    refine k_p hq (C := RX12) (T := TX12) 11 27 rfl (by decide) lay_X12 tyX12 tyX12_ok nmX12 tw_954 rfl rfl rfl dX12_next_29 fun h4 => ?_
    refine k_aload_n hq dX12_next_32 0 rfl ?_
    refine k_lconst hq dX12_next_33 (v := 0) rfl ?_
    refine k_p hq (C := RX12) (T := TX12) 11 29 rfl (by decide) lay_X12 tyX12 tyX12_ok nmX12 tw_956 rfl rfl rfl dX12_next_34 fun h5 => ?_
    refine k_aload_n hq dX12_next_37 0 rfl ?_
    refine k_gi hq (C := RX12) (T := TX12) 11 26 rfl (by decide) (lay_X12 26 (by decide)) tw_953 dX12_next_38 fun v6 => ?_
    refine k_aload_n hq dX12_next_41 0 rfl ?_
    refine k_gi hq (C := RX12) (T := TX12) 11 24 rfl (by decide) (lay_X12 24 (by decide)) tw_951 dX12_next_42 fun v7 => ?_
    refine k_icmp_ne hq (tgt := 56) dX12_next_45 (by decide) (fun _ => ?_) (fun _ => ?_)
    · refine k_aload_n hq dX12_next_48 0 rfl ?_
      refine k_iconst hq dX12_next_49 (v := 0) rfl ?_
      refine k_p hq (C := RX12) (T := TX12) 11 28 rfl (by decide) lay_X12 tyX12 tyX12_ok nmX12 tw_955 rfl rfl rfl dX12_next_50 fun h23 => ?_
      refine k_goto hq (tgt := 250) dX12_next_53 (by decide) ?_
      exact k_vret hq dX12_next_250
    · refine k_aload_n hq dX12_next_56 0 rfl ?_
      refine k_bipush hq dX12_next_57 (v := 97) rfl ?_
      refine k_bipush hq dX12_next_59 (v := 122) rfl ?_
      refine k_callV hq (na := 2) (As := [.int 97, .int 122]) (st := []) 11 (C := RX12) (T := TX12) rfl (con_X12_isBetween _ _ _ _ l0 97 122) tw_1071 tw_59 tw_1068 tw_1070 tw_23 ⟨by decide, by decide, by decide +kernel⟩ rfl (by decide) rfl (Nat.le_of_ble_eq_true rfl) dX12_next_61 fun v8 h9 => ?_
      refine k_if_eq hq (tgt := 145) dX12_next_64 (by decide) (fun _ => ?_) (fun _ => ?_)
      · refine k_aload_n hq dX12_next_145 0 rfl ?_
        refine k_bipush hq dX12_next_146 (v := 48) rfl ?_
        refine k_bipush hq dX12_next_148 (v := 57) rfl ?_
        refine k_callV hq (na := 2) (As := [.int 48, .int 57]) (st := []) 11 (C := RX12) (T := TX12) rfl (con_X12_isBetween _ _ _ _ l0 48 57) tw_1071 tw_59 tw_1068 tw_1070 tw_23 ⟨by decide, by decide, by decide +kernel⟩ rfl (by decide) rfl (Nat.le_of_ble_eq_true rfl) dX12_next_150 fun v10 h11 => ?_
        refine k_if_eq hq (tgt := 217) dX12_next_153 (by decide) (fun _ => ?_) (fun _ => ?_)
        · refine k_aload_n hq dX12_next_217 0 rfl ?_
          refine k_aload_n hq dX12_next_218 0 rfl ?_
          refine k_gr hq (C := RX12) (T := TX12) 11 25 rfl (by decide) (lay_X12 25 (by decide)) tw_952 dX12_next_219 fun v12 => ?_
          refine k_aload_n hq dX12_next_222 0 rfl ?_
          refine k_gi hq (C := RX12) (T := TX12) 11 26 rfl (by decide) (lay_X12 26 (by decide)) tw_953 dX12_next_223 fun v13 => ?_
          refine k_iald hq dX12_next_226 fun v14 => ?_
          refine k_bipush hq dX12_next_227 (v := 59) rfl ?_
          refine k_icmp_ne hq (tgt := 236) dX12_next_229 (by decide) (fun _ => ?_) (fun _ => ?_)
          · refine k_iconst hq dX12_next_232 (v := 3) rfl ?_
            refine k_goto hq (tgt := 237) dX12_next_233 (by decide) ?_
            exact k_sub [0] rfl (P_X12_next_237 hq N l0 l0 3 h11)
          · refine k_iconst hq dX12_next_236 (v := 4) rfl ?_
            exact k_sub [0] rfl (P_X12_next_237 hq N l0 l0 4 h11)
        · refine k_aload_n hq dX12_next_156 0 rfl ?_
          refine k_aload_n hq dX12_next_157 0 rfl ?_
          refine k_gr hq (C := RX12) (T := TX12) 11 25 rfl (by decide) (lay_X12 25 (by decide)) tw_952 dX12_next_158 fun v15 => ?_
          refine k_aload_n hq dX12_next_161 0 rfl ?_
          refine k_gi hq (C := RX12) (T := TX12) 11 26 rfl (by decide) (lay_X12 26 (by decide)) tw_953 dX12_next_162 fun v16 => ?_
          refine k_iald hq dX12_next_165 fun v17 => ?_
          refine k_bipush hq dX12_next_166 (v := 48) rfl ?_
          refine k_isub hq dX12_next_168 ?_
          refine k_i2l hq dX12_next_169 ?_
          refine k_p hq (C := RX12) (T := TX12) 11 29 rfl (by decide) lay_X12 tyX12 tyX12_ok nmX12 tw_956 rfl rfl rfl dX12_next_170 fun h18 => ?_
          refine k_aload_n hq dX12_next_173 0 rfl ?_
          refine k_dup hq dX12_next_174 rfl ?_
          refine k_gi hq (C := RX12) (T := TX12) 11 26 rfl (by decide) (lay_X12 26 (by decide)) tw_953 dX12_next_175 fun v19 => ?_
          refine k_iconst hq dX12_next_178 (v := 1) rfl ?_
          refine k_iadd hq dX12_next_179 ?_
          refine k_p hq (C := RX12) (T := TX12) 11 26 rfl (by decide) lay_X12 tyX12 tyX12_ok nmX12 tw_953 rfl rfl rfl dX12_next_180 fun h20 => ?_
          refine k_aload_n hq dX12_next_183 0 rfl ?_
          refine k_iconst hq dX12_next_184 (v := 2) rfl ?_
          refine k_p hq (C := RX12) (T := TX12) 11 28 rfl (by decide) lay_X12 tyX12 tyX12_ok nmX12 tw_955 rfl rfl rfl dX12_next_185 fun h21 => ?_
          exact k_sub [0] rfl (Q_X12_next_188 hq N l0 h21)
      · refine k_aload_n hq dX12_next_67 0 rfl ?_
        refine k_iconst hq dX12_next_68 (v := 1) rfl ?_
        refine k_p hq (C := RX12) (T := TX12) 11 28 rfl (by decide) lay_X12 tyX12 tyX12_ok nmX12 tw_955 rfl rfl rfl dX12_next_69 fun h22 => ?_
        exact k_sub [0] rfl (Q_X12_next_72 hq N l0 h22)
  · refine k_aload_n hq dX12_next_11 0 rfl ?_
    refine k_dup hq dX12_next_12 rfl ?_
    refine k_gi hq (C := RX12) (T := TX12) 11 26 rfl (by decide) (lay_X12 26 (by decide)) tw_953 dX12_next_13 fun v24 => ?_
    refine k_iconst hq dX12_next_16 (v := 1) rfl ?_
    refine k_iadd hq dX12_next_17 ?_
    refine k_p hq (C := RX12) (T := TX12) 11 26 rfl (by decide) lay_X12 tyX12 tyX12_ok nmX12 tw_953 rfl rfl rfl dX12_next_18 fun h25 => ?_
    refine k_goto hq (tgt := 0) dX12_next_21 (by decide) ?_
    exact k_sub [0] rfl (hk0 l0 h25)
theorem Q_X12_next_0 {q : eT} {r0 : Unit} {h0 : eH} (hq : e_B q yX12_next.cls cX12_next 1 2 47 none yX12_next.name) (N : Nat) (l0 : Nat) (h : eH) : e_K eV q r0 h0 0 [(0, .ref l0)] [] h (L_X12_next_0 N l0 h) :=
  k_loop (mk := (fun s => [(0, .ref s.1)])) (hp := fun s => s.2) (fun k hk s => P_X12_next_0b hq N (fun l0 h => k (l0, h)) (fun l0 h => hk (l0, h)) s.1 s.2) N (l0, h)
theorem con_X12_next (l : Launch) (G : eG) (B0 n : Nat) (N : Nat) (l0 : Nat) : e_C eV l G B0 n yX12_next cX12_next 1 none 2 47 [.ref l0] (F_X12_next N l0) := by
  refine e_mk (by decide) (Nat.le_of_ble_eq_true rfl) fun q r0 h0 h hq e1 e2 e3 e4 => ?_
  subst e1; subst e2; subst e3; subst e4
  exact Q_X12_next_0 hq N l0 h
set_option maxRecDepth 100000 in
set_option maxHeartbeats 4000000 in
theorem P_X12_word_0 {q : eT} {r0 : Int64} {h0 : eH} (hq : e_B q yX12_word.cls cX12_word 5 0 0 (some .long) yX12_word.name) (l0 : Int32) (l1 : Int32) (l2 : Int32) (l3 : Int32) (l4 : Int32) (h : eH) : e_K eL q r0 h0 0 [(0, .int l0), (1, .int l1), (2, .int l2), (3, .int l3), (4, .int l4)] [] h (F_X12_word l0 l1 l2 l3 l4 h) := by
  unfold F_X12_word
  refine k_iload_n hq dX12_word_0 0 rfl ?_
  refine k_i2l hq dX12_word_1 ?_
  refine k_ldc2 hq (v := 32) tw_1080 dX12_word_2 ?_
  refine k_lmul hq dX12_word_5 ?_
  refine k_iload_n hq dX12_word_6 1 rfl ?_
  refine k_i2l hq dX12_word_7 ?_
  refine k_ladd hq dX12_word_8 ?_
  refine k_ldc2 hq (v := 32) tw_1080 dX12_word_9 ?_
  refine k_lmul hq dX12_word_12 ?_
  refine k_iload_n hq dX12_word_13 2 rfl ?_
  refine k_i2l hq dX12_word_14 ?_
  refine k_ladd hq dX12_word_15 ?_
  refine k_ldc2 hq (v := 32) tw_1080 dX12_word_16 ?_
  refine k_lmul hq dX12_word_19 ?_
  refine k_iload_n hq dX12_word_20 3 rfl ?_
  refine k_i2l hq dX12_word_21 ?_
  refine k_ladd hq dX12_word_22 ?_
  refine k_ldc2 hq (v := 32) tw_1080 dX12_word_23 ?_
  refine k_lmul hq dX12_word_26 ?_
  refine k_iload hq dX12_word_27 4 rfl ?_
  refine k_i2l hq dX12_word_29 ?_
  refine k_ladd hq dX12_word_30 ?_
  exact k_lret hq dX12_word_31
theorem con_X12_word (l : Launch) (G : eG) (B0 n : Nat) (l0 : Int32) (l1 : Int32) (l2 : Int32) (l3 : Int32) (l4 : Int32) : e_C eL l G B0 n yX12_word cX12_word 5 (some .long) 0 0 [.int l0, .int l1, .int l2, .int l3, .int l4] (F_X12_word l0 l1 l2 l3 l4) := by
  refine e_mk (by decide) (Nat.le_of_ble_eq_true rfl) fun q r0 h0 h hq e1 e2 e3 e4 => ?_
  subst e1; subst e2; subst e3; subst e4
  exact P_X12_word_0 hq l0 l1 l2 l3 l4 h
set_option maxRecDepth 100000 in
set_option maxHeartbeats 4000000 in
theorem P_X12_number_0 {q : eT} {r0 : Int32} {h0 : eH} (hq : e_B q yX12_number.cls cX12_number 3 3 67 (some .boolean) yX12_number.name) (N : Nat) (l0 : Nat) (l1 : Int32) (l2 : Int32) (h : eH) : e_K eI q r0 h0 0 [(0, .ref l0), (1, .int l1), (2, .int l2)] [] h (F_X12_number N l0 l1 l2 h) := by
  unfold F_X12_number
  refine k_aload_n hq dX12_number_0 0 rfl ?_
  refine k_callV hq (na := 0) (As := []) (st := []) 11 (C := RX12) (T := TX12) rfl (con_X12_next _ _ _ _ N l0) tw_1079 tw_59 tw_1076 tw_1078 tw_25 ⟨by decide, by decide, by decide +kernel⟩ rfl (by decide) rfl (Nat.le_of_ble_eq_true rfl) dX12_number_1 fun v1 h2 => ?_
  refine k_aload_n hq dX12_number_4 0 rfl ?_
  refine k_gi hq (C := RX12) (T := TX12) 11 28 rfl (by decide) (lay_X12 28 (by decide)) tw_955 dX12_number_5 fun v3 => ?_
  refine k_iconst hq dX12_number_8 (v := 2) rfl ?_
  refine k_icmp_ne hq (tgt := 30) dX12_number_9 (by decide) (fun _ => ?_) (fun _ => ?_)
  · refine k_aload_n hq dX12_number_12 0 rfl ?_
    refine k_gl hq (C := RX12) (T := TX12) 11 29 rfl (by decide) (lay_X12 29 (by decide)) tw_956 dX12_number_13 fun v4 => ?_
    refine k_iload_n hq dX12_number_16 1 rfl ?_
    refine k_i2l hq dX12_number_17 ?_
    refine k_iload_n hq dX12_number_18 2 rfl ?_
    refine k_i2l hq dX12_number_19 ?_
    refine k_callS hq (na := 3) (As := [.long v4, .long (l1.toInt64), .long (l2.toInt64)]) (st := []) (con_X12_in _ _ _ _ v4 (l1.toInt64) (l2.toInt64)) tw_1059 tw_59 tw_1057 tw_1058 ⟨by decide, by decide, by decide +kernel⟩ rfl (by decide) rfl (Nat.le_of_ble_eq_true rfl) dX12_number_20 fun v5 h6 => ?_
    refine k_if_eq hq (tgt := 30) dX12_number_23 (by decide) (fun _ => ?_) (fun _ => ?_)
    · refine k_iconst hq dX12_number_30 (v := 0) rfl ?_
      exact k_zret hq dX12_number_31
    · refine k_iconst hq dX12_number_26 (v := 1) rfl ?_
      refine k_goto hq (tgt := 31) dX12_number_27 (by decide) ?_
      exact k_zret hq dX12_number_31
  · refine k_iconst hq dX12_number_30 (v := 0) rfl ?_
    exact k_zret hq dX12_number_31
theorem con_X12_number (l : Launch) (G : eG) (B0 n : Nat) (N : Nat) (l0 : Nat) (l1 : Int32) (l2 : Int32) : e_C eI l G B0 n yX12_number cX12_number 3 (some .boolean) 3 67 [.ref l0, .int l1, .int l2] (F_X12_number N l0 l1 l2) := by
  refine e_mk (by decide) (Nat.le_of_ble_eq_true rfl) fun q r0 h0 h hq e1 e2 e3 e4 => ?_
  subst e1; subst e2; subst e3; subst e4
  exact P_X12_number_0 hq N l0 l1 l2 h
set_option maxRecDepth 100000 in
set_option maxHeartbeats 4000000 in
theorem P_X12_stops_0 {q : eT} {r0 : Int32} {h0 : eH} (hq : e_B q yX12_stops.cls cX12_stops 1 3 67 (some .boolean) yX12_stops.name) (N : Nat) (l0 : Nat) (h : eH) : e_K eI q r0 h0 0 [(0, .ref l0)] [] h (F_X12_stops N l0 h) := by
  unfold F_X12_stops
  refine k_aload_n hq dX12_stops_0 0 rfl ?_
  refine k_callV hq (na := 0) (As := []) (st := []) 11 (C := RX12) (T := TX12) rfl (con_X12_next _ _ _ _ N l0) tw_1079 tw_59 tw_1076 tw_1078 tw_25 ⟨by decide, by decide, by decide +kernel⟩ rfl (by decide) rfl (Nat.le_of_ble_eq_true rfl) dX12_stops_1 fun v1 h2 => ?_
  refine k_aload_n hq dX12_stops_4 0 rfl ?_
  refine k_gi hq (C := RX12) (T := TX12) 11 28 rfl (by decide) (lay_X12 28 (by decide)) tw_955 dX12_stops_5 fun v3 => ?_
  refine k_iconst hq dX12_stops_8 (v := 3) rfl ?_
  refine k_icmp_ne hq (tgt := 16) dX12_stops_9 (by decide) (fun _ => ?_) (fun _ => ?_)
  · refine k_iconst hq dX12_stops_12 (v := 1) rfl ?_
    refine k_goto hq (tgt := 17) dX12_stops_13 (by decide) ?_
    exact k_zret hq dX12_stops_17
  · refine k_iconst hq dX12_stops_16 (v := 0) rfl ?_
    exact k_zret hq dX12_stops_17
theorem con_X12_stops (l : Launch) (G : eG) (B0 n : Nat) (N : Nat) (l0 : Nat) : e_C eI l G B0 n yX12_stops cX12_stops 1 (some .boolean) 3 67 [.ref l0] (F_X12_stops N l0) := by
  refine e_mk (by decide) (Nat.le_of_ble_eq_true rfl) fun q r0 h0 h hq e1 e2 e3 e4 => ?_
  subst e1; subst e2; subst e3; subst e4
  exact P_X12_stops_0 hq N l0 h
set_option maxRecDepth 100000 in
set_option maxHeartbeats 4000000 in
theorem P_X12_readsItem_237 {q : eT} {r0 : Int32} {h0 : eH} (hq : e_B q yX12_readsItem.cls cX12_readsItem 4 4 89 (some .boolean) yX12_readsItem.name) (N : Nat) (l0 : Nat) (s0 : Nat) (s1 : Int32) (s2 : Int32) (h : eH) : e_K eI q r0 h0 237 [(0, .ref l0)] [.int s2, .int s1, .ref s0] h (F_X12_readsItem_237 N l0 s0 s1 s2 h) := by
  unfold F_X12_readsItem_237
  refine k_iast hq dX12_readsItem_237 fun h1 => ?_
  refine k_aload_n hq dX12_readsItem_238 0 rfl ?_
  refine k_dup hq dX12_readsItem_239 rfl ?_
  refine k_gi hq (C := RX12) (T := TX12) 11 33 rfl (by decide) (lay_X12 33 (by decide)) tw_960 dX12_readsItem_240 fun v2 => ?_
  refine k_iconst hq dX12_readsItem_243 (v := 1) rfl ?_
  refine k_iadd hq dX12_readsItem_244 ?_
  refine k_p hq (C := RX12) (T := TX12) 11 33 rfl (by decide) lay_X12 tyX12 tyX12_ok nmX12 tw_960 rfl rfl rfl dX12_readsItem_245 fun h3 => ?_
  refine k_aload_n hq dX12_readsItem_248 0 rfl ?_
  refine k_callV hq (na := 0) (As := []) (st := []) 11 (C := RX12) (T := TX12) rfl (con_X12_stops _ _ _ _ N l0) tw_1093 tw_59 tw_1090 tw_1092 tw_27 ⟨by decide, by decide, by decide +kernel⟩ rfl (by decide) rfl (Nat.le_of_ble_eq_true rfl) dX12_readsItem_249 fun v4 h5 => ?_
  exact k_zret hq dX12_readsItem_252
set_option maxRecDepth 100000 in
set_option maxHeartbeats 4000000 in
theorem P_X12_readsItem_220 {q : eT} {r0 : Int32} {h0 : eH} (hq : e_B q yX12_readsItem.cls cX12_readsItem 4 4 89 (some .boolean) yX12_readsItem.name) (N : Nat) (l0 : Nat) (l3 : Int32) (h : eH) : e_K eI q r0 h0 220 [(0, .ref l0), (3, .int l3)] [] h (F_X12_readsItem_220 N l0 l3 h) := by
  unfold F_X12_readsItem_220
  refine k_aload_n hq dX12_readsItem_220 0 rfl ?_
  refine k_gr hq (C := RX12) (T := TX12) 11 34 rfl (by decide) (lay_X12 34 (by decide)) tw_961 dX12_readsItem_221 fun v1 => ?_
  refine k_aload_n hq dX12_readsItem_224 0 rfl ?_
  refine k_gi hq (C := RX12) (T := TX12) 11 33 rfl (by decide) (lay_X12 33 (by decide)) tw_960 dX12_readsItem_225 fun v2 => ?_
  refine k_iload_n hq dX12_readsItem_228 1 rfl ?_
  refine k_if_eq hq (tgt := 236) dX12_readsItem_229 (by decide) (fun _ => ?_) (fun _ => ?_)
  · refine k_iconst hq dX12_readsItem_236 (v := 1) rfl ?_
    exact k_sub [0] rfl (P_X12_readsItem_237 hq N l0 v1 v2 1 h)
  · refine k_iconst hq dX12_readsItem_232 (v := 0) rfl ?_
    refine k_goto hq (tgt := 237) dX12_readsItem_233 (by decide) ?_
    exact k_sub [0] rfl (P_X12_readsItem_237 hq N l0 v1 v2 0 h)
set_option maxRecDepth 100000 in
set_option maxHeartbeats 4000000 in
theorem P_X12_readsItem_189 {q : eT} {r0 : Int32} {h0 : eH} (hq : e_B q yX12_readsItem.cls cX12_readsItem 4 4 89 (some .boolean) yX12_readsItem.name) (N : Nat) (l0 : Nat) (l1 : Int64) (s0 : Int32) (h : eH) : e_K eI q r0 h0 189 [(0, .ref l0), (1, .long l1)] [.int s0] h (F_X12_readsItem_189 N l0 l1 s0 h) := by
  unfold F_X12_readsItem_189
  refine k_istore_n hq dX12_readsItem_189 rfl (by decide) (ls' := [(3, .int s0), (0, .ref l0), (1, .long l1)]) rfl ?_
  refine k_aload_n hq dX12_readsItem_190 1 rfl ?_
  refine k_gi hq (C := RX12) (T := TX12) 11 33 rfl (by decide) (lay_X12 33 (by decide)) tw_960 dX12_readsItem_191 fun v1 => ?_
  refine k_iconst hq dX12_readsItem_194 (v := 4) rfl ?_
  refine k_icmp_eq hq (tgt := 218) dX12_readsItem_195 (by decide) (fun _ => ?_) (fun _ => ?_)
  · refine k_iconst hq dX12_readsItem_218 (v := 0) rfl ?_
    exact k_zret hq dX12_readsItem_219
  · refine k_iload_n hq dX12_readsItem_198 0 rfl ?_
    refine k_if_ne hq (tgt := 220) dX12_readsItem_199 (by decide) (fun _ => ?_) (fun _ => ?_)
    · refine k_lload_n hq dX12_readsItem_202 2 rfl ?_
      refine k_iconst hq dX12_readsItem_203 (v := 0) rfl ?_
      refine k_iconst hq dX12_readsItem_204 (v := 2) rfl ?_
      refine k_bipush hq dX12_readsItem_205 (v := 9) rfl ?_
      refine k_bipush hq dX12_readsItem_207 (v := 20) rfl ?_
      refine k_bipush hq dX12_readsItem_209 (v := 19) rfl ?_
      refine k_callS hq (na := 5) (As := [.int 0, .int 2, .int 9, .int 20, .int 19]) (st := [.long l1]) (con_X12_word _ _ _ _ 0 2 9 20 19) tw_1085 tw_59 tw_1083 tw_1084 ⟨by decide, by decide, by decide +kernel⟩ rfl (by decide) rfl (Nat.le_of_ble_eq_true rfl) dX12_readsItem_211 fun v2 h3 => ?_
      refine k_lcmp hq dX12_readsItem_214 ?_
      refine k_if_eq hq (tgt := 220) dX12_readsItem_215 (by decide) (fun _ => ?_) (fun _ => ?_)
      · exact k_sub [1, 0] rfl (P_X12_readsItem_220 hq N l0 s0 h3)
      · refine k_iconst hq dX12_readsItem_218 (v := 0) rfl ?_
        exact k_zret hq dX12_readsItem_219
    · exact k_sub [1, 0] rfl (P_X12_readsItem_220 hq N l0 s0 h)
set_option maxRecDepth 100000 in
set_option maxHeartbeats 4000000 in
theorem P_X12_readsItem_0 {q : eT} {r0 : Int32} {h0 : eH} (hq : e_B q yX12_readsItem.cls cX12_readsItem 4 4 89 (some .boolean) yX12_readsItem.name) (N : Nat) (l0 : Nat) (h : eH) : e_K eI q r0 h0 0 [(0, .ref l0)] [] h (F_X12_readsItem N l0 h) := by
  unfold F_X12_readsItem
  refine k_aload_n hq dX12_readsItem_0 0 rfl ?_
  refine k_callV hq (na := 0) (As := []) (st := []) 11 (C := RX12) (T := TX12) rfl (con_X12_next _ _ _ _ N l0) tw_1079 tw_59 tw_1076 tw_1078 tw_25 ⟨by decide, by decide, by decide +kernel⟩ rfl (by decide) rfl (Nat.le_of_ble_eq_true rfl) dX12_readsItem_1 fun v1 h2 => ?_
  refine k_aload_n hq dX12_readsItem_4 0 rfl ?_
  refine k_gi hq (C := RX12) (T := TX12) 11 28 rfl (by decide) (lay_X12 28 (by decide)) tw_955 dX12_readsItem_5 fun v3 => ?_
  refine k_iconst hq dX12_readsItem_8 (v := 1) rfl ?_
  refine k_icmp_eq hq (tgt := 14) dX12_readsItem_9 (by decide) (fun _ => ?_) (fun _ => ?_)
  · refine k_aload_n hq dX12_readsItem_14 0 rfl ?_
    refine k_gl hq (C := RX12) (T := TX12) 11 29 rfl (by decide) (lay_X12 29 (by decide)) tw_956 dX12_readsItem_15 fun v4 => ?_
    refine k_lstore_n hq dX12_readsItem_18 rfl (by decide) (ls' := [(1, .long v4), (0, .ref l0)]) rfl ?_
    refine k_lload_n hq dX12_readsItem_19 0 rfl ?_
    refine k_bipush hq dX12_readsItem_20 (v := 19) rfl ?_
    refine k_bipush hq dX12_readsItem_22 (v := 9) rfl ?_
    refine k_bipush hq dX12_readsItem_24 (v := 20) rfl ?_
    refine k_iconst hq dX12_readsItem_26 (v := 5) rfl ?_
    refine k_bipush hq dX12_readsItem_27 (v := 19) rfl ?_
    refine k_callS hq (na := 5) (As := [.int 19, .int 9, .int 20, .int 5, .int 19]) (st := [.long v4]) (con_X12_word _ _ _ _ 19 9 20 5 19) tw_1085 tw_59 tw_1083 tw_1084 ⟨by decide, by decide, by decide +kernel⟩ rfl (by decide) rfl (Nat.le_of_ble_eq_true rfl) dX12_readsItem_29 fun v5 h6 => ?_
    refine k_lcmp hq dX12_readsItem_32 ?_
    refine k_if_ne hq (tgt := 68) dX12_readsItem_33 (by decide) (fun _ => ?_) (fun _ => ?_)
    · refine k_aload_n hq dX12_readsItem_36 1 rfl ?_
      refine k_gi hq (C := RX12) (T := TX12) 11 30 rfl (by decide) (lay_X12 30 (by decide)) tw_957 dX12_readsItem_37 fun v27 => ?_
      refine k_if_ne hq (tgt := 52) dX12_readsItem_40 (by decide) (fun _ => ?_) (fun _ => ?_)
      · refine k_aload_n hq dX12_readsItem_43 1 rfl ?_
        refine k_iconst hq dX12_readsItem_44 (v := 2) rfl ?_
        refine k_iconst hq dX12_readsItem_45 (v := 4) rfl ?_
        refine k_callV hq (na := 2) (As := [.int 2, .int 4]) (st := []) 11 (C := RX12) (T := TX12) rfl (con_X12_number _ _ _ _ N l0 2 4) tw_1089 tw_59 tw_1086 tw_1088 tw_26 ⟨by decide, by decide, by decide +kernel⟩ rfl (by decide) rfl (Nat.le_of_ble_eq_true rfl) dX12_readsItem_46 fun v28 h29 => ?_
        refine k_if_ne hq (tgt := 54) dX12_readsItem_49 (by decide) (fun _ => ?_) (fun _ => ?_)
        · refine k_iconst hq dX12_readsItem_52 (v := 0) rfl ?_
          exact k_zret hq dX12_readsItem_53
        · refine k_aload_n hq dX12_readsItem_54 1 rfl ?_
          refine k_aload_n hq dX12_readsItem_55 1 rfl ?_
          refine k_gl hq (C := RX12) (T := TX12) 11 29 rfl (by decide) (lay_X12 29 (by decide)) tw_956 dX12_readsItem_56 fun v30 => ?_
          refine k_l2i hq dX12_readsItem_59 ?_
          refine k_p hq (C := RX12) (T := TX12) 11 30 rfl (by decide) lay_X12 tyX12 tyX12_ok nmX12 tw_957 rfl rfl rfl dX12_readsItem_60 fun h31 => ?_
          refine k_aload_n hq dX12_readsItem_63 1 rfl ?_
          refine k_callV hq (na := 0) (As := []) (st := []) 11 (C := RX12) (T := TX12) rfl (con_X12_stops _ _ _ _ N l0) tw_1093 tw_59 tw_1090 tw_1092 tw_27 ⟨by decide, by decide, by decide +kernel⟩ rfl (by decide) rfl (Nat.le_of_ble_eq_true rfl) dX12_readsItem_64 fun v32 h33 => ?_
          exact k_zret hq dX12_readsItem_67
      · refine k_iconst hq dX12_readsItem_52 (v := 0) rfl ?_
        exact k_zret hq dX12_readsItem_53
    · refine k_lload_n hq dX12_readsItem_68 0 rfl ?_
      refine k_iconst hq dX12_readsItem_69 (v := 2) rfl ?_
      refine k_bipush hq dX12_readsItem_70 (v := 15) rfl ?_
      refine k_bipush hq dX12_readsItem_72 (v := 21) rfl ?_
      refine k_bipush hq dX12_readsItem_74 (v := 14) rfl ?_
      refine k_iconst hq dX12_readsItem_76 (v := 4) rfl ?_
      refine k_callS hq (na := 5) (As := [.int 2, .int 15, .int 21, .int 14, .int 4]) (st := [.long v4]) (con_X12_word _ _ _ _ 2 15 21 14 4) tw_1085 tw_59 tw_1083 tw_1084 ⟨by decide, by decide, by decide +kernel⟩ rfl (by decide) rfl (Nat.le_of_ble_eq_true rfl) dX12_readsItem_77 fun v7 h8 => ?_
      refine k_lcmp hq dX12_readsItem_80 ?_
      refine k_if_ne hq (tgt := 117) dX12_readsItem_81 (by decide) (fun _ => ?_) (fun _ => ?_)
      · refine k_aload_n hq dX12_readsItem_84 1 rfl ?_
        refine k_gi hq (C := RX12) (T := TX12) 11 31 rfl (by decide) (lay_X12 31 (by decide)) tw_958 dX12_readsItem_85 fun v20 => ?_
        refine k_if_ne hq (tgt := 101) dX12_readsItem_88 (by decide) (fun _ => ?_) (fun _ => ?_)
        · refine k_aload_n hq dX12_readsItem_91 1 rfl ?_
          refine k_iconst hq dX12_readsItem_92 (v := 1) rfl ?_
          refine k_bipush hq dX12_readsItem_93 (v := 6) rfl ?_
          refine k_callV hq (na := 2) (As := [.int 1, .int 6]) (st := []) 11 (C := RX12) (T := TX12) rfl (con_X12_number _ _ _ _ N l0 1 6) tw_1089 tw_59 tw_1086 tw_1088 tw_26 ⟨by decide, by decide, by decide +kernel⟩ rfl (by decide) rfl (Nat.le_of_ble_eq_true rfl) dX12_readsItem_95 fun v21 h22 => ?_
          refine k_if_ne hq (tgt := 103) dX12_readsItem_98 (by decide) (fun _ => ?_) (fun _ => ?_)
          · refine k_iconst hq dX12_readsItem_101 (v := 0) rfl ?_
            exact k_zret hq dX12_readsItem_102
          · refine k_aload_n hq dX12_readsItem_103 1 rfl ?_
            refine k_aload_n hq dX12_readsItem_104 1 rfl ?_
            refine k_gl hq (C := RX12) (T := TX12) 11 29 rfl (by decide) (lay_X12 29 (by decide)) tw_956 dX12_readsItem_105 fun v23 => ?_
            refine k_l2i hq dX12_readsItem_108 ?_
            refine k_p hq (C := RX12) (T := TX12) 11 31 rfl (by decide) lay_X12 tyX12 tyX12_ok nmX12 tw_958 rfl rfl rfl dX12_readsItem_109 fun h24 => ?_
            refine k_aload_n hq dX12_readsItem_112 1 rfl ?_
            refine k_callV hq (na := 0) (As := []) (st := []) 11 (C := RX12) (T := TX12) rfl (con_X12_stops _ _ _ _ N l0) tw_1093 tw_59 tw_1090 tw_1092 tw_27 ⟨by decide, by decide, by decide +kernel⟩ rfl (by decide) rfl (Nat.le_of_ble_eq_true rfl) dX12_readsItem_113 fun v25 h26 => ?_
            exact k_zret hq dX12_readsItem_116
        · refine k_iconst hq dX12_readsItem_101 (v := 0) rfl ?_
          exact k_zret hq dX12_readsItem_102
      · refine k_lload_n hq dX12_readsItem_117 0 rfl ?_
        refine k_bipush hq dX12_readsItem_118 (v := 12) rfl ?_
        refine k_bipush hq dX12_readsItem_120 (v := 9) rfl ?_
        refine k_bipush hq dX12_readsItem_122 (v := 13) rfl ?_
        refine k_bipush hq dX12_readsItem_124 (v := 9) rfl ?_
        refine k_bipush hq dX12_readsItem_126 (v := 20) rfl ?_
        refine k_callS hq (na := 5) (As := [.int 12, .int 9, .int 13, .int 9, .int 20]) (st := [.long v4]) (con_X12_word _ _ _ _ 12 9 13 9 20) tw_1085 tw_59 tw_1083 tw_1084 ⟨by decide, by decide, by decide +kernel⟩ rfl (by decide) rfl (Nat.le_of_ble_eq_true rfl) dX12_readsItem_128 fun v9 h10 => ?_
        refine k_lcmp hq dX12_readsItem_131 ?_
        refine k_if_ne hq (tgt := 167) dX12_readsItem_132 (by decide) (fun _ => ?_) (fun _ => ?_)
        · refine k_aload_n hq dX12_readsItem_135 1 rfl ?_
          refine k_gi hq (C := RX12) (T := TX12) 11 32 rfl (by decide) (lay_X12 32 (by decide)) tw_959 dX12_readsItem_136 fun v13 => ?_
          refine k_if_ne hq (tgt := 151) dX12_readsItem_139 (by decide) (fun _ => ?_) (fun _ => ?_)
          · refine k_aload_n hq dX12_readsItem_142 1 rfl ?_
            refine k_iconst hq dX12_readsItem_143 (v := 1) rfl ?_
            refine k_iconst hq dX12_readsItem_144 (v := 4) rfl ?_
            refine k_callV hq (na := 2) (As := [.int 1, .int 4]) (st := []) 11 (C := RX12) (T := TX12) rfl (con_X12_number _ _ _ _ N l0 1 4) tw_1089 tw_59 tw_1086 tw_1088 tw_26 ⟨by decide, by decide, by decide +kernel⟩ rfl (by decide) rfl (Nat.le_of_ble_eq_true rfl) dX12_readsItem_145 fun v14 h15 => ?_
            refine k_if_ne hq (tgt := 153) dX12_readsItem_148 (by decide) (fun _ => ?_) (fun _ => ?_)
            · refine k_iconst hq dX12_readsItem_151 (v := 0) rfl ?_
              exact k_zret hq dX12_readsItem_152
            · refine k_aload_n hq dX12_readsItem_153 1 rfl ?_
              refine k_aload_n hq dX12_readsItem_154 1 rfl ?_
              refine k_gl hq (C := RX12) (T := TX12) 11 29 rfl (by decide) (lay_X12 29 (by decide)) tw_956 dX12_readsItem_155 fun v16 => ?_
              refine k_l2i hq dX12_readsItem_158 ?_
              refine k_p hq (C := RX12) (T := TX12) 11 32 rfl (by decide) lay_X12 tyX12 tyX12_ok nmX12 tw_959 rfl rfl rfl dX12_readsItem_159 fun h17 => ?_
              refine k_aload_n hq dX12_readsItem_162 1 rfl ?_
              refine k_callV hq (na := 0) (As := []) (st := []) 11 (C := RX12) (T := TX12) rfl (con_X12_stops _ _ _ _ N l0) tw_1093 tw_59 tw_1090 tw_1092 tw_27 ⟨by decide, by decide, by decide +kernel⟩ rfl (by decide) rfl (Nat.le_of_ble_eq_true rfl) dX12_readsItem_163 fun v18 h19 => ?_
              exact k_zret hq dX12_readsItem_166
          · refine k_iconst hq dX12_readsItem_151 (v := 0) rfl ?_
            exact k_zret hq dX12_readsItem_152
        · refine k_lload_n hq dX12_readsItem_167 0 rfl ?_
          refine k_bipush hq dX12_readsItem_168 (v := 23) rfl ?_
          refine k_bipush hq dX12_readsItem_170 (v := 8) rfl ?_
          refine k_bipush hq dX12_readsItem_172 (v := 15) rfl ?_
          refine k_bipush hq dX12_readsItem_174 (v := 12) rfl ?_
          refine k_iconst hq dX12_readsItem_176 (v := 5) rfl ?_
          refine k_callS hq (na := 5) (As := [.int 23, .int 8, .int 15, .int 12, .int 5]) (st := [.long v4]) (con_X12_word _ _ _ _ 23 8 15 12 5) tw_1085 tw_59 tw_1083 tw_1084 ⟨by decide, by decide, by decide +kernel⟩ rfl (by decide) rfl (Nat.le_of_ble_eq_true rfl) dX12_readsItem_177 fun v11 h12 => ?_
          refine k_lcmp hq dX12_readsItem_180 ?_
          refine k_if_ne hq (tgt := 188) dX12_readsItem_181 (by decide) (fun _ => ?_) (fun _ => ?_)
          · refine k_iconst hq dX12_readsItem_184 (v := 1) rfl ?_
            refine k_goto hq (tgt := 189) dX12_readsItem_185 (by decide) ?_
            exact k_sub [1, 0] rfl (P_X12_readsItem_189 hq N l0 v4 1 h12)
          · refine k_iconst hq dX12_readsItem_188 (v := 0) rfl ?_
            exact k_sub [1, 0] rfl (P_X12_readsItem_189 hq N l0 v4 0 h12)
  · refine k_iconst hq dX12_readsItem_12 (v := 0) rfl ?_
    exact k_zret hq dX12_readsItem_13
theorem con_X12_readsItem (l : Launch) (G : eG) (B0 n : Nat) (N : Nat) (l0 : Nat) : e_C eI l G B0 n yX12_readsItem cX12_readsItem 4 (some .boolean) 4 89 [.ref l0] (F_X12_readsItem N l0) := by
  refine e_mk (by decide) (Nat.le_of_ble_eq_true rfl) fun q r0 h0 h hq e1 e2 e3 e4 => ?_
  subst e1; subst e2; subst e3; subst e4
  exact P_X12_readsItem_0 hq N l0 h
set_option maxRecDepth 100000 in
set_option maxHeartbeats 4000000 in
theorem P_X12_tells_80b {q : eT} {r0 : Int32} {h0 : eH} (hq : e_B q yX12_tells.cls cX12_tells 3 5 112 (some .int) yX12_tells.name) (N : Nat) (k51 : Nat → Int32 → eH → Option (Int32 × eH)) (k80 : Nat → Int32 → eH → Option (Int32 × eH)) (hk51 : ∀ (l0 : Nat) (l1 : Int32) h, e_K eI q r0 h0 51 [(0, .ref l0), (1, .int l1)] [] h (k51 l0 l1 h)) (hk80 : ∀ (l0 : Nat) (l1 : Int32) h, e_K eI q r0 h0 80 [(0, .ref l0), (1, .int l1)] [] h (k80 l0 l1 h)) (l0 : Nat) (l1 : Int32) (h : eH) : e_K eI q r0 h0 80 [(0, .ref l0), (1, .int l1)] [] h (F_X12_tells_80b N k51 k80 l0 l1 h) := by
  unfold F_X12_tells_80b
  refine k_aload_n hq dX12_tells_80 0 rfl ?_
  refine k_bipush hq dX12_tells_81 (v := 32) rfl ?_
  refine k_bipush hq dX12_tells_83 (v := 32) rfl ?_
  refine k_callV hq (na := 2) (As := [.int 32, .int 32]) (st := []) 11 (C := RX12) (T := TX12) rfl (con_X12_isBetween _ _ _ _ l0 32 32) tw_1071 tw_59 tw_1068 tw_1070 tw_23 ⟨by decide, by decide, by decide +kernel⟩ rfl (by decide) rfl (Nat.le_of_ble_eq_true rfl) dX12_tells_85 fun v1 h2 => ?_
  refine k_if_eq hq (tgt := 51) dX12_tells_88 (by decide) (fun _ => ?_) (fun _ => ?_)
  · exact k_sub [0, 1] rfl (hk51 l0 l1 h2)
  · refine k_aload_n hq dX12_tells_91 0 rfl ?_
    refine k_dup hq dX12_tells_92 rfl ?_
    refine k_gi hq (C := RX12) (T := TX12) 11 26 rfl (by decide) (lay_X12 26 (by decide)) tw_953 dX12_tells_93 fun v3 => ?_
    refine k_iconst hq dX12_tells_96 (v := 1) rfl ?_
    refine k_iadd hq dX12_tells_97 ?_
    refine k_p hq (C := RX12) (T := TX12) 11 26 rfl (by decide) lay_X12 tyX12 tyX12_ok nmX12 tw_953 rfl rfl rfl dX12_tells_98 fun h4 => ?_
    refine k_goto hq (tgt := 80) dX12_tells_101 (by decide) ?_
    exact k_sub [0, 1] rfl (hk80 l0 l1 h4)
theorem Q_X12_tells_80 {q : eT} {r0 : Int32} {h0 : eH} (hq : e_B q yX12_tells.cls cX12_tells 3 5 112 (some .int) yX12_tells.name) (N : Nat) (k51 : Nat → Int32 → eH → Option (Int32 × eH)) (hk51 : ∀ (l0 : Nat) (l1 : Int32) h, e_K eI q r0 h0 51 [(0, .ref l0), (1, .int l1)] [] h (k51 l0 l1 h)) (l0 : Nat) (l1 : Int32) (h : eH) : e_K eI q r0 h0 80 [(0, .ref l0), (1, .int l1)] [] h (L_X12_tells_80 N k51 l0 l1 h) :=
  k_loop (mk := (fun s => [(0, .ref s.1), (1, .int s.2.1)])) (hp := fun s => s.2.2) (fun k hk s => P_X12_tells_80b hq N k51 (fun l0 l1 h => k (l0, l1, h)) hk51 (fun l0 l1 h => hk (l0, l1, h)) s.1 s.2.1 s.2.2) N (l0, l1, h)
set_option maxRecDepth 100000 in
set_option maxHeartbeats 4000000 in
theorem P_X12_tells_180b {q : eT} {r0 : Int32} {h0 : eH} (hq : e_B q yX12_tells.cls cX12_tells 3 5 112 (some .int) yX12_tells.name) (N : Nat) (k180 : Nat → Int32 → Int32 → eH → Option (Int32 × eH)) (hk180 : ∀ (l0 : Nat) (l1 : Int32) (l2 : Int32) h, e_K eI q r0 h0 180 [(0, .ref l0), (1, .int l1), (2, .int l2)] [] h (k180 l0 l1 l2 h)) (l0 : Nat) (l1 : Int32) (l2 : Int32) (h : eH) : e_K eI q r0 h0 180 [(0, .ref l0), (1, .int l1), (2, .int l2)] [] h (F_X12_tells_180b N k180 l0 l1 l2 h) := by
  unfold F_X12_tells_180b
  refine k_iload_n hq dX12_tells_180 2 rfl ?_
  refine k_aload_n hq dX12_tells_181 0 rfl ?_
  refine k_gi hq (C := RX12) (T := TX12) 11 3 rfl (by decide) (lay_X12 3 (by decide)) tw_930 dX12_tells_182 fun v1 => ?_
  refine k_icmp_ge hq (tgt := 206) dX12_tells_185 (by decide) (fun _ => ?_) (fun _ => ?_)
  · refine k_iload_n hq dX12_tells_206 1 rfl ?_
    exact k_iret hq dX12_tells_207
  · refine k_aload_n hq dX12_tells_188 0 rfl ?_
    refine k_gr hq (C := RX12) (T := TX12) 11 4 rfl (by decide) (lay_X12 4 (by decide)) tw_931 dX12_tells_189 fun v2 => ?_
    refine k_iload_n hq dX12_tells_192 2 rfl ?_
    refine k_aload_n hq dX12_tells_193 0 rfl ?_
    refine k_gr hq (C := RX12) (T := TX12) 11 34 rfl (by decide) (lay_X12 34 (by decide)) tw_961 dX12_tells_194 fun v3 => ?_
    refine k_iload_n hq dX12_tells_197 2 rfl ?_
    refine k_iald hq dX12_tells_198 fun v4 => ?_
    refine k_iast hq dX12_tells_199 fun h5 => ?_
    refine k_iinc hq dX12_tells_200 2 rfl (v := l2 + 1) rfl (by decide) (ls' := [(2, .int (l2 + 1)), (0, .ref l0), (1, .int l1)]) rfl ?_
    refine k_goto hq (tgt := 180) dX12_tells_203 (by decide) ?_
    exact k_sub [1, 2, 0] rfl (hk180 l0 l1 (l2 + 1) h5)
theorem Q_X12_tells_180 {q : eT} {r0 : Int32} {h0 : eH} (hq : e_B q yX12_tells.cls cX12_tells 3 5 112 (some .int) yX12_tells.name) (N : Nat) (l0 : Nat) (l1 : Int32) (l2 : Int32) (h : eH) : e_K eI q r0 h0 180 [(0, .ref l0), (1, .int l1), (2, .int l2)] [] h (L_X12_tells_180 N l0 l1 l2 h) :=
  k_loop (mk := (fun s => [(0, .ref s.1), (1, .int s.2.1), (2, .int s.2.2.1)])) (hp := fun s => s.2.2.2) (fun k hk s => P_X12_tells_180b hq N (fun l0 l1 l2 h => k (l0, l1, l2, h)) (fun l0 l1 l2 h => hk (l0, l1, l2, h)) s.1 s.2.1 s.2.2.1 s.2.2.2) N (l0, l1, l2, h)
set_option maxRecDepth 100000 in
set_option maxHeartbeats 4000000 in
theorem P_X12_tells_167 {q : eT} {r0 : Int32} {h0 : eH} (hq : e_B q yX12_tells.cls cX12_tells 3 5 112 (some .int) yX12_tells.name) (N : Nat) (l0 : Nat) (l1 : Int32) (s0 : Nat) (s1 : Int32) (h : eH) : e_K eI q r0 h0 167 [(0, .ref l0), (1, .int l1)] [.int s1, .ref s0] h (F_X12_tells_167 N l0 l1 s0 s1 h) := by
  unfold F_X12_tells_167
  refine k_p hq (C := RX12) (T := TX12) 11 2 rfl (by decide) lay_X12 tyX12 tyX12_ok nmX12 tw_929 rfl rfl rfl dX12_tells_167 fun h1 => ?_
  refine k_aload_n hq dX12_tells_170 0 rfl ?_
  refine k_aload_n hq dX12_tells_171 0 rfl ?_
  refine k_gi hq (C := RX12) (T := TX12) 11 33 rfl (by decide) (lay_X12 33 (by decide)) tw_960 dX12_tells_172 fun v2 => ?_
  refine k_p hq (C := RX12) (T := TX12) 11 3 rfl (by decide) lay_X12 tyX12 tyX12_ok nmX12 tw_930 rfl rfl rfl dX12_tells_175 fun h3 => ?_
  refine k_iconst hq dX12_tells_178 (v := 0) rfl ?_
  refine k_istore_n hq dX12_tells_179 rfl (by decide) (ls' := [(2, .int 0), (0, .ref l0), (1, .int l1)]) rfl ?_
  exact k_sub [1, 2, 0] rfl (Q_X12_tells_180 hq N l0 l1 0 h3)
set_option maxRecDepth 100000 in
set_option maxHeartbeats 4000000 in
theorem P_X12_tells_148 {q : eT} {r0 : Int32} {h0 : eH} (hq : e_B q yX12_tells.cls cX12_tells 3 5 112 (some .int) yX12_tells.name) (N : Nat) (l0 : Nat) (l1 : Int32) (s0 : Nat) (s1 : Int32) (h : eH) : e_K eI q r0 h0 148 [(0, .ref l0), (1, .int l1)] [.int s1, .ref s0] h (F_X12_tells_148 N l0 l1 s0 s1 h) := by
  unfold F_X12_tells_148
  refine k_p hq (C := RX12) (T := TX12) 11 1 rfl (by decide) lay_X12 tyX12 tyX12_ok nmX12 tw_928 rfl rfl rfl dX12_tells_148 fun h1 => ?_
  refine k_aload_n hq dX12_tells_151 0 rfl ?_
  refine k_aload_n hq dX12_tells_152 0 rfl ?_
  refine k_gi hq (C := RX12) (T := TX12) 11 32 rfl (by decide) (lay_X12 32 (by decide)) tw_959 dX12_tells_153 fun v2 => ?_
  refine k_if_ne hq (tgt := 163) dX12_tells_156 (by decide) (fun _ => ?_) (fun _ => ?_)
  · refine k_iconst hq dX12_tells_159 (v := 4) rfl ?_
    refine k_goto hq (tgt := 167) dX12_tells_160 (by decide) ?_
    exact k_sub [0, 1] rfl (P_X12_tells_167 hq N l0 l1 l0 4 h1)
  · refine k_aload_n hq dX12_tells_163 0 rfl ?_
    refine k_gi hq (C := RX12) (T := TX12) 11 32 rfl (by decide) (lay_X12 32 (by decide)) tw_959 dX12_tells_164 fun v3 => ?_
    exact k_sub [0, 1] rfl (P_X12_tells_167 hq N l0 l1 l0 v3 h1)
set_option maxRecDepth 100000 in
set_option maxHeartbeats 4000000 in
theorem P_X12_tells_129 {q : eT} {r0 : Int32} {h0 : eH} (hq : e_B q yX12_tells.cls cX12_tells 3 5 112 (some .int) yX12_tells.name) (N : Nat) (l0 : Nat) (l1 : Int32) (s0 : Nat) (s1 : Int32) (h : eH) : e_K eI q r0 h0 129 [(0, .ref l0), (1, .int l1)] [.int s1, .ref s0] h (F_X12_tells_129 N l0 l1 s0 s1 h) := by
  unfold F_X12_tells_129
  refine k_p hq (C := RX12) (T := TX12) 11 0 rfl (by decide) lay_X12 tyX12 tyX12_ok nmX12 tw_927 rfl rfl rfl dX12_tells_129 fun h1 => ?_
  refine k_aload_n hq dX12_tells_132 0 rfl ?_
  refine k_aload_n hq dX12_tells_133 0 rfl ?_
  refine k_gi hq (C := RX12) (T := TX12) 11 31 rfl (by decide) (lay_X12 31 (by decide)) tw_958 dX12_tells_134 fun v2 => ?_
  refine k_if_ne hq (tgt := 144) dX12_tells_137 (by decide) (fun _ => ?_) (fun _ => ?_)
  · refine k_iconst hq dX12_tells_140 (v := 4) rfl ?_
    refine k_goto hq (tgt := 148) dX12_tells_141 (by decide) ?_
    exact k_sub [0, 1] rfl (P_X12_tells_148 hq N l0 l1 l0 4 h1)
  · refine k_aload_n hq dX12_tells_144 0 rfl ?_
    refine k_gi hq (C := RX12) (T := TX12) 11 31 rfl (by decide) (lay_X12 31 (by decide)) tw_958 dX12_tells_145 fun v3 => ?_
    exact k_sub [0, 1] rfl (P_X12_tells_148 hq N l0 l1 l0 v3 h1)
set_option maxRecDepth 100000 in
set_option maxHeartbeats 4000000 in
theorem P_X12_tells_51b {q : eT} {r0 : Int32} {h0 : eH} (hq : e_B q yX12_tells.cls cX12_tells 3 5 112 (some .int) yX12_tells.name) (N : Nat) (k51 : Nat → Int32 → eH → Option (Int32 × eH)) (hk51 : ∀ (l0 : Nat) (l1 : Int32) h, e_K eI q r0 h0 51 [(0, .ref l0), (1, .int l1)] [] h (k51 l0 l1 h)) (l0 : Nat) (l1 : Int32) (h : eH) : e_K eI q r0 h0 51 [(0, .ref l0), (1, .int l1)] [] h (F_X12_tells_51b N k51 l0 l1 h) := by
  unfold F_X12_tells_51b
  refine k_aload_n hq dX12_tells_51 0 rfl ?_
  refine k_gi hq (C := RX12) (T := TX12) 11 26 rfl (by decide) (lay_X12 26 (by decide)) tw_953 dX12_tells_52 fun v1 => ?_
  refine k_aload_n hq dX12_tells_55 0 rfl ?_
  refine k_gi hq (C := RX12) (T := TX12) 11 24 rfl (by decide) (lay_X12 24 (by decide)) tw_951 dX12_tells_56 fun v2 => ?_
  refine k_icmp_ge hq (tgt := 104) dX12_tells_59 (by decide) (fun _ => ?_) (fun _ => ?_)
  · refine k_aload_n hq dX12_tells_104 0 rfl ?_
    refine k_iconst hq dX12_tells_105 (v := 0) rfl ?_
    refine k_p hq (C := RX12) (T := TX12) 11 24 rfl (by decide) lay_X12 tyX12 tyX12_ok nmX12 tw_951 rfl rfl rfl dX12_tells_106 fun h3 => ?_
    refine k_aload_n hq dX12_tells_109 0 rfl ?_
    refine k_callV hq (na := 0) (As := []) (st := []) 11 (C := RX12) (T := TX12) rfl (con_X12_forgets _ _ _ _ N l0) tw_926 tw_59 tw_923 tw_925 tw_22 ⟨by decide, by decide, by decide +kernel⟩ rfl (by decide) rfl (Nat.le_of_ble_eq_true rfl) dX12_tells_110 fun v4 h5 => ?_
    refine k_aload_n hq dX12_tells_113 0 rfl ?_
    refine k_aload_n hq dX12_tells_114 0 rfl ?_
    refine k_gi hq (C := RX12) (T := TX12) 11 30 rfl (by decide) (lay_X12 30 (by decide)) tw_957 dX12_tells_115 fun v6 => ?_
    refine k_if_ne hq (tgt := 125) dX12_tells_118 (by decide) (fun _ => ?_) (fun _ => ?_)
    · refine k_iconst hq dX12_tells_121 (v := 3) rfl ?_
      refine k_goto hq (tgt := 129) dX12_tells_122 (by decide) ?_
      exact k_sub [0, 1] rfl (P_X12_tells_129 hq N l0 l1 l0 3 h5)
    · refine k_aload_n hq dX12_tells_125 0 rfl ?_
      refine k_gi hq (C := RX12) (T := TX12) 11 30 rfl (by decide) (lay_X12 30 (by decide)) tw_957 dX12_tells_126 fun v7 => ?_
      exact k_sub [0, 1] rfl (P_X12_tells_129 hq N l0 l1 l0 v7 h5)
  · refine k_aload_n hq dX12_tells_62 0 rfl ?_
    refine k_callV hq (na := 0) (As := []) (st := []) 11 (C := RX12) (T := TX12) rfl (con_X12_readsItem _ _ _ _ N l0) tw_1075 tw_59 tw_1072 tw_1074 tw_24 ⟨by decide, by decide, by decide +kernel⟩ rfl (by decide) rfl (Nat.le_of_ble_eq_true rfl) dX12_tells_63 fun v8 h9 => ?_
    refine k_if_ne hq (tgt := 77) dX12_tells_66 (by decide) (fun _ => ?_) (fun _ => ?_)
    · refine k_bipush hq dX12_tells_69 (v := (-10)) rfl ?_
      refine k_aload_n hq dX12_tells_71 0 rfl ?_
      refine k_gi hq (C := RX12) (T := TX12) 11 27 rfl (by decide) (lay_X12 27 (by decide)) tw_954 dX12_tells_72 fun v10 => ?_
      refine k_isub hq dX12_tells_75 ?_
      exact k_iret hq dX12_tells_76
    · refine k_iinc hq dX12_tells_77 1 rfl (v := l1 + 1) rfl (by decide) (ls' := [(1, .int (l1 + 1)), (0, .ref l0)]) rfl ?_
      exact k_sub [1, 0] rfl (Q_X12_tells_80 hq N k51 hk51 l0 (l1 + 1) h9)
theorem Q_X12_tells_51 {q : eT} {r0 : Int32} {h0 : eH} (hq : e_B q yX12_tells.cls cX12_tells 3 5 112 (some .int) yX12_tells.name) (N : Nat) (l0 : Nat) (l1 : Int32) (h : eH) : e_K eI q r0 h0 51 [(0, .ref l0), (1, .int l1)] [] h (L_X12_tells_51 N l0 l1 h) :=
  k_loop (mk := (fun s => [(0, .ref s.1), (1, .int s.2.1)])) (hp := fun s => s.2.2) (fun k hk s => P_X12_tells_51b hq N (fun l0 l1 h => k (l0, l1, h)) (fun l0 l1 h => hk (l0, l1, h)) s.1 s.2.1 s.2.2) N (l0, l1, h)
set_option maxRecDepth 100000 in
set_option maxHeartbeats 4000000 in
theorem P_X12_tells_27b {q : eT} {r0 : Int32} {h0 : eH} (hq : e_B q yX12_tells.cls cX12_tells 3 5 112 (some .int) yX12_tells.name) (N : Nat) (k27 : Nat → Int32 → eH → Option (Int32 × eH)) (hk27 : ∀ (l0 : Nat) (l1 : Int32) h, e_K eI q r0 h0 27 [(0, .ref l0), (1, .int l1)] [] h (k27 l0 l1 h)) (l0 : Nat) (l1 : Int32) (h : eH) : e_K eI q r0 h0 27 [(0, .ref l0), (1, .int l1)] [] h (F_X12_tells_27b N k27 l0 l1 h) := by
  unfold F_X12_tells_27b
  refine k_aload_n hq dX12_tells_27 0 rfl ?_
  refine k_bipush hq dX12_tells_28 (v := 32) rfl ?_
  refine k_bipush hq dX12_tells_30 (v := 32) rfl ?_
  refine k_callV hq (na := 2) (As := [.int 32, .int 32]) (st := []) 11 (C := RX12) (T := TX12) rfl (con_X12_isBetween _ _ _ _ l0 32 32) tw_1071 tw_59 tw_1068 tw_1070 tw_23 ⟨by decide, by decide, by decide +kernel⟩ rfl (by decide) rfl (Nat.le_of_ble_eq_true rfl) dX12_tells_32 fun v1 h2 => ?_
  refine k_if_eq hq (tgt := 51) dX12_tells_35 (by decide) (fun _ => ?_) (fun _ => ?_)
  · exact k_sub [0, 1] rfl (Q_X12_tells_51 hq N l0 l1 h2)
  · refine k_aload_n hq dX12_tells_38 0 rfl ?_
    refine k_dup hq dX12_tells_39 rfl ?_
    refine k_gi hq (C := RX12) (T := TX12) 11 26 rfl (by decide) (lay_X12 26 (by decide)) tw_953 dX12_tells_40 fun v3 => ?_
    refine k_iconst hq dX12_tells_43 (v := 1) rfl ?_
    refine k_iadd hq dX12_tells_44 ?_
    refine k_p hq (C := RX12) (T := TX12) 11 26 rfl (by decide) lay_X12 tyX12 tyX12_ok nmX12 tw_953 rfl rfl rfl dX12_tells_45 fun h4 => ?_
    refine k_goto hq (tgt := 27) dX12_tells_48 (by decide) ?_
    exact k_sub [0, 1] rfl (hk27 l0 l1 h4)
theorem Q_X12_tells_27 {q : eT} {r0 : Int32} {h0 : eH} (hq : e_B q yX12_tells.cls cX12_tells 3 5 112 (some .int) yX12_tells.name) (N : Nat) (l0 : Nat) (l1 : Int32) (h : eH) : e_K eI q r0 h0 27 [(0, .ref l0), (1, .int l1)] [] h (L_X12_tells_27 N l0 l1 h) :=
  k_loop (mk := (fun s => [(0, .ref s.1), (1, .int s.2.1)])) (hp := fun s => s.2.2) (fun k hk s => P_X12_tells_27b hq N (fun l0 l1 h => k (l0, l1, h)) (fun l0 l1 h => hk (l0, l1, h)) s.1 s.2.1 s.2.2) N (l0, l1, h)
set_option maxRecDepth 100000 in
set_option maxHeartbeats 4000000 in
theorem P_X12_tells_0 {q : eT} {r0 : Int32} {h0 : eH} (hq : e_B q yX12_tells.cls cX12_tells 3 5 112 (some .int) yX12_tells.name) (N : Nat) (l0 : Nat) (h : eH) : e_K eI q r0 h0 0 [(0, .ref l0)] [] h (F_X12_tells N l0 h) := by
  unfold F_X12_tells
  refine k_aload_n hq dX12_tells_0 0 rfl ?_
  refine k_iconst hq dX12_tells_1 (v := 0) rfl ?_
  refine k_p hq (C := RX12) (T := TX12) 11 26 rfl (by decide) lay_X12 tyX12 tyX12_ok nmX12 tw_953 rfl rfl rfl dX12_tells_2 fun h1 => ?_
  refine k_aload_n hq dX12_tells_5 0 rfl ?_
  refine k_iconst hq dX12_tells_6 (v := 0) rfl ?_
  refine k_p hq (C := RX12) (T := TX12) 11 30 rfl (by decide) lay_X12 tyX12 tyX12_ok nmX12 tw_957 rfl rfl rfl dX12_tells_7 fun h2 => ?_
  refine k_aload_n hq dX12_tells_10 0 rfl ?_
  refine k_iconst hq dX12_tells_11 (v := 0) rfl ?_
  refine k_p hq (C := RX12) (T := TX12) 11 31 rfl (by decide) lay_X12 tyX12 tyX12_ok nmX12 tw_958 rfl rfl rfl dX12_tells_12 fun h3 => ?_
  refine k_aload_n hq dX12_tells_15 0 rfl ?_
  refine k_iconst hq dX12_tells_16 (v := 0) rfl ?_
  refine k_p hq (C := RX12) (T := TX12) 11 32 rfl (by decide) lay_X12 tyX12 tyX12_ok nmX12 tw_959 rfl rfl rfl dX12_tells_17 fun h4 => ?_
  refine k_aload_n hq dX12_tells_20 0 rfl ?_
  refine k_iconst hq dX12_tells_21 (v := 0) rfl ?_
  refine k_p hq (C := RX12) (T := TX12) 11 33 rfl (by decide) lay_X12 tyX12 tyX12_ok nmX12 tw_960 rfl rfl rfl dX12_tells_22 fun h5 => ?_
  refine k_iconst hq dX12_tells_25 (v := 0) rfl ?_
  refine k_istore_n hq dX12_tells_26 rfl (by decide) (ls' := [(1, .int 0), (0, .ref l0)]) rfl ?_
  exact k_sub [1, 0] rfl (Q_X12_tells_27 hq N l0 0 h5)
theorem con_X12_tells (l : Launch) (G : eG) (B0 n : Nat) (N : Nat) (l0 : Nat) : e_C eI l G B0 n yX12_tells cX12_tells 3 (some .int) 5 112 [.ref l0] (F_X12_tells N l0) := by
  refine e_mk (by decide) (Nat.le_of_ble_eq_true rfl) fun q r0 h0 h hq e1 e2 e3 e4 => ?_
  subst e1; subst e2; subst e3; subst e4
  exact P_X12_tells_0 hq N l0 h
set_option maxRecDepth 100000 in
set_option maxHeartbeats 4000000 in
theorem P_X12_siblings_43 {q : eT} {r0 : Int32} {h0 : eH} (hq : e_B q yX12_siblings.cls cX12_siblings 5 1 21 (some .int) yX12_siblings.name) (N : Nat) (k9 : Nat → Int32 → Int32 → Int32 → Int32 → eH → Option (Int32 × eH)) (hk9 : ∀ (l0 : Nat) (l1 : Int32) (l2 : Int32) (l3 : Int32) (l4 : Int32) h, e_K eI q r0 h0 9 [(0, .ref l0), (1, .int l1), (2, .int l2), (3, .int l3), (4, .int l4)] [] h (k9 l0 l1 l2 l3 l4 h)) (l0 : Nat) (l1 : Int32) (l2 : Int32) (l4 : Int32) (s0 : Int32) (s1 : Int32) (h : eH) : e_K eI q r0 h0 43 [(0, .ref l0), (1, .int l1), (2, .int l2), (4, .int l4)] [.int s1, .int s0] h (F_X12_siblings_43 N k9 l0 l1 l2 l4 s0 s1 h) := by
  unfold F_X12_siblings_43
  refine k_iadd hq dX12_siblings_43 ?_
  refine k_let (mk := fun z => .int z :: []) fun v1 _ => ?_
  refine k_istore_n hq dX12_siblings_44 rfl (by decide) (ls' := [(3, .int v1), (0, .ref l0), (1, .int l1), (2, .int l2), (4, .int l4)]) rfl ?_
  refine k_iinc hq dX12_siblings_45 4 rfl (v := l4 + 1) rfl (by decide) (ls' := [(4, .int (l4 + 1)), (3, .int v1), (0, .ref l0), (1, .int l1), (2, .int l2)]) rfl ?_
  refine k_goto hq (tgt := 9) dX12_siblings_48 (by decide) ?_
  exact k_sub [2, 3, 4, 1, 0] rfl (hk9 l0 l1 l2 v1 (l4 + 1) h)
set_option maxRecDepth 100000 in
set_option maxHeartbeats 4000000 in
theorem P_X12_siblings_9b {q : eT} {r0 : Int32} {h0 : eH} (hq : e_B q yX12_siblings.cls cX12_siblings 5 1 21 (some .int) yX12_siblings.name) (N : Nat) (k9 : Nat → Int32 → Int32 → Int32 → Int32 → eH → Option (Int32 × eH)) (hk9 : ∀ (l0 : Nat) (l1 : Int32) (l2 : Int32) (l3 : Int32) (l4 : Int32) h, e_K eI q r0 h0 9 [(0, .ref l0), (1, .int l1), (2, .int l2), (3, .int l3), (4, .int l4)] [] h (k9 l0 l1 l2 l3 l4 h)) (l0 : Nat) (l1 : Int32) (l2 : Int32) (l3 : Int32) (l4 : Int32) (h : eH) : e_K eI q r0 h0 9 [(0, .ref l0), (1, .int l1), (2, .int l2), (3, .int l3), (4, .int l4)] [] h (F_X12_siblings_9b N k9 l0 l1 l2 l3 l4 h) := by
  unfold F_X12_siblings_9b
  refine k_iload hq dX12_siblings_9 4 rfl ?_
  refine k_sipush hq dX12_siblings_11 (v := 164) rfl ?_
  refine k_iload_n hq dX12_siblings_14 2 rfl ?_
  refine k_imul hq dX12_siblings_15 ?_
  refine k_sipush hq dX12_siblings_16 (v := 164) rfl ?_
  refine k_iadd hq dX12_siblings_19 ?_
  refine k_icmp_ge hq (tgt := 51) dX12_siblings_20 (by decide) (fun _ => ?_) (fun _ => ?_)
  · refine k_iload_n hq dX12_siblings_51 3 rfl ?_
    exact k_iret hq dX12_siblings_52
  · refine k_iload_n hq dX12_siblings_23 3 rfl ?_
    refine k_aload_n hq dX12_siblings_24 0 rfl ?_
    refine k_gr hq (C := RX12) (T := TX12) 11 14 rfl (by decide) (lay_X12 14 (by decide)) tw_941 dX12_siblings_25 fun v1 => ?_
    refine k_iload hq dX12_siblings_28 4 rfl ?_
    refine k_iald hq dX12_siblings_30 fun v2 => ?_
    refine k_iload_n hq dX12_siblings_31 1 rfl ?_
    refine k_callS hq (na := 2) (As := [.int v2, .int l1]) (st := [.int l3]) (con_X12_has _ _ _ _ v2 l1) tw_1118 tw_59 tw_1116 tw_1117 ⟨by decide, by decide, by decide +kernel⟩ rfl (by decide) rfl (Nat.le_of_ble_eq_true rfl) dX12_siblings_32 fun v3 h4 => ?_
    refine k_if_eq hq (tgt := 42) dX12_siblings_35 (by decide) (fun _ => ?_) (fun _ => ?_)
    · refine k_iconst hq dX12_siblings_42 (v := 0) rfl ?_
      exact k_sub [0, 1, 2, 4] rfl (P_X12_siblings_43 hq N k9 hk9 l0 l1 l2 l4 l3 0 h4)
    · refine k_iconst hq dX12_siblings_38 (v := 1) rfl ?_
      refine k_goto hq (tgt := 43) dX12_siblings_39 (by decide) ?_
      exact k_sub [0, 1, 2, 4] rfl (P_X12_siblings_43 hq N k9 hk9 l0 l1 l2 l4 l3 1 h4)
theorem Q_X12_siblings_9 {q : eT} {r0 : Int32} {h0 : eH} (hq : e_B q yX12_siblings.cls cX12_siblings 5 1 21 (some .int) yX12_siblings.name) (N : Nat) (l0 : Nat) (l1 : Int32) (l2 : Int32) (l3 : Int32) (l4 : Int32) (h : eH) : e_K eI q r0 h0 9 [(0, .ref l0), (1, .int l1), (2, .int l2), (3, .int l3), (4, .int l4)] [] h (L_X12_siblings_9 N l0 l1 l2 l3 l4 h) :=
  k_loop (mk := (fun s => [(0, .ref s.1), (1, .int s.2.1), (2, .int s.2.2.1), (3, .int s.2.2.2.1), (4, .int s.2.2.2.2.1)])) (hp := fun s => s.2.2.2.2.2) (fun k hk s => P_X12_siblings_9b hq N (fun l0 l1 l2 l3 l4 h => k (l0, l1, l2, l3, l4, h)) (fun l0 l1 l2 l3 l4 h => hk (l0, l1, l2, l3, l4, h)) s.1 s.2.1 s.2.2.1 s.2.2.2.1 s.2.2.2.2.1 s.2.2.2.2.2) N (l0, l1, l2, l3, l4, h)
set_option maxRecDepth 100000 in
set_option maxHeartbeats 4000000 in
theorem P_X12_siblings_0 {q : eT} {r0 : Int32} {h0 : eH} (hq : e_B q yX12_siblings.cls cX12_siblings 5 1 21 (some .int) yX12_siblings.name) (N : Nat) (l0 : Nat) (l1 : Int32) (l2 : Int32) (h : eH) : e_K eI q r0 h0 0 [(0, .ref l0), (1, .int l1), (2, .int l2)] [] h (F_X12_siblings N l0 l1 l2 h) := by
  unfold F_X12_siblings
  refine k_iconst hq dX12_siblings_0 (v := 0) rfl ?_
  refine k_istore_n hq dX12_siblings_1 rfl (by decide) (ls' := [(3, .int 0), (0, .ref l0), (1, .int l1), (2, .int l2)]) rfl ?_
  refine k_sipush hq dX12_siblings_2 (v := 164) rfl ?_
  refine k_iload_n hq dX12_siblings_5 3 rfl ?_
  refine k_imul hq dX12_siblings_6 ?_
  refine k_let (mk := fun z => .int z :: []) fun v1 _ => ?_
  refine k_istore hq dX12_siblings_7 (by decide) (ls' := [(4, .int v1), (3, .int 0), (0, .ref l0), (1, .int l1), (2, .int l2)]) rfl ?_
  exact k_sub [2, 3, 4, 1, 0] rfl (Q_X12_siblings_9 hq N l0 l1 l2 0 v1 h)
theorem con_X12_siblings (l : Launch) (G : eG) (B0 n : Nat) (N : Nat) (l0 : Nat) (l1 : Int32) (l2 : Int32) : e_C eI l G B0 n yX12_siblings cX12_siblings 5 (some .int) 1 21 [.ref l0, .int l1, .int l2] (F_X12_siblings N l0 l1 l2) := by
  refine e_mk (by decide) (Nat.le_of_ble_eq_true rfl) fun q r0 h0 h hq e1 e2 e3 e4 => ?_
  subst e1; subst e2; subst e3; subst e4
  exact P_X12_siblings_0 hq N l0 l1 l2 h
set_option maxRecDepth 100000 in
set_option maxHeartbeats 4000000 in
theorem P_X12_eldest_66 {q : eT} {r0 : Int32} {h0 : eH} (hq : e_B q yX12_eldest.cls cX12_eldest 5 1 21 (some .int) yX12_eldest.name) (N : Nat) (k10 : Nat → Int32 → Int32 → Int32 → Int32 → eH → Option (Int32 × eH)) (hk10 : ∀ (l0 : Nat) (l1 : Int32) (l2 : Int32) (l3 : Int32) (l4 : Int32) h, e_K eI q r0 h0 10 [(0, .ref l0), (1, .int l1), (2, .int l2), (3, .int l3), (4, .int l4)] [] h (k10 l0 l1 l2 l3 l4 h)) (l0 : Nat) (l1 : Int32) (l2 : Int32) (l4 : Int32) (s0 : Int32) (h : eH) : e_K eI q r0 h0 66 [(0, .ref l0), (1, .int l1), (2, .int l2), (4, .int l4)] [.int s0] h (F_X12_eldest_66 N k10 l0 l1 l2 l4 s0 h) := by
  unfold F_X12_eldest_66
  refine k_istore_n hq dX12_eldest_66 rfl (by decide) (ls' := [(3, .int s0), (0, .ref l0), (1, .int l1), (2, .int l2), (4, .int l4)]) rfl ?_
  refine k_iinc hq dX12_eldest_67 4 rfl (v := l4 + 1) rfl (by decide) (ls' := [(4, .int (l4 + 1)), (3, .int s0), (0, .ref l0), (1, .int l1), (2, .int l2)]) rfl ?_
  refine k_goto hq (tgt := 10) dX12_eldest_70 (by decide) ?_
  exact k_sub [2, 3, 4, 1, 0] rfl (hk10 l0 l1 l2 s0 (l4 + 1) h)
set_option maxRecDepth 100000 in
set_option maxHeartbeats 4000000 in
theorem P_X12_eldest_60 {q : eT} {r0 : Int32} {h0 : eH} (hq : e_B q yX12_eldest.cls cX12_eldest 5 1 21 (some .int) yX12_eldest.name) (N : Nat) (k10 : Nat → Int32 → Int32 → Int32 → Int32 → eH → Option (Int32 × eH)) (hk10 : ∀ (l0 : Nat) (l1 : Int32) (l2 : Int32) (l3 : Int32) (l4 : Int32) h, e_K eI q r0 h0 10 [(0, .ref l0), (1, .int l1), (2, .int l2), (3, .int l3), (4, .int l4)] [] h (k10 l0 l1 l2 l3 l4 h)) (l0 : Nat) (l1 : Int32) (l2 : Int32) (l4 : Int32) (h : eH) : e_K eI q r0 h0 60 [(0, .ref l0), (1, .int l1), (2, .int l2), (4, .int l4)] [] h (F_X12_eldest_60 N k10 l0 l1 l2 l4 h) := by
  unfold F_X12_eldest_60
  refine k_iload hq dX12_eldest_60 3 rfl ?_
  refine k_goto hq (tgt := 66) dX12_eldest_62 (by decide) ?_
  exact k_sub [0, 1, 2, 3] rfl (P_X12_eldest_66 hq N k10 hk10 l0 l1 l2 l4 l4 h)
set_option maxRecDepth 100000 in
set_option maxHeartbeats 4000000 in
theorem P_X12_eldest_65 {q : eT} {r0 : Int32} {h0 : eH} (hq : e_B q yX12_eldest.cls cX12_eldest 5 1 21 (some .int) yX12_eldest.name) (N : Nat) (k10 : Nat → Int32 → Int32 → Int32 → Int32 → eH → Option (Int32 × eH)) (hk10 : ∀ (l0 : Nat) (l1 : Int32) (l2 : Int32) (l3 : Int32) (l4 : Int32) h, e_K eI q r0 h0 10 [(0, .ref l0), (1, .int l1), (2, .int l2), (3, .int l3), (4, .int l4)] [] h (k10 l0 l1 l2 l3 l4 h)) (l0 : Nat) (l1 : Int32) (l2 : Int32) (l3 : Int32) (l4 : Int32) (h : eH) : e_K eI q r0 h0 65 [(0, .ref l0), (1, .int l1), (2, .int l2), (3, .int l3), (4, .int l4)] [] h (F_X12_eldest_65 N k10 l0 l1 l2 l3 l4 h) := by
  unfold F_X12_eldest_65
  refine k_iload_n hq dX12_eldest_65 3 rfl ?_
  exact k_sub [0, 1, 2, 4] rfl (P_X12_eldest_66 hq N k10 hk10 l0 l1 l2 l4 l3 h)
set_option maxRecDepth 100000 in
set_option maxHeartbeats 4000000 in
theorem P_X12_eldest_10b {q : eT} {r0 : Int32} {h0 : eH} (hq : e_B q yX12_eldest.cls cX12_eldest 5 1 21 (some .int) yX12_eldest.name) (N : Nat) (k10 : Nat → Int32 → Int32 → Int32 → Int32 → eH → Option (Int32 × eH)) (hk10 : ∀ (l0 : Nat) (l1 : Int32) (l2 : Int32) (l3 : Int32) (l4 : Int32) h, e_K eI q r0 h0 10 [(0, .ref l0), (1, .int l1), (2, .int l2), (3, .int l3), (4, .int l4)] [] h (k10 l0 l1 l2 l3 l4 h)) (l0 : Nat) (l1 : Int32) (l2 : Int32) (l3 : Int32) (l4 : Int32) (h : eH) : e_K eI q r0 h0 10 [(0, .ref l0), (1, .int l1), (2, .int l2), (3, .int l3), (4, .int l4)] [] h (F_X12_eldest_10b N k10 l0 l1 l2 l3 l4 h) := by
  unfold F_X12_eldest_10b
  refine k_iload hq dX12_eldest_10 4 rfl ?_
  refine k_sipush hq dX12_eldest_12 (v := 164) rfl ?_
  refine k_iload_n hq dX12_eldest_15 2 rfl ?_
  refine k_imul hq dX12_eldest_16 ?_
  refine k_sipush hq dX12_eldest_17 (v := 164) rfl ?_
  refine k_iadd hq dX12_eldest_20 ?_
  refine k_icmp_ge hq (tgt := 73) dX12_eldest_21 (by decide) (fun _ => ?_) (fun _ => ?_)
  · refine k_iload_n hq dX12_eldest_73 3 rfl ?_
    exact k_iret hq dX12_eldest_74
  · refine k_aload_n hq dX12_eldest_24 0 rfl ?_
    refine k_gr hq (C := RX12) (T := TX12) 11 14 rfl (by decide) (lay_X12 14 (by decide)) tw_941 dX12_eldest_25 fun v1 => ?_
    refine k_iload hq dX12_eldest_28 4 rfl ?_
    refine k_iald hq dX12_eldest_30 fun v2 => ?_
    refine k_iload_n hq dX12_eldest_31 1 rfl ?_
    refine k_callS hq (na := 2) (As := [.int v2, .int l1]) (st := []) (con_X12_has _ _ _ _ v2 l1) tw_1118 tw_59 tw_1116 tw_1117 ⟨by decide, by decide, by decide +kernel⟩ rfl (by decide) rfl (Nat.le_of_ble_eq_true rfl) dX12_eldest_32 fun v3 h4 => ?_
    refine k_if_eq hq (tgt := 65) dX12_eldest_35 (by decide) (fun _ => ?_) (fun _ => ?_)
    · exact k_sub [0, 1, 2, 3, 4] rfl (P_X12_eldest_65 hq N k10 hk10 l0 l1 l2 l3 l4 h4)
    · refine k_iload_n hq dX12_eldest_38 3 rfl ?_
      refine k_bipush hq dX12_eldest_39 (v := (-9)) rfl ?_
      refine k_icmp_eq hq (tgt := 60) dX12_eldest_41 (by decide) (fun _ => ?_) (fun _ => ?_)
      · exact k_sub [0, 1, 2, 4] rfl (P_X12_eldest_60 hq N k10 hk10 l0 l1 l2 l4 h4)
      · refine k_aload_n hq dX12_eldest_44 0 rfl ?_
        refine k_gr hq (C := RX12) (T := TX12) 11 7 rfl (by decide) (lay_X12 7 (by decide)) tw_934 dX12_eldest_45 fun v5 => ?_
        refine k_iload hq dX12_eldest_48 4 rfl ?_
        refine k_iald hq dX12_eldest_50 fun v6 => ?_
        refine k_aload_n hq dX12_eldest_51 0 rfl ?_
        refine k_gr hq (C := RX12) (T := TX12) 11 7 rfl (by decide) (lay_X12 7 (by decide)) tw_934 dX12_eldest_52 fun v7 => ?_
        refine k_iload_n hq dX12_eldest_55 3 rfl ?_
        refine k_iald hq dX12_eldest_56 fun v8 => ?_
        refine k_icmp_ge hq (tgt := 65) dX12_eldest_57 (by decide) (fun _ => ?_) (fun _ => ?_)
        · exact k_sub [0, 1, 2, 3, 4] rfl (P_X12_eldest_65 hq N k10 hk10 l0 l1 l2 l3 l4 h4)
        · exact k_sub [0, 1, 2, 4] rfl (P_X12_eldest_60 hq N k10 hk10 l0 l1 l2 l4 h4)
theorem Q_X12_eldest_10 {q : eT} {r0 : Int32} {h0 : eH} (hq : e_B q yX12_eldest.cls cX12_eldest 5 1 21 (some .int) yX12_eldest.name) (N : Nat) (l0 : Nat) (l1 : Int32) (l2 : Int32) (l3 : Int32) (l4 : Int32) (h : eH) : e_K eI q r0 h0 10 [(0, .ref l0), (1, .int l1), (2, .int l2), (3, .int l3), (4, .int l4)] [] h (L_X12_eldest_10 N l0 l1 l2 l3 l4 h) :=
  k_loop (mk := (fun s => [(0, .ref s.1), (1, .int s.2.1), (2, .int s.2.2.1), (3, .int s.2.2.2.1), (4, .int s.2.2.2.2.1)])) (hp := fun s => s.2.2.2.2.2) (fun k hk s => P_X12_eldest_10b hq N (fun l0 l1 l2 l3 l4 h => k (l0, l1, l2, l3, l4, h)) (fun l0 l1 l2 l3 l4 h => hk (l0, l1, l2, l3, l4, h)) s.1 s.2.1 s.2.2.1 s.2.2.2.1 s.2.2.2.2.1 s.2.2.2.2.2) N (l0, l1, l2, l3, l4, h)
set_option maxRecDepth 100000 in
set_option maxHeartbeats 4000000 in
theorem P_X12_eldest_0 {q : eT} {r0 : Int32} {h0 : eH} (hq : e_B q yX12_eldest.cls cX12_eldest 5 1 21 (some .int) yX12_eldest.name) (N : Nat) (l0 : Nat) (l1 : Int32) (l2 : Int32) (h : eH) : e_K eI q r0 h0 0 [(0, .ref l0), (1, .int l1), (2, .int l2)] [] h (F_X12_eldest N l0 l1 l2 h) := by
  unfold F_X12_eldest
  refine k_bipush hq dX12_eldest_0 (v := (-9)) rfl ?_
  refine k_istore_n hq dX12_eldest_2 rfl (by decide) (ls' := [(3, .int (-9)), (0, .ref l0), (1, .int l1), (2, .int l2)]) rfl ?_
  refine k_sipush hq dX12_eldest_3 (v := 164) rfl ?_
  refine k_iload_n hq dX12_eldest_6 3 rfl ?_
  refine k_imul hq dX12_eldest_7 ?_
  refine k_let (mk := fun z => .int z :: []) fun v1 _ => ?_
  refine k_istore hq dX12_eldest_8 (by decide) (ls' := [(4, .int v1), (3, .int (-9)), (0, .ref l0), (1, .int l1), (2, .int l2)]) rfl ?_
  exact k_sub [2, 3, 4, 1, 0] rfl (Q_X12_eldest_10 hq N l0 l1 l2 (-9) v1 h)
theorem con_X12_eldest (l : Launch) (G : eG) (B0 n : Nat) (N : Nat) (l0 : Nat) (l1 : Int32) (l2 : Int32) : e_C eI l G B0 n yX12_eldest cX12_eldest 5 (some .int) 1 21 [.ref l0, .int l1, .int l2] (F_X12_eldest N l0 l1 l2) := by
  refine e_mk (by decide) (Nat.le_of_ble_eq_true rfl) fun q r0 h0 h hq e1 e2 e3 e4 => ?_
  subst e1; subst e2; subst e3; subst e4
  exact P_X12_eldest_0 hq N l0 l1 l2 h
set_option maxRecDepth 100000 in
set_option maxHeartbeats 4000000 in
theorem P_X12_bounds_0b {q : eT} {r0 : Unit} {h0 : eH} (hq : e_B q yX12_bounds.cls cX12_bounds 4 2 45 none yX12_bounds.name) (N : Nat) (k0 : Nat → Int32 → Int32 → eH → Option (Unit × eH)) (hk0 : ∀ (l0 : Nat) (l1 : Int32) (l2 : Int32) h, e_K eV q r0 h0 0 [(0, .ref l0), (1, .int l1), (2, .int l2)] [] h (k0 l0 l1 l2 h)) (l0 : Nat) (l1 : Int32) (l2 : Int32) (h : eH) : e_K eV q r0 h0 0 [(0, .ref l0), (1, .int l1), (2, .int l2)] [] h (F_X12_bounds_0b N k0 l0 l1 l2 h) := by
  unfold F_X12_bounds_0b
  refine k_aload_n hq dX12_bounds_0 0 rfl ?_
  refine k_iload_n hq dX12_bounds_1 1 rfl ?_
  refine k_iload_n hq dX12_bounds_2 2 rfl ?_
  refine k_callV hq (na := 2) (As := [.int l1, .int l2]) (st := []) 11 (C := RX12) (T := TX12) rfl (con_X12_siblings _ _ _ _ N l0 l1 l2) tw_1122 tw_59 tw_1119 tw_1121 tw_30 ⟨by decide, by decide, by decide +kernel⟩ rfl (by decide) rfl (Nat.le_of_ble_eq_true rfl) dX12_bounds_3 fun v1 h2 => ?_
  refine k_aload_n hq dX12_bounds_6 0 rfl ?_
  refine k_gi hq (C := RX12) (T := TX12) 11 1 rfl (by decide) (lay_X12 1 (by decide)) tw_928 dX12_bounds_7 fun v3 => ?_
  refine k_icmp_le hq (tgt := 44) dX12_bounds_10 (by decide) (fun _ => ?_) (fun _ => ?_)
  · exact k_vret hq dX12_bounds_44
  · refine k_aload_n hq dX12_bounds_13 0 rfl ?_
    refine k_iload_n hq dX12_bounds_14 1 rfl ?_
    refine k_iload_n hq dX12_bounds_15 2 rfl ?_
    refine k_callV hq (na := 2) (As := [.int l1, .int l2]) (st := []) 11 (C := RX12) (T := TX12) rfl (con_X12_eldest _ _ _ _ N l0 l1 l2) tw_1138 tw_59 tw_1135 tw_1137 tw_33 ⟨by decide, by decide, by decide +kernel⟩ rfl (by decide) rfl (Nat.le_of_ble_eq_true rfl) dX12_bounds_16 fun v4 h5 => ?_
    refine k_istore_n hq dX12_bounds_19 rfl (by decide) (ls' := [(3, .int v4), (0, .ref l0), (1, .int l1), (2, .int l2)]) rfl ?_
    refine k_aload_n hq dX12_bounds_20 1 rfl ?_
    refine k_gr hq (C := RX12) (T := TX12) 11 14 rfl (by decide) (lay_X12 14 (by decide)) tw_941 dX12_bounds_21 fun v6 => ?_
    refine k_iload_n hq dX12_bounds_24 0 rfl ?_
    refine k_dup2_11 hq dX12_bounds_25 rfl rfl ?_
    refine k_iald hq dX12_bounds_26 fun v7 => ?_
    refine k_iconst hq dX12_bounds_27 (v := 1) rfl ?_
    refine k_iload_n hq dX12_bounds_28 2 rfl ?_
    refine k_ishl hq dX12_bounds_29 ?_
    refine k_iconst hq dX12_bounds_30 (v := (-1)) rfl ?_
    refine k_ixor hq dX12_bounds_31 ?_
    refine k_iand hq dX12_bounds_32 ?_
    refine k_iast hq dX12_bounds_33 fun h8 => ?_
    refine k_aload_n hq dX12_bounds_34 1 rfl ?_
    refine k_gr hq (C := RX12) (T := TX12) 11 11 rfl (by decide) (lay_X12 11 (by decide)) tw_938 dX12_bounds_35 fun v9 => ?_
    refine k_iload_n hq dX12_bounds_38 0 rfl ?_
    refine k_iconst hq dX12_bounds_39 (v := 1) rfl ?_
    refine k_zast hq dX12_bounds_40 fun h10 => ?_
    refine k_goto hq (tgt := 0) dX12_bounds_41 (by decide) ?_
    exact k_sub [1, 2, 3] rfl (hk0 l0 l1 l2 h10)
theorem Q_X12_bounds_0 {q : eT} {r0 : Unit} {h0 : eH} (hq : e_B q yX12_bounds.cls cX12_bounds 4 2 45 none yX12_bounds.name) (N : Nat) (l0 : Nat) (l1 : Int32) (l2 : Int32) (h : eH) : e_K eV q r0 h0 0 [(0, .ref l0), (1, .int l1), (2, .int l2)] [] h (L_X12_bounds_0 N l0 l1 l2 h) :=
  k_loop (mk := (fun s => [(0, .ref s.1), (1, .int s.2.1), (2, .int s.2.2.1)])) (hp := fun s => s.2.2.2) (fun k hk s => P_X12_bounds_0b hq N (fun l0 l1 l2 h => k (l0, l1, l2, h)) (fun l0 l1 l2 h => hk (l0, l1, l2, h)) s.1 s.2.1 s.2.2.1 s.2.2.2) N (l0, l1, l2, h)
theorem con_X12_bounds (l : Launch) (G : eG) (B0 n : Nat) (N : Nat) (l0 : Nat) (l1 : Int32) (l2 : Int32) : e_C eV l G B0 n yX12_bounds cX12_bounds 4 none 2 45 [.ref l0, .int l1, .int l2] (F_X12_bounds N l0 l1 l2) := by
  refine e_mk (by decide) (Nat.le_of_ble_eq_true rfl) fun q r0 h0 h hq e1 e2 e3 e4 => ?_
  subst e1; subst e2; subst e3; subst e4
  exact Q_X12_bounds_0 hq N l0 l1 l2 h
set_option maxRecDepth 100000 in
set_option maxHeartbeats 4000000 in
theorem P_X12_reads_110 {q : eT} {r0 : Int32} {h0 : eH} (hq : e_B q yX12_reads.cls cX12_reads 9 2 46 (some .int) yX12_reads.name) (N : Nat) (k38 : Nat → Int32 → Int32 → Int32 → Int32 → Int32 → eH → Option (Int32 × eH)) (hk38 : ∀ (l0 : Nat) (l1 : Int32) (l2 : Int32) (l3 : Int32) (l4 : Int32) (l5 : Int32) h, e_K eI q r0 h0 38 [(0, .ref l0), (1, .int l1), (2, .int l2), (3, .int l3), (4, .int l4), (5, .int l5)] [] h (k38 l0 l1 l2 l3 l4 l5 h)) (l0 : Nat) (l1 : Int32) (l2 : Int32) (l3 : Int32) (l5 : Int32) (s0 : Int32) (s1 : Int32) (h : eH) : e_K eI q r0 h0 110 [(0, .ref l0), (1, .int l1), (2, .int l2), (3, .int l3), (5, .int l5)] [.int s1, .int s0] h (F_X12_reads_110 N k38 l0 l1 l2 l3 l5 s0 s1 h) := by
  unfold F_X12_reads_110
  refine k_iadd hq dX12_reads_110 ?_
  refine k_let (mk := fun z => .int z :: []) fun v1 _ => ?_
  refine k_istore hq dX12_reads_111 (by decide) (ls' := [(4, .int v1), (0, .ref l0), (1, .int l1), (2, .int l2), (3, .int l3), (5, .int l5)]) rfl ?_
  refine k_iinc hq dX12_reads_113 5 rfl (v := l5 + 1) rfl (by decide) (ls' := [(5, .int (l5 + 1)), (4, .int v1), (0, .ref l0), (1, .int l1), (2, .int l2), (3, .int l3)]) rfl ?_
  refine k_goto hq (tgt := 38) dX12_reads_116 (by decide) ?_
  exact k_sub [2, 3, 4, 5, 1, 0] rfl (hk38 l0 l1 l2 l3 v1 (l5 + 1) h)
set_option maxRecDepth 100000 in
set_option maxHeartbeats 4000000 in
theorem P_X12_reads_70 {q : eT} {r0 : Int32} {h0 : eH} (hq : e_B q yX12_reads.cls cX12_reads 9 2 46 (some .int) yX12_reads.name) (N : Nat) (k38 : Nat → Int32 → Int32 → Int32 → Int32 → Int32 → eH → Option (Int32 × eH)) (hk38 : ∀ (l0 : Nat) (l1 : Int32) (l2 : Int32) (l3 : Int32) (l4 : Int32) (l5 : Int32) h, e_K eI q r0 h0 38 [(0, .ref l0), (1, .int l1), (2, .int l2), (3, .int l3), (4, .int l4), (5, .int l5)] [] h (k38 l0 l1 l2 l3 l4 l5 h)) (l0 : Nat) (l1 : Int32) (l2 : Int32) (l3 : Int32) (l4 : Int32) (l5 : Int32) (s0 : Int32) (h : eH) : e_K eI q r0 h0 70 [(0, .ref l0), (1, .int l1), (2, .int l2), (3, .int l3), (4, .int l4), (5, .int l5)] [.int s0] h (F_X12_reads_70 N k38 l0 l1 l2 l3 l4 l5 s0 h) := by
  unfold F_X12_reads_70
  refine k_istore hq dX12_reads_70 (by decide) (ls' := [(6, .int s0), (0, .ref l0), (1, .int l1), (2, .int l2), (3, .int l3), (4, .int l4), (5, .int l5)]) rfl ?_
  refine k_aload_n hq dX12_reads_72 1 rfl ?_
  refine k_gr hq (C := RX12) (T := TX12) 11 19 rfl (by decide) (lay_X12 19 (by decide)) tw_946 dX12_reads_73 fun v1 => ?_
  refine k_iconst hq dX12_reads_76 (v := 4) rfl ?_
  refine k_iload_n hq dX12_reads_77 2 rfl ?_
  refine k_imul hq dX12_reads_78 ?_
  refine k_iload hq dX12_reads_79 6 rfl ?_
  refine k_iadd hq dX12_reads_81 ?_
  refine k_iload hq dX12_reads_82 0 rfl ?_
  refine k_iast hq dX12_reads_84 fun h2 => ?_
  refine k_aload_n hq dX12_reads_85 1 rfl ?_
  refine k_gr hq (C := RX12) (T := TX12) 11 20 rfl (by decide) (lay_X12 20 (by decide)) tw_947 dX12_reads_86 fun v3 => ?_
  refine k_iconst hq dX12_reads_89 (v := 4) rfl ?_
  refine k_iload_n hq dX12_reads_90 2 rfl ?_
  refine k_imul hq dX12_reads_91 ?_
  refine k_iload hq dX12_reads_92 6 rfl ?_
  refine k_iadd hq dX12_reads_94 ?_
  refine k_iload hq dX12_reads_95 0 rfl ?_
  refine k_iast hq dX12_reads_97 fun h4 => ?_
  refine k_iload hq dX12_reads_98 5 rfl ?_
  refine k_iload hq dX12_reads_100 0 rfl ?_
  refine k_if_le hq (tgt := 109) dX12_reads_102 (by decide) (fun _ => ?_) (fun _ => ?_)
  · refine k_iconst hq dX12_reads_109 (v := 0) rfl ?_
    exact k_sub [1, 2, 3, 4, 6] rfl (P_X12_reads_110 hq N k38 hk38 l0 l1 l2 l3 l5 l4 0 h4)
  · refine k_iconst hq dX12_reads_105 (v := 1) rfl ?_
    refine k_goto hq (tgt := 110) dX12_reads_106 (by decide) ?_
    exact k_sub [1, 2, 3, 4, 6] rfl (P_X12_reads_110 hq N k38 hk38 l0 l1 l2 l3 l5 l4 1 h4)
set_option maxRecDepth 100000 in
set_option maxHeartbeats 4000000 in
theorem P_X12_reads_226 {q : eT} {r0 : Int32} {h0 : eH} (hq : e_B q yX12_reads.cls cX12_reads 9 2 46 (some .int) yX12_reads.name) (N : Nat) (k119 : Nat → Int32 → Int32 → Int32 → Int32 → eH → Option (Int32 × eH)) (k135 : Nat → Int32 → Int32 → Int32 → Int32 → Int32 → Int32 → eH → Option (Int32 × eH)) (hk119 : ∀ (l0 : Nat) (l1 : Int32) (l2 : Int32) (l3 : Int32) (l4 : Int32) h, e_K eI q r0 h0 119 [(0, .ref l0), (1, .int l1), (2, .int l2), (3, .int l3), (4, .int l4)] [] h (k119 l0 l1 l2 l3 l4 h)) (hk135 : ∀ (l0 : Nat) (l1 : Int32) (l2 : Int32) (l3 : Int32) (l4 : Int32) (l5 : Int32) (l6 : Int32) h, e_K eI q r0 h0 135 [(0, .ref l0), (1, .int l1), (2, .int l2), (3, .int l3), (4, .int l4), (5, .int l5), (6, .int l6)] [] h (k135 l0 l1 l2 l3 l4 l5 l6 h)) (l0 : Nat) (l1 : Int32) (l2 : Int32) (l3 : Int32) (l4 : Int32) (l6 : Int32) (s0 : Int32) (h : eH) : e_K eI q r0 h0 226 [(0, .ref l0), (1, .int l1), (2, .int l2), (3, .int l3), (4, .int l4), (6, .int l6)] [.int s0] h (F_X12_reads_226 N k119 k135 l0 l1 l2 l3 l4 l6 s0 h) := by
  unfold F_X12_reads_226
  refine k_istore hq dX12_reads_226 (by decide) (ls' := [(5, .int s0), (0, .ref l0), (1, .int l1), (2, .int l2), (3, .int l3), (4, .int l4), (6, .int l6)]) rfl ?_
  refine k_iinc hq dX12_reads_228 6 rfl (v := l6 + 1) rfl (by decide) (ls' := [(6, .int (l6 + 1)), (5, .int s0), (0, .ref l0), (1, .int l1), (2, .int l2), (3, .int l3), (4, .int l4)]) rfl ?_
  refine k_goto hq (tgt := 135) dX12_reads_231 (by decide) ?_
  exact k_sub [2, 3, 4, 5, 6, 1, 0] rfl (hk135 l0 l1 l2 l3 l4 s0 (l6 + 1) h)
set_option maxRecDepth 100000 in
set_option maxHeartbeats 4000000 in
theorem P_X12_reads_212 {q : eT} {r0 : Int32} {h0 : eH} (hq : e_B q yX12_reads.cls cX12_reads 9 2 46 (some .int) yX12_reads.name) (N : Nat) (k119 : Nat → Int32 → Int32 → Int32 → Int32 → eH → Option (Int32 × eH)) (k135 : Nat → Int32 → Int32 → Int32 → Int32 → Int32 → Int32 → eH → Option (Int32 × eH)) (hk119 : ∀ (l0 : Nat) (l1 : Int32) (l2 : Int32) (l3 : Int32) (l4 : Int32) h, e_K eI q r0 h0 119 [(0, .ref l0), (1, .int l1), (2, .int l2), (3, .int l3), (4, .int l4)] [] h (k119 l0 l1 l2 l3 l4 h)) (hk135 : ∀ (l0 : Nat) (l1 : Int32) (l2 : Int32) (l3 : Int32) (l4 : Int32) (l5 : Int32) (l6 : Int32) h, e_K eI q r0 h0 135 [(0, .ref l0), (1, .int l1), (2, .int l2), (3, .int l3), (4, .int l4), (5, .int l5), (6, .int l6)] [] h (k135 l0 l1 l2 l3 l4 l5 l6 h)) (l0 : Nat) (l1 : Int32) (l2 : Int32) (l3 : Int32) (l4 : Int32) (l5 : Int32) (l6 : Int32) (s0 : Int32) (h : eH) : e_K eI q r0 h0 212 [(0, .ref l0), (1, .int l1), (2, .int l2), (3, .int l3), (4, .int l4), (5, .int l5), (6, .int l6)] [.int s0] h (F_X12_reads_212 N k119 k135 l0 l1 l2 l3 l4 l5 l6 s0 h) := by
  unfold F_X12_reads_212
  refine k_istore hq dX12_reads_212 (by decide) (ls' := [(8, .int s0), (0, .ref l0), (1, .int l1), (2, .int l2), (3, .int l3), (4, .int l4), (5, .int l5), (6, .int l6)]) rfl ?_
  refine k_iload hq dX12_reads_214 0 rfl ?_
  refine k_if_eq hq (tgt := 224) dX12_reads_216 (by decide) (fun _ => ?_) (fun _ => ?_)
  · refine k_iload hq dX12_reads_224 6 rfl ?_
    exact k_sub [1, 2, 3, 4, 5, 7] rfl (P_X12_reads_226 hq N k119 k135 hk119 hk135 l0 l1 l2 l3 l4 l6 l5 h)
  · refine k_iload hq dX12_reads_219 7 rfl ?_
    refine k_goto hq (tgt := 226) dX12_reads_221 (by decide) ?_
    exact k_sub [1, 2, 3, 4, 5, 7] rfl (P_X12_reads_226 hq N k119 k135 hk119 hk135 l0 l1 l2 l3 l4 l6 l6 h)
set_option maxRecDepth 100000 in
set_option maxHeartbeats 4000000 in
theorem P_X12_reads_207 {q : eT} {r0 : Int32} {h0 : eH} (hq : e_B q yX12_reads.cls cX12_reads 9 2 46 (some .int) yX12_reads.name) (N : Nat) (k119 : Nat → Int32 → Int32 → Int32 → Int32 → eH → Option (Int32 × eH)) (k135 : Nat → Int32 → Int32 → Int32 → Int32 → Int32 → Int32 → eH → Option (Int32 × eH)) (hk119 : ∀ (l0 : Nat) (l1 : Int32) (l2 : Int32) (l3 : Int32) (l4 : Int32) h, e_K eI q r0 h0 119 [(0, .ref l0), (1, .int l1), (2, .int l2), (3, .int l3), (4, .int l4)] [] h (k119 l0 l1 l2 l3 l4 h)) (hk135 : ∀ (l0 : Nat) (l1 : Int32) (l2 : Int32) (l3 : Int32) (l4 : Int32) (l5 : Int32) (l6 : Int32) h, e_K eI q r0 h0 135 [(0, .ref l0), (1, .int l1), (2, .int l2), (3, .int l3), (4, .int l4), (5, .int l5), (6, .int l6)] [] h (k135 l0 l1 l2 l3 l4 l5 l6 h)) (l0 : Nat) (l1 : Int32) (l2 : Int32) (l3 : Int32) (l4 : Int32) (l5 : Int32) (l6 : Int32) (h : eH) : e_K eI q r0 h0 207 [(0, .ref l0), (1, .int l1), (2, .int l2), (3, .int l3), (4, .int l4), (5, .int l5), (6, .int l6)] [] h (F_X12_reads_207 N k119 k135 l0 l1 l2 l3 l4 l5 l6 h) := by
  unfold F_X12_reads_207
  refine k_iconst hq dX12_reads_207 (v := 1) rfl ?_
  refine k_goto hq (tgt := 212) dX12_reads_208 (by decide) ?_
  exact k_sub [0, 1, 2, 3, 4, 5, 6] rfl (P_X12_reads_212 hq N k119 k135 hk119 hk135 l0 l1 l2 l3 l4 l5 l6 1 h)
set_option maxRecDepth 100000 in
set_option maxHeartbeats 4000000 in
theorem P_X12_reads_211 {q : eT} {r0 : Int32} {h0 : eH} (hq : e_B q yX12_reads.cls cX12_reads 9 2 46 (some .int) yX12_reads.name) (N : Nat) (k119 : Nat → Int32 → Int32 → Int32 → Int32 → eH → Option (Int32 × eH)) (k135 : Nat → Int32 → Int32 → Int32 → Int32 → Int32 → Int32 → eH → Option (Int32 × eH)) (hk119 : ∀ (l0 : Nat) (l1 : Int32) (l2 : Int32) (l3 : Int32) (l4 : Int32) h, e_K eI q r0 h0 119 [(0, .ref l0), (1, .int l1), (2, .int l2), (3, .int l3), (4, .int l4)] [] h (k119 l0 l1 l2 l3 l4 h)) (hk135 : ∀ (l0 : Nat) (l1 : Int32) (l2 : Int32) (l3 : Int32) (l4 : Int32) (l5 : Int32) (l6 : Int32) h, e_K eI q r0 h0 135 [(0, .ref l0), (1, .int l1), (2, .int l2), (3, .int l3), (4, .int l4), (5, .int l5), (6, .int l6)] [] h (k135 l0 l1 l2 l3 l4 l5 l6 h)) (l0 : Nat) (l1 : Int32) (l2 : Int32) (l3 : Int32) (l4 : Int32) (l5 : Int32) (l6 : Int32) (h : eH) : e_K eI q r0 h0 211 [(0, .ref l0), (1, .int l1), (2, .int l2), (3, .int l3), (4, .int l4), (5, .int l5), (6, .int l6)] [] h (F_X12_reads_211 N k119 k135 l0 l1 l2 l3 l4 l5 l6 h) := by
  unfold F_X12_reads_211
  refine k_iconst hq dX12_reads_211 (v := 0) rfl ?_
  exact k_sub [0, 1, 2, 3, 4, 5, 6] rfl (P_X12_reads_212 hq N k119 k135 hk119 hk135 l0 l1 l2 l3 l4 l5 l6 0 h)
set_option maxRecDepth 100000 in
set_option maxHeartbeats 4000000 in
theorem P_X12_reads_135b {q : eT} {r0 : Int32} {h0 : eH} (hq : e_B q yX12_reads.cls cX12_reads 9 2 46 (some .int) yX12_reads.name) (N : Nat) (k119 : Nat → Int32 → Int32 → Int32 → Int32 → eH → Option (Int32 × eH)) (k135 : Nat → Int32 → Int32 → Int32 → Int32 → Int32 → Int32 → eH → Option (Int32 × eH)) (hk119 : ∀ (l0 : Nat) (l1 : Int32) (l2 : Int32) (l3 : Int32) (l4 : Int32) h, e_K eI q r0 h0 119 [(0, .ref l0), (1, .int l1), (2, .int l2), (3, .int l3), (4, .int l4)] [] h (k119 l0 l1 l2 l3 l4 h)) (hk135 : ∀ (l0 : Nat) (l1 : Int32) (l2 : Int32) (l3 : Int32) (l4 : Int32) (l5 : Int32) (l6 : Int32) h, e_K eI q r0 h0 135 [(0, .ref l0), (1, .int l1), (2, .int l2), (3, .int l3), (4, .int l4), (5, .int l5), (6, .int l6)] [] h (k135 l0 l1 l2 l3 l4 l5 l6 h)) (l0 : Nat) (l1 : Int32) (l2 : Int32) (l3 : Int32) (l4 : Int32) (l5 : Int32) (l6 : Int32) (h : eH) : e_K eI q r0 h0 135 [(0, .ref l0), (1, .int l1), (2, .int l2), (3, .int l3), (4, .int l4), (5, .int l5), (6, .int l6)] [] h (F_X12_reads_135b N k119 k135 l0 l1 l2 l3 l4 l5 l6 h) := by
  unfold F_X12_reads_135b
  refine k_iload hq dX12_reads_135 6 rfl ?_
  refine k_aload_n hq dX12_reads_137 0 rfl ?_
  refine k_gi hq (C := RX12) (T := TX12) 11 0 rfl (by decide) (lay_X12 0 (by decide)) tw_927 dX12_reads_138 fun v1 => ?_
  refine k_icmp_ge hq (tgt := 234) dX12_reads_141 (by decide) (fun _ => ?_) (fun _ => ?_)
  · refine k_aload_n hq dX12_reads_234 0 rfl ?_
    refine k_gr hq (C := RX12) (T := TX12) 11 20 rfl (by decide) (lay_X12 20 (by decide)) tw_947 dX12_reads_235 fun v2 => ?_
    refine k_iconst hq dX12_reads_238 (v := 4) rfl ?_
    refine k_iload_n hq dX12_reads_239 1 rfl ?_
    refine k_imul hq dX12_reads_240 ?_
    refine k_iload hq dX12_reads_241 5 rfl ?_
    refine k_iadd hq dX12_reads_243 ?_
    refine k_iconst hq dX12_reads_244 (v := 0) rfl ?_
    refine k_iast hq dX12_reads_245 fun h3 => ?_
    refine k_iinc hq dX12_reads_246 4 rfl (v := l4 + (-1)) rfl (by decide) (ls' := [(4, .int (l4 + (-1))), (0, .ref l0), (1, .int l1), (2, .int l2), (3, .int l3), (5, .int l5), (6, .int l6)]) rfl ?_
    refine k_goto hq (tgt := 119) dX12_reads_249 (by decide) ?_
    exact k_sub [1, 2, 3, 4, 0] rfl (hk119 l0 l1 l2 l3 (l4 + (-1)) h3)
  · refine k_aload_n hq dX12_reads_144 0 rfl ?_
    refine k_gr hq (C := RX12) (T := TX12) 11 20 rfl (by decide) (lay_X12 20 (by decide)) tw_947 dX12_reads_145 fun v4 => ?_
    refine k_iconst hq dX12_reads_148 (v := 4) rfl ?_
    refine k_iload_n hq dX12_reads_149 1 rfl ?_
    refine k_imul hq dX12_reads_150 ?_
    refine k_iload hq dX12_reads_151 6 rfl ?_
    refine k_iadd hq dX12_reads_153 ?_
    refine k_iald hq dX12_reads_154 fun v5 => ?_
    refine k_istore hq dX12_reads_155 (by decide) (ls' := [(7, .int v5), (0, .ref l0), (1, .int l1), (2, .int l2), (3, .int l3), (4, .int l4), (5, .int l5), (6, .int l6)]) rfl ?_
    refine k_iload hq dX12_reads_157 0 rfl ?_
    refine k_if_le hq (tgt := 211) dX12_reads_159 (by decide) (fun _ => ?_) (fun _ => ?_)
    · exact k_sub [1, 2, 3, 4, 5, 6, 7] rfl (P_X12_reads_211 hq N k119 k135 hk119 hk135 l0 l1 l2 l3 l4 l5 l6 h)
    · refine k_iload hq dX12_reads_162 6 rfl ?_
      refine k_bipush hq dX12_reads_164 (v := (-9)) rfl ?_
      refine k_icmp_eq hq (tgt := 207) dX12_reads_166 (by decide) (fun _ => ?_) (fun _ => ?_)
      · exact k_sub [1, 2, 3, 4, 5, 6, 7] rfl (P_X12_reads_207 hq N k119 k135 hk119 hk135 l0 l1 l2 l3 l4 l5 l6 h)
      · refine k_aload_n hq dX12_reads_169 1 rfl ?_
        refine k_gr hq (C := RX12) (T := TX12) 11 7 rfl (by decide) (lay_X12 7 (by decide)) tw_934 dX12_reads_170 fun v6 => ?_
        refine k_iload_n hq dX12_reads_173 4 rfl ?_
        refine k_iload hq dX12_reads_174 7 rfl ?_
        refine k_iload hq dX12_reads_176 0 rfl ?_
        refine k_callS hq (na := 3) (As := [.int l3, .int l6, .int v5]) (st := [.ref v6]) (con_X12_at _ _ _ _ l3 l6 v5) tw_1115 tw_59 tw_1113 tw_1114 ⟨by decide, by decide, by decide +kernel⟩ rfl (by decide) rfl (Nat.le_of_ble_eq_true rfl) dX12_reads_178 fun v7 h8 => ?_
        refine k_iald hq dX12_reads_181 fun v9 => ?_
        refine k_aload_n hq dX12_reads_182 1 rfl ?_
        refine k_gr hq (C := RX12) (T := TX12) 11 7 rfl (by decide) (lay_X12 7 (by decide)) tw_934 dX12_reads_183 fun v10 => ?_
        refine k_iload_n hq dX12_reads_186 4 rfl ?_
        refine k_iload hq dX12_reads_187 6 rfl ?_
        refine k_aload_n hq dX12_reads_189 1 rfl ?_
        refine k_gr hq (C := RX12) (T := TX12) 11 20 rfl (by decide) (lay_X12 20 (by decide)) tw_947 dX12_reads_190 fun v11 => ?_
        refine k_iconst hq dX12_reads_193 (v := 4) rfl ?_
        refine k_iload_n hq dX12_reads_194 2 rfl ?_
        refine k_imul hq dX12_reads_195 ?_
        refine k_iload hq dX12_reads_196 6 rfl ?_
        refine k_iadd hq dX12_reads_198 ?_
        refine k_iald hq dX12_reads_199 fun v12 => ?_
        refine k_callS hq (na := 3) (As := [.int l3, .int l5, .int v12]) (st := [.ref v10, .int v9]) (con_X12_at _ _ _ _ l3 l5 v12) tw_1115 tw_59 tw_1113 tw_1114 ⟨by decide, by decide, by decide +kernel⟩ rfl (by decide) rfl (Nat.le_of_ble_eq_true rfl) dX12_reads_200 fun v13 h14 => ?_
        refine k_iald hq dX12_reads_203 fun v15 => ?_
        refine k_icmp_ge hq (tgt := 211) dX12_reads_204 (by decide) (fun _ => ?_) (fun _ => ?_)
        · exact k_sub [1, 2, 3, 4, 5, 6, 7] rfl (P_X12_reads_211 hq N k119 k135 hk119 hk135 l0 l1 l2 l3 l4 l5 l6 h14)
        · exact k_sub [1, 2, 3, 4, 5, 6, 7] rfl (P_X12_reads_207 hq N k119 k135 hk119 hk135 l0 l1 l2 l3 l4 l5 l6 h14)
theorem Q_X12_reads_135 {q : eT} {r0 : Int32} {h0 : eH} (hq : e_B q yX12_reads.cls cX12_reads 9 2 46 (some .int) yX12_reads.name) (N : Nat) (k119 : Nat → Int32 → Int32 → Int32 → Int32 → eH → Option (Int32 × eH)) (hk119 : ∀ (l0 : Nat) (l1 : Int32) (l2 : Int32) (l3 : Int32) (l4 : Int32) h, e_K eI q r0 h0 119 [(0, .ref l0), (1, .int l1), (2, .int l2), (3, .int l3), (4, .int l4)] [] h (k119 l0 l1 l2 l3 l4 h)) (l0 : Nat) (l1 : Int32) (l2 : Int32) (l3 : Int32) (l4 : Int32) (l5 : Int32) (l6 : Int32) (h : eH) : e_K eI q r0 h0 135 [(0, .ref l0), (1, .int l1), (2, .int l2), (3, .int l3), (4, .int l4), (5, .int l5), (6, .int l6)] [] h (L_X12_reads_135 N k119 l0 l1 l2 l3 l4 l5 l6 h) :=
  k_loop (mk := (fun s => [(0, .ref s.1), (1, .int s.2.1), (2, .int s.2.2.1), (3, .int s.2.2.2.1), (4, .int s.2.2.2.2.1), (5, .int s.2.2.2.2.2.1), (6, .int s.2.2.2.2.2.2.1)])) (hp := fun s => s.2.2.2.2.2.2.2) (fun k hk s => P_X12_reads_135b hq N k119 (fun l0 l1 l2 l3 l4 l5 l6 h => k (l0, l1, l2, l3, l4, l5, l6, h)) hk119 (fun l0 l1 l2 l3 l4 l5 l6 h => hk (l0, l1, l2, l3, l4, l5, l6, h)) s.1 s.2.1 s.2.2.1 s.2.2.2.1 s.2.2.2.2.1 s.2.2.2.2.2.1 s.2.2.2.2.2.2.1 s.2.2.2.2.2.2.2) N (l0, l1, l2, l3, l4, l5, l6, h)
set_option maxRecDepth 100000 in
set_option maxHeartbeats 4000000 in
theorem P_X12_reads_308 {q : eT} {r0 : Int32} {h0 : eH} (hq : e_B q yX12_reads.cls cX12_reads 9 2 46 (some .int) yX12_reads.name) (N : Nat) (k259 : Nat → Int32 → Int32 → Int32 → eH → Option (Int32 × eH)) (hk259 : ∀ (l0 : Nat) (l2 : Int32) (l3 : Int32) (l5 : Int32) h, e_K eI q r0 h0 259 [(0, .ref l0), (2, .int l2), (3, .int l3), (5, .int l5)] [] h (k259 l0 l2 l3 l5 h)) (l0 : Nat) (l2 : Int32) (l3 : Int32) (l5 : Int32) (s0 : Nat) (s1 : Int32) (s2 : Int32) (h : eH) : e_K eI q r0 h0 308 [(0, .ref l0), (2, .int l2), (3, .int l3), (5, .int l5)] [.int s2, .int s1, .ref s0] h (F_X12_reads_308 N k259 l0 l2 l3 l5 s0 s1 s2 h) := by
  unfold F_X12_reads_308
  refine k_zast hq dX12_reads_308 fun h1 => ?_
  refine k_iinc hq dX12_reads_309 3 rfl (v := l5 + 1) rfl (by decide) (ls' := [(5, .int (l5 + 1)), (0, .ref l0), (2, .int l2), (3, .int l3)]) rfl ?_
  refine k_goto hq (tgt := 259) dX12_reads_312 (by decide) ?_
  exact k_sub [1, 2, 3, 0] rfl (hk259 l0 l2 l3 (l5 + 1) h1)
set_option maxRecDepth 100000 in
set_option maxHeartbeats 4000000 in
theorem P_X12_reads_303 {q : eT} {r0 : Int32} {h0 : eH} (hq : e_B q yX12_reads.cls cX12_reads 9 2 46 (some .int) yX12_reads.name) (N : Nat) (k259 : Nat → Int32 → Int32 → Int32 → eH → Option (Int32 × eH)) (hk259 : ∀ (l0 : Nat) (l2 : Int32) (l3 : Int32) (l5 : Int32) h, e_K eI q r0 h0 259 [(0, .ref l0), (2, .int l2), (3, .int l3), (5, .int l5)] [] h (k259 l0 l2 l3 l5 h)) (l0 : Nat) (l2 : Int32) (l3 : Int32) (l5 : Int32) (s0 : Nat) (s1 : Int32) (h : eH) : e_K eI q r0 h0 303 [(0, .ref l0), (2, .int l2), (3, .int l3), (5, .int l5)] [.int s1, .ref s0] h (F_X12_reads_303 N k259 l0 l2 l3 l5 s0 s1 h) := by
  unfold F_X12_reads_303
  refine k_iconst hq dX12_reads_303 (v := 1) rfl ?_
  refine k_goto hq (tgt := 308) dX12_reads_304 (by decide) ?_
  exact k_sub [0, 1, 2, 3] rfl (P_X12_reads_308 hq N k259 hk259 l0 l2 l3 l5 s0 s1 1 h)
set_option maxRecDepth 100000 in
set_option maxHeartbeats 4000000 in
theorem P_X12_reads_259b {q : eT} {r0 : Int32} {h0 : eH} (hq : e_B q yX12_reads.cls cX12_reads 9 2 46 (some .int) yX12_reads.name) (N : Nat) (k259 : Nat → Int32 → Int32 → Int32 → eH → Option (Int32 × eH)) (hk259 : ∀ (l0 : Nat) (l2 : Int32) (l3 : Int32) (l5 : Int32) h, e_K eI q r0 h0 259 [(0, .ref l0), (2, .int l2), (3, .int l3), (5, .int l5)] [] h (k259 l0 l2 l3 l5 h)) (l0 : Nat) (l2 : Int32) (l3 : Int32) (l5 : Int32) (h : eH) : e_K eI q r0 h0 259 [(0, .ref l0), (2, .int l2), (3, .int l3), (5, .int l5)] [] h (F_X12_reads_259b N k259 l0 l2 l3 l5 h) := by
  unfold F_X12_reads_259b
  refine k_iload hq dX12_reads_259 3 rfl ?_
  refine k_sipush hq dX12_reads_261 (v := 164) rfl ?_
  refine k_iload_n hq dX12_reads_264 2 rfl ?_
  refine k_imul hq dX12_reads_265 ?_
  refine k_sipush hq dX12_reads_266 (v := 164) rfl ?_
  refine k_iadd hq dX12_reads_269 ?_
  refine k_icmp_ge hq (tgt := 315) dX12_reads_270 (by decide) (fun _ => ?_) (fun _ => ?_)
  · refine k_aload_n hq dX12_reads_315 0 rfl ?_
    refine k_iload_n hq dX12_reads_316 1 rfl ?_
    refine k_iload_n hq dX12_reads_317 2 rfl ?_
    refine k_callV hq (na := 2) (As := [.int l2, .int l3]) (st := []) 11 (C := RX12) (T := TX12) rfl (con_X12_siblings _ _ _ _ N l0 l2 l3) tw_1122 tw_59 tw_1119 tw_1121 tw_30 ⟨by decide, by decide, by decide +kernel⟩ rfl (by decide) rfl (Nat.le_of_ble_eq_true rfl) dX12_reads_318 fun v1 h2 => ?_
    exact k_iret hq dX12_reads_321
  · refine k_aload_n hq dX12_reads_273 0 rfl ?_
    refine k_gr hq (C := RX12) (T := TX12) 11 10 rfl (by decide) (lay_X12 10 (by decide)) tw_937 dX12_reads_274 fun v3 => ?_
    refine k_iload hq dX12_reads_277 3 rfl ?_
    refine k_aload_n hq dX12_reads_279 0 rfl ?_
    refine k_gr hq (C := RX12) (T := TX12) 11 10 rfl (by decide) (lay_X12 10 (by decide)) tw_937 dX12_reads_280 fun v4 => ?_
    refine k_iload hq dX12_reads_283 3 rfl ?_
    refine k_zald hq dX12_reads_285 fun v5 => ?_
    refine k_if_ne hq (tgt := 303) dX12_reads_286 (by decide) (fun _ => ?_) (fun _ => ?_)
    · refine k_aload_n hq dX12_reads_289 0 rfl ?_
      refine k_gr hq (C := RX12) (T := TX12) 11 14 rfl (by decide) (lay_X12 14 (by decide)) tw_941 dX12_reads_290 fun v6 => ?_
      refine k_iload hq dX12_reads_293 3 rfl ?_
      refine k_iald hq dX12_reads_295 fun v7 => ?_
      refine k_iload_n hq dX12_reads_296 1 rfl ?_
      refine k_callS hq (na := 2) (As := [.int v7, .int l2]) (st := [.int l5, .ref v3]) (con_X12_has _ _ _ _ v7 l2) tw_1118 tw_59 tw_1116 tw_1117 ⟨by decide, by decide, by decide +kernel⟩ rfl (by decide) rfl (Nat.le_of_ble_eq_true rfl) dX12_reads_297 fun v8 h9 => ?_
      refine k_if_eq hq (tgt := 307) dX12_reads_300 (by decide) (fun _ => ?_) (fun _ => ?_)
      · refine k_iconst hq dX12_reads_307 (v := 0) rfl ?_
        exact k_sub [0, 1, 2, 3] rfl (P_X12_reads_308 hq N k259 hk259 l0 l2 l3 l5 v3 l5 0 h9)
      · exact k_sub [0, 1, 2, 3] rfl (P_X12_reads_303 hq N k259 hk259 l0 l2 l3 l5 v3 l5 h9)
    · exact k_sub [0, 1, 2, 3] rfl (P_X12_reads_303 hq N k259 hk259 l0 l2 l3 l5 v3 l5 h)
theorem Q_X12_reads_259 {q : eT} {r0 : Int32} {h0 : eH} (hq : e_B q yX12_reads.cls cX12_reads 9 2 46 (some .int) yX12_reads.name) (N : Nat) (l0 : Nat) (l2 : Int32) (l3 : Int32) (l5 : Int32) (h : eH) : e_K eI q r0 h0 259 [(0, .ref l0), (2, .int l2), (3, .int l3), (5, .int l5)] [] h (L_X12_reads_259 N l0 l2 l3 l5 h) :=
  k_loop (mk := (fun s => [(0, .ref s.1), (2, .int s.2.1), (3, .int s.2.2.1), (5, .int s.2.2.2.1)])) (hp := fun s => s.2.2.2.2) (fun k hk s => P_X12_reads_259b hq N (fun l0 l2 l3 l5 h => k (l0, l2, l3, l5, h)) (fun l0 l2 l3 l5 h => hk (l0, l2, l3, l5, h)) s.1 s.2.1 s.2.2.1 s.2.2.2.1 s.2.2.2.2) N (l0, l2, l3, l5, h)
set_option maxRecDepth 100000 in
set_option maxHeartbeats 4000000 in
theorem P_X12_reads_119b {q : eT} {r0 : Int32} {h0 : eH} (hq : e_B q yX12_reads.cls cX12_reads 9 2 46 (some .int) yX12_reads.name) (N : Nat) (k119 : Nat → Int32 → Int32 → Int32 → Int32 → eH → Option (Int32 × eH)) (hk119 : ∀ (l0 : Nat) (l1 : Int32) (l2 : Int32) (l3 : Int32) (l4 : Int32) h, e_K eI q r0 h0 119 [(0, .ref l0), (1, .int l1), (2, .int l2), (3, .int l3), (4, .int l4)] [] h (k119 l0 l1 l2 l3 l4 h)) (l0 : Nat) (l1 : Int32) (l2 : Int32) (l3 : Int32) (l4 : Int32) (h : eH) : e_K eI q r0 h0 119 [(0, .ref l0), (1, .int l1), (2, .int l2), (3, .int l3), (4, .int l4)] [] h (F_X12_reads_119b N k119 l0 l1 l2 l3 l4 h) := by
  unfold F_X12_reads_119b
  refine k_iload hq dX12_reads_119 4 rfl ?_
  refine k_aload_n hq dX12_reads_121 0 rfl ?_
  refine k_gi hq (C := RX12) (T := TX12) 11 2 rfl (by decide) (lay_X12 2 (by decide)) tw_929 dX12_reads_122 fun v1 => ?_
  refine k_icmp_le hq (tgt := 252) dX12_reads_125 (by decide) (fun _ => ?_) (fun _ => ?_)
  · refine k_sipush hq dX12_reads_252 (v := 164) rfl ?_
    refine k_iload_n hq dX12_reads_255 3 rfl ?_
    refine k_imul hq dX12_reads_256 ?_
    refine k_let (mk := fun z => .int z :: []) fun v2 _ => ?_
    refine k_istore hq dX12_reads_257 (by decide) (ls' := [(5, .int v2), (0, .ref l0), (1, .int l1), (2, .int l2), (3, .int l3), (4, .int l4)]) rfl ?_
    exact k_sub [1, 3, 4, 0] rfl (Q_X12_reads_259 hq N l0 l2 l3 v2 h)
  · refine k_bipush hq dX12_reads_128 (v := (-9)) rfl ?_
    refine k_istore hq dX12_reads_130 (by decide) (ls' := [(5, .int (-9)), (0, .ref l0), (1, .int l1), (2, .int l2), (3, .int l3), (4, .int l4)]) rfl ?_
    refine k_iconst hq dX12_reads_132 (v := 0) rfl ?_
    refine k_istore hq dX12_reads_133 (by decide) (ls' := [(6, .int 0), (5, .int (-9)), (0, .ref l0), (1, .int l1), (2, .int l2), (3, .int l3), (4, .int l4)]) rfl ?_
    exact k_sub [2, 3, 4, 5, 6, 1, 0] rfl (Q_X12_reads_135 hq N k119 hk119 l0 l1 l2 l3 l4 (-9) 0 h)
theorem Q_X12_reads_119 {q : eT} {r0 : Int32} {h0 : eH} (hq : e_B q yX12_reads.cls cX12_reads 9 2 46 (some .int) yX12_reads.name) (N : Nat) (l0 : Nat) (l1 : Int32) (l2 : Int32) (l3 : Int32) (l4 : Int32) (h : eH) : e_K eI q r0 h0 119 [(0, .ref l0), (1, .int l1), (2, .int l2), (3, .int l3), (4, .int l4)] [] h (L_X12_reads_119 N l0 l1 l2 l3 l4 h) :=
  k_loop (mk := (fun s => [(0, .ref s.1), (1, .int s.2.1), (2, .int s.2.2.1), (3, .int s.2.2.2.1), (4, .int s.2.2.2.2.1)])) (hp := fun s => s.2.2.2.2.2) (fun k hk s => P_X12_reads_119b hq N (fun l0 l1 l2 l3 l4 h => k (l0, l1, l2, l3, l4, h)) (fun l0 l1 l2 l3 l4 h => hk (l0, l1, l2, l3, l4, h)) s.1 s.2.1 s.2.2.1 s.2.2.2.1 s.2.2.2.2.1 s.2.2.2.2.2) N (l0, l1, l2, l3, l4, h)
set_option maxRecDepth 100000 in
set_option maxHeartbeats 4000000 in
theorem P_X12_reads_38b {q : eT} {r0 : Int32} {h0 : eH} (hq : e_B q yX12_reads.cls cX12_reads 9 2 46 (some .int) yX12_reads.name) (N : Nat) (k38 : Nat → Int32 → Int32 → Int32 → Int32 → Int32 → eH → Option (Int32 × eH)) (hk38 : ∀ (l0 : Nat) (l1 : Int32) (l2 : Int32) (l3 : Int32) (l4 : Int32) (l5 : Int32) h, e_K eI q r0 h0 38 [(0, .ref l0), (1, .int l1), (2, .int l2), (3, .int l3), (4, .int l4), (5, .int l5)] [] h (k38 l0 l1 l2 l3 l4 l5 h)) (l0 : Nat) (l1 : Int32) (l2 : Int32) (l3 : Int32) (l4 : Int32) (l5 : Int32) (h : eH) : e_K eI q r0 h0 38 [(0, .ref l0), (1, .int l1), (2, .int l2), (3, .int l3), (4, .int l4), (5, .int l5)] [] h (F_X12_reads_38b N k38 l0 l1 l2 l3 l4 l5 h) := by
  unfold F_X12_reads_38b
  refine k_iload hq dX12_reads_38 5 rfl ?_
  refine k_iconst hq dX12_reads_40 (v := 4) rfl ?_
  refine k_icmp_ge hq (tgt := 119) dX12_reads_41 (by decide) (fun _ => ?_) (fun _ => ?_)
  · exact k_sub [0, 1, 2, 3, 4] rfl (Q_X12_reads_119 hq N l0 l1 l2 l3 l4 h)
  · refine k_iload hq dX12_reads_44 5 rfl ?_
    refine k_aload_n hq dX12_reads_46 0 rfl ?_
    refine k_gi hq (C := RX12) (T := TX12) 11 0 rfl (by decide) (lay_X12 0 (by decide)) tw_927 dX12_reads_47 fun v1 => ?_
    refine k_icmp_ge hq (tgt := 69) dX12_reads_50 (by decide) (fun _ => ?_) (fun _ => ?_)
    · refine k_iconst hq dX12_reads_69 (v := 0) rfl ?_
      exact k_sub [0, 1, 2, 3, 4, 5] rfl (P_X12_reads_70 hq N k38 hk38 l0 l1 l2 l3 l4 l5 0 h)
    · refine k_aload_n hq dX12_reads_53 0 rfl ?_
      refine k_gr hq (C := RX12) (T := TX12) 11 16 rfl (by decide) (lay_X12 16 (by decide)) tw_943 dX12_reads_54 fun v2 => ?_
      refine k_iload_n hq dX12_reads_57 3 rfl ?_
      refine k_iload_n hq dX12_reads_58 2 rfl ?_
      refine k_callS hq (na := 2) (As := [.int l3, .int l2]) (st := [.ref v2]) (con_X12_rowAt _ _ _ _ l3 l2) tw_1112 tw_59 tw_1110 tw_1111 ⟨by decide, by decide, by decide +kernel⟩ rfl (by decide) rfl (Nat.le_of_ble_eq_true rfl) dX12_reads_59 fun v3 h4 => ?_
      refine k_iload hq dX12_reads_62 5 rfl ?_
      refine k_iadd hq dX12_reads_64 ?_
      refine k_iald hq dX12_reads_65 fun v5 => ?_
      refine k_goto hq (tgt := 70) dX12_reads_66 (by decide) ?_
      exact k_sub [0, 1, 2, 3, 4, 5] rfl (P_X12_reads_70 hq N k38 hk38 l0 l1 l2 l3 l4 l5 v5 h4)
theorem Q_X12_reads_38 {q : eT} {r0 : Int32} {h0 : eH} (hq : e_B q yX12_reads.cls cX12_reads 9 2 46 (some .int) yX12_reads.name) (N : Nat) (l0 : Nat) (l1 : Int32) (l2 : Int32) (l3 : Int32) (l4 : Int32) (l5 : Int32) (h : eH) : e_K eI q r0 h0 38 [(0, .ref l0), (1, .int l1), (2, .int l2), (3, .int l3), (4, .int l4), (5, .int l5)] [] h (L_X12_reads_38 N l0 l1 l2 l3 l4 l5 h) :=
  k_loop (mk := (fun s => [(0, .ref s.1), (1, .int s.2.1), (2, .int s.2.2.1), (3, .int s.2.2.2.1), (4, .int s.2.2.2.2.1), (5, .int s.2.2.2.2.2.1)])) (hp := fun s => s.2.2.2.2.2.2) (fun k hk s => P_X12_reads_38b hq N (fun l0 l1 l2 l3 l4 l5 h => k (l0, l1, l2, l3, l4, l5, h)) (fun l0 l1 l2 l3 l4 l5 h => hk (l0, l1, l2, l3, l4, l5, h)) s.1 s.2.1 s.2.2.1 s.2.2.2.1 s.2.2.2.2.1 s.2.2.2.2.2.1 s.2.2.2.2.2.2) N (l0, l1, l2, l3, l4, l5, h)
set_option maxRecDepth 100000 in
set_option maxHeartbeats 4000000 in
theorem P_X12_reads_0 {q : eT} {r0 : Int32} {h0 : eH} (hq : e_B q yX12_reads.cls cX12_reads 9 2 46 (some .int) yX12_reads.name) (N : Nat) (l0 : Nat) (l1 : Int32) (l2 : Int32) (l3 : Int32) (h : eH) : e_K eI q r0 h0 0 [(0, .ref l0), (1, .int l1), (2, .int l2), (3, .int l3)] [] h (F_X12_reads N l0 l1 l2 l3 h) := by
  unfold F_X12_reads
  refine k_iload_n hq dX12_reads_0 1 rfl ?_
  refine k_callS hq (na := 1) (As := [.int l1]) (st := []) (con_X12_isClient _ _ _ _ l1) tw_1100 tw_59 tw_1098 tw_1099 ⟨by decide, by decide, by decide +kernel⟩ rfl (by decide) rfl (Nat.le_of_ble_eq_true rfl) dX12_reads_1 fun v1 h2 => ?_
  refine k_if_eq hq (tgt := 23) dX12_reads_4 (by decide) (fun _ => ?_) (fun _ => ?_)
  · refine k_iconst hq dX12_reads_23 (v := (-1)) rfl ?_
    exact k_iret hq dX12_reads_24
  · refine k_aload_n hq dX12_reads_7 0 rfl ?_
    refine k_iload_n hq dX12_reads_8 2 rfl ?_
    refine k_callV hq (na := 1) (As := [.int l2]) (st := []) 11 (C := RX12) (T := TX12) rfl (con_X12_isSite _ _ _ _ l0 l2) tw_1105 tw_59 tw_1102 tw_1104 tw_28 ⟨by decide, by decide, by decide +kernel⟩ rfl (by decide) rfl (Nat.le_of_ble_eq_true rfl) dX12_reads_9 fun v3 h4 => ?_
    refine k_if_eq hq (tgt := 23) dX12_reads_12 (by decide) (fun _ => ?_) (fun _ => ?_)
    · refine k_iconst hq dX12_reads_23 (v := (-1)) rfl ?_
      exact k_iret hq dX12_reads_24
    · refine k_aload_n hq dX12_reads_15 0 rfl ?_
      refine k_iload_n hq dX12_reads_16 3 rfl ?_
      refine k_callV hq (na := 1) (As := [.int l3]) (st := []) 11 (C := RX12) (T := TX12) rfl (con_X12_isKey _ _ _ _ l0 l3) tw_1109 tw_59 tw_1106 tw_1108 tw_29 ⟨by decide, by decide, by decide +kernel⟩ rfl (by decide) rfl (Nat.le_of_ble_eq_true rfl) dX12_reads_17 fun v5 h6 => ?_
      refine k_if_ne hq (tgt := 25) dX12_reads_20 (by decide) (fun _ => ?_) (fun _ => ?_)
      · refine k_iconst hq dX12_reads_23 (v := (-1)) rfl ?_
        exact k_iret hq dX12_reads_24
      · refine k_aload_n hq dX12_reads_25 0 rfl ?_
        refine k_gr hq (C := RX12) (T := TX12) 11 18 rfl (by decide) (lay_X12 18 (by decide)) tw_945 dX12_reads_26 fun v7 => ?_
        refine k_iload_n hq dX12_reads_29 1 rfl ?_
        refine k_iload_n hq dX12_reads_30 3 rfl ?_
        refine k_iast hq dX12_reads_31 fun h8 => ?_
        refine k_iconst hq dX12_reads_32 (v := 0) rfl ?_
        refine k_istore hq dX12_reads_33 (by decide) (ls' := [(4, .int 0), (0, .ref l0), (1, .int l1), (2, .int l2), (3, .int l3)]) rfl ?_
        refine k_iconst hq dX12_reads_35 (v := 0) rfl ?_
        refine k_istore hq dX12_reads_36 (by decide) (ls' := [(5, .int 0), (4, .int 0), (0, .ref l0), (1, .int l1), (2, .int l2), (3, .int l3)]) rfl ?_
        exact k_sub [2, 3, 4, 5, 1, 0] rfl (Q_X12_reads_38 hq N l0 l1 l2 l3 0 0 h8)
theorem con_X12_reads (l : Launch) (G : eG) (B0 n : Nat) (N : Nat) (l0 : Nat) (l1 : Int32) (l2 : Int32) (l3 : Int32) : e_C eI l G B0 n yX12_reads cX12_reads 9 (some .int) 2 46 [.ref l0, .int l1, .int l2, .int l3] (F_X12_reads N l0 l1 l2 l3) := by
  refine e_mk (by decide) (Nat.le_of_ble_eq_true rfl) fun q r0 h0 h hq e1 e2 e3 e4 => ?_
  subst e1; subst e2; subst e3; subst e4
  exact P_X12_reads_0 hq N l0 l1 l2 l3 h
set_option maxRecDepth 100000 in
set_option maxHeartbeats 4000000 in
theorem P_X12_comes_150 {q : eT} {r0 : Int32} {h0 : eH} (hq : e_B q yX12_comes.cls cX12_comes 9 3 68 (some .int) yX12_comes.name) (N : Nat) (k74 : Nat → Int32 → Int32 → Int32 → Int32 → Int32 → Int32 → eH → Option (Int32 × eH)) (hk74 : ∀ (l0 : Nat) (l1 : Int32) (l2 : Int32) (l5 : Int32) (l6 : Int32) (l7 : Int32) (l8 : Int32) h, e_K eI q r0 h0 74 [(0, .ref l0), (1, .int l1), (2, .int l2), (5, .int l5), (6, .int l6), (7, .int l7), (8, .int l8)] [] h (k74 l0 l1 l2 l5 l6 l7 l8 h)) (l0 : Nat) (l1 : Int32) (l2 : Int32) (l5 : Int32) (l6 : Int32) (l7 : Int32) (l8 : Int32) (s0 : Nat) (s1 : Int32) (s2 : Int32) (h : eH) : e_K eI q r0 h0 150 [(0, .ref l0), (1, .int l1), (2, .int l2), (5, .int l5), (6, .int l6), (7, .int l7), (8, .int l8)] [.int s2, .int s1, .ref s0] h (F_X12_comes_150 N k74 l0 l1 l2 l5 l6 l7 l8 s0 s1 s2 h) := by
  unfold F_X12_comes_150
  refine k_iast hq dX12_comes_150 fun h1 => ?_
  refine k_iinc hq dX12_comes_151 6 rfl (v := l8 + 1) rfl (by decide) (ls' := [(8, .int (l8 + 1)), (0, .ref l0), (1, .int l1), (2, .int l2), (5, .int l5), (6, .int l6), (7, .int l7)]) rfl ?_
  refine k_goto hq (tgt := 74) dX12_comes_154 (by decide) ?_
  exact k_sub [1, 2, 3, 4, 5, 6, 0] rfl (hk74 l0 l1 l2 l5 l6 l7 (l8 + 1) h1)
set_option maxRecDepth 100000 in
set_option maxHeartbeats 4000000 in
theorem P_X12_comes_74b {q : eT} {r0 : Int32} {h0 : eH} (hq : e_B q yX12_comes.cls cX12_comes 9 3 68 (some .int) yX12_comes.name) (N : Nat) (k74 : Nat → Int32 → Int32 → Int32 → Int32 → Int32 → Int32 → eH → Option (Int32 × eH)) (hk74 : ∀ (l0 : Nat) (l1 : Int32) (l2 : Int32) (l5 : Int32) (l6 : Int32) (l7 : Int32) (l8 : Int32) h, e_K eI q r0 h0 74 [(0, .ref l0), (1, .int l1), (2, .int l2), (5, .int l5), (6, .int l6), (7, .int l7), (8, .int l8)] [] h (k74 l0 l1 l2 l5 l6 l7 l8 h)) (l0 : Nat) (l1 : Int32) (l2 : Int32) (l5 : Int32) (l6 : Int32) (l7 : Int32) (l8 : Int32) (h : eH) : e_K eI q r0 h0 74 [(0, .ref l0), (1, .int l1), (2, .int l2), (5, .int l5), (6, .int l6), (7, .int l7), (8, .int l8)] [] h (F_X12_comes_74b N k74 l0 l1 l2 l5 l6 l7 l8 h) := by
  unfold F_X12_comes_74b
  refine k_iload hq dX12_comes_74 6 rfl ?_
  refine k_iconst hq dX12_comes_76 (v := 4) rfl ?_
  refine k_icmp_ge hq (tgt := 157) dX12_comes_77 (by decide) (fun _ => ?_) (fun _ => ?_)
  · refine k_aload_n hq dX12_comes_157 0 rfl ?_
    refine k_gr hq (C := RX12) (T := TX12) 11 14 rfl (by decide) (lay_X12 14 (by decide)) tw_941 dX12_comes_158 fun v1 => ?_
    refine k_iload hq dX12_comes_161 5 rfl ?_
    refine k_iconst hq dX12_comes_163 (v := 1) rfl ?_
    refine k_iload_n hq dX12_comes_164 2 rfl ?_
    refine k_ishl hq dX12_comes_165 ?_
    refine k_iast hq dX12_comes_166 fun h2 => ?_
    refine k_aload_n hq dX12_comes_167 0 rfl ?_
    refine k_iload_n hq dX12_comes_168 2 rfl ?_
    refine k_iload_n hq dX12_comes_169 1 rfl ?_
    refine k_callV hq (na := 2) (As := [.int l2, .int l1]) (st := []) 11 (C := RX12) (T := TX12) rfl (con_X12_bounds _ _ _ _ N l0 l2 l1) tw_1134 tw_59 tw_1131 tw_1133 tw_32 ⟨by decide, by decide, by decide +kernel⟩ rfl (by decide) rfl (Nat.le_of_ble_eq_true rfl) dX12_comes_170 fun v3 h4 => ?_
    refine k_iload hq dX12_comes_173 4 rfl ?_
    exact k_iret hq dX12_comes_175
  · refine k_aload_n hq dX12_comes_80 0 rfl ?_
    refine k_gr hq (C := RX12) (T := TX12) 11 16 rfl (by decide) (lay_X12 16 (by decide)) tw_943 dX12_comes_81 fun v5 => ?_
    refine k_iload hq dX12_comes_84 3 rfl ?_
    refine k_iload hq dX12_comes_86 6 rfl ?_
    refine k_iadd hq dX12_comes_88 ?_
    refine k_iload hq dX12_comes_89 6 rfl ?_
    refine k_iload_n hq dX12_comes_91 2 rfl ?_
    refine k_icmp_ne hq (tgt := 100) dX12_comes_92 (by decide) (fun _ => ?_) (fun _ => ?_)
    · refine k_iload hq dX12_comes_95 4 rfl ?_
      refine k_goto hq (tgt := 150) dX12_comes_97 (by decide) ?_
      exact k_sub [0, 1, 2, 3, 4, 5, 6] rfl (P_X12_comes_150 hq N k74 hk74 l0 l1 l2 l5 l6 l7 l8 v5 (l5 + l8) l6 h)
    · refine k_aload_n hq dX12_comes_100 0 rfl ?_
      refine k_gr hq (C := RX12) (T := TX12) 11 8 rfl (by decide) (lay_X12 8 (by decide)) tw_935 dX12_comes_101 fun v6 => ?_
      refine k_iconst hq dX12_comes_104 (v := 4) rfl ?_
      refine k_iload hq dX12_comes_105 5 rfl ?_
      refine k_imul hq dX12_comes_107 ?_
      refine k_iload hq dX12_comes_108 6 rfl ?_
      refine k_iadd hq dX12_comes_110 ?_
      refine k_iald hq dX12_comes_111 fun v7 => ?_
      refine k_aload_n hq dX12_comes_112 0 rfl ?_
      refine k_gr hq (C := RX12) (T := TX12) 11 16 rfl (by decide) (lay_X12 16 (by decide)) tw_943 dX12_comes_113 fun v8 => ?_
      refine k_iload hq dX12_comes_116 3 rfl ?_
      refine k_iload hq dX12_comes_118 6 rfl ?_
      refine k_iadd hq dX12_comes_120 ?_
      refine k_iald hq dX12_comes_121 fun v9 => ?_
      refine k_icmp_le hq (tgt := 140) dX12_comes_122 (by decide) (fun _ => ?_) (fun _ => ?_)
      · refine k_aload_n hq dX12_comes_140 0 rfl ?_
        refine k_gr hq (C := RX12) (T := TX12) 11 16 rfl (by decide) (lay_X12 16 (by decide)) tw_943 dX12_comes_141 fun v10 => ?_
        refine k_iload hq dX12_comes_144 3 rfl ?_
        refine k_iload hq dX12_comes_146 6 rfl ?_
        refine k_iadd hq dX12_comes_148 ?_
        refine k_iald hq dX12_comes_149 fun v11 => ?_
        exact k_sub [0, 1, 2, 3, 4, 5, 6] rfl (P_X12_comes_150 hq N k74 hk74 l0 l1 l2 l5 l6 l7 l8 v5 (l5 + l8) v11 h)
      · refine k_aload_n hq dX12_comes_125 0 rfl ?_
        refine k_gr hq (C := RX12) (T := TX12) 11 8 rfl (by decide) (lay_X12 8 (by decide)) tw_935 dX12_comes_126 fun v12 => ?_
        refine k_iconst hq dX12_comes_129 (v := 4) rfl ?_
        refine k_iload hq dX12_comes_130 5 rfl ?_
        refine k_imul hq dX12_comes_132 ?_
        refine k_iload hq dX12_comes_133 6 rfl ?_
        refine k_iadd hq dX12_comes_135 ?_
        refine k_iald hq dX12_comes_136 fun v13 => ?_
        refine k_goto hq (tgt := 150) dX12_comes_137 (by decide) ?_
        exact k_sub [0, 1, 2, 3, 4, 5, 6] rfl (P_X12_comes_150 hq N k74 hk74 l0 l1 l2 l5 l6 l7 l8 v5 (l5 + l8) v13 h)
theorem Q_X12_comes_74 {q : eT} {r0 : Int32} {h0 : eH} (hq : e_B q yX12_comes.cls cX12_comes 9 3 68 (some .int) yX12_comes.name) (N : Nat) (l0 : Nat) (l1 : Int32) (l2 : Int32) (l5 : Int32) (l6 : Int32) (l7 : Int32) (l8 : Int32) (h : eH) : e_K eI q r0 h0 74 [(0, .ref l0), (1, .int l1), (2, .int l2), (5, .int l5), (6, .int l6), (7, .int l7), (8, .int l8)] [] h (L_X12_comes_74 N l0 l1 l2 l5 l6 l7 l8 h) :=
  k_loop (mk := (fun s => [(0, .ref s.1), (1, .int s.2.1), (2, .int s.2.2.1), (5, .int s.2.2.2.1), (6, .int s.2.2.2.2.1), (7, .int s.2.2.2.2.2.1), (8, .int s.2.2.2.2.2.2.1)])) (hp := fun s => s.2.2.2.2.2.2.2) (fun k hk s => P_X12_comes_74b hq N (fun l0 l1 l2 l5 l6 l7 l8 h => k (l0, l1, l2, l5, l6, l7, l8, h)) (fun l0 l1 l2 l5 l6 l7 l8 h => hk (l0, l1, l2, l5, l6, l7, l8, h)) s.1 s.2.1 s.2.2.1 s.2.2.2.1 s.2.2.2.2.1 s.2.2.2.2.2.1 s.2.2.2.2.2.2.1 s.2.2.2.2.2.2.2) N (l0, l1, l2, l5, l6, l7, l8, h)
set_option maxRecDepth 100000 in
set_option maxHeartbeats 4000000 in
theorem P_X12_comes_0 {q : eT} {r0 : Int32} {h0 : eH} (hq : e_B q yX12_comes.cls cX12_comes 9 3 68 (some .int) yX12_comes.name) (N : Nat) (l0 : Nat) (l1 : Int32) (l2 : Int32) (l3 : Int64) (h : eH) : e_K eI q r0 h0 0 [(0, .ref l0), (1, .int l1), (2, .int l2), (3, .long l3)] [] h (F_X12_comes N l0 l1 l2 l3 h) := by
  unfold F_X12_comes
  refine k_iload_n hq dX12_comes_0 1 rfl ?_
  refine k_iload_n hq dX12_comes_1 2 rfl ?_
  refine k_callS hq (na := 2) (As := [.int l1, .int l2]) (st := []) (con_X12_rowAt _ _ _ _ l1 l2) tw_1112 tw_59 tw_1110 tw_1111 ⟨by decide, by decide, by decide +kernel⟩ rfl (by decide) rfl (Nat.le_of_ble_eq_true rfl) dX12_comes_2 fun v1 h2 => ?_
  refine k_istore hq dX12_comes_5 (by decide) (ls' := [(5, .int v1), (0, .ref l0), (1, .int l1), (2, .int l2), (3, .long l3)]) rfl ?_
  refine k_aload_n hq dX12_comes_7 1 rfl ?_
  refine k_gr hq (C := RX12) (T := TX12) 11 15 rfl (by decide) (lay_X12 15 (by decide)) tw_942 dX12_comes_8 fun v3 => ?_
  refine k_iconst hq dX12_comes_11 (v := 4) rfl ?_
  refine k_iload_n hq dX12_comes_12 2 rfl ?_
  refine k_imul hq dX12_comes_13 ?_
  refine k_iload_n hq dX12_comes_14 3 rfl ?_
  refine k_iadd hq dX12_comes_15 ?_
  refine k_dup2_11 hq dX12_comes_16 rfl rfl ?_
  refine k_iald hq dX12_comes_17 fun v4 => ?_
  refine k_iconst hq dX12_comes_18 (v := 1) rfl ?_
  refine k_iadd hq dX12_comes_19 ?_
  refine k_iast hq dX12_comes_20 fun h5 => ?_
  refine k_aload_n hq dX12_comes_21 1 rfl ?_
  refine k_gr hq (C := RX12) (T := TX12) 11 15 rfl (by decide) (lay_X12 15 (by decide)) tw_942 dX12_comes_22 fun v6 => ?_
  refine k_iconst hq dX12_comes_25 (v := 4) rfl ?_
  refine k_iload_n hq dX12_comes_26 2 rfl ?_
  refine k_imul hq dX12_comes_27 ?_
  refine k_iload_n hq dX12_comes_28 3 rfl ?_
  refine k_iadd hq dX12_comes_29 ?_
  refine k_iald hq dX12_comes_30 fun v7 => ?_
  refine k_istore hq dX12_comes_31 (by decide) (ls' := [(6, .int v7), (5, .int v1), (0, .ref l0), (1, .int l1), (2, .int l2), (3, .long l3)]) rfl ?_
  refine k_iload_n hq dX12_comes_33 3 rfl ?_
  refine k_iload_n hq dX12_comes_34 4 rfl ?_
  refine k_iload hq dX12_comes_35 0 rfl ?_
  refine k_callS hq (na := 3) (As := [.int l1, .int l2, .int v7]) (st := []) (con_X12_at _ _ _ _ l1 l2 v7) tw_1115 tw_59 tw_1113 tw_1114 ⟨by decide, by decide, by decide +kernel⟩ rfl (by decide) rfl (Nat.le_of_ble_eq_true rfl) dX12_comes_37 fun v8 h9 => ?_
  refine k_istore hq dX12_comes_40 (by decide) (ls' := [(7, .int v8), (6, .int v7), (5, .int v1), (0, .ref l0), (1, .int l1), (2, .int l2), (3, .long l3)]) rfl ?_
  refine k_aload_n hq dX12_comes_42 3 rfl ?_
  refine k_dup hq dX12_comes_43 rfl ?_
  refine k_gi hq (C := RX12) (T := TX12) 11 5 rfl (by decide) (lay_X12 5 (by decide)) tw_932 dX12_comes_44 fun v10 => ?_
  refine k_iconst hq dX12_comes_47 (v := 1) rfl ?_
  refine k_iadd hq dX12_comes_48 ?_
  refine k_p hq (C := RX12) (T := TX12) 11 5 rfl (by decide) lay_X12 tyX12 tyX12_ok nmX12 tw_932 rfl rfl rfl dX12_comes_49 fun h11 => ?_
  refine k_aload_n hq dX12_comes_52 3 rfl ?_
  refine k_gr hq (C := RX12) (T := TX12) 11 7 rfl (by decide) (lay_X12 7 (by decide)) tw_934 dX12_comes_53 fun v12 => ?_
  refine k_iload hq dX12_comes_56 0 rfl ?_
  refine k_aload_n hq dX12_comes_58 3 rfl ?_
  refine k_gi hq (C := RX12) (T := TX12) 11 5 rfl (by decide) (lay_X12 5 (by decide)) tw_932 dX12_comes_59 fun v13 => ?_
  refine k_iast hq dX12_comes_62 fun h14 => ?_
  refine k_aload_n hq dX12_comes_63 3 rfl ?_
  refine k_gr hq (C := RX12) (T := TX12) 11 6 rfl (by decide) (lay_X12 6 (by decide)) tw_933 dX12_comes_64 fun v15 => ?_
  refine k_iload hq dX12_comes_67 0 rfl ?_
  refine k_lload_n hq dX12_comes_69 6 rfl ?_
  refine k_last hq dX12_comes_70 fun h16 => ?_
  refine k_iconst hq dX12_comes_71 (v := 0) rfl ?_
  refine k_istore hq dX12_comes_72 (by decide) (ls' := [(8, .int 0), (7, .int v8), (6, .int v7), (5, .int v1), (0, .ref l0), (1, .int l1), (2, .int l2), (3, .long l3)]) rfl ?_
  exact k_sub [4, 5, 6, 3, 2, 1, 0] rfl (Q_X12_comes_74 hq N l0 l1 l2 v1 v7 v8 0 h16)
theorem con_X12_comes (l : Launch) (G : eG) (B0 n : Nat) (N : Nat) (l0 : Nat) (l1 : Int32) (l2 : Int32) (l3 : Int64) : e_C eI l G B0 n yX12_comes cX12_comes 9 (some .int) 3 68 [.ref l0, .int l1, .int l2, .long l3] (F_X12_comes N l0 l1 l2 l3) := by
  refine e_mk (by decide) (Nat.le_of_ble_eq_true rfl) fun q r0 h0 h hq e1 e2 e3 e4 => ?_
  subst e1; subst e2; subst e3; subst e4
  exact P_X12_comes_0 hq N l0 l1 l2 l3 h
set_option maxRecDepth 100000 in
set_option maxHeartbeats 4000000 in
theorem P_X12_writes_189 {q : eT} {r0 : Int32} {h0 : eH} (hq : e_B q yX12_writes.cls cX12_writes 13 4 96 (some .int) yX12_writes.name) (N : Nat) (k120 : Nat → Int32 → Int32 → Int32 → Int64 → Int32 → Int32 → Int32 → eH → Option (Int32 × eH)) (hk120 : ∀ (l0 : Nat) (l1 : Int32) (l2 : Int32) (l3 : Int32) (l5 : Int64) (l7 : Int32) (l8 : Int32) (l9 : Int32) h, e_K eI q r0 h0 120 [(0, .ref l0), (1, .int l1), (2, .int l2), (3, .int l3), (5, .long l5), (7, .int l7), (8, .int l8), (9, .int l9)] [] h (k120 l0 l1 l2 l3 l5 l7 l8 l9 h)) (l0 : Nat) (l1 : Int32) (l2 : Int32) (l3 : Int32) (l5 : Int64) (l7 : Int32) (l8 : Int32) (l9 : Int32) (s0 : Nat) (s1 : Int32) (s2 : Int32) (h : eH) : e_K eI q r0 h0 189 [(0, .ref l0), (1, .int l1), (2, .int l2), (3, .int l3), (5, .long l5), (7, .int l7), (8, .int l8), (9, .int l9)] [.int s2, .int s1, .ref s0] h (F_X12_writes_189 N k120 l0 l1 l2 l3 l5 l7 l8 l9 s0 s1 s2 h) := by
  unfold F_X12_writes_189
  refine k_iast hq dX12_writes_189 fun h1 => ?_
  refine k_iinc hq dX12_writes_190 7 rfl (v := l9 + 1) rfl (by decide) (ls' := [(9, .int (l9 + 1)), (0, .ref l0), (1, .int l1), (2, .int l2), (3, .int l3), (5, .long l5), (7, .int l7), (8, .int l8)]) rfl ?_
  refine k_goto hq (tgt := 120) dX12_writes_193 (by decide) ?_
  exact k_sub [1, 2, 3, 4, 5, 6, 7, 0] rfl (hk120 l0 l1 l2 l3 l5 l7 l8 (l9 + 1) h1)
set_option maxRecDepth 100000 in
set_option maxHeartbeats 4000000 in
theorem P_X12_writes_157 {q : eT} {r0 : Int32} {h0 : eH} (hq : e_B q yX12_writes.cls cX12_writes 13 4 96 (some .int) yX12_writes.name) (N : Nat) (k120 : Nat → Int32 → Int32 → Int32 → Int64 → Int32 → Int32 → Int32 → eH → Option (Int32 × eH)) (hk120 : ∀ (l0 : Nat) (l1 : Int32) (l2 : Int32) (l3 : Int32) (l5 : Int64) (l7 : Int32) (l8 : Int32) (l9 : Int32) h, e_K eI q r0 h0 120 [(0, .ref l0), (1, .int l1), (2, .int l2), (3, .int l3), (5, .long l5), (7, .int l7), (8, .int l8), (9, .int l9)] [] h (k120 l0 l1 l2 l3 l5 l7 l8 l9 h)) (l0 : Nat) (l1 : Int32) (l2 : Int32) (l3 : Int32) (l5 : Int64) (l7 : Int32) (l8 : Int32) (l9 : Int32) (s0 : Nat) (s1 : Int32) (s2 : Int32) (h : eH) : e_K eI q r0 h0 157 [(0, .ref l0), (1, .int l1), (2, .int l2), (3, .int l3), (5, .long l5), (7, .int l7), (8, .int l8), (9, .int l9)] [.int s2, .int s1, .ref s0] h (F_X12_writes_157 N k120 l0 l1 l2 l3 l5 l7 l8 l9 s0 s1 s2 h) := by
  unfold F_X12_writes_157
  refine k_iast hq dX12_writes_157 fun h1 => ?_
  refine k_aload_n hq dX12_writes_158 0 rfl ?_
  refine k_gr hq (C := RX12) (T := TX12) 11 9 rfl (by decide) (lay_X12 9 (by decide)) tw_936 dX12_writes_159 fun v2 => ?_
  refine k_iconst hq dX12_writes_162 (v := 4) rfl ?_
  refine k_iload hq dX12_writes_163 6 rfl ?_
  refine k_imul hq dX12_writes_165 ?_
  refine k_iload hq dX12_writes_166 7 rfl ?_
  refine k_iadd hq dX12_writes_168 ?_
  refine k_iload hq dX12_writes_169 5 rfl ?_
  refine k_if_eq hq (tgt := 188) dX12_writes_171 (by decide) (fun _ => ?_) (fun _ => ?_)
  · refine k_iconst hq dX12_writes_188 (v := 0) rfl ?_
    exact k_sub [0, 1, 2, 3, 4, 5, 6, 7] rfl (P_X12_writes_189 hq N k120 hk120 l0 l1 l2 l3 l5 l7 l8 l9 v2 ((4 * l8) + l9) 0 h1)
  · refine k_aload_n hq dX12_writes_174 0 rfl ?_
    refine k_gr hq (C := RX12) (T := TX12) 11 19 rfl (by decide) (lay_X12 19 (by decide)) tw_946 dX12_writes_175 fun v3 => ?_
    refine k_iconst hq dX12_writes_178 (v := 4) rfl ?_
    refine k_iload_n hq dX12_writes_179 1 rfl ?_
    refine k_imul hq dX12_writes_180 ?_
    refine k_iload hq dX12_writes_181 7 rfl ?_
    refine k_iadd hq dX12_writes_183 ?_
    refine k_iald hq dX12_writes_184 fun v4 => ?_
    refine k_goto hq (tgt := 189) dX12_writes_185 (by decide) ?_
    exact k_sub [0, 1, 2, 3, 4, 5, 6, 7] rfl (P_X12_writes_189 hq N k120 hk120 l0 l1 l2 l3 l5 l7 l8 l9 v2 ((4 * l8) + l9) v4 h1)
set_option maxRecDepth 100000 in
set_option maxHeartbeats 4000000 in
theorem P_X12_writes_352 {q : eT} {r0 : Int32} {h0 : eH} (hq : e_B q yX12_writes.cls cX12_writes 13 4 96 (some .int) yX12_writes.name) (N : Nat) (k221 : Nat → Int32 → Int32 → Int64 → Int32 → Int32 → eH → Option (Int32 × eH)) (k233 : Nat → Int32 → Int32 → Int64 → Int32 → Int32 → Int32 → eH → Option (Int32 × eH)) (hk221 : ∀ (l0 : Nat) (l2 : Int32) (l3 : Int32) (l5 : Int64) (l8 : Int32) (l9 : Int32) h, e_K eI q r0 h0 221 [(0, .ref l0), (2, .int l2), (3, .int l3), (5, .long l5), (8, .int l8), (9, .int l9)] [] h (k221 l0 l2 l3 l5 l8 l9 h)) (hk233 : ∀ (l0 : Nat) (l2 : Int32) (l3 : Int32) (l5 : Int64) (l8 : Int32) (l9 : Int32) (l10 : Int32) h, e_K eI q r0 h0 233 [(0, .ref l0), (2, .int l2), (3, .int l3), (5, .long l5), (8, .int l8), (9, .int l9), (10, .int l10)] [] h (k233 l0 l2 l3 l5 l8 l9 l10 h)) (l0 : Nat) (l2 : Int32) (l3 : Int32) (l5 : Int64) (l8 : Int32) (l9 : Int32) (l10 : Int32) (h : eH) : e_K eI q r0 h0 352 [(0, .ref l0), (2, .int l2), (3, .int l3), (5, .long l5), (8, .int l8), (9, .int l9), (10, .int l10)] [] h (F_X12_writes_352 N k221 k233 l0 l2 l3 l5 l8 l9 l10 h) := by
  unfold F_X12_writes_352
  refine k_iinc hq dX12_writes_352 6 rfl (v := l10 + 1) rfl (by decide) (ls' := [(10, .int (l10 + 1)), (0, .ref l0), (2, .int l2), (3, .int l3), (5, .long l5), (8, .int l8), (9, .int l9)]) rfl ?_
  refine k_goto hq (tgt := 233) dX12_writes_355 (by decide) ?_
  exact k_sub [1, 2, 3, 4, 5, 6, 0] rfl (hk233 l0 l2 l3 l5 l8 l9 (l10 + 1) h)
set_option maxRecDepth 100000 in
set_option maxHeartbeats 4000000 in
theorem P_X12_writes_320 {q : eT} {r0 : Int32} {h0 : eH} (hq : e_B q yX12_writes.cls cX12_writes 13 4 96 (some .int) yX12_writes.name) (N : Nat) (k221 : Nat → Int32 → Int32 → Int64 → Int32 → Int32 → eH → Option (Int32 × eH)) (k233 : Nat → Int32 → Int32 → Int64 → Int32 → Int32 → Int32 → eH → Option (Int32 × eH)) (hk221 : ∀ (l0 : Nat) (l2 : Int32) (l3 : Int32) (l5 : Int64) (l8 : Int32) (l9 : Int32) h, e_K eI q r0 h0 221 [(0, .ref l0), (2, .int l2), (3, .int l3), (5, .long l5), (8, .int l8), (9, .int l9)] [] h (k221 l0 l2 l3 l5 l8 l9 h)) (hk233 : ∀ (l0 : Nat) (l2 : Int32) (l3 : Int32) (l5 : Int64) (l8 : Int32) (l9 : Int32) (l10 : Int32) h, e_K eI q r0 h0 233 [(0, .ref l0), (2, .int l2), (3, .int l3), (5, .long l5), (8, .int l8), (9, .int l9), (10, .int l10)] [] h (k233 l0 l2 l3 l5 l8 l9 l10 h)) (l0 : Nat) (l2 : Int32) (l3 : Int32) (l5 : Int64) (l8 : Int32) (l9 : Int32) (l10 : Int32) (l12 : Int32) (h : eH) : e_K eI q r0 h0 320 [(0, .ref l0), (2, .int l2), (3, .int l3), (5, .long l5), (8, .int l8), (9, .int l9), (10, .int l10), (12, .int l12)] [] h (F_X12_writes_320 N k221 k233 l0 l2 l3 l5 l8 l9 l10 l12 h) := by
  unfold F_X12_writes_320
  refine k_iload hq dX12_writes_320 7 rfl ?_
  refine k_if_eq hq (tgt := 352) dX12_writes_322 (by decide) (fun _ => ?_) (fun _ => ?_)
  · exact k_sub [0, 1, 2, 3, 4, 5, 6] rfl (P_X12_writes_352 hq N k221 k233 hk221 hk233 l0 l2 l3 l5 l8 l9 l10 h)
  · refine k_aload_n hq dX12_writes_325 0 rfl ?_
    refine k_gr hq (C := RX12) (T := TX12) 11 9 rfl (by decide) (lay_X12 9 (by decide)) tw_936 dX12_writes_326 fun v1 => ?_
    refine k_iconst hq dX12_writes_329 (v := 4) rfl ?_
    refine k_iload hq dX12_writes_330 4 rfl ?_
    refine k_imul hq dX12_writes_332 ?_
    refine k_iload hq dX12_writes_333 5 rfl ?_
    refine k_iadd hq dX12_writes_335 ?_
    refine k_iald hq dX12_writes_336 fun v2 => ?_
    refine k_iload hq dX12_writes_337 6 rfl ?_
    refine k_icmp_lt hq (tgt := 352) dX12_writes_339 (by decide) (fun _ => ?_) (fun _ => ?_)
    · exact k_sub [0, 1, 2, 3, 4, 5, 6] rfl (P_X12_writes_352 hq N k221 k233 hk221 hk233 l0 l2 l3 l5 l8 l9 l10 h)
    · refine k_aload_n hq dX12_writes_342 0 rfl ?_
      refine k_gr hq (C := RX12) (T := TX12) 11 17 rfl (by decide) (lay_X12 17 (by decide)) tw_944 dX12_writes_343 fun v3 => ?_
      refine k_iload_n hq dX12_writes_346 2 rfl ?_
      refine k_dup2_11 hq dX12_writes_347 rfl rfl ?_
      refine k_iald hq dX12_writes_348 fun v4 => ?_
      refine k_iconst hq dX12_writes_349 (v := 1) rfl ?_
      refine k_iadd hq dX12_writes_350 ?_
      refine k_iast hq dX12_writes_351 fun h5 => ?_
      exact k_sub [0, 1, 2, 3, 4, 5, 6] rfl (P_X12_writes_352 hq N k221 k233 hk221 hk233 l0 l2 l3 l5 l8 l9 l10 h5)
set_option maxRecDepth 100000 in
set_option maxHeartbeats 4000000 in
theorem P_X12_writes_233b {q : eT} {r0 : Int32} {h0 : eH} (hq : e_B q yX12_writes.cls cX12_writes 13 4 96 (some .int) yX12_writes.name) (N : Nat) (k221 : Nat → Int32 → Int32 → Int64 → Int32 → Int32 → eH → Option (Int32 × eH)) (k233 : Nat → Int32 → Int32 → Int64 → Int32 → Int32 → Int32 → eH → Option (Int32 × eH)) (hk221 : ∀ (l0 : Nat) (l2 : Int32) (l3 : Int32) (l5 : Int64) (l8 : Int32) (l9 : Int32) h, e_K eI q r0 h0 221 [(0, .ref l0), (2, .int l2), (3, .int l3), (5, .long l5), (8, .int l8), (9, .int l9)] [] h (k221 l0 l2 l3 l5 l8 l9 h)) (hk233 : ∀ (l0 : Nat) (l2 : Int32) (l3 : Int32) (l5 : Int64) (l8 : Int32) (l9 : Int32) (l10 : Int32) h, e_K eI q r0 h0 233 [(0, .ref l0), (2, .int l2), (3, .int l3), (5, .long l5), (8, .int l8), (9, .int l9), (10, .int l10)] [] h (k233 l0 l2 l3 l5 l8 l9 l10 h)) (l0 : Nat) (l2 : Int32) (l3 : Int32) (l5 : Int64) (l8 : Int32) (l9 : Int32) (l10 : Int32) (h : eH) : e_K eI q r0 h0 233 [(0, .ref l0), (2, .int l2), (3, .int l3), (5, .long l5), (8, .int l8), (9, .int l9), (10, .int l10)] [] h (F_X12_writes_233b N k221 k233 l0 l2 l3 l5 l8 l9 l10 h) := by
  unfold F_X12_writes_233b
  refine k_iload hq dX12_writes_233 6 rfl ?_
  refine k_aload_n hq dX12_writes_235 0 rfl ?_
  refine k_gr hq (C := RX12) (T := TX12) 11 15 rfl (by decide) (lay_X12 15 (by decide)) tw_942 dX12_writes_236 fun v1 => ?_
  refine k_iconst hq dX12_writes_239 (v := 4) rfl ?_
  refine k_iload_n hq dX12_writes_240 2 rfl ?_
  refine k_imul hq dX12_writes_241 ?_
  refine k_iload hq dX12_writes_242 5 rfl ?_
  refine k_iadd hq dX12_writes_244 ?_
  refine k_iald hq dX12_writes_245 fun v2 => ?_
  refine k_icmp_gt hq (tgt := 358) dX12_writes_246 (by decide) (fun _ => ?_) (fun _ => ?_)
  · refine k_iinc hq dX12_writes_358 5 rfl (v := l9 + 1) rfl (by decide) (ls' := [(9, .int (l9 + 1)), (0, .ref l0), (2, .int l2), (3, .int l3), (5, .long l5), (8, .int l8), (10, .int l10)]) rfl ?_
    refine k_goto hq (tgt := 221) dX12_writes_361 (by decide) ?_
    exact k_sub [1, 2, 3, 4, 5, 0] rfl (hk221 l0 l2 l3 l5 l8 (l9 + 1) h)
  · refine k_iload_n hq dX12_writes_249 2 rfl ?_
    refine k_iload hq dX12_writes_250 5 rfl ?_
    refine k_iload hq dX12_writes_252 6 rfl ?_
    refine k_callS hq (na := 3) (As := [.int l3, .int l9, .int l10]) (st := []) (con_X12_at _ _ _ _ l3 l9 l10) tw_1115 tw_59 tw_1113 tw_1114 ⟨by decide, by decide, by decide +kernel⟩ rfl (by decide) rfl (Nat.le_of_ble_eq_true rfl) dX12_writes_254 fun v3 h4 => ?_
    refine k_istore hq dX12_writes_257 (by decide) (ls' := [(11, .int v3), (0, .ref l0), (2, .int l2), (3, .int l3), (5, .long l5), (8, .int l8), (9, .int l9), (10, .int l10)]) rfl ?_
    refine k_aload_n hq dX12_writes_259 1 rfl ?_
    refine k_gr hq (C := RX12) (T := TX12) 11 14 rfl (by decide) (lay_X12 14 (by decide)) tw_941 dX12_writes_260 fun v5 => ?_
    refine k_iload hq dX12_writes_263 0 rfl ?_
    refine k_iald hq dX12_writes_265 fun v6 => ?_
    refine k_iload_n hq dX12_writes_266 2 rfl ?_
    refine k_callS hq (na := 2) (As := [.int v6, .int l2]) (st := []) (con_X12_has _ _ _ _ v6 l2) tw_1118 tw_59 tw_1116 tw_1117 ⟨by decide, by decide, by decide +kernel⟩ rfl (by decide) rfl (Nat.le_of_ble_eq_true rfl) dX12_writes_267 fun v7 h8 => ?_
    refine k_istore hq dX12_writes_270 (by decide) (ls' := [(12, .int v7), (11, .int v3), (0, .ref l0), (2, .int l2), (3, .int l3), (5, .long l5), (8, .int l8), (9, .int l9), (10, .int l10)]) rfl ?_
    refine k_iload hq dX12_writes_272 0 rfl ?_
    refine k_if_eq hq (tgt := 320) dX12_writes_274 (by decide) (fun _ => ?_) (fun _ => ?_)
    · exact k_sub [2, 3, 4, 5, 6, 7, 8, 0] rfl (P_X12_writes_320 hq N k221 k233 hk221 hk233 l0 l2 l3 l5 l8 l9 l10 v7 h8)
    · refine k_aload_n hq dX12_writes_277 2 rfl ?_
      refine k_gr hq (C := RX12) (T := TX12) 11 8 rfl (by decide) (lay_X12 8 (by decide)) tw_935 dX12_writes_278 fun v9 => ?_
      refine k_iconst hq dX12_writes_281 (v := 4) rfl ?_
      refine k_iload hq dX12_writes_282 6 rfl ?_
      refine k_imul hq dX12_writes_284 ?_
      refine k_iload hq dX12_writes_285 7 rfl ?_
      refine k_iadd hq dX12_writes_287 ?_
      refine k_iald hq dX12_writes_288 fun v10 => ?_
      refine k_iload hq dX12_writes_289 8 rfl ?_
      refine k_icmp_lt hq (tgt := 320) dX12_writes_291 (by decide) (fun _ => ?_) (fun _ => ?_)
      · exact k_sub [2, 3, 4, 5, 6, 7, 8, 0] rfl (P_X12_writes_320 hq N k221 k233 hk221 hk233 l0 l2 l3 l5 l8 l9 l10 v7 h8)
      · refine k_aload_n hq dX12_writes_294 2 rfl ?_
        refine k_gr hq (C := RX12) (T := TX12) 11 14 rfl (by decide) (lay_X12 14 (by decide)) tw_941 dX12_writes_295 fun v11 => ?_
        refine k_iload hq dX12_writes_298 1 rfl ?_
        refine k_dup2_11 hq dX12_writes_300 rfl rfl ?_
        refine k_iald hq dX12_writes_301 fun v12 => ?_
        refine k_iconst hq dX12_writes_302 (v := 1) rfl ?_
        refine k_iload_n hq dX12_writes_303 3 rfl ?_
        refine k_ishl hq dX12_writes_304 ?_
        refine k_iconst hq dX12_writes_305 (v := (-1)) rfl ?_
        refine k_ixor hq dX12_writes_306 ?_
        refine k_iand hq dX12_writes_307 ?_
        refine k_iast hq dX12_writes_308 fun h13 => ?_
        refine k_aload_n hq dX12_writes_309 2 rfl ?_
        refine k_gr hq (C := RX12) (T := TX12) 11 12 rfl (by decide) (lay_X12 12 (by decide)) tw_939 dX12_writes_310 fun v14 => ?_
        refine k_iload hq dX12_writes_313 1 rfl ?_
        refine k_iconst hq dX12_writes_315 (v := 1) rfl ?_
        refine k_zast hq dX12_writes_316 fun h15 => ?_
        refine k_goto hq (tgt := 352) dX12_writes_317 (by decide) ?_
        exact k_sub [2, 3, 4, 5, 6, 7, 8] rfl (P_X12_writes_352 hq N k221 k233 hk221 hk233 l0 l2 l3 l5 l8 l9 l10 h15)
theorem Q_X12_writes_233 {q : eT} {r0 : Int32} {h0 : eH} (hq : e_B q yX12_writes.cls cX12_writes 13 4 96 (some .int) yX12_writes.name) (N : Nat) (k221 : Nat → Int32 → Int32 → Int64 → Int32 → Int32 → eH → Option (Int32 × eH)) (hk221 : ∀ (l0 : Nat) (l2 : Int32) (l3 : Int32) (l5 : Int64) (l8 : Int32) (l9 : Int32) h, e_K eI q r0 h0 221 [(0, .ref l0), (2, .int l2), (3, .int l3), (5, .long l5), (8, .int l8), (9, .int l9)] [] h (k221 l0 l2 l3 l5 l8 l9 h)) (l0 : Nat) (l2 : Int32) (l3 : Int32) (l5 : Int64) (l8 : Int32) (l9 : Int32) (l10 : Int32) (h : eH) : e_K eI q r0 h0 233 [(0, .ref l0), (2, .int l2), (3, .int l3), (5, .long l5), (8, .int l8), (9, .int l9), (10, .int l10)] [] h (L_X12_writes_233 N k221 l0 l2 l3 l5 l8 l9 l10 h) :=
  k_loop (mk := (fun s => [(0, .ref s.1), (2, .int s.2.1), (3, .int s.2.2.1), (5, .long s.2.2.2.1), (8, .int s.2.2.2.2.1), (9, .int s.2.2.2.2.2.1), (10, .int s.2.2.2.2.2.2.1)])) (hp := fun s => s.2.2.2.2.2.2.2) (fun k hk s => P_X12_writes_233b hq N k221 (fun l0 l2 l3 l5 l8 l9 l10 h => k (l0, l2, l3, l5, l8, l9, l10, h)) hk221 (fun l0 l2 l3 l5 l8 l9 l10 h => hk (l0, l2, l3, l5, l8, l9, l10, h)) s.1 s.2.1 s.2.2.1 s.2.2.2.1 s.2.2.2.2.1 s.2.2.2.2.2.1 s.2.2.2.2.2.2.1 s.2.2.2.2.2.2.2) N (l0, l2, l3, l5, l8, l9, l10, h)
set_option maxRecDepth 100000 in
set_option maxHeartbeats 4000000 in
theorem P_X12_writes_221b {q : eT} {r0 : Int32} {h0 : eH} (hq : e_B q yX12_writes.cls cX12_writes 13 4 96 (some .int) yX12_writes.name) (N : Nat) (k221 : Nat → Int32 → Int32 → Int64 → Int32 → Int32 → eH → Option (Int32 × eH)) (hk221 : ∀ (l0 : Nat) (l2 : Int32) (l3 : Int32) (l5 : Int64) (l8 : Int32) (l9 : Int32) h, e_K eI q r0 h0 221 [(0, .ref l0), (2, .int l2), (3, .int l3), (5, .long l5), (8, .int l8), (9, .int l9)] [] h (k221 l0 l2 l3 l5 l8 l9 h)) (l0 : Nat) (l2 : Int32) (l3 : Int32) (l5 : Int64) (l8 : Int32) (l9 : Int32) (h : eH) : e_K eI q r0 h0 221 [(0, .ref l0), (2, .int l2), (3, .int l3), (5, .long l5), (8, .int l8), (9, .int l9)] [] h (F_X12_writes_221b N k221 l0 l2 l3 l5 l8 l9 h) := by
  unfold F_X12_writes_221b
  refine k_iload hq dX12_writes_221 5 rfl ?_
  refine k_aload_n hq dX12_writes_223 0 rfl ?_
  refine k_gi hq (C := RX12) (T := TX12) 11 0 rfl (by decide) (lay_X12 0 (by decide)) tw_927 dX12_writes_224 fun v1 => ?_
  refine k_icmp_ge hq (tgt := 364) dX12_writes_227 (by decide) (fun _ => ?_) (fun _ => ?_)
  · refine k_aload_n hq dX12_writes_364 0 rfl ?_
    refine k_iload_n hq dX12_writes_365 2 rfl ?_
    refine k_iload_n hq dX12_writes_366 1 rfl ?_
    refine k_lload hq dX12_writes_367 3 rfl ?_
    refine k_callV hq (na := 3) (As := [.int l3, .int l2, .long l5]) (st := []) 11 (C := RX12) (T := TX12) rfl (con_X12_comes _ _ _ _ N l0 l3 l2 l5) tw_1130 tw_59 tw_1127 tw_1129 tw_31 ⟨by decide, by decide, by decide +kernel⟩ rfl (by decide) rfl (Nat.le_of_ble_eq_true rfl) dX12_writes_369 fun v2 h3 => ?_
    exact k_iret hq dX12_writes_372
  · refine k_iconst hq dX12_writes_230 (v := 1) rfl ?_
    refine k_istore hq dX12_writes_231 (by decide) (ls' := [(10, .int 1), (0, .ref l0), (2, .int l2), (3, .int l3), (5, .long l5), (8, .int l8), (9, .int l9)]) rfl ?_
    exact k_sub [1, 2, 3, 4, 5, 6, 0] rfl (Q_X12_writes_233 hq N k221 hk221 l0 l2 l3 l5 l8 l9 1 h)
theorem Q_X12_writes_221 {q : eT} {r0 : Int32} {h0 : eH} (hq : e_B q yX12_writes.cls cX12_writes 13 4 96 (some .int) yX12_writes.name) (N : Nat) (l0 : Nat) (l2 : Int32) (l3 : Int32) (l5 : Int64) (l8 : Int32) (l9 : Int32) (h : eH) : e_K eI q r0 h0 221 [(0, .ref l0), (2, .int l2), (3, .int l3), (5, .long l5), (8, .int l8), (9, .int l9)] [] h (L_X12_writes_221 N l0 l2 l3 l5 l8 l9 h) :=
  k_loop (mk := (fun s => [(0, .ref s.1), (2, .int s.2.1), (3, .int s.2.2.1), (5, .long s.2.2.2.1), (8, .int s.2.2.2.2.1), (9, .int s.2.2.2.2.2.1)])) (hp := fun s => s.2.2.2.2.2.2) (fun k hk s => P_X12_writes_221b hq N (fun l0 l2 l3 l5 l8 l9 h => k (l0, l2, l3, l5, l8, l9, h)) (fun l0 l2 l3 l5 l8 l9 h => hk (l0, l2, l3, l5, l8, l9, h)) s.1 s.2.1 s.2.2.1 s.2.2.2.1 s.2.2.2.2.1 s.2.2.2.2.2.1 s.2.2.2.2.2.2) N (l0, l2, l3, l5, l8, l9, h)
set_option maxRecDepth 100000 in
set_option maxHeartbeats 4000000 in
theorem P_X12_writes_217 {q : eT} {r0 : Int32} {h0 : eH} (hq : e_B q yX12_writes.cls cX12_writes 13 4 96 (some .int) yX12_writes.name) (N : Nat) (l0 : Nat) (l2 : Int32) (l3 : Int32) (l5 : Int64) (l8 : Int32) (s0 : Nat) (s1 : Int32) (s2 : Int32) (h : eH) : e_K eI q r0 h0 217 [(0, .ref l0), (2, .int l2), (3, .int l3), (5, .long l5), (8, .int l8)] [.int s2, .int s1, .ref s0] h (F_X12_writes_217 N l0 l2 l3 l5 l8 s0 s1 s2 h) := by
  unfold F_X12_writes_217
  refine k_iast hq dX12_writes_217 fun h1 => ?_
  refine k_iconst hq dX12_writes_218 (v := 0) rfl ?_
  refine k_istore hq dX12_writes_219 (by decide) (ls' := [(9, .int 0), (0, .ref l0), (2, .int l2), (3, .int l3), (5, .long l5), (8, .int l8)]) rfl ?_
  exact k_sub [1, 2, 3, 4, 5, 0] rfl (Q_X12_writes_221 hq N l0 l2 l3 l5 l8 0 h1)
set_option maxRecDepth 100000 in
set_option maxHeartbeats 4000000 in
theorem P_X12_writes_120b {q : eT} {r0 : Int32} {h0 : eH} (hq : e_B q yX12_writes.cls cX12_writes 13 4 96 (some .int) yX12_writes.name) (N : Nat) (k120 : Nat → Int32 → Int32 → Int32 → Int64 → Int32 → Int32 → Int32 → eH → Option (Int32 × eH)) (hk120 : ∀ (l0 : Nat) (l1 : Int32) (l2 : Int32) (l3 : Int32) (l5 : Int64) (l7 : Int32) (l8 : Int32) (l9 : Int32) h, e_K eI q r0 h0 120 [(0, .ref l0), (1, .int l1), (2, .int l2), (3, .int l3), (5, .long l5), (7, .int l7), (8, .int l8), (9, .int l9)] [] h (k120 l0 l1 l2 l3 l5 l7 l8 l9 h)) (l0 : Nat) (l1 : Int32) (l2 : Int32) (l3 : Int32) (l5 : Int64) (l7 : Int32) (l8 : Int32) (l9 : Int32) (h : eH) : e_K eI q r0 h0 120 [(0, .ref l0), (1, .int l1), (2, .int l2), (3, .int l3), (5, .long l5), (7, .int l7), (8, .int l8), (9, .int l9)] [] h (F_X12_writes_120b N k120 l0 l1 l2 l3 l5 l7 l8 l9 h) := by
  unfold F_X12_writes_120b
  refine k_iload hq dX12_writes_120 7 rfl ?_
  refine k_iconst hq dX12_writes_122 (v := 4) rfl ?_
  refine k_icmp_ge hq (tgt := 196) dX12_writes_123 (by decide) (fun _ => ?_) (fun _ => ?_)
  · refine k_aload_n hq dX12_writes_196 0 rfl ?_
    refine k_gr hq (C := RX12) (T := TX12) 11 18 rfl (by decide) (lay_X12 18 (by decide)) tw_945 dX12_writes_197 fun v1 => ?_
    refine k_iload_n hq dX12_writes_200 1 rfl ?_
    refine k_iload hq dX12_writes_201 5 rfl ?_
    refine k_if_eq hq (tgt := 211) dX12_writes_203 (by decide) (fun _ => ?_) (fun _ => ?_)
    · refine k_aload_n hq dX12_writes_211 0 rfl ?_
      refine k_gr hq (C := RX12) (T := TX12) 11 18 rfl (by decide) (lay_X12 18 (by decide)) tw_945 dX12_writes_212 fun v2 => ?_
      refine k_iload_n hq dX12_writes_215 1 rfl ?_
      refine k_iald hq dX12_writes_216 fun v3 => ?_
      exact k_sub [0, 2, 3, 4, 6] rfl (P_X12_writes_217 hq N l0 l2 l3 l5 l8 v1 l1 v3 h)
    · refine k_bipush hq dX12_writes_206 (v := (-9)) rfl ?_
      refine k_goto hq (tgt := 217) dX12_writes_208 (by decide) ?_
      exact k_sub [0, 2, 3, 4, 6] rfl (P_X12_writes_217 hq N l0 l2 l3 l5 l8 v1 l1 (-9) h)
  · refine k_aload_n hq dX12_writes_126 0 rfl ?_
    refine k_gr hq (C := RX12) (T := TX12) 11 8 rfl (by decide) (lay_X12 8 (by decide)) tw_935 dX12_writes_127 fun v4 => ?_
    refine k_iconst hq dX12_writes_130 (v := 4) rfl ?_
    refine k_iload hq dX12_writes_131 6 rfl ?_
    refine k_imul hq dX12_writes_133 ?_
    refine k_iload hq dX12_writes_134 7 rfl ?_
    refine k_iadd hq dX12_writes_136 ?_
    refine k_iload hq dX12_writes_137 5 rfl ?_
    refine k_if_eq hq (tgt := 156) dX12_writes_139 (by decide) (fun _ => ?_) (fun _ => ?_)
    · refine k_iconst hq dX12_writes_156 (v := 0) rfl ?_
      exact k_sub [0, 1, 2, 3, 4, 5, 6, 7] rfl (P_X12_writes_157 hq N k120 hk120 l0 l1 l2 l3 l5 l7 l8 l9 v4 ((4 * l8) + l9) 0 h)
    · refine k_aload_n hq dX12_writes_142 0 rfl ?_
      refine k_gr hq (C := RX12) (T := TX12) 11 20 rfl (by decide) (lay_X12 20 (by decide)) tw_947 dX12_writes_143 fun v5 => ?_
      refine k_iconst hq dX12_writes_146 (v := 4) rfl ?_
      refine k_iload_n hq dX12_writes_147 1 rfl ?_
      refine k_imul hq dX12_writes_148 ?_
      refine k_iload hq dX12_writes_149 7 rfl ?_
      refine k_iadd hq dX12_writes_151 ?_
      refine k_iald hq dX12_writes_152 fun v6 => ?_
      refine k_goto hq (tgt := 157) dX12_writes_153 (by decide) ?_
      exact k_sub [0, 1, 2, 3, 4, 5, 6, 7] rfl (P_X12_writes_157 hq N k120 hk120 l0 l1 l2 l3 l5 l7 l8 l9 v4 ((4 * l8) + l9) v6 h)
theorem Q_X12_writes_120 {q : eT} {r0 : Int32} {h0 : eH} (hq : e_B q yX12_writes.cls cX12_writes 13 4 96 (some .int) yX12_writes.name) (N : Nat) (l0 : Nat) (l1 : Int32) (l2 : Int32) (l3 : Int32) (l5 : Int64) (l7 : Int32) (l8 : Int32) (l9 : Int32) (h : eH) : e_K eI q r0 h0 120 [(0, .ref l0), (1, .int l1), (2, .int l2), (3, .int l3), (5, .long l5), (7, .int l7), (8, .int l8), (9, .int l9)] [] h (L_X12_writes_120 N l0 l1 l2 l3 l5 l7 l8 l9 h) :=
  k_loop (mk := (fun s => [(0, .ref s.1), (1, .int s.2.1), (2, .int s.2.2.1), (3, .int s.2.2.2.1), (5, .long s.2.2.2.2.1), (7, .int s.2.2.2.2.2.1), (8, .int s.2.2.2.2.2.2.1), (9, .int s.2.2.2.2.2.2.2.1)])) (hp := fun s => s.2.2.2.2.2.2.2.2) (fun k hk s => P_X12_writes_120b hq N (fun l0 l1 l2 l3 l5 l7 l8 l9 h => k (l0, l1, l2, l3, l5, l7, l8, l9, h)) (fun l0 l1 l2 l3 l5 l7 l8 l9 h => hk (l0, l1, l2, l3, l5, l7, l8, l9, h)) s.1 s.2.1 s.2.2.1 s.2.2.2.1 s.2.2.2.2.1 s.2.2.2.2.2.1 s.2.2.2.2.2.2.1 s.2.2.2.2.2.2.2.1 s.2.2.2.2.2.2.2.2) N (l0, l1, l2, l3, l5, l7, l8, l9, h)
set_option maxRecDepth 100000 in
set_option maxHeartbeats 4000000 in
theorem P_X12_writes_96 {q : eT} {r0 : Int32} {h0 : eH} (hq : e_B q yX12_writes.cls cX12_writes 13 4 96 (some .int) yX12_writes.name) (N : Nat) (l0 : Nat) (l1 : Int32) (l2 : Int32) (l3 : Int32) (l5 : Int64) (s0 : Int32) (h : eH) : e_K eI q r0 h0 96 [(0, .ref l0), (1, .int l1), (2, .int l2), (3, .int l3), (5, .long l5)] [.int s0] h (F_X12_writes_96 N l0 l1 l2 l3 l5 s0 h) := by
  unfold F_X12_writes_96
  refine k_istore hq dX12_writes_96 (by decide) (ls' := [(7, .int s0), (0, .ref l0), (1, .int l1), (2, .int l2), (3, .int l3), (5, .long l5)]) rfl ?_
  refine k_iload_n hq dX12_writes_98 4 rfl ?_
  refine k_iload_n hq dX12_writes_99 3 rfl ?_
  refine k_aload_n hq dX12_writes_100 1 rfl ?_
  refine k_gr hq (C := RX12) (T := TX12) 11 15 rfl (by decide) (lay_X12 15 (by decide)) tw_942 dX12_writes_101 fun v1 => ?_
  refine k_iconst hq dX12_writes_104 (v := 4) rfl ?_
  refine k_iload_n hq dX12_writes_105 4 rfl ?_
  refine k_imul hq dX12_writes_106 ?_
  refine k_iload_n hq dX12_writes_107 3 rfl ?_
  refine k_iadd hq dX12_writes_108 ?_
  refine k_iald hq dX12_writes_109 fun v2 => ?_
  refine k_iconst hq dX12_writes_110 (v := 1) rfl ?_
  refine k_iadd hq dX12_writes_111 ?_
  refine k_callS hq (na := 3) (As := [.int l3, .int l2, .int (v2 + 1)]) (st := []) (con_X12_at _ _ _ _ l3 l2 (v2 + 1)) tw_1115 tw_59 tw_1113 tw_1114 ⟨by decide, by decide, by decide +kernel⟩ rfl (by decide) rfl (Nat.le_of_ble_eq_true rfl) dX12_writes_112 fun v3 h4 => ?_
  refine k_istore hq dX12_writes_115 (by decide) (ls' := [(8, .int v3), (7, .int s0), (0, .ref l0), (1, .int l1), (2, .int l2), (3, .int l3), (5, .long l5)]) rfl ?_
  refine k_iconst hq dX12_writes_117 (v := 0) rfl ?_
  refine k_istore hq dX12_writes_118 (by decide) (ls' := [(9, .int 0), (8, .int v3), (7, .int s0), (0, .ref l0), (1, .int l1), (2, .int l2), (3, .int l3), (5, .long l5)]) rfl ?_
  exact k_sub [3, 4, 5, 6, 7, 2, 1, 0] rfl (Q_X12_writes_120 hq N l0 l1 l2 l3 l5 s0 v3 0 h4)
set_option maxRecDepth 100000 in
set_option maxHeartbeats 4000000 in
theorem P_X12_writes_49 {q : eT} {r0 : Int32} {h0 : eH} (hq : e_B q yX12_writes.cls cX12_writes 13 4 96 (some .int) yX12_writes.name) (N : Nat) (l0 : Nat) (l1 : Int32) (l2 : Int32) (l3 : Int32) (l4 : Int32) (l5 : Int64) (h : eH) : e_K eI q r0 h0 49 [(0, .ref l0), (1, .int l1), (2, .int l2), (3, .int l3), (4, .int l4), (5, .long l5)] [] h (F_X12_writes_49 N l0 l1 l2 l3 l4 l5 h) := by
  unfold F_X12_writes_49
  refine k_aload_n hq dX12_writes_49 0 rfl ?_
  refine k_gr hq (C := RX12) (T := TX12) 11 15 rfl (by decide) (lay_X12 15 (by decide)) tw_942 dX12_writes_50 fun v1 => ?_
  refine k_iconst hq dX12_writes_53 (v := 4) rfl ?_
  refine k_iload_n hq dX12_writes_54 3 rfl ?_
  refine k_imul hq dX12_writes_55 ?_
  refine k_iload_n hq dX12_writes_56 2 rfl ?_
  refine k_iadd hq dX12_writes_57 ?_
  refine k_iald hq dX12_writes_58 fun v2 => ?_
  refine k_bipush hq dX12_writes_59 (v := 40) rfl ?_
  refine k_icmp_ne hq (tgt := 67) dX12_writes_61 (by decide) (fun _ => ?_) (fun _ => ?_)
  · refine k_bipush hq dX12_writes_64 (v := (-3)) rfl ?_
    exact k_iret hq dX12_writes_66
  · refine k_aload_n hq dX12_writes_67 0 rfl ?_
    refine k_gr hq (C := RX12) (T := TX12) 11 4 rfl (by decide) (lay_X12 4 (by decide)) tw_931 dX12_writes_68 fun v3 => ?_
    refine k_iload_n hq dX12_writes_71 3 rfl ?_
    refine k_iald hq dX12_writes_72 fun v4 => ?_
    refine k_iload hq dX12_writes_73 4 rfl ?_
    refine k_icmp_eq hq (tgt := 81) dX12_writes_75 (by decide) (fun _ => ?_) (fun _ => ?_)
    · refine k_aload_n hq dX12_writes_81 0 rfl ?_
      refine k_gr hq (C := RX12) (T := TX12) 11 18 rfl (by decide) (lay_X12 18 (by decide)) tw_945 dX12_writes_82 fun v5 => ?_
      refine k_iload_n hq dX12_writes_85 1 rfl ?_
      refine k_iald hq dX12_writes_86 fun v6 => ?_
      refine k_iload_n hq dX12_writes_87 3 rfl ?_
      refine k_icmp_ne hq (tgt := 95) dX12_writes_88 (by decide) (fun _ => ?_) (fun _ => ?_)
      · refine k_iconst hq dX12_writes_91 (v := 1) rfl ?_
        refine k_goto hq (tgt := 96) dX12_writes_92 (by decide) ?_
        exact k_sub [0, 1, 2, 3, 5] rfl (P_X12_writes_96 hq N l0 l1 l2 l3 l5 1 h)
      · refine k_iconst hq dX12_writes_95 (v := 0) rfl ?_
        exact k_sub [0, 1, 2, 3, 5] rfl (P_X12_writes_96 hq N l0 l1 l2 l3 l5 0 h)
    · refine k_bipush hq dX12_writes_78 (v := (-4)) rfl ?_
      exact k_iret hq dX12_writes_80
set_option maxRecDepth 100000 in
set_option maxHeartbeats 4000000 in
theorem P_X12_writes_0 {q : eT} {r0 : Int32} {h0 : eH} (hq : e_B q yX12_writes.cls cX12_writes 13 4 96 (some .int) yX12_writes.name) (N : Nat) (l0 : Nat) (l1 : Int32) (l2 : Int32) (l3 : Int32) (l4 : Int32) (l5 : Int64) (h : eH) : e_K eI q r0 h0 0 [(0, .ref l0), (1, .int l1), (2, .int l2), (3, .int l3), (4, .int l4), (5, .long l5)] [] h (F_X12_writes N l0 l1 l2 l3 l4 l5 h) := by
  unfold F_X12_writes
  refine k_iload_n hq dX12_writes_0 1 rfl ?_
  refine k_callS hq (na := 1) (As := [.int l1]) (st := []) (con_X12_isClient _ _ _ _ l1) tw_1100 tw_59 tw_1098 tw_1099 ⟨by decide, by decide, by decide +kernel⟩ rfl (by decide) rfl (Nat.le_of_ble_eq_true rfl) dX12_writes_1 fun v1 h2 => ?_
  refine k_if_eq hq (tgt := 47) dX12_writes_4 (by decide) (fun _ => ?_) (fun _ => ?_)
  · refine k_iconst hq dX12_writes_47 (v := (-1)) rfl ?_
    exact k_iret hq dX12_writes_48
  · refine k_aload_n hq dX12_writes_7 0 rfl ?_
    refine k_iload_n hq dX12_writes_8 2 rfl ?_
    refine k_callV hq (na := 1) (As := [.int l2]) (st := []) 11 (C := RX12) (T := TX12) rfl (con_X12_isSite _ _ _ _ l0 l2) tw_1105 tw_59 tw_1102 tw_1104 tw_28 ⟨by decide, by decide, by decide +kernel⟩ rfl (by decide) rfl (Nat.le_of_ble_eq_true rfl) dX12_writes_9 fun v3 h4 => ?_
    refine k_if_eq hq (tgt := 47) dX12_writes_12 (by decide) (fun _ => ?_) (fun _ => ?_)
    · refine k_iconst hq dX12_writes_47 (v := (-1)) rfl ?_
      exact k_iret hq dX12_writes_48
    · refine k_aload_n hq dX12_writes_15 0 rfl ?_
      refine k_iload_n hq dX12_writes_16 3 rfl ?_
      refine k_callV hq (na := 1) (As := [.int l3]) (st := []) 11 (C := RX12) (T := TX12) rfl (con_X12_isKey _ _ _ _ l0 l3) tw_1109 tw_59 tw_1106 tw_1108 tw_29 ⟨by decide, by decide, by decide +kernel⟩ rfl (by decide) rfl (Nat.le_of_ble_eq_true rfl) dX12_writes_17 fun v5 h6 => ?_
      refine k_if_eq hq (tgt := 47) dX12_writes_20 (by decide) (fun _ => ?_) (fun _ => ?_)
      · refine k_iconst hq dX12_writes_47 (v := (-1)) rfl ?_
        exact k_iret hq dX12_writes_48
      · refine k_iload hq dX12_writes_23 4 rfl ?_
        refine k_i2l hq dX12_writes_25 ?_
        refine k_lconst hq dX12_writes_26 (v := 0) rfl ?_
        refine k_lconst hq dX12_writes_27 (v := 1) rfl ?_
        refine k_callS hq (na := 3) (As := [.long (l4.toInt64), .long 0, .long 1]) (st := []) (con_X12_in _ _ _ _ (l4.toInt64) 0 1) tw_1059 tw_59 tw_1057 tw_1058 ⟨by decide, by decide, by decide +kernel⟩ rfl (by decide) rfl (Nat.le_of_ble_eq_true rfl) dX12_writes_28 fun v7 h8 => ?_
        refine k_if_eq hq (tgt := 47) dX12_writes_31 (by decide) (fun _ => ?_) (fun _ => ?_)
        · refine k_iconst hq dX12_writes_47 (v := (-1)) rfl ?_
          exact k_iret hq dX12_writes_48
        · refine k_iload hq dX12_writes_34 4 rfl ?_
          refine k_iconst hq dX12_writes_36 (v := 1) rfl ?_
          refine k_icmp_ne hq (tgt := 49) dX12_writes_37 (by decide) (fun _ => ?_) (fun _ => ?_)
          · refine k_lload hq dX12_writes_40 5 rfl ?_
            refine k_lconst hq dX12_writes_42 (v := 0) rfl ?_
            refine k_lcmp hq dX12_writes_43 ?_
            refine k_if_ge hq (tgt := 49) dX12_writes_44 (by decide) (fun _ => ?_) (fun _ => ?_)
            · exact k_sub [0, 1, 2, 3, 4, 5] rfl (P_X12_writes_49 hq N l0 l1 l2 l3 l4 l5 h8)
            · refine k_iconst hq dX12_writes_47 (v := (-1)) rfl ?_
              exact k_iret hq dX12_writes_48
          · exact k_sub [0, 1, 2, 3, 4, 5] rfl (P_X12_writes_49 hq N l0 l1 l2 l3 l4 l5 h8)
theorem con_X12_writes (l : Launch) (G : eG) (B0 n : Nat) (N : Nat) (l0 : Nat) (l1 : Int32) (l2 : Int32) (l3 : Int32) (l4 : Int32) (l5 : Int64) : e_C eI l G B0 n yX12_writes cX12_writes 13 (some .int) 4 96 [.ref l0, .int l1, .int l2, .int l3, .int l4, .long l5] (F_X12_writes N l0 l1 l2 l3 l4 l5) := by
  refine e_mk (by decide) (Nat.le_of_ble_eq_true rfl) fun q r0 h0 h hq e1 e2 e3 e4 => ?_
  subst e1; subst e2; subst e3; subst e4
  exact P_X12_writes_0 hq N l0 l1 l2 l3 l4 l5 h
set_option maxRecDepth 100000 in
set_option maxHeartbeats 4000000 in
theorem P_X12_blinds_25 {q : eT} {r0 : Int32} {h0 : eH} (hq : e_B q yX12_blinds.cls cX12_blinds 3 2 45 (some .int) yX12_blinds.name) (l0 : Nat) (l1 : Int32) (s0 : Int32) (h : eH) : e_K eI q r0 h0 25 [(0, .ref l0), (1, .int l1)] [.int s0] h (F_X12_blinds_25 l0 l1 s0 h) := by
  unfold F_X12_blinds_25
  refine k_istore_n hq dX12_blinds_25 rfl (by decide) (ls' := [(2, .int s0), (0, .ref l0), (1, .int l1)]) rfl ?_
  refine k_aload_n hq dX12_blinds_26 1 rfl ?_
  refine k_gr hq (C := RX12) (T := TX12) 11 18 rfl (by decide) (lay_X12 18 (by decide)) tw_945 dX12_blinds_27 fun v1 => ?_
  refine k_iload_n hq dX12_blinds_30 2 rfl ?_
  refine k_bipush hq dX12_blinds_31 (v := (-9)) rfl ?_
  refine k_iast hq dX12_blinds_33 fun h2 => ?_
  refine k_iload_n hq dX12_blinds_34 0 rfl ?_
  exact k_iret hq dX12_blinds_35
set_option maxRecDepth 100000 in
set_option maxHeartbeats 4000000 in
theorem P_X12_blinds_0 {q : eT} {r0 : Int32} {h0 : eH} (hq : e_B q yX12_blinds.cls cX12_blinds 3 2 45 (some .int) yX12_blinds.name) (l0 : Nat) (l1 : Int32) (h : eH) : e_K eI q r0 h0 0 [(0, .ref l0), (1, .int l1)] [] h (F_X12_blinds l0 l1 h) := by
  unfold F_X12_blinds
  refine k_iload_n hq dX12_blinds_0 1 rfl ?_
  refine k_callS hq (na := 1) (As := [.int l1]) (st := []) (con_X12_isClient _ _ _ _ l1) tw_1100 tw_59 tw_1098 tw_1099 ⟨by decide, by decide, by decide +kernel⟩ rfl (by decide) rfl (Nat.le_of_ble_eq_true rfl) dX12_blinds_1 fun v1 h2 => ?_
  refine k_if_ne hq (tgt := 9) dX12_blinds_4 (by decide) (fun _ => ?_) (fun _ => ?_)
  · refine k_iconst hq dX12_blinds_7 (v := (-1)) rfl ?_
    exact k_iret hq dX12_blinds_8
  · refine k_aload_n hq dX12_blinds_9 0 rfl ?_
    refine k_gr hq (C := RX12) (T := TX12) 11 18 rfl (by decide) (lay_X12 18 (by decide)) tw_945 dX12_blinds_10 fun v3 => ?_
    refine k_iload_n hq dX12_blinds_13 1 rfl ?_
    refine k_iald hq dX12_blinds_14 fun v4 => ?_
    refine k_bipush hq dX12_blinds_15 (v := (-9)) rfl ?_
    refine k_icmp_ne hq (tgt := 24) dX12_blinds_17 (by decide) (fun _ => ?_) (fun _ => ?_)
    · refine k_iconst hq dX12_blinds_20 (v := 0) rfl ?_
      refine k_goto hq (tgt := 25) dX12_blinds_21 (by decide) ?_
      exact k_sub [0, 1] rfl (P_X12_blinds_25 hq l0 l1 0 h2)
    · refine k_iconst hq dX12_blinds_24 (v := 1) rfl ?_
      exact k_sub [0, 1] rfl (P_X12_blinds_25 hq l0 l1 1 h2)
theorem con_X12_blinds (l : Launch) (G : eG) (B0 n : Nat) (l0 : Nat) (l1 : Int32) : e_C eI l G B0 n yX12_blinds cX12_blinds 3 (some .int) 2 45 [.ref l0, .int l1] (F_X12_blinds l0 l1) := by
  refine e_mk (by decide) (Nat.le_of_ble_eq_true rfl) fun q r0 h0 h hq e1 e2 e3 e4 => ?_
  subst e1; subst e2; subst e3; subst e4
  exact P_X12_blinds_0 hq l0 l1 h
set_option maxRecDepth 100000 in
set_option maxHeartbeats 4000000 in
theorem P_X12_sends_207 {q : eT} {r0 : Int32} {h0 : eH} (hq : e_B q yX12_sends.cls cX12_sends 12 3 68 (some .int) yX12_sends.name) (N : Nat) (k48 : Nat → Int32 → Int32 → Int32 → Int32 → Int32 → Int32 → eH → Option (Int32 × eH)) (k60 : Nat → Int32 → Int32 → Int32 → Int32 → Int32 → Int32 → Int32 → eH → Option (Int32 × eH)) (hk48 : ∀ (l0 : Nat) (l1 : Int32) (l2 : Int32) (l3 : Int32) (l4 : Int32) (l5 : Int32) (l6 : Int32) h, e_K eI q r0 h0 48 [(0, .ref l0), (1, .int l1), (2, .int l2), (3, .int l3), (4, .int l4), (5, .int l5), (6, .int l6)] [] h (k48 l0 l1 l2 l3 l4 l5 l6 h)) (hk60 : ∀ (l0 : Nat) (l1 : Int32) (l2 : Int32) (l3 : Int32) (l4 : Int32) (l5 : Int32) (l6 : Int32) (l7 : Int32) h, e_K eI q r0 h0 60 [(0, .ref l0), (1, .int l1), (2, .int l2), (3, .int l3), (4, .int l4), (5, .int l5), (6, .int l6), (7, .int l7)] [] h (k60 l0 l1 l2 l3 l4 l5 l6 l7 h)) (l0 : Nat) (l1 : Int32) (l2 : Int32) (l3 : Int32) (l4 : Int32) (l5 : Int32) (l6 : Int32) (l7 : Int32) (s0 : Nat) (s1 : Int32) (s2 : Int32) (h : eH) : e_K eI q r0 h0 207 [(0, .ref l0), (1, .int l1), (2, .int l2), (3, .int l3), (4, .int l4), (5, .int l5), (6, .int l6), (7, .int l7)] [.int s2, .int s1, .ref s0] h (F_X12_sends_207 N k48 k60 l0 l1 l2 l3 l4 l5 l6 l7 s0 s1 s2 h) := by
  unfold F_X12_sends_207
  refine k_iast hq dX12_sends_207 fun h1 => ?_
  refine k_iinc hq dX12_sends_208 7 rfl (v := l7 + 1) rfl (by decide) (ls' := [(7, .int (l7 + 1)), (0, .ref l0), (1, .int l1), (2, .int l2), (3, .int l3), (4, .int l4), (5, .int l5), (6, .int l6)]) rfl ?_
  refine k_goto hq (tgt := 60) dX12_sends_211 (by decide) ?_
  exact k_sub [1, 2, 3, 4, 5, 6, 7, 0] rfl (hk60 l0 l1 l2 l3 l4 l5 l6 (l7 + 1) h1)
set_option maxRecDepth 100000 in
set_option maxHeartbeats 4000000 in
theorem P_X12_sends_167 {q : eT} {r0 : Int32} {h0 : eH} (hq : e_B q yX12_sends.cls cX12_sends 12 3 68 (some .int) yX12_sends.name) (N : Nat) (k48 : Nat → Int32 → Int32 → Int32 → Int32 → Int32 → Int32 → eH → Option (Int32 × eH)) (k60 : Nat → Int32 → Int32 → Int32 → Int32 → Int32 → Int32 → Int32 → eH → Option (Int32 × eH)) (hk48 : ∀ (l0 : Nat) (l1 : Int32) (l2 : Int32) (l3 : Int32) (l4 : Int32) (l5 : Int32) (l6 : Int32) h, e_K eI q r0 h0 48 [(0, .ref l0), (1, .int l1), (2, .int l2), (3, .int l3), (4, .int l4), (5, .int l5), (6, .int l6)] [] h (k48 l0 l1 l2 l3 l4 l5 l6 h)) (hk60 : ∀ (l0 : Nat) (l1 : Int32) (l2 : Int32) (l3 : Int32) (l4 : Int32) (l5 : Int32) (l6 : Int32) (l7 : Int32) h, e_K eI q r0 h0 60 [(0, .ref l0), (1, .int l1), (2, .int l2), (3, .int l3), (4, .int l4), (5, .int l5), (6, .int l6), (7, .int l7)] [] h (k60 l0 l1 l2 l3 l4 l5 l6 l7 h)) (l0 : Nat) (l1 : Int32) (l2 : Int32) (l3 : Int32) (l4 : Int32) (l5 : Int32) (l6 : Int32) (l7 : Int32) (l8 : Int32) (s0 : Int32) (h : eH) : e_K eI q r0 h0 167 [(0, .ref l0), (1, .int l1), (2, .int l2), (3, .int l3), (4, .int l4), (5, .int l5), (6, .int l6), (7, .int l7), (8, .int l8)] [.int s0] h (F_X12_sends_167 N k48 k60 l0 l1 l2 l3 l4 l5 l6 l7 l8 s0 h) := by
  unfold F_X12_sends_167
  refine k_istore hq dX12_sends_167 (by decide) (ls' := [(11, .int s0), (0, .ref l0), (1, .int l1), (2, .int l2), (3, .int l3), (4, .int l4), (5, .int l5), (6, .int l6), (7, .int l7), (8, .int l8)]) rfl ?_
  refine k_aload_n hq dX12_sends_169 1 rfl ?_
  refine k_gr hq (C := RX12) (T := TX12) 11 14 rfl (by decide) (lay_X12 14 (by decide)) tw_941 dX12_sends_170 fun v1 => ?_
  refine k_iload hq dX12_sends_173 9 rfl ?_
  refine k_iload hq dX12_sends_175 0 rfl ?_
  refine k_if_eq hq (tgt := 194) dX12_sends_177 (by decide) (fun _ => ?_) (fun _ => ?_)
  · refine k_aload_n hq dX12_sends_194 1 rfl ?_
    refine k_gr hq (C := RX12) (T := TX12) 11 14 rfl (by decide) (lay_X12 14 (by decide)) tw_941 dX12_sends_195 fun v2 => ?_
    refine k_iload hq dX12_sends_198 9 rfl ?_
    refine k_iald hq dX12_sends_200 fun v3 => ?_
    refine k_iconst hq dX12_sends_201 (v := 1) rfl ?_
    refine k_iload_n hq dX12_sends_202 3 rfl ?_
    refine k_ishl hq dX12_sends_203 ?_
    refine k_iconst hq dX12_sends_204 (v := (-1)) rfl ?_
    refine k_ixor hq dX12_sends_205 ?_
    refine k_iand hq dX12_sends_206 ?_
    exact k_sub [1, 2, 3, 4, 5, 6, 7, 8] rfl (P_X12_sends_207 hq N k48 k60 hk48 hk60 l0 l1 l2 l3 l4 l5 l6 l7 v1 l8 (v3 &&& ((1 <<< (l2 &&& 31)) ^^^ (-1))) h)
  · refine k_aload_n hq dX12_sends_180 1 rfl ?_
    refine k_gr hq (C := RX12) (T := TX12) 11 14 rfl (by decide) (lay_X12 14 (by decide)) tw_941 dX12_sends_181 fun v4 => ?_
    refine k_iload hq dX12_sends_184 9 rfl ?_
    refine k_iald hq dX12_sends_186 fun v5 => ?_
    refine k_iconst hq dX12_sends_187 (v := 1) rfl ?_
    refine k_iload_n hq dX12_sends_188 3 rfl ?_
    refine k_ishl hq dX12_sends_189 ?_
    refine k_ior hq dX12_sends_190 ?_
    refine k_goto hq (tgt := 207) dX12_sends_191 (by decide) ?_
    exact k_sub [1, 2, 3, 4, 5, 6, 7, 8] rfl (P_X12_sends_207 hq N k48 k60 hk48 hk60 l0 l1 l2 l3 l4 l5 l6 l7 v1 l8 (v5 ||| (1 <<< (l2 &&& 31))) h)
set_option maxRecDepth 100000 in
set_option maxHeartbeats 4000000 in
theorem P_X12_sends_162 {q : eT} {r0 : Int32} {h0 : eH} (hq : e_B q yX12_sends.cls cX12_sends 12 3 68 (some .int) yX12_sends.name) (N : Nat) (k48 : Nat → Int32 → Int32 → Int32 → Int32 → Int32 → Int32 → eH → Option (Int32 × eH)) (k60 : Nat → Int32 → Int32 → Int32 → Int32 → Int32 → Int32 → Int32 → eH → Option (Int32 × eH)) (hk48 : ∀ (l0 : Nat) (l1 : Int32) (l2 : Int32) (l3 : Int32) (l4 : Int32) (l5 : Int32) (l6 : Int32) h, e_K eI q r0 h0 48 [(0, .ref l0), (1, .int l1), (2, .int l2), (3, .int l3), (4, .int l4), (5, .int l5), (6, .int l6)] [] h (k48 l0 l1 l2 l3 l4 l5 l6 h)) (hk60 : ∀ (l0 : Nat) (l1 : Int32) (l2 : Int32) (l3 : Int32) (l4 : Int32) (l5 : Int32) (l6 : Int32) (l7 : Int32) h, e_K eI q r0 h0 60 [(0, .ref l0), (1, .int l1), (2, .int l2), (3, .int l3), (4, .int l4), (5, .int l5), (6, .int l6), (7, .int l7)] [] h (k60 l0 l1 l2 l3 l4 l5 l6 l7 h)) (l0 : Nat) (l1 : Int32) (l2 : Int32) (l3 : Int32) (l4 : Int32) (l5 : Int32) (l6 : Int32) (l7 : Int32) (l8 : Int32) (h : eH) : e_K eI q r0 h0 162 [(0, .ref l0), (1, .int l1), (2, .int l2), (3, .int l3), (4, .int l4), (5, .int l5), (6, .int l6), (7, .int l7), (8, .int l8)] [] h (F_X12_sends_162 N k48 k60 l0 l1 l2 l3 l4 l5 l6 l7 l8 h) := by
  unfold F_X12_sends_162
  refine k_iconst hq dX12_sends_162 (v := 1) rfl ?_
  refine k_goto hq (tgt := 167) dX12_sends_163 (by decide) ?_
  exact k_sub [0, 1, 2, 3, 4, 5, 6, 7, 8] rfl (P_X12_sends_167 hq N k48 k60 hk48 hk60 l0 l1 l2 l3 l4 l5 l6 l7 l8 1 h)
set_option maxRecDepth 100000 in
set_option maxHeartbeats 4000000 in
theorem P_X12_sends_166 {q : eT} {r0 : Int32} {h0 : eH} (hq : e_B q yX12_sends.cls cX12_sends 12 3 68 (some .int) yX12_sends.name) (N : Nat) (k48 : Nat → Int32 → Int32 → Int32 → Int32 → Int32 → Int32 → eH → Option (Int32 × eH)) (k60 : Nat → Int32 → Int32 → Int32 → Int32 → Int32 → Int32 → Int32 → eH → Option (Int32 × eH)) (hk48 : ∀ (l0 : Nat) (l1 : Int32) (l2 : Int32) (l3 : Int32) (l4 : Int32) (l5 : Int32) (l6 : Int32) h, e_K eI q r0 h0 48 [(0, .ref l0), (1, .int l1), (2, .int l2), (3, .int l3), (4, .int l4), (5, .int l5), (6, .int l6)] [] h (k48 l0 l1 l2 l3 l4 l5 l6 h)) (hk60 : ∀ (l0 : Nat) (l1 : Int32) (l2 : Int32) (l3 : Int32) (l4 : Int32) (l5 : Int32) (l6 : Int32) (l7 : Int32) h, e_K eI q r0 h0 60 [(0, .ref l0), (1, .int l1), (2, .int l2), (3, .int l3), (4, .int l4), (5, .int l5), (6, .int l6), (7, .int l7)] [] h (k60 l0 l1 l2 l3 l4 l5 l6 l7 h)) (l0 : Nat) (l1 : Int32) (l2 : Int32) (l3 : Int32) (l4 : Int32) (l5 : Int32) (l6 : Int32) (l7 : Int32) (l8 : Int32) (h : eH) : e_K eI q r0 h0 166 [(0, .ref l0), (1, .int l1), (2, .int l2), (3, .int l3), (4, .int l4), (5, .int l5), (6, .int l6), (7, .int l7), (8, .int l8)] [] h (F_X12_sends_166 N k48 k60 l0 l1 l2 l3 l4 l5 l6 l7 l8 h) := by
  unfold F_X12_sends_166
  refine k_iconst hq dX12_sends_166 (v := 0) rfl ?_
  exact k_sub [0, 1, 2, 3, 4, 5, 6, 7, 8] rfl (P_X12_sends_167 hq N k48 k60 hk48 hk60 l0 l1 l2 l3 l4 l5 l6 l7 l8 0 h)
set_option maxRecDepth 100000 in
set_option maxHeartbeats 4000000 in
theorem P_X12_sends_142 {q : eT} {r0 : Int32} {h0 : eH} (hq : e_B q yX12_sends.cls cX12_sends 12 3 68 (some .int) yX12_sends.name) (N : Nat) (k48 : Nat → Int32 → Int32 → Int32 → Int32 → Int32 → Int32 → eH → Option (Int32 × eH)) (k60 : Nat → Int32 → Int32 → Int32 → Int32 → Int32 → Int32 → Int32 → eH → Option (Int32 × eH)) (hk48 : ∀ (l0 : Nat) (l1 : Int32) (l2 : Int32) (l3 : Int32) (l4 : Int32) (l5 : Int32) (l6 : Int32) h, e_K eI q r0 h0 48 [(0, .ref l0), (1, .int l1), (2, .int l2), (3, .int l3), (4, .int l4), (5, .int l5), (6, .int l6)] [] h (k48 l0 l1 l2 l3 l4 l5 l6 h)) (hk60 : ∀ (l0 : Nat) (l1 : Int32) (l2 : Int32) (l3 : Int32) (l4 : Int32) (l5 : Int32) (l6 : Int32) (l7 : Int32) h, e_K eI q r0 h0 60 [(0, .ref l0), (1, .int l1), (2, .int l2), (3, .int l3), (4, .int l4), (5, .int l5), (6, .int l6), (7, .int l7)] [] h (k60 l0 l1 l2 l3 l4 l5 l6 l7 h)) (l0 : Nat) (l1 : Int32) (l2 : Int32) (l3 : Int32) (l4 : Int32) (l5 : Int32) (l6 : Int32) (l7 : Int32) (l8 : Int32) (l9 : Int32) (h : eH) : e_K eI q r0 h0 142 [(0, .ref l0), (1, .int l1), (2, .int l2), (3, .int l3), (4, .int l4), (5, .int l5), (6, .int l6), (7, .int l7), (8, .int l8), (9, .int l9)] [] h (F_X12_sends_142 N k48 k60 l0 l1 l2 l3 l4 l5 l6 l7 l8 l9 h) := by
  unfold F_X12_sends_142
  refine k_iload hq dX12_sends_142 9 rfl ?_
  refine k_if_eq hq (tgt := 166) dX12_sends_144 (by decide) (fun _ => ?_) (fun _ => ?_)
  · exact k_sub [0, 1, 2, 3, 4, 5, 6, 7, 8] rfl (P_X12_sends_166 hq N k48 k60 hk48 hk60 l0 l1 l2 l3 l4 l5 l6 l7 l8 h)
  · refine k_aload_n hq dX12_sends_147 0 rfl ?_
    refine k_gr hq (C := RX12) (T := TX12) 11 16 rfl (by decide) (lay_X12 16 (by decide)) tw_943 dX12_sends_148 fun v1 => ?_
    refine k_iload hq dX12_sends_151 5 rfl ?_
    refine k_iload hq dX12_sends_153 6 rfl ?_
    refine k_iadd hq dX12_sends_155 ?_
    refine k_iald hq dX12_sends_156 fun v2 => ?_
    refine k_iload hq dX12_sends_157 7 rfl ?_
    refine k_icmp_ge hq (tgt := 166) dX12_sends_159 (by decide) (fun _ => ?_) (fun _ => ?_)
    · exact k_sub [0, 1, 2, 3, 4, 5, 6, 7, 8] rfl (P_X12_sends_166 hq N k48 k60 hk48 hk60 l0 l1 l2 l3 l4 l5 l6 l7 l8 h)
    · exact k_sub [0, 1, 2, 3, 4, 5, 6, 7, 8] rfl (P_X12_sends_162 hq N k48 k60 hk48 hk60 l0 l1 l2 l3 l4 l5 l6 l7 l8 h)
set_option maxRecDepth 100000 in
set_option maxHeartbeats 4000000 in
theorem P_X12_sends_122 {q : eT} {r0 : Int32} {h0 : eH} (hq : e_B q yX12_sends.cls cX12_sends 12 3 68 (some .int) yX12_sends.name) (N : Nat) (k48 : Nat → Int32 → Int32 → Int32 → Int32 → Int32 → Int32 → eH → Option (Int32 × eH)) (k60 : Nat → Int32 → Int32 → Int32 → Int32 → Int32 → Int32 → Int32 → eH → Option (Int32 × eH)) (hk48 : ∀ (l0 : Nat) (l1 : Int32) (l2 : Int32) (l3 : Int32) (l4 : Int32) (l5 : Int32) (l6 : Int32) h, e_K eI q r0 h0 48 [(0, .ref l0), (1, .int l1), (2, .int l2), (3, .int l3), (4, .int l4), (5, .int l5), (6, .int l6)] [] h (k48 l0 l1 l2 l3 l4 l5 l6 h)) (hk60 : ∀ (l0 : Nat) (l1 : Int32) (l2 : Int32) (l3 : Int32) (l4 : Int32) (l5 : Int32) (l6 : Int32) (l7 : Int32) h, e_K eI q r0 h0 60 [(0, .ref l0), (1, .int l1), (2, .int l2), (3, .int l3), (4, .int l4), (5, .int l5), (6, .int l6), (7, .int l7)] [] h (k60 l0 l1 l2 l3 l4 l5 l6 l7 h)) (l0 : Nat) (l1 : Int32) (l2 : Int32) (l3 : Int32) (l4 : Int32) (l5 : Int32) (l6 : Int32) (l7 : Int32) (l8 : Int32) (l9 : Int32) (l10 : Int32) (h : eH) : e_K eI q r0 h0 122 [(0, .ref l0), (1, .int l1), (2, .int l2), (3, .int l3), (4, .int l4), (5, .int l5), (6, .int l6), (7, .int l7), (8, .int l8), (9, .int l9), (10, .int l10)] [] h (F_X12_sends_122 N k48 k60 l0 l1 l2 l3 l4 l5 l6 l7 l8 l9 l10 h) := by
  unfold F_X12_sends_122
  refine k_iload hq dX12_sends_122 10 rfl ?_
  refine k_if_eq hq (tgt := 142) dX12_sends_124 (by decide) (fun _ => ?_) (fun _ => ?_)
  · exact k_sub [0, 1, 2, 3, 4, 5, 6, 7, 8, 9] rfl (P_X12_sends_142 hq N k48 k60 hk48 hk60 l0 l1 l2 l3 l4 l5 l6 l7 l8 l9 h)
  · refine k_aload_n hq dX12_sends_127 0 rfl ?_
    refine k_gr hq (C := RX12) (T := TX12) 11 16 rfl (by decide) (lay_X12 16 (by decide)) tw_943 dX12_sends_128 fun v1 => ?_
    refine k_iload hq dX12_sends_131 4 rfl ?_
    refine k_iload hq dX12_sends_133 6 rfl ?_
    refine k_iadd hq dX12_sends_135 ?_
    refine k_iald hq dX12_sends_136 fun v2 => ?_
    refine k_iload hq dX12_sends_137 7 rfl ?_
    refine k_icmp_lt hq (tgt := 162) dX12_sends_139 (by decide) (fun _ => ?_) (fun _ => ?_)
    · exact k_sub [0, 1, 2, 3, 4, 5, 6, 7, 8] rfl (P_X12_sends_162 hq N k48 k60 hk48 hk60 l0 l1 l2 l3 l4 l5 l6 l7 l8 h)
    · exact k_sub [0, 1, 2, 3, 4, 5, 6, 7, 8, 9] rfl (P_X12_sends_142 hq N k48 k60 hk48 hk60 l0 l1 l2 l3 l4 l5 l6 l7 l8 l9 h)
set_option maxRecDepth 100000 in
set_option maxHeartbeats 4000000 in
theorem P_X12_sends_60b {q : eT} {r0 : Int32} {h0 : eH} (hq : e_B q yX12_sends.cls cX12_sends 12 3 68 (some .int) yX12_sends.name) (N : Nat) (k48 : Nat → Int32 → Int32 → Int32 → Int32 → Int32 → Int32 → eH → Option (Int32 × eH)) (k60 : Nat → Int32 → Int32 → Int32 → Int32 → Int32 → Int32 → Int32 → eH → Option (Int32 × eH)) (hk48 : ∀ (l0 : Nat) (l1 : Int32) (l2 : Int32) (l3 : Int32) (l4 : Int32) (l5 : Int32) (l6 : Int32) h, e_K eI q r0 h0 48 [(0, .ref l0), (1, .int l1), (2, .int l2), (3, .int l3), (4, .int l4), (5, .int l5), (6, .int l6)] [] h (k48 l0 l1 l2 l3 l4 l5 l6 h)) (hk60 : ∀ (l0 : Nat) (l1 : Int32) (l2 : Int32) (l3 : Int32) (l4 : Int32) (l5 : Int32) (l6 : Int32) (l7 : Int32) h, e_K eI q r0 h0 60 [(0, .ref l0), (1, .int l1), (2, .int l2), (3, .int l3), (4, .int l4), (5, .int l5), (6, .int l6), (7, .int l7)] [] h (k60 l0 l1 l2 l3 l4 l5 l6 l7 h)) (l0 : Nat) (l1 : Int32) (l2 : Int32) (l3 : Int32) (l4 : Int32) (l5 : Int32) (l6 : Int32) (l7 : Int32) (h : eH) : e_K eI q r0 h0 60 [(0, .ref l0), (1, .int l1), (2, .int l2), (3, .int l3), (4, .int l4), (5, .int l5), (6, .int l6), (7, .int l7)] [] h (F_X12_sends_60b N k48 k60 l0 l1 l2 l3 l4 l5 l6 l7 h) := by
  unfold F_X12_sends_60b
  refine k_iload hq dX12_sends_60 7 rfl ?_
  refine k_aload_n hq dX12_sends_62 0 rfl ?_
  refine k_gr hq (C := RX12) (T := TX12) 11 15 rfl (by decide) (lay_X12 15 (by decide)) tw_942 dX12_sends_63 fun v1 => ?_
  refine k_iconst hq dX12_sends_66 (v := 4) rfl ?_
  refine k_iload_n hq dX12_sends_67 3 rfl ?_
  refine k_imul hq dX12_sends_68 ?_
  refine k_iload hq dX12_sends_69 6 rfl ?_
  refine k_iadd hq dX12_sends_71 ?_
  refine k_iald hq dX12_sends_72 fun v2 => ?_
  refine k_icmp_gt hq (tgt := 214) dX12_sends_73 (by decide) (fun _ => ?_) (fun _ => ?_)
  · refine k_iinc hq dX12_sends_214 6 rfl (v := l6 + 1) rfl (by decide) (ls' := [(6, .int (l6 + 1)), (0, .ref l0), (1, .int l1), (2, .int l2), (3, .int l3), (4, .int l4), (5, .int l5), (7, .int l7)]) rfl ?_
    refine k_goto hq (tgt := 48) dX12_sends_217 (by decide) ?_
    exact k_sub [1, 2, 3, 4, 5, 6, 0] rfl (hk48 l0 l1 l2 l3 l4 l5 (l6 + 1) h)
  · refine k_iload_n hq dX12_sends_76 3 rfl ?_
    refine k_iload hq dX12_sends_77 6 rfl ?_
    refine k_iload hq dX12_sends_79 7 rfl ?_
    refine k_callS hq (na := 3) (As := [.int l3, .int l6, .int l7]) (st := []) (con_X12_at _ _ _ _ l3 l6 l7) tw_1115 tw_59 tw_1113 tw_1114 ⟨by decide, by decide, by decide +kernel⟩ rfl (by decide) rfl (Nat.le_of_ble_eq_true rfl) dX12_sends_81 fun v3 h4 => ?_
    refine k_istore hq dX12_sends_84 (by decide) (ls' := [(8, .int v3), (0, .ref l0), (1, .int l1), (2, .int l2), (3, .int l3), (4, .int l4), (5, .int l5), (6, .int l6), (7, .int l7)]) rfl ?_
    refine k_aload_n hq dX12_sends_86 1 rfl ?_
    refine k_gr hq (C := RX12) (T := TX12) 11 14 rfl (by decide) (lay_X12 14 (by decide)) tw_941 dX12_sends_87 fun v5 => ?_
    refine k_iload hq dX12_sends_90 0 rfl ?_
    refine k_iald hq dX12_sends_92 fun v6 => ?_
    refine k_iload_n hq dX12_sends_93 2 rfl ?_
    refine k_callS hq (na := 2) (As := [.int v6, .int l1]) (st := []) (con_X12_has _ _ _ _ v6 l1) tw_1118 tw_59 tw_1116 tw_1117 ⟨by decide, by decide, by decide +kernel⟩ rfl (by decide) rfl (Nat.le_of_ble_eq_true rfl) dX12_sends_94 fun v7 h8 => ?_
    refine k_istore hq dX12_sends_97 (by decide) (ls' := [(9, .int v7), (8, .int v3), (0, .ref l0), (1, .int l1), (2, .int l2), (3, .int l3), (4, .int l4), (5, .int l5), (6, .int l6), (7, .int l7)]) rfl ?_
    refine k_aload_n hq dX12_sends_99 2 rfl ?_
    refine k_gr hq (C := RX12) (T := TX12) 11 14 rfl (by decide) (lay_X12 14 (by decide)) tw_941 dX12_sends_100 fun v9 => ?_
    refine k_iload hq dX12_sends_103 1 rfl ?_
    refine k_iald hq dX12_sends_105 fun v10 => ?_
    refine k_iload_n hq dX12_sends_106 4 rfl ?_
    refine k_callS hq (na := 2) (As := [.int v10, .int l2]) (st := []) (con_X12_has _ _ _ _ v10 l2) tw_1118 tw_59 tw_1116 tw_1117 ⟨by decide, by decide, by decide +kernel⟩ rfl (by decide) rfl (Nat.le_of_ble_eq_true rfl) dX12_sends_107 fun v11 h12 => ?_
    refine k_istore hq dX12_sends_110 (by decide) (ls' := [(10, .int v11), (9, .int v7), (8, .int v3), (0, .ref l0), (1, .int l1), (2, .int l2), (3, .int l3), (4, .int l4), (5, .int l5), (6, .int l6), (7, .int l7)]) rfl ?_
    refine k_iload hq dX12_sends_112 1 rfl ?_
    refine k_if_eq hq (tgt := 122) dX12_sends_114 (by decide) (fun _ => ?_) (fun _ => ?_)
    · exact k_sub [3, 4, 5, 6, 7, 8, 9, 10, 2, 1, 0] rfl (P_X12_sends_122 hq N k48 k60 hk48 hk60 l0 l1 l2 l3 l4 l5 l6 l7 v3 v7 v11 h12)
    · refine k_iload hq dX12_sends_117 0 rfl ?_
      refine k_if_ne hq (tgt := 162) dX12_sends_119 (by decide) (fun _ => ?_) (fun _ => ?_)
      · exact k_sub [3, 4, 5, 6, 7, 8, 9, 10, 2, 1, 0] rfl (P_X12_sends_122 hq N k48 k60 hk48 hk60 l0 l1 l2 l3 l4 l5 l6 l7 v3 v7 v11 h12)
      · exact k_sub [3, 4, 5, 6, 7, 8, 9, 10, 2] rfl (P_X12_sends_162 hq N k48 k60 hk48 hk60 l0 l1 l2 l3 l4 l5 l6 l7 v3 h12)
theorem Q_X12_sends_60 {q : eT} {r0 : Int32} {h0 : eH} (hq : e_B q yX12_sends.cls cX12_sends 12 3 68 (some .int) yX12_sends.name) (N : Nat) (k48 : Nat → Int32 → Int32 → Int32 → Int32 → Int32 → Int32 → eH → Option (Int32 × eH)) (hk48 : ∀ (l0 : Nat) (l1 : Int32) (l2 : Int32) (l3 : Int32) (l4 : Int32) (l5 : Int32) (l6 : Int32) h, e_K eI q r0 h0 48 [(0, .ref l0), (1, .int l1), (2, .int l2), (3, .int l3), (4, .int l4), (5, .int l5), (6, .int l6)] [] h (k48 l0 l1 l2 l3 l4 l5 l6 h)) (l0 : Nat) (l1 : Int32) (l2 : Int32) (l3 : Int32) (l4 : Int32) (l5 : Int32) (l6 : Int32) (l7 : Int32) (h : eH) : e_K eI q r0 h0 60 [(0, .ref l0), (1, .int l1), (2, .int l2), (3, .int l3), (4, .int l4), (5, .int l5), (6, .int l6), (7, .int l7)] [] h (L_X12_sends_60 N k48 l0 l1 l2 l3 l4 l5 l6 l7 h) :=
  k_loop (mk := (fun s => [(0, .ref s.1), (1, .int s.2.1), (2, .int s.2.2.1), (3, .int s.2.2.2.1), (4, .int s.2.2.2.2.1), (5, .int s.2.2.2.2.2.1), (6, .int s.2.2.2.2.2.2.1), (7, .int s.2.2.2.2.2.2.2.1)])) (hp := fun s => s.2.2.2.2.2.2.2.2) (fun k hk s => P_X12_sends_60b hq N k48 (fun l0 l1 l2 l3 l4 l5 l6 l7 h => k (l0, l1, l2, l3, l4, l5, l6, l7, h)) hk48 (fun l0 l1 l2 l3 l4 l5 l6 l7 h => hk (l0, l1, l2, l3, l4, l5, l6, l7, h)) s.1 s.2.1 s.2.2.1 s.2.2.2.1 s.2.2.2.2.1 s.2.2.2.2.2.1 s.2.2.2.2.2.2.1 s.2.2.2.2.2.2.2.1 s.2.2.2.2.2.2.2.2) N (l0, l1, l2, l3, l4, l5, l6, l7, h)
set_option maxRecDepth 100000 in
set_option maxHeartbeats 4000000 in
theorem P_X12_sends_284 {q : eT} {r0 : Int32} {h0 : eH} (hq : e_B q yX12_sends.cls cX12_sends 12 3 68 (some .int) yX12_sends.name) (N : Nat) (k223 : Nat → Int32 → Int32 → Int32 → Int32 → Int32 → eH → Option (Int32 × eH)) (hk223 : ∀ (l0 : Nat) (l2 : Int32) (l3 : Int32) (l4 : Int32) (l5 : Int32) (l6 : Int32) h, e_K eI q r0 h0 223 [(0, .ref l0), (2, .int l2), (3, .int l3), (4, .int l4), (5, .int l5), (6, .int l6)] [] h (k223 l0 l2 l3 l4 l5 l6 h)) (l0 : Nat) (l2 : Int32) (l3 : Int32) (l4 : Int32) (l5 : Int32) (l6 : Int32) (s0 : Nat) (s1 : Int32) (s2 : Int32) (h : eH) : e_K eI q r0 h0 284 [(0, .ref l0), (2, .int l2), (3, .int l3), (4, .int l4), (5, .int l5), (6, .int l6)] [.int s2, .int s1, .ref s0] h (F_X12_sends_284 N k223 l0 l2 l3 l4 l5 l6 s0 s1 s2 h) := by
  unfold F_X12_sends_284
  refine k_iast hq dX12_sends_284 fun h1 => ?_
  refine k_iinc hq dX12_sends_285 5 rfl (v := l6 + 1) rfl (by decide) (ls' := [(6, .int (l6 + 1)), (0, .ref l0), (2, .int l2), (3, .int l3), (4, .int l4), (5, .int l5)]) rfl ?_
  refine k_goto hq (tgt := 223) dX12_sends_288 (by decide) ?_
  exact k_sub [1, 2, 3, 4, 5, 0] rfl (hk223 l0 l2 l3 l4 l5 (l6 + 1) h1)
set_option maxRecDepth 100000 in
set_option maxHeartbeats 4000000 in
theorem P_X12_sends_223b {q : eT} {r0 : Int32} {h0 : eH} (hq : e_B q yX12_sends.cls cX12_sends 12 3 68 (some .int) yX12_sends.name) (N : Nat) (k223 : Nat → Int32 → Int32 → Int32 → Int32 → Int32 → eH → Option (Int32 × eH)) (hk223 : ∀ (l0 : Nat) (l2 : Int32) (l3 : Int32) (l4 : Int32) (l5 : Int32) (l6 : Int32) h, e_K eI q r0 h0 223 [(0, .ref l0), (2, .int l2), (3, .int l3), (4, .int l4), (5, .int l5), (6, .int l6)] [] h (k223 l0 l2 l3 l4 l5 l6 h)) (l0 : Nat) (l2 : Int32) (l3 : Int32) (l4 : Int32) (l5 : Int32) (l6 : Int32) (h : eH) : e_K eI q r0 h0 223 [(0, .ref l0), (2, .int l2), (3, .int l3), (4, .int l4), (5, .int l5), (6, .int l6)] [] h (F_X12_sends_223b N k223 l0 l2 l3 l4 l5 l6 h) := by
  unfold F_X12_sends_223b
  refine k_iload hq dX12_sends_223 5 rfl ?_
  refine k_iconst hq dX12_sends_225 (v := 4) rfl ?_
  refine k_icmp_ge hq (tgt := 291) dX12_sends_226 (by decide) (fun _ => ?_) (fun _ => ?_)
  · refine k_aload_n hq dX12_sends_291 0 rfl ?_
    refine k_iload_n hq dX12_sends_292 1 rfl ?_
    refine k_iload_n hq dX12_sends_293 2 rfl ?_
    refine k_callV hq (na := 2) (As := [.int l2, .int l3]) (st := []) 11 (C := RX12) (T := TX12) rfl (con_X12_bounds _ _ _ _ N l0 l2 l3) tw_1134 tw_59 tw_1131 tw_1133 tw_32 ⟨by decide, by decide, by decide +kernel⟩ rfl (by decide) rfl (Nat.le_of_ble_eq_true rfl) dX12_sends_294 fun v1 h2 => ?_
    refine k_aload_n hq dX12_sends_297 0 rfl ?_
    refine k_iload_n hq dX12_sends_298 1 rfl ?_
    refine k_iload_n hq dX12_sends_299 2 rfl ?_
    refine k_callV hq (na := 2) (As := [.int l2, .int l3]) (st := []) 11 (C := RX12) (T := TX12) rfl (con_X12_siblings _ _ _ _ N l0 l2 l3) tw_1122 tw_59 tw_1119 tw_1121 tw_30 ⟨by decide, by decide, by decide +kernel⟩ rfl (by decide) rfl (Nat.le_of_ble_eq_true rfl) dX12_sends_300 fun v3 h4 => ?_
    exact k_iret hq dX12_sends_303
  · refine k_aload_n hq dX12_sends_229 0 rfl ?_
    refine k_gr hq (C := RX12) (T := TX12) 11 16 rfl (by decide) (lay_X12 16 (by decide)) tw_943 dX12_sends_230 fun v5 => ?_
    refine k_iload hq dX12_sends_233 4 rfl ?_
    refine k_iload hq dX12_sends_235 5 rfl ?_
    refine k_iadd hq dX12_sends_237 ?_
    refine k_aload_n hq dX12_sends_238 0 rfl ?_
    refine k_gr hq (C := RX12) (T := TX12) 11 16 rfl (by decide) (lay_X12 16 (by decide)) tw_943 dX12_sends_239 fun v6 => ?_
    refine k_iload hq dX12_sends_242 3 rfl ?_
    refine k_iload hq dX12_sends_244 5 rfl ?_
    refine k_iadd hq dX12_sends_246 ?_
    refine k_iald hq dX12_sends_247 fun v7 => ?_
    refine k_aload_n hq dX12_sends_248 0 rfl ?_
    refine k_gr hq (C := RX12) (T := TX12) 11 16 rfl (by decide) (lay_X12 16 (by decide)) tw_943 dX12_sends_249 fun v8 => ?_
    refine k_iload hq dX12_sends_252 4 rfl ?_
    refine k_iload hq dX12_sends_254 5 rfl ?_
    refine k_iadd hq dX12_sends_256 ?_
    refine k_iald hq dX12_sends_257 fun v9 => ?_
    refine k_icmp_le hq (tgt := 274) dX12_sends_258 (by decide) (fun _ => ?_) (fun _ => ?_)
    · refine k_aload_n hq dX12_sends_274 0 rfl ?_
      refine k_gr hq (C := RX12) (T := TX12) 11 16 rfl (by decide) (lay_X12 16 (by decide)) tw_943 dX12_sends_275 fun v10 => ?_
      refine k_iload hq dX12_sends_278 4 rfl ?_
      refine k_iload hq dX12_sends_280 5 rfl ?_
      refine k_iadd hq dX12_sends_282 ?_
      refine k_iald hq dX12_sends_283 fun v11 => ?_
      exact k_sub [0, 1, 2, 3, 4, 5] rfl (P_X12_sends_284 hq N k223 hk223 l0 l2 l3 l4 l5 l6 v5 (l5 + l6) v11 h)
    · refine k_aload_n hq dX12_sends_261 0 rfl ?_
      refine k_gr hq (C := RX12) (T := TX12) 11 16 rfl (by decide) (lay_X12 16 (by decide)) tw_943 dX12_sends_262 fun v12 => ?_
      refine k_iload hq dX12_sends_265 3 rfl ?_
      refine k_iload hq dX12_sends_267 5 rfl ?_
      refine k_iadd hq dX12_sends_269 ?_
      refine k_iald hq dX12_sends_270 fun v13 => ?_
      refine k_goto hq (tgt := 284) dX12_sends_271 (by decide) ?_
      exact k_sub [0, 1, 2, 3, 4, 5] rfl (P_X12_sends_284 hq N k223 hk223 l0 l2 l3 l4 l5 l6 v5 (l5 + l6) v13 h)
theorem Q_X12_sends_223 {q : eT} {r0 : Int32} {h0 : eH} (hq : e_B q yX12_sends.cls cX12_sends 12 3 68 (some .int) yX12_sends.name) (N : Nat) (l0 : Nat) (l2 : Int32) (l3 : Int32) (l4 : Int32) (l5 : Int32) (l6 : Int32) (h : eH) : e_K eI q r0 h0 223 [(0, .ref l0), (2, .int l2), (3, .int l3), (4, .int l4), (5, .int l5), (6, .int l6)] [] h (L_X12_sends_223 N l0 l2 l3 l4 l5 l6 h) :=
  k_loop (mk := (fun s => [(0, .ref s.1), (2, .int s.2.1), (3, .int s.2.2.1), (4, .int s.2.2.2.1), (5, .int s.2.2.2.2.1), (6, .int s.2.2.2.2.2.1)])) (hp := fun s => s.2.2.2.2.2.2) (fun k hk s => P_X12_sends_223b hq N (fun l0 l2 l3 l4 l5 l6 h => k (l0, l2, l3, l4, l5, l6, h)) (fun l0 l2 l3 l4 l5 l6 h => hk (l0, l2, l3, l4, l5, l6, h)) s.1 s.2.1 s.2.2.1 s.2.2.2.1 s.2.2.2.2.1 s.2.2.2.2.2.1 s.2.2.2.2.2.2) N (l0, l2, l3, l4, l5, l6, h)
set_option maxRecDepth 100000 in
set_option maxHeartbeats 4000000 in
theorem P_X12_sends_48b {q : eT} {r0 : Int32} {h0 : eH} (hq : e_B q yX12_sends.cls cX12_sends 12 3 68 (some .int) yX12_sends.name) (N : Nat) (k48 : Nat → Int32 → Int32 → Int32 → Int32 → Int32 → Int32 → eH → Option (Int32 × eH)) (hk48 : ∀ (l0 : Nat) (l1 : Int32) (l2 : Int32) (l3 : Int32) (l4 : Int32) (l5 : Int32) (l6 : Int32) h, e_K eI q r0 h0 48 [(0, .ref l0), (1, .int l1), (2, .int l2), (3, .int l3), (4, .int l4), (5, .int l5), (6, .int l6)] [] h (k48 l0 l1 l2 l3 l4 l5 l6 h)) (l0 : Nat) (l1 : Int32) (l2 : Int32) (l3 : Int32) (l4 : Int32) (l5 : Int32) (l6 : Int32) (h : eH) : e_K eI q r0 h0 48 [(0, .ref l0), (1, .int l1), (2, .int l2), (3, .int l3), (4, .int l4), (5, .int l5), (6, .int l6)] [] h (F_X12_sends_48b N k48 l0 l1 l2 l3 l4 l5 l6 h) := by
  unfold F_X12_sends_48b
  refine k_iload hq dX12_sends_48 6 rfl ?_
  refine k_aload_n hq dX12_sends_50 0 rfl ?_
  refine k_gi hq (C := RX12) (T := TX12) 11 0 rfl (by decide) (lay_X12 0 (by decide)) tw_927 dX12_sends_51 fun v1 => ?_
  refine k_icmp_ge hq (tgt := 220) dX12_sends_54 (by decide) (fun _ => ?_) (fun _ => ?_)
  · refine k_iconst hq dX12_sends_220 (v := 0) rfl ?_
    refine k_istore hq dX12_sends_221 (by decide) (ls' := [(6, .int 0), (0, .ref l0), (1, .int l1), (2, .int l2), (3, .int l3), (4, .int l4), (5, .int l5)]) rfl ?_
    exact k_sub [1, 3, 4, 5, 6, 0] rfl (Q_X12_sends_223 hq N l0 l2 l3 l4 l5 0 h)
  · refine k_iconst hq dX12_sends_57 (v := 1) rfl ?_
    refine k_istore hq dX12_sends_58 (by decide) (ls' := [(7, .int 1), (0, .ref l0), (1, .int l1), (2, .int l2), (3, .int l3), (4, .int l4), (5, .int l5), (6, .int l6)]) rfl ?_
    exact k_sub [1, 2, 3, 4, 5, 6, 7, 0] rfl (Q_X12_sends_60 hq N k48 hk48 l0 l1 l2 l3 l4 l5 l6 1 h)
theorem Q_X12_sends_48 {q : eT} {r0 : Int32} {h0 : eH} (hq : e_B q yX12_sends.cls cX12_sends 12 3 68 (some .int) yX12_sends.name) (N : Nat) (l0 : Nat) (l1 : Int32) (l2 : Int32) (l3 : Int32) (l4 : Int32) (l5 : Int32) (l6 : Int32) (h : eH) : e_K eI q r0 h0 48 [(0, .ref l0), (1, .int l1), (2, .int l2), (3, .int l3), (4, .int l4), (5, .int l5), (6, .int l6)] [] h (L_X12_sends_48 N l0 l1 l2 l3 l4 l5 l6 h) :=
  k_loop (mk := (fun s => [(0, .ref s.1), (1, .int s.2.1), (2, .int s.2.2.1), (3, .int s.2.2.2.1), (4, .int s.2.2.2.2.1), (5, .int s.2.2.2.2.2.1), (6, .int s.2.2.2.2.2.2.1)])) (hp := fun s => s.2.2.2.2.2.2.2) (fun k hk s => P_X12_sends_48b hq N (fun l0 l1 l2 l3 l4 l5 l6 h => k (l0, l1, l2, l3, l4, l5, l6, h)) (fun l0 l1 l2 l3 l4 l5 l6 h => hk (l0, l1, l2, l3, l4, l5, l6, h)) s.1 s.2.1 s.2.2.1 s.2.2.2.1 s.2.2.2.2.1 s.2.2.2.2.2.1 s.2.2.2.2.2.2.1 s.2.2.2.2.2.2.2) N (l0, l1, l2, l3, l4, l5, l6, h)
set_option maxRecDepth 100000 in
set_option maxHeartbeats 4000000 in
theorem P_X12_sends_0 {q : eT} {r0 : Int32} {h0 : eH} (hq : e_B q yX12_sends.cls cX12_sends 12 3 68 (some .int) yX12_sends.name) (N : Nat) (l0 : Nat) (l1 : Int32) (l2 : Int32) (l3 : Int32) (h : eH) : e_K eI q r0 h0 0 [(0, .ref l0), (1, .int l1), (2, .int l2), (3, .int l3)] [] h (F_X12_sends N l0 l1 l2 l3 h) := by
  unfold F_X12_sends
  refine k_aload_n hq dX12_sends_0 0 rfl ?_
  refine k_iload_n hq dX12_sends_1 1 rfl ?_
  refine k_callV hq (na := 1) (As := [.int l1]) (st := []) 11 (C := RX12) (T := TX12) rfl (con_X12_isSite _ _ _ _ l0 l1) tw_1105 tw_59 tw_1102 tw_1104 tw_28 ⟨by decide, by decide, by decide +kernel⟩ rfl (by decide) rfl (Nat.le_of_ble_eq_true rfl) dX12_sends_2 fun v1 h2 => ?_
  refine k_if_eq hq (tgt := 29) dX12_sends_5 (by decide) (fun _ => ?_) (fun _ => ?_)
  · refine k_iconst hq dX12_sends_29 (v := (-1)) rfl ?_
    exact k_iret hq dX12_sends_30
  · refine k_aload_n hq dX12_sends_8 0 rfl ?_
    refine k_iload_n hq dX12_sends_9 2 rfl ?_
    refine k_callV hq (na := 1) (As := [.int l2]) (st := []) 11 (C := RX12) (T := TX12) rfl (con_X12_isSite _ _ _ _ l0 l2) tw_1105 tw_59 tw_1102 tw_1104 tw_28 ⟨by decide, by decide, by decide +kernel⟩ rfl (by decide) rfl (Nat.le_of_ble_eq_true rfl) dX12_sends_10 fun v3 h4 => ?_
    refine k_if_eq hq (tgt := 29) dX12_sends_13 (by decide) (fun _ => ?_) (fun _ => ?_)
    · refine k_iconst hq dX12_sends_29 (v := (-1)) rfl ?_
      exact k_iret hq dX12_sends_30
    · refine k_iload_n hq dX12_sends_16 1 rfl ?_
      refine k_iload_n hq dX12_sends_17 2 rfl ?_
      refine k_icmp_eq hq (tgt := 29) dX12_sends_18 (by decide) (fun _ => ?_) (fun _ => ?_)
      · refine k_iconst hq dX12_sends_29 (v := (-1)) rfl ?_
        exact k_iret hq dX12_sends_30
      · refine k_aload_n hq dX12_sends_21 0 rfl ?_
        refine k_iload_n hq dX12_sends_22 3 rfl ?_
        refine k_callV hq (na := 1) (As := [.int l3]) (st := []) 11 (C := RX12) (T := TX12) rfl (con_X12_isKey _ _ _ _ l0 l3) tw_1109 tw_59 tw_1106 tw_1108 tw_29 ⟨by decide, by decide, by decide +kernel⟩ rfl (by decide) rfl (Nat.le_of_ble_eq_true rfl) dX12_sends_23 fun v5 h6 => ?_
        refine k_if_ne hq (tgt := 31) dX12_sends_26 (by decide) (fun _ => ?_) (fun _ => ?_)
        · refine k_iconst hq dX12_sends_29 (v := (-1)) rfl ?_
          exact k_iret hq dX12_sends_30
        · refine k_iload_n hq dX12_sends_31 3 rfl ?_
          refine k_iload_n hq dX12_sends_32 1 rfl ?_
          refine k_callS hq (na := 2) (As := [.int l3, .int l1]) (st := []) (con_X12_rowAt _ _ _ _ l3 l1) tw_1112 tw_59 tw_1110 tw_1111 ⟨by decide, by decide, by decide +kernel⟩ rfl (by decide) rfl (Nat.le_of_ble_eq_true rfl) dX12_sends_33 fun v7 h8 => ?_
          refine k_istore hq dX12_sends_36 (by decide) (ls' := [(4, .int v7), (0, .ref l0), (1, .int l1), (2, .int l2), (3, .int l3)]) rfl ?_
          refine k_iload_n hq dX12_sends_38 4 rfl ?_
          refine k_iload_n hq dX12_sends_39 3 rfl ?_
          refine k_callS hq (na := 2) (As := [.int l3, .int l2]) (st := []) (con_X12_rowAt _ _ _ _ l3 l2) tw_1112 tw_59 tw_1110 tw_1111 ⟨by decide, by decide, by decide +kernel⟩ rfl (by decide) rfl (Nat.le_of_ble_eq_true rfl) dX12_sends_40 fun v9 h10 => ?_
          refine k_istore hq dX12_sends_43 (by decide) (ls' := [(5, .int v9), (4, .int v7), (0, .ref l0), (1, .int l1), (2, .int l2), (3, .int l3)]) rfl ?_
          refine k_iconst hq dX12_sends_45 (v := 0) rfl ?_
          refine k_istore hq dX12_sends_46 (by decide) (ls' := [(6, .int 0), (5, .int v9), (4, .int v7), (0, .ref l0), (1, .int l1), (2, .int l2), (3, .int l3)]) rfl ?_
          exact k_sub [3, 4, 5, 6, 2, 1, 0] rfl (Q_X12_sends_48 hq N l0 l1 l2 l3 v7 v9 0 h10)
theorem con_X12_sends (l : Launch) (G : eG) (B0 n : Nat) (N : Nat) (l0 : Nat) (l1 : Int32) (l2 : Int32) (l3 : Int32) : e_C eI l G B0 n yX12_sends cX12_sends 12 (some .int) 3 68 [.ref l0, .int l1, .int l2, .int l3] (F_X12_sends N l0 l1 l2 l3) := by
  refine e_mk (by decide) (Nat.le_of_ble_eq_true rfl) fun q r0 h0 h hq e1 e2 e3 e4 => ?_
  subst e1; subst e2; subst e3; subst e4
  exact P_X12_sends_0 hq N l0 l1 l2 l3 h
set_option maxRecDepth 100000 in
set_option maxHeartbeats 4000000 in
theorem P_X12_sum_69 {q : eT} {r0 : Int64} {h0 : eH} (hq : e_B q yX12_sum.cls cX12_sum 7 0 0 (some .long) yX12_sum.name) (l5 : Int64) (s0 : Nat) (s1 : Int32) (h : eH) : e_K eL q r0 h0 69 [(5, .long l5)] [.int s1, .ref s0] h (F_X12_sum_69 l5 s0 s1 h) := by
  unfold F_X12_sum_69
  refine k_pz hq (C := RX12) (T := TX12) 11 35 rfl (by decide) lay_X12 tyX12 tyX12_ok nmX12 tw_962 rfl rfl dX12_sum_69 fun h1 => ?_
  refine k_lload hq dX12_sum_72 0 rfl ?_
  exact k_lret hq dX12_sum_74
set_option maxRecDepth 100000 in
set_option maxHeartbeats 4000000 in
theorem P_X12_sum_64 {q : eT} {r0 : Int64} {h0 : eH} (hq : e_B q yX12_sum.cls cX12_sum 7 0 0 (some .long) yX12_sum.name) (l5 : Int64) (s0 : Nat) (h : eH) : e_K eL q r0 h0 64 [(5, .long l5)] [.ref s0] h (F_X12_sum_64 l5 s0 h) := by
  unfold F_X12_sum_64
  refine k_iconst hq dX12_sum_64 (v := 1) rfl ?_
  refine k_goto hq (tgt := 69) dX12_sum_65 (by decide) ?_
  exact k_sub [0] rfl (P_X12_sum_69 hq l5 s0 1 h)
set_option maxRecDepth 100000 in
set_option maxHeartbeats 4000000 in
theorem P_X12_sum_68 {q : eT} {r0 : Int64} {h0 : eH} (hq : e_B q yX12_sum.cls cX12_sum 7 0 0 (some .long) yX12_sum.name) (l5 : Int64) (s0 : Nat) (h : eH) : e_K eL q r0 h0 68 [(5, .long l5)] [.ref s0] h (F_X12_sum_68 l5 s0 h) := by
  unfold F_X12_sum_68
  refine k_iconst hq dX12_sum_68 (v := 0) rfl ?_
  exact k_sub [0] rfl (P_X12_sum_69 hq l5 s0 0 h)
set_option maxRecDepth 100000 in
set_option maxHeartbeats 4000000 in
theorem P_X12_sum_61 {q : eT} {r0 : Int64} {h0 : eH} (hq : e_B q yX12_sum.cls cX12_sum 7 0 0 (some .long) yX12_sum.name) (l5 : Int64) (s0 : Nat) (s1 : Int32) (s2 : Int32) (h : eH) : e_K eL q r0 h0 61 [(5, .long l5)] [.int s2, .int s1, .ref s0] h (F_X12_sum_61 l5 s0 s1 s2 h) := by
  unfold F_X12_sum_61
  refine k_icmp_eq hq (tgt := 68) dX12_sum_61 (by decide) (fun _ => ?_) (fun _ => ?_)
  · exact k_sub [0] rfl (P_X12_sum_68 hq l5 s0 h)
  · exact k_sub [0] rfl (P_X12_sum_64 hq l5 s0 h)
set_option maxRecDepth 100000 in
set_option maxHeartbeats 4000000 in
theorem P_X12_sum_50 {q : eT} {r0 : Int64} {h0 : eH} (hq : e_B q yX12_sum.cls cX12_sum 7 0 0 (some .long) yX12_sum.name) (l1 : Int64) (l5 : Int64) (s0 : Nat) (s1 : Int32) (h : eH) : e_K eL q r0 h0 50 [(1, .long l1), (5, .long l5)] [.int s1, .ref s0] h (F_X12_sum_50 l1 l5 s0 s1 h) := by
  unfold F_X12_sum_50
  refine k_lload_n hq dX12_sum_50 0 rfl ?_
  refine k_lconst hq dX12_sum_51 (v := 0) rfl ?_
  refine k_lcmp hq dX12_sum_52 ?_
  refine k_if_lt hq (tgt := 60) dX12_sum_53 (by decide) (fun _ => ?_) (fun _ => ?_)
  · refine k_iconst hq dX12_sum_60 (v := 0) rfl ?_
    exact k_sub [1] rfl (P_X12_sum_61 hq l5 s0 s1 0 h)
  · refine k_iconst hq dX12_sum_56 (v := 1) rfl ?_
    refine k_goto hq (tgt := 61) dX12_sum_57 (by decide) ?_
    exact k_sub [1] rfl (P_X12_sum_61 hq l5 s0 s1 1 h)
set_option maxRecDepth 100000 in
set_option maxHeartbeats 4000000 in
theorem P_X12_sum_35 {q : eT} {r0 : Int64} {h0 : eH} (hq : e_B q yX12_sum.cls cX12_sum 7 0 0 (some .long) yX12_sum.name) (l1 : Int64) (l5 : Int64) (s0 : Nat) (s1 : Int32) (s2 : Int32) (h : eH) : e_K eL q r0 h0 35 [(1, .long l1), (5, .long l5)] [.int s2, .int s1, .ref s0] h (F_X12_sum_35 l1 l5 s0 s1 s2 h) := by
  unfold F_X12_sum_35
  refine k_icmp_ne hq (tgt := 68) dX12_sum_35 (by decide) (fun _ => ?_) (fun _ => ?_)
  · refine k_lload hq dX12_sum_38 1 rfl ?_
    refine k_lconst hq dX12_sum_40 (v := 0) rfl ?_
    refine k_lcmp hq dX12_sum_41 ?_
    refine k_if_lt hq (tgt := 49) dX12_sum_42 (by decide) (fun _ => ?_) (fun _ => ?_)
    · refine k_iconst hq dX12_sum_49 (v := 0) rfl ?_
      exact k_sub [0, 1] rfl (P_X12_sum_50 hq l1 l5 s0 0 h)
    · refine k_iconst hq dX12_sum_45 (v := 1) rfl ?_
      refine k_goto hq (tgt := 50) dX12_sum_46 (by decide) ?_
      exact k_sub [0, 1] rfl (P_X12_sum_50 hq l1 l5 s0 1 h)
  · exact k_sub [1] rfl (P_X12_sum_68 hq l5 s0 h)
set_option maxRecDepth 100000 in
set_option maxHeartbeats 4000000 in
theorem P_X12_sum_24 {q : eT} {r0 : Int64} {h0 : eH} (hq : e_B q yX12_sum.cls cX12_sum 7 0 0 (some .long) yX12_sum.name) (l1 : Int64) (l3 : Int64) (l5 : Int64) (s0 : Nat) (s1 : Int32) (h : eH) : e_K eL q r0 h0 24 [(1, .long l1), (3, .long l3), (5, .long l5)] [.int s1, .ref s0] h (F_X12_sum_24 l1 l3 l5 s0 s1 h) := by
  unfold F_X12_sum_24
  refine k_lload_n hq dX12_sum_24 1 rfl ?_
  refine k_lconst hq dX12_sum_25 (v := 0) rfl ?_
  refine k_lcmp hq dX12_sum_26 ?_
  refine k_if_lt hq (tgt := 34) dX12_sum_27 (by decide) (fun _ => ?_) (fun _ => ?_)
  · refine k_iconst hq dX12_sum_34 (v := 0) rfl ?_
    exact k_sub [0, 2] rfl (P_X12_sum_35 hq l1 l5 s0 s1 0 h)
  · refine k_iconst hq dX12_sum_30 (v := 1) rfl ?_
    refine k_goto hq (tgt := 35) dX12_sum_31 (by decide) ?_
    exact k_sub [0, 2] rfl (P_X12_sum_35 hq l1 l5 s0 s1 1 h)
set_option maxRecDepth 100000 in
set_option maxHeartbeats 4000000 in
theorem P_X12_sum_0 {q : eT} {r0 : Int64} {h0 : eH} (hq : e_B q yX12_sum.cls cX12_sum 7 0 0 (some .long) yX12_sum.name) (l0 : Nat) (l1 : Int64) (l3 : Int64) (h : eH) : e_K eL q r0 h0 0 [(0, .ref l0), (1, .long l1), (3, .long l3)] [] h (F_X12_sum l0 l1 l3 h) := by
  unfold F_X12_sum
  refine k_lload_n hq dX12_sum_0 1 rfl ?_
  refine k_lload_n hq dX12_sum_1 2 rfl ?_
  refine k_ladd hq dX12_sum_2 ?_
  refine k_let (mk := fun z => .long z :: []) fun v1 _ => ?_
  refine k_lstore hq dX12_sum_3 (by decide) (ls' := [(5, .long v1), (0, .ref l0), (1, .long l1), (3, .long l3)]) rfl ?_
  refine k_aload_n hq dX12_sum_5 1 rfl ?_
  refine k_aload_n hq dX12_sum_6 1 rfl ?_
  refine k_gi hq (C := RX12) (T := TX12) 11 35 rfl (by decide) (lay_X12 35 (by decide)) tw_962 dX12_sum_7 fun v2 => ?_
  refine k_if_ne hq (tgt := 64) dX12_sum_10 (by decide) (fun _ => ?_) (fun _ => ?_)
  · refine k_lload_n hq dX12_sum_13 2 rfl ?_
    refine k_lconst hq dX12_sum_14 (v := 0) rfl ?_
    refine k_lcmp hq dX12_sum_15 ?_
    refine k_if_lt hq (tgt := 23) dX12_sum_16 (by decide) (fun _ => ?_) (fun _ => ?_)
    · refine k_iconst hq dX12_sum_23 (v := 0) rfl ?_
      exact k_sub [2, 3, 0] rfl (P_X12_sum_24 hq l1 l3 v1 l0 0 h)
    · refine k_iconst hq dX12_sum_19 (v := 1) rfl ?_
      refine k_goto hq (tgt := 24) dX12_sum_20 (by decide) ?_
      exact k_sub [2, 3, 0] rfl (P_X12_sum_24 hq l1 l3 v1 l0 1 h)
  · exact k_sub [0] rfl (P_X12_sum_64 hq v1 l0 h)
theorem con_X12_sum (l : Launch) (G : eG) (B0 n : Nat) (l0 : Nat) (l1 : Int64) (l3 : Int64) : e_C eL l G B0 n yX12_sum cX12_sum 7 (some .long) 0 0 [.ref l0, .long l1, .long l3] (F_X12_sum l0 l1 l3) := by
  refine e_mk (by decide) (Nat.le_of_ble_eq_true rfl) fun q r0 h0 h hq e1 e2 e3 e4 => ?_
  subst e1; subst e2; subst e3; subst e4
  exact P_X12_sum_0 hq l0 l1 l3 h
set_option maxRecDepth 100000 in
set_option maxHeartbeats 4000000 in
theorem P_X12_common_28b {q : eT} {r0 : Int64} {h0 : eH} (hq : e_B q yX12_common.cls cX12_common 10 0 0 (some .long) yX12_common.name) (N : Nat) (k28 : Int64 → Int64 → eH → Option (Int64 × eH)) (hk28 : ∀ (l4 : Int64) (l6 : Int64) h, e_K eL q r0 h0 28 [(4, .long l4), (6, .long l6)] [] h (k28 l4 l6 h)) (l4 : Int64) (l6 : Int64) (h : eH) : e_K eL q r0 h0 28 [(4, .long l4), (6, .long l6)] [] h (F_X12_common_28b N k28 l4 l6 h) := by
  unfold F_X12_common_28b
  refine k_lload hq dX12_common_28 1 rfl ?_
  refine k_lconst hq dX12_common_30 (v := 0) rfl ?_
  refine k_lcmp hq dX12_common_31 ?_
  refine k_if_eq hq (tgt := 53) dX12_common_32 (by decide) (fun _ => ?_) (fun _ => ?_)
  · refine k_lload hq dX12_common_53 0 rfl ?_
    exact k_lret hq dX12_common_55
  · refine k_lload hq dX12_common_35 0 rfl ?_
    refine k_lload hq dX12_common_37 1 rfl ?_
    refine k_lrem hq dX12_common_39 fun _ => ?_
    refine k_let (mk := fun z => .long z :: []) fun v1 _ => ?_
    refine k_lstore hq dX12_common_40 (by decide) (ls' := [(8, .long v1), (4, .long l4), (6, .long l6)]) rfl ?_
    refine k_lload hq dX12_common_42 2 rfl ?_
    refine k_lstore hq dX12_common_44 (by decide) (ls' := [(4, .long l6), (8, .long v1), (6, .long l6)]) rfl ?_
    refine k_lload hq dX12_common_46 1 rfl ?_
    refine k_lstore hq dX12_common_48 (by decide) (ls' := [(6, .long v1), (4, .long l6), (8, .long v1)]) rfl ?_
    refine k_goto hq (tgt := 28) dX12_common_50 (by decide) ?_
    exact k_sub [1, 0] rfl (hk28 l6 v1 h)
theorem Q_X12_common_28 {q : eT} {r0 : Int64} {h0 : eH} (hq : e_B q yX12_common.cls cX12_common 10 0 0 (some .long) yX12_common.name) (N : Nat) (l4 : Int64) (l6 : Int64) (h : eH) : e_K eL q r0 h0 28 [(4, .long l4), (6, .long l6)] [] h (L_X12_common_28 N l4 l6 h) :=
  k_loop (mk := (fun s => [(4, .long s.1), (6, .long s.2.1)])) (hp := fun s => s.2.2) (fun k hk s => P_X12_common_28b hq N (fun l4 l6 h => k (l4, l6, h)) (fun l4 l6 h => hk (l4, l6, h)) s.1 s.2.1 s.2.2) N (l4, l6, h)
set_option maxRecDepth 100000 in
set_option maxHeartbeats 4000000 in
theorem P_X12_common_26 {q : eT} {r0 : Int64} {h0 : eH} (hq : e_B q yX12_common.cls cX12_common 10 0 0 (some .long) yX12_common.name) (N : Nat) (l4 : Int64) (s0 : Int64) (h : eH) : e_K eL q r0 h0 26 [(4, .long l4)] [.long s0] h (F_X12_common_26 N l4 s0 h) := by
  unfold F_X12_common_26
  refine k_lstore hq dX12_common_26 (by decide) (ls' := [(6, .long s0), (4, .long l4)]) rfl ?_
  exact k_sub [1, 0] rfl (Q_X12_common_28 hq N l4 s0 h)
set_option maxRecDepth 100000 in
set_option maxHeartbeats 4000000 in
theorem P_X12_common_12 {q : eT} {r0 : Int64} {h0 : eH} (hq : e_B q yX12_common.cls cX12_common 10 0 0 (some .long) yX12_common.name) (N : Nat) (l2 : Int64) (s0 : Int64) (h : eH) : e_K eL q r0 h0 12 [(2, .long l2)] [.long s0] h (F_X12_common_12 N l2 s0 h) := by
  unfold F_X12_common_12
  refine k_lstore hq dX12_common_12 (by decide) (ls' := [(4, .long s0), (2, .long l2)]) rfl ?_
  refine k_lload_n hq dX12_common_14 1 rfl ?_
  refine k_lconst hq dX12_common_15 (v := 0) rfl ?_
  refine k_lcmp hq dX12_common_16 ?_
  refine k_if_le hq (tgt := 25) dX12_common_17 (by decide) (fun _ => ?_) (fun _ => ?_)
  · refine k_lload_n hq dX12_common_25 1 rfl ?_
    exact k_sub [0] rfl (P_X12_common_26 hq N s0 l2 h)
  · refine k_lload_n hq dX12_common_20 1 rfl ?_
    refine k_lneg hq dX12_common_21 ?_
    refine k_goto hq (tgt := 26) dX12_common_22 (by decide) ?_
    exact k_sub [0] rfl (P_X12_common_26 hq N s0 (-l2) h)
set_option maxRecDepth 100000 in
set_option maxHeartbeats 4000000 in
theorem P_X12_common_0 {q : eT} {r0 : Int64} {h0 : eH} (hq : e_B q yX12_common.cls cX12_common 10 0 0 (some .long) yX12_common.name) (N : Nat) (l0 : Int64) (l2 : Int64) (h : eH) : e_K eL q r0 h0 0 [(0, .long l0), (2, .long l2)] [] h (F_X12_common N l0 l2 h) := by
  unfold F_X12_common
  refine k_lload_n hq dX12_common_0 0 rfl ?_
  refine k_lconst hq dX12_common_1 (v := 0) rfl ?_
  refine k_lcmp hq dX12_common_2 ?_
  refine k_if_le hq (tgt := 11) dX12_common_3 (by decide) (fun _ => ?_) (fun _ => ?_)
  · refine k_lload_n hq dX12_common_11 0 rfl ?_
    exact k_sub [1] rfl (P_X12_common_12 hq N l2 l0 h)
  · refine k_lload_n hq dX12_common_6 0 rfl ?_
    refine k_lneg hq dX12_common_7 ?_
    refine k_goto hq (tgt := 12) dX12_common_8 (by decide) ?_
    exact k_sub [1] rfl (P_X12_common_12 hq N l2 (-l0) h)
theorem con_X12_common (l : Launch) (G : eG) (B0 n : Nat) (N : Nat) (l0 : Int64) (l2 : Int64) : e_C eL l G B0 n yX12_common cX12_common 10 (some .long) 0 0 [.long l0, .long l2] (F_X12_common N l0 l2) := by
  refine e_mk (by decide) (Nat.le_of_ble_eq_true rfl) fun q r0 h0 h hq e1 e2 e3 e4 => ?_
  subst e1; subst e2; subst e3; subst e4
  exact P_X12_common_0 hq N l0 l2 h
set_option maxRecDepth 100000 in
set_option maxHeartbeats 4000000 in
theorem P_X12_joined_0 {q : eT} {r0 : Int64} {h0 : eH} (hq : e_B q yX12_joined.cls cX12_joined 7 1 29 (some .long) yX12_joined.name) (N : Nat) (l0 : Nat) (l1 : Int32) (l2 : Int32) (l3 : Int64) (l5 : Int64) (h : eH) : e_K eL q r0 h0 0 [(0, .ref l0), (1, .int l1), (2, .int l2), (3, .long l3), (5, .long l5)] [] h (F_X12_joined N l0 l1 l2 l3 l5 h) := by
  unfold F_X12_joined
  refine k_iload_n hq dX12_joined_0 2 rfl ?_
  refine k_ite (fun e0 => ?_) (fun n0 => ?_)
  · refine k_tableIn hq (tgt := 32) dX12_joined_1 (by rw [e0]; decide) (by rw [e0]; decide) (off := 31) (by rw [e0]; rfl) (by decide) ?_
    refine k_lload_n hq dX12_joined_32 3 rfl ?_
    refine k_lload hq dX12_joined_33 4 rfl ?_
    refine k_lcmp hq dX12_joined_35 ?_
    refine k_if_le hq (tgt := 43) dX12_joined_36 (by decide) (fun _ => ?_) (fun _ => ?_)
    · refine k_lload hq dX12_joined_43 4 rfl ?_
      exact k_lret hq dX12_joined_45
    · refine k_lload_n hq dX12_joined_39 3 rfl ?_
      refine k_goto hq (tgt := 45) dX12_joined_40 (by decide) ?_
      exact k_lret hq dX12_joined_45
  refine k_ite (fun e0 => ?_) (fun n1 => ?_)
  · refine k_tableIn hq (tgt := 46) dX12_joined_1 (by rw [e0]; decide) (by rw [e0]; decide) (off := 45) (by rw [e0]; rfl) (by decide) ?_
    refine k_lload_n hq dX12_joined_46 3 rfl ?_
    refine k_lload hq dX12_joined_47 4 rfl ?_
    refine k_lcmp hq dX12_joined_49 ?_
    refine k_if_ge hq (tgt := 57) dX12_joined_50 (by decide) (fun _ => ?_) (fun _ => ?_)
    · refine k_lload hq dX12_joined_57 4 rfl ?_
      exact k_lret hq dX12_joined_59
    · refine k_lload_n hq dX12_joined_53 3 rfl ?_
      refine k_goto hq (tgt := 59) dX12_joined_54 (by decide) ?_
      exact k_lret hq dX12_joined_59
  refine k_ite (fun e0 => ?_) (fun n2 => ?_)
  · refine k_tableIn hq (tgt := 60) dX12_joined_1 (by rw [e0]; decide) (by rw [e0]; decide) (off := 59) (by rw [e0]; rfl) (by decide) ?_
    refine k_aload_n hq dX12_joined_60 0 rfl ?_
    refine k_gr hq (C := RX12) (T := TX12) 11 4 rfl (by decide) (lay_X12 4 (by decide)) tw_931 dX12_joined_61 fun v1 => ?_
    refine k_iload_n hq dX12_joined_64 1 rfl ?_
    refine k_iald hq dX12_joined_65 fun v2 => ?_
    refine k_iconst hq dX12_joined_66 (v := 1) rfl ?_
    refine k_icmp_ne hq (tgt := 77) dX12_joined_67 (by decide) (fun _ => ?_) (fun _ => ?_)
    · refine k_lload_n hq dX12_joined_70 3 rfl ?_
      refine k_lload hq dX12_joined_71 4 rfl ?_
      refine k_lor hq dX12_joined_73 ?_
      refine k_goto hq (tgt := 84) dX12_joined_74 (by decide) ?_
      exact k_lret hq dX12_joined_84
    · refine k_aload_n hq dX12_joined_77 0 rfl ?_
      refine k_lload_n hq dX12_joined_78 3 rfl ?_
      refine k_lload hq dX12_joined_79 4 rfl ?_
      refine k_callV hq (na := 2) (As := [.long l3, .long l5]) (st := []) 11 (C := RX12) (T := TX12) rfl (con_X12_sum _ _ _ _ l0 l3 l5) tw_1166 tw_59 tw_1163 tw_1165 tw_37 ⟨by decide, by decide, by decide +kernel⟩ rfl (by decide) rfl (Nat.le_of_ble_eq_true rfl) dX12_joined_81 fun v3 h4 => ?_
      exact k_lret hq dX12_joined_84
  refine k_ite (fun e0 => ?_) (fun n3 => ?_)
  · refine k_tableIn hq (tgt := 85) dX12_joined_1 (by rw [e0]; decide) (by rw [e0]; decide) (off := 84) (by rw [e0]; rfl) (by decide) ?_
    refine k_aload_n hq dX12_joined_85 0 rfl ?_
    refine k_gr hq (C := RX12) (T := TX12) 11 4 rfl (by decide) (lay_X12 4 (by decide)) tw_931 dX12_joined_86 fun v5 => ?_
    refine k_iload_n hq dX12_joined_89 1 rfl ?_
    refine k_iald hq dX12_joined_90 fun v6 => ?_
    refine k_iconst hq dX12_joined_91 (v := 1) rfl ?_
    refine k_icmp_ne hq (tgt := 102) dX12_joined_92 (by decide) (fun _ => ?_) (fun _ => ?_)
    · refine k_lload_n hq dX12_joined_95 3 rfl ?_
      refine k_lload hq dX12_joined_96 4 rfl ?_
      refine k_land hq dX12_joined_98 ?_
      refine k_goto hq (tgt := 108) dX12_joined_99 (by decide) ?_
      exact k_lret hq dX12_joined_108
    · refine k_lload_n hq dX12_joined_102 3 rfl ?_
      refine k_lload hq dX12_joined_103 4 rfl ?_
      refine k_callS hq (na := 2) (As := [.long l3, .long l5]) (st := []) (con_X12_common _ _ _ _ N l3 l5) tw_1169 tw_59 tw_1167 tw_1168 ⟨by decide, by decide, by decide +kernel⟩ rfl (by decide) rfl (Nat.le_of_ble_eq_true rfl) dX12_joined_105 fun v7 h8 => ?_
      exact k_lret hq dX12_joined_108
  refine k_tableOut hq (tgt := 109) dX12_joined_1 (by have m0 := e_ne n0 (show (0 : Int32).toInt = 0 from rfl); have m1 := e_ne n1 (show (1 : Int32).toInt = 1 from rfl); have m2 := e_ne n2 (show (2 : Int32).toInt = 2 from rfl); have m3 := e_ne n3 (show (3 : Int32).toInt = 3 from rfl); omega) (by decide) ?_
  refine k_lload hq dX12_joined_109 4 rfl ?_
  exact k_lret hq dX12_joined_111
theorem con_X12_joined (l : Launch) (G : eG) (B0 n : Nat) (N : Nat) (l0 : Nat) (l1 : Int32) (l2 : Int32) (l3 : Int64) (l5 : Int64) : e_C eL l G B0 n yX12_joined cX12_joined 7 (some .long) 1 29 [.ref l0, .int l1, .int l2, .long l3, .long l5] (F_X12_joined N l0 l1 l2 l3 l5) := by
  refine e_mk (by decide) (Nat.le_of_ble_eq_true rfl) fun q r0 h0 h hq e1 e2 e3 e4 => ?_
  subst e1; subst e2; subst e3; subst e4
  exact P_X12_joined_0 hq N l0 l1 l2 l3 l5 h
set_option maxRecDepth 100000 in
set_option maxHeartbeats 4000000 in
theorem P_X12_ruleOf_2b {q : eT} {r0 : Int32} {h0 : eH} (hq : e_B q yX12_ruleOf.cls cX12_ruleOf 3 0 0 (some .int) yX12_ruleOf.name) (N : Nat) (k2 : Nat → Int32 → Int32 → eH → Option (Int32 × eH)) (hk2 : ∀ (l0 : Nat) (l1 : Int32) (l2 : Int32) h, e_K eI q r0 h0 2 [(0, .ref l0), (1, .int l1), (2, .int l2)] [] h (k2 l0 l1 l2 h)) (l0 : Nat) (l1 : Int32) (l2 : Int32) (h : eH) : e_K eI q r0 h0 2 [(0, .ref l0), (1, .int l1), (2, .int l2)] [] h (F_X12_ruleOf_2b N k2 l0 l1 l2 h) := by
  unfold F_X12_ruleOf_2b
  refine k_iload_n hq dX12_ruleOf_2 2 rfl ?_
  refine k_aload_n hq dX12_ruleOf_3 0 rfl ?_
  refine k_gi hq (C := RX12) (T := TX12) 11 21 rfl (by decide) (lay_X12 21 (by decide)) tw_948 dX12_ruleOf_4 fun v1 => ?_
  refine k_icmp_ge hq (tgt := 33) dX12_ruleOf_7 (by decide) (fun _ => ?_) (fun _ => ?_)
  · refine k_bipush hq dX12_ruleOf_33 (v := (-9)) rfl ?_
    exact k_iret hq dX12_ruleOf_35
  · refine k_aload_n hq dX12_ruleOf_10 0 rfl ?_
    refine k_gr hq (C := RX12) (T := TX12) 11 22 rfl (by decide) (lay_X12 22 (by decide)) tw_949 dX12_ruleOf_11 fun v2 => ?_
    refine k_iload_n hq dX12_ruleOf_14 2 rfl ?_
    refine k_iald hq dX12_ruleOf_15 fun v3 => ?_
    refine k_iload_n hq dX12_ruleOf_16 1 rfl ?_
    refine k_icmp_ne hq (tgt := 27) dX12_ruleOf_17 (by decide) (fun _ => ?_) (fun _ => ?_)
    · refine k_aload_n hq dX12_ruleOf_20 0 rfl ?_
      refine k_gr hq (C := RX12) (T := TX12) 11 23 rfl (by decide) (lay_X12 23 (by decide)) tw_950 dX12_ruleOf_21 fun v4 => ?_
      refine k_iload_n hq dX12_ruleOf_24 2 rfl ?_
      refine k_iald hq dX12_ruleOf_25 fun v5 => ?_
      exact k_iret hq dX12_ruleOf_26
    · refine k_iinc hq dX12_ruleOf_27 2 rfl (v := l2 + 1) rfl (by decide) (ls' := [(2, .int (l2 + 1)), (0, .ref l0), (1, .int l1)]) rfl ?_
      refine k_goto hq (tgt := 2) dX12_ruleOf_30 (by decide) ?_
      exact k_sub [1, 2, 0] rfl (hk2 l0 l1 (l2 + 1) h)
theorem Q_X12_ruleOf_2 {q : eT} {r0 : Int32} {h0 : eH} (hq : e_B q yX12_ruleOf.cls cX12_ruleOf 3 0 0 (some .int) yX12_ruleOf.name) (N : Nat) (l0 : Nat) (l1 : Int32) (l2 : Int32) (h : eH) : e_K eI q r0 h0 2 [(0, .ref l0), (1, .int l1), (2, .int l2)] [] h (L_X12_ruleOf_2 N l0 l1 l2 h) :=
  k_loop (mk := (fun s => [(0, .ref s.1), (1, .int s.2.1), (2, .int s.2.2.1)])) (hp := fun s => s.2.2.2) (fun k hk s => P_X12_ruleOf_2b hq N (fun l0 l1 l2 h => k (l0, l1, l2, h)) (fun l0 l1 l2 h => hk (l0, l1, l2, h)) s.1 s.2.1 s.2.2.1 s.2.2.2) N (l0, l1, l2, h)
set_option maxRecDepth 100000 in
set_option maxHeartbeats 4000000 in
theorem P_X12_ruleOf_0 {q : eT} {r0 : Int32} {h0 : eH} (hq : e_B q yX12_ruleOf.cls cX12_ruleOf 3 0 0 (some .int) yX12_ruleOf.name) (N : Nat) (l0 : Nat) (l1 : Int32) (h : eH) : e_K eI q r0 h0 0 [(0, .ref l0), (1, .int l1)] [] h (F_X12_ruleOf N l0 l1 h) := by
  unfold F_X12_ruleOf
  refine k_iconst hq dX12_ruleOf_0 (v := 0) rfl ?_
  refine k_istore_n hq dX12_ruleOf_1 rfl (by decide) (ls' := [(2, .int 0), (0, .ref l0), (1, .int l1)]) rfl ?_
  exact k_sub [1, 2, 0] rfl (Q_X12_ruleOf_2 hq N l0 l1 0 h)
theorem con_X12_ruleOf (l : Launch) (G : eG) (B0 n : Nat) (N : Nat) (l0 : Nat) (l1 : Int32) : e_C eI l G B0 n yX12_ruleOf cX12_ruleOf 3 (some .int) 0 0 [.ref l0, .int l1] (F_X12_ruleOf N l0 l1) := by
  refine e_mk (by decide) (Nat.le_of_ble_eq_true rfl) fun q r0 h0 h hq e1 e2 e3 e4 => ?_
  subst e1; subst e2; subst e3; subst e4
  exact P_X12_ruleOf_0 hq N l0 l1 h
set_option maxRecDepth 100000 in
set_option maxHeartbeats 4000000 in
theorem P_X12_joinedAll_123 {q : eT} {r0 : Int64} {h0 : eH} (hq : e_B q yX12_joinedAll.cls cX12_joinedAll 12 2 55 (some .long) yX12_joinedAll.name) (N : Nat) (k22 : Nat → Int32 → Int32 → Int32 → Int64 → Int32 → Int32 → Int32 → eH → Option (Int64 × eH)) (k40 : Nat → Int32 → Int32 → Int32 → Int64 → Int32 → Int32 → Int32 → Int32 → Int32 → eH → Option (Int64 × eH)) (hk22 : ∀ (l0 : Nat) (l1 : Int32) (l2 : Int32) (l3 : Int32) (l4 : Int64) (l6 : Int32) (l7 : Int32) (l8 : Int32) h, e_K eL q r0 h0 22 [(0, .ref l0), (1, .int l1), (2, .int l2), (3, .int l3), (4, .long l4), (6, .int l6), (7, .int l7), (8, .int l8)] [] h (k22 l0 l1 l2 l3 l4 l6 l7 l8 h)) (hk40 : ∀ (l0 : Nat) (l1 : Int32) (l2 : Int32) (l3 : Int32) (l4 : Int64) (l6 : Int32) (l7 : Int32) (l8 : Int32) (l9 : Int32) (l10 : Int32) h, e_K eL q r0 h0 40 [(0, .ref l0), (1, .int l1), (2, .int l2), (3, .int l3), (4, .long l4), (6, .int l6), (7, .int l7), (8, .int l8), (9, .int l9), (10, .int l10)] [] h (k40 l0 l1 l2 l3 l4 l6 l7 l8 l9 l10 h)) (l0 : Nat) (l1 : Int32) (l2 : Int32) (l3 : Int32) (l4 : Int64) (l6 : Int32) (l7 : Int32) (l8 : Int32) (l10 : Int32) (s0 : Int32) (h : eH) : e_K eL q r0 h0 123 [(0, .ref l0), (1, .int l1), (2, .int l2), (3, .int l3), (4, .long l4), (6, .int l6), (7, .int l7), (8, .int l8), (10, .int l10)] [.int s0] h (F_X12_joinedAll_123 N k22 k40 l0 l1 l2 l3 l4 l6 l7 l8 l10 s0 h) := by
  unfold F_X12_joinedAll_123
  refine k_istore hq dX12_joinedAll_123 (by decide) (ls' := [(9, .int s0), (0, .ref l0), (1, .int l1), (2, .int l2), (3, .int l3), (4, .long l4), (6, .int l6), (7, .int l7), (8, .int l8), (10, .int l10)]) rfl ?_
  refine k_iinc hq dX12_joinedAll_125 9 rfl (v := l10 + 1) rfl (by decide) (ls' := [(10, .int (l10 + 1)), (9, .int s0), (0, .ref l0), (1, .int l1), (2, .int l2), (3, .int l3), (4, .long l4), (6, .int l6), (7, .int l7), (8, .int l8)]) rfl ?_
  refine k_goto hq (tgt := 40) dX12_joinedAll_128 (by decide) ?_
  exact k_sub [2, 3, 4, 5, 6, 7, 8, 9, 1, 0] rfl (hk40 l0 l1 l2 l3 l4 l6 l7 l8 s0 (l10 + 1) h)
set_option maxRecDepth 100000 in
set_option maxHeartbeats 4000000 in
theorem P_X12_joinedAll_116 {q : eT} {r0 : Int64} {h0 : eH} (hq : e_B q yX12_joinedAll.cls cX12_joinedAll 12 2 55 (some .long) yX12_joinedAll.name) (N : Nat) (k22 : Nat → Int32 → Int32 → Int32 → Int64 → Int32 → Int32 → Int32 → eH → Option (Int64 × eH)) (k40 : Nat → Int32 → Int32 → Int32 → Int64 → Int32 → Int32 → Int32 → Int32 → Int32 → eH → Option (Int64 × eH)) (hk22 : ∀ (l0 : Nat) (l1 : Int32) (l2 : Int32) (l3 : Int32) (l4 : Int64) (l6 : Int32) (l7 : Int32) (l8 : Int32) h, e_K eL q r0 h0 22 [(0, .ref l0), (1, .int l1), (2, .int l2), (3, .int l3), (4, .long l4), (6, .int l6), (7, .int l7), (8, .int l8)] [] h (k22 l0 l1 l2 l3 l4 l6 l7 l8 h)) (hk40 : ∀ (l0 : Nat) (l1 : Int32) (l2 : Int32) (l3 : Int32) (l4 : Int64) (l6 : Int32) (l7 : Int32) (l8 : Int32) (l9 : Int32) (l10 : Int32) h, e_K eL q r0 h0 40 [(0, .ref l0), (1, .int l1), (2, .int l2), (3, .int l3), (4, .long l4), (6, .int l6), (7, .int l7), (8, .int l8), (9, .int l9), (10, .int l10)] [] h (k40 l0 l1 l2 l3 l4 l6 l7 l8 l9 l10 h)) (l0 : Nat) (l1 : Int32) (l2 : Int32) (l3 : Int32) (l4 : Int64) (l6 : Int32) (l7 : Int32) (l8 : Int32) (l10 : Int32) (h : eH) : e_K eL q r0 h0 116 [(0, .ref l0), (1, .int l1), (2, .int l2), (3, .int l3), (4, .long l4), (6, .int l6), (7, .int l7), (8, .int l8), (10, .int l10)] [] h (F_X12_joinedAll_116 N k22 k40 l0 l1 l2 l3 l4 l6 l7 l8 l10 h) := by
  unfold F_X12_joinedAll_116
  refine k_iload hq dX12_joinedAll_116 8 rfl ?_
  refine k_goto hq (tgt := 123) dX12_joinedAll_118 (by decide) ?_
  exact k_sub [0, 1, 2, 3, 4, 5, 6, 7, 8] rfl (P_X12_joinedAll_123 hq N k22 k40 hk22 hk40 l0 l1 l2 l3 l4 l6 l7 l8 l10 l10 h)
set_option maxRecDepth 100000 in
set_option maxHeartbeats 4000000 in
theorem P_X12_joinedAll_121 {q : eT} {r0 : Int64} {h0 : eH} (hq : e_B q yX12_joinedAll.cls cX12_joinedAll 12 2 55 (some .long) yX12_joinedAll.name) (N : Nat) (k22 : Nat → Int32 → Int32 → Int32 → Int64 → Int32 → Int32 → Int32 → eH → Option (Int64 × eH)) (k40 : Nat → Int32 → Int32 → Int32 → Int64 → Int32 → Int32 → Int32 → Int32 → Int32 → eH → Option (Int64 × eH)) (hk22 : ∀ (l0 : Nat) (l1 : Int32) (l2 : Int32) (l3 : Int32) (l4 : Int64) (l6 : Int32) (l7 : Int32) (l8 : Int32) h, e_K eL q r0 h0 22 [(0, .ref l0), (1, .int l1), (2, .int l2), (3, .int l3), (4, .long l4), (6, .int l6), (7, .int l7), (8, .int l8)] [] h (k22 l0 l1 l2 l3 l4 l6 l7 l8 h)) (hk40 : ∀ (l0 : Nat) (l1 : Int32) (l2 : Int32) (l3 : Int32) (l4 : Int64) (l6 : Int32) (l7 : Int32) (l8 : Int32) (l9 : Int32) (l10 : Int32) h, e_K eL q r0 h0 40 [(0, .ref l0), (1, .int l1), (2, .int l2), (3, .int l3), (4, .long l4), (6, .int l6), (7, .int l7), (8, .int l8), (9, .int l9), (10, .int l10)] [] h (k40 l0 l1 l2 l3 l4 l6 l7 l8 l9 l10 h)) (l0 : Nat) (l1 : Int32) (l2 : Int32) (l3 : Int32) (l4 : Int64) (l6 : Int32) (l7 : Int32) (l8 : Int32) (l9 : Int32) (l10 : Int32) (h : eH) : e_K eL q r0 h0 121 [(0, .ref l0), (1, .int l1), (2, .int l2), (3, .int l3), (4, .long l4), (6, .int l6), (7, .int l7), (8, .int l8), (9, .int l9), (10, .int l10)] [] h (F_X12_joinedAll_121 N k22 k40 l0 l1 l2 l3 l4 l6 l7 l8 l9 l10 h) := by
  unfold F_X12_joinedAll_121
  refine k_iload hq dX12_joinedAll_121 8 rfl ?_
  exact k_sub [0, 1, 2, 3, 4, 5, 6, 7, 9] rfl (P_X12_joinedAll_123 hq N k22 k40 hk22 hk40 l0 l1 l2 l3 l4 l6 l7 l8 l10 l9 h)
set_option maxRecDepth 100000 in
set_option maxHeartbeats 4000000 in
theorem P_X12_joinedAll_85 {q : eT} {r0 : Int64} {h0 : eH} (hq : e_B q yX12_joinedAll.cls cX12_joinedAll 12 2 55 (some .long) yX12_joinedAll.name) (N : Nat) (k22 : Nat → Int32 → Int32 → Int32 → Int64 → Int32 → Int32 → Int32 → eH → Option (Int64 × eH)) (k40 : Nat → Int32 → Int32 → Int32 → Int64 → Int32 → Int32 → Int32 → Int32 → Int32 → eH → Option (Int64 × eH)) (hk22 : ∀ (l0 : Nat) (l1 : Int32) (l2 : Int32) (l3 : Int32) (l4 : Int64) (l6 : Int32) (l7 : Int32) (l8 : Int32) h, e_K eL q r0 h0 22 [(0, .ref l0), (1, .int l1), (2, .int l2), (3, .int l3), (4, .long l4), (6, .int l6), (7, .int l7), (8, .int l8)] [] h (k22 l0 l1 l2 l3 l4 l6 l7 l8 h)) (hk40 : ∀ (l0 : Nat) (l1 : Int32) (l2 : Int32) (l3 : Int32) (l4 : Int64) (l6 : Int32) (l7 : Int32) (l8 : Int32) (l9 : Int32) (l10 : Int32) h, e_K eL q r0 h0 40 [(0, .ref l0), (1, .int l1), (2, .int l2), (3, .int l3), (4, .long l4), (6, .int l6), (7, .int l7), (8, .int l8), (9, .int l9), (10, .int l10)] [] h (k40 l0 l1 l2 l3 l4 l6 l7 l8 l9 l10 h)) (l0 : Nat) (l1 : Int32) (l2 : Int32) (l3 : Int32) (l4 : Int64) (l6 : Int32) (l7 : Int32) (l8 : Int32) (l9 : Int32) (l10 : Int32) (s0 : Int32) (h : eH) : e_K eL q r0 h0 85 [(0, .ref l0), (1, .int l1), (2, .int l2), (3, .int l3), (4, .long l4), (6, .int l6), (7, .int l7), (8, .int l8), (9, .int l9), (10, .int l10)] [.int s0] h (F_X12_joinedAll_85 N k22 k40 l0 l1 l2 l3 l4 l6 l7 l8 l9 l10 s0 h) := by
  unfold F_X12_joinedAll_85
  refine k_istore hq dX12_joinedAll_85 (by decide) (ls' := [(11, .int s0), (0, .ref l0), (1, .int l1), (2, .int l2), (3, .int l3), (4, .long l4), (6, .int l6), (7, .int l7), (8, .int l8), (9, .int l9), (10, .int l10)]) rfl ?_
  refine k_iload hq dX12_joinedAll_87 0 rfl ?_
  refine k_if_eq hq (tgt := 121) dX12_joinedAll_89 (by decide) (fun _ => ?_) (fun _ => ?_)
  · exact k_sub [1, 2, 3, 4, 5, 6, 7, 8, 9, 10] rfl (P_X12_joinedAll_121 hq N k22 k40 hk22 hk40 l0 l1 l2 l3 l4 l6 l7 l8 l9 l10 h)
  · refine k_iload hq dX12_joinedAll_92 9 rfl ?_
    refine k_bipush hq dX12_joinedAll_94 (v := (-9)) rfl ?_
    refine k_icmp_eq hq (tgt := 116) dX12_joinedAll_96 (by decide) (fun _ => ?_) (fun _ => ?_)
    · exact k_sub [1, 2, 3, 4, 5, 6, 7, 8, 10] rfl (P_X12_joinedAll_116 hq N k22 k40 hk22 hk40 l0 l1 l2 l3 l4 l6 l7 l8 l10 h)
    · refine k_aload_n hq dX12_joinedAll_99 1 rfl ?_
      refine k_gr hq (C := RX12) (T := TX12) 11 7 rfl (by decide) (lay_X12 7 (by decide)) tw_934 dX12_joinedAll_100 fun v1 => ?_
      refine k_iload hq dX12_joinedAll_103 10 rfl ?_
      refine k_iald hq dX12_joinedAll_105 fun v2 => ?_
      refine k_aload_n hq dX12_joinedAll_106 1 rfl ?_
      refine k_gr hq (C := RX12) (T := TX12) 11 7 rfl (by decide) (lay_X12 7 (by decide)) tw_934 dX12_joinedAll_107 fun v3 => ?_
      refine k_iload hq dX12_joinedAll_110 9 rfl ?_
      refine k_iald hq dX12_joinedAll_112 fun v4 => ?_
      refine k_icmp_ge hq (tgt := 121) dX12_joinedAll_113 (by decide) (fun _ => ?_) (fun _ => ?_)
      · exact k_sub [1, 2, 3, 4, 5, 6, 7, 8, 9, 10] rfl (P_X12_joinedAll_121 hq N k22 k40 hk22 hk40 l0 l1 l2 l3 l4 l6 l7 l8 l9 l10 h)
      · exact k_sub [1, 2, 3, 4, 5, 6, 7, 8, 10] rfl (P_X12_joinedAll_116 hq N k22 k40 hk22 hk40 l0 l1 l2 l3 l4 l6 l7 l8 l10 h)
set_option maxRecDepth 100000 in
set_option maxHeartbeats 4000000 in
theorem P_X12_joinedAll_84 {q : eT} {r0 : Int64} {h0 : eH} (hq : e_B q yX12_joinedAll.cls cX12_joinedAll 12 2 55 (some .long) yX12_joinedAll.name) (N : Nat) (k22 : Nat → Int32 → Int32 → Int32 → Int64 → Int32 → Int32 → Int32 → eH → Option (Int64 × eH)) (k40 : Nat → Int32 → Int32 → Int32 → Int64 → Int32 → Int32 → Int32 → Int32 → Int32 → eH → Option (Int64 × eH)) (hk22 : ∀ (l0 : Nat) (l1 : Int32) (l2 : Int32) (l3 : Int32) (l4 : Int64) (l6 : Int32) (l7 : Int32) (l8 : Int32) h, e_K eL q r0 h0 22 [(0, .ref l0), (1, .int l1), (2, .int l2), (3, .int l3), (4, .long l4), (6, .int l6), (7, .int l7), (8, .int l8)] [] h (k22 l0 l1 l2 l3 l4 l6 l7 l8 h)) (hk40 : ∀ (l0 : Nat) (l1 : Int32) (l2 : Int32) (l3 : Int32) (l4 : Int64) (l6 : Int32) (l7 : Int32) (l8 : Int32) (l9 : Int32) (l10 : Int32) h, e_K eL q r0 h0 40 [(0, .ref l0), (1, .int l1), (2, .int l2), (3, .int l3), (4, .long l4), (6, .int l6), (7, .int l7), (8, .int l8), (9, .int l9), (10, .int l10)] [] h (k40 l0 l1 l2 l3 l4 l6 l7 l8 l9 l10 h)) (l0 : Nat) (l1 : Int32) (l2 : Int32) (l3 : Int32) (l4 : Int64) (l6 : Int32) (l7 : Int32) (l8 : Int32) (l9 : Int32) (l10 : Int32) (h : eH) : e_K eL q r0 h0 84 [(0, .ref l0), (1, .int l1), (2, .int l2), (3, .int l3), (4, .long l4), (6, .int l6), (7, .int l7), (8, .int l8), (9, .int l9), (10, .int l10)] [] h (F_X12_joinedAll_84 N k22 k40 l0 l1 l2 l3 l4 l6 l7 l8 l9 l10 h) := by
  unfold F_X12_joinedAll_84
  refine k_iconst hq dX12_joinedAll_84 (v := 0) rfl ?_
  exact k_sub [0, 1, 2, 3, 4, 5, 6, 7, 8, 9] rfl (P_X12_joinedAll_85 hq N k22 k40 hk22 hk40 l0 l1 l2 l3 l4 l6 l7 l8 l9 l10 0 h)
set_option maxRecDepth 100000 in
set_option maxHeartbeats 4000000 in
theorem P_X12_joinedAll_170 {q : eT} {r0 : Int64} {h0 : eH} (hq : e_B q yX12_joinedAll.cls cX12_joinedAll 12 2 55 (some .long) yX12_joinedAll.name) (N : Nat) (k22 : Nat → Int32 → Int32 → Int32 → Int64 → Int32 → Int32 → Int32 → eH → Option (Int64 × eH)) (hk22 : ∀ (l0 : Nat) (l1 : Int32) (l2 : Int32) (l3 : Int32) (l4 : Int64) (l6 : Int32) (l7 : Int32) (l8 : Int32) h, e_K eL q r0 h0 22 [(0, .ref l0), (1, .int l1), (2, .int l2), (3, .int l3), (4, .long l4), (6, .int l6), (7, .int l7), (8, .int l8)] [] h (k22 l0 l1 l2 l3 l4 l6 l7 l8 h)) (l0 : Nat) (l1 : Int32) (l2 : Int32) (l3 : Int32) (l6 : Int32) (l7 : Int32) (l8 : Int32) (s0 : Int64) (h : eH) : e_K eL q r0 h0 170 [(0, .ref l0), (1, .int l1), (2, .int l2), (3, .int l3), (6, .int l6), (7, .int l7), (8, .int l8)] [.long s0] h (F_X12_joinedAll_170 N k22 l0 l1 l2 l3 l6 l7 l8 s0 h) := by
  unfold F_X12_joinedAll_170
  refine k_lstore hq dX12_joinedAll_170 (by decide) (ls' := [(4, .long s0), (0, .ref l0), (1, .int l1), (2, .int l2), (3, .int l3), (6, .int l6), (7, .int l7), (8, .int l8)]) rfl ?_
  refine k_iinc hq dX12_joinedAll_172 7 rfl (v := l8 + 1) rfl (by decide) (ls' := [(8, .int (l8 + 1)), (4, .long s0), (0, .ref l0), (1, .int l1), (2, .int l2), (3, .int l3), (6, .int l6), (7, .int l7)]) rfl ?_
  refine k_goto hq (tgt := 22) dX12_joinedAll_175 (by decide) ?_
  exact k_sub [2, 3, 4, 5, 1, 6, 7, 0] rfl (hk22 l0 l1 l2 l3 s0 l6 l7 (l8 + 1) h)
set_option maxRecDepth 100000 in
set_option maxHeartbeats 4000000 in
theorem P_X12_joinedAll_40b {q : eT} {r0 : Int64} {h0 : eH} (hq : e_B q yX12_joinedAll.cls cX12_joinedAll 12 2 55 (some .long) yX12_joinedAll.name) (N : Nat) (k22 : Nat → Int32 → Int32 → Int32 → Int64 → Int32 → Int32 → Int32 → eH → Option (Int64 × eH)) (k40 : Nat → Int32 → Int32 → Int32 → Int64 → Int32 → Int32 → Int32 → Int32 → Int32 → eH → Option (Int64 × eH)) (hk22 : ∀ (l0 : Nat) (l1 : Int32) (l2 : Int32) (l3 : Int32) (l4 : Int64) (l6 : Int32) (l7 : Int32) (l8 : Int32) h, e_K eL q r0 h0 22 [(0, .ref l0), (1, .int l1), (2, .int l2), (3, .int l3), (4, .long l4), (6, .int l6), (7, .int l7), (8, .int l8)] [] h (k22 l0 l1 l2 l3 l4 l6 l7 l8 h)) (hk40 : ∀ (l0 : Nat) (l1 : Int32) (l2 : Int32) (l3 : Int32) (l4 : Int64) (l6 : Int32) (l7 : Int32) (l8 : Int32) (l9 : Int32) (l10 : Int32) h, e_K eL q r0 h0 40 [(0, .ref l0), (1, .int l1), (2, .int l2), (3, .int l3), (4, .long l4), (6, .int l6), (7, .int l7), (8, .int l8), (9, .int l9), (10, .int l10)] [] h (k40 l0 l1 l2 l3 l4 l6 l7 l8 l9 l10 h)) (l0 : Nat) (l1 : Int32) (l2 : Int32) (l3 : Int32) (l4 : Int64) (l6 : Int32) (l7 : Int32) (l8 : Int32) (l9 : Int32) (l10 : Int32) (h : eH) : e_K eL q r0 h0 40 [(0, .ref l0), (1, .int l1), (2, .int l2), (3, .int l3), (4, .long l4), (6, .int l6), (7, .int l7), (8, .int l8), (9, .int l9), (10, .int l10)] [] h (F_X12_joinedAll_40b N k22 k40 l0 l1 l2 l3 l4 l6 l7 l8 l9 l10 h) := by
  unfold F_X12_joinedAll_40b
  refine k_iload hq dX12_joinedAll_40 9 rfl ?_
  refine k_sipush hq dX12_joinedAll_42 (v := 164) rfl ?_
  refine k_iload_n hq dX12_joinedAll_45 2 rfl ?_
  refine k_imul hq dX12_joinedAll_46 ?_
  refine k_sipush hq dX12_joinedAll_47 (v := 164) rfl ?_
  refine k_iadd hq dX12_joinedAll_50 ?_
  refine k_icmp_ge hq (tgt := 131) dX12_joinedAll_51 (by decide) (fun _ => ?_) (fun _ => ?_)
  · refine k_aload_n hq dX12_joinedAll_131 0 rfl ?_
    refine k_gr hq (C := RX12) (T := TX12) 11 7 rfl (by decide) (lay_X12 7 (by decide)) tw_934 dX12_joinedAll_132 fun v1 => ?_
    refine k_iload hq dX12_joinedAll_135 8 rfl ?_
    refine k_iald hq dX12_joinedAll_137 fun v2 => ?_
    refine k_istore hq dX12_joinedAll_138 (by decide) (ls' := [(6, .int v2), (0, .ref l0), (1, .int l1), (2, .int l2), (3, .int l3), (4, .long l4), (7, .int l7), (8, .int l8), (9, .int l9), (10, .int l10)]) rfl ?_
    refine k_iload hq dX12_joinedAll_140 7 rfl ?_
    refine k_if_ne hq (tgt := 155) dX12_joinedAll_142 (by decide) (fun _ => ?_) (fun _ => ?_)
    · refine k_aload_n hq dX12_joinedAll_145 1 rfl ?_
      refine k_gr hq (C := RX12) (T := TX12) 11 6 rfl (by decide) (lay_X12 6 (by decide)) tw_933 dX12_joinedAll_146 fun v7 => ?_
      refine k_iload hq dX12_joinedAll_149 8 rfl ?_
      refine k_lald hq dX12_joinedAll_151 fun v8 => ?_
      refine k_goto hq (tgt := 170) dX12_joinedAll_152 (by decide) ?_
      exact k_sub [1, 2, 3, 4, 0, 6, 7] rfl (P_X12_joinedAll_170 hq N k22 hk22 l0 l1 l2 l3 v2 l7 l8 v8 h)
    · refine k_aload_n hq dX12_joinedAll_155 1 rfl ?_
      refine k_iload_n hq dX12_joinedAll_156 3 rfl ?_
      refine k_iload_n hq dX12_joinedAll_157 4 rfl ?_
      refine k_lload hq dX12_joinedAll_158 5 rfl ?_
      refine k_aload_n hq dX12_joinedAll_160 1 rfl ?_
      refine k_gr hq (C := RX12) (T := TX12) 11 6 rfl (by decide) (lay_X12 6 (by decide)) tw_933 dX12_joinedAll_161 fun v3 => ?_
      refine k_iload hq dX12_joinedAll_164 8 rfl ?_
      refine k_lald hq dX12_joinedAll_166 fun v4 => ?_
      refine k_callV hq (na := 4) (As := [.int l2, .int l3, .long l4, .long v4]) (st := []) 11 (C := RX12) (T := TX12) rfl (con_X12_joined _ _ _ _ N l0 l2 l3 l4 v4) tw_1162 tw_59 tw_1159 tw_1161 tw_36 ⟨by decide, by decide, by decide +kernel⟩ rfl (by decide) rfl (Nat.le_of_ble_eq_true rfl) dX12_joinedAll_167 fun v5 h6 => ?_
      exact k_sub [1, 2, 3, 4, 0, 6, 7] rfl (P_X12_joinedAll_170 hq N k22 hk22 l0 l1 l2 l3 v2 l7 l8 v5 h6)
  · refine k_aload_n hq dX12_joinedAll_54 0 rfl ?_
    refine k_gr hq (C := RX12) (T := TX12) 11 14 rfl (by decide) (lay_X12 14 (by decide)) tw_941 dX12_joinedAll_55 fun v9 => ?_
    refine k_iload hq dX12_joinedAll_58 9 rfl ?_
    refine k_iald hq dX12_joinedAll_60 fun v10 => ?_
    refine k_iload_n hq dX12_joinedAll_61 1 rfl ?_
    refine k_callS hq (na := 2) (As := [.int v10, .int l1]) (st := []) (con_X12_has _ _ _ _ v10 l1) tw_1118 tw_59 tw_1116 tw_1117 ⟨by decide, by decide, by decide +kernel⟩ rfl (by decide) rfl (Nat.le_of_ble_eq_true rfl) dX12_joinedAll_62 fun v11 h12 => ?_
    refine k_if_eq hq (tgt := 84) dX12_joinedAll_65 (by decide) (fun _ => ?_) (fun _ => ?_)
    · exact k_sub [0, 1, 2, 3, 4, 5, 6, 7, 8, 9] rfl (P_X12_joinedAll_84 hq N k22 k40 hk22 hk40 l0 l1 l2 l3 l4 l6 l7 l8 l9 l10 h12)
    · refine k_aload_n hq dX12_joinedAll_68 0 rfl ?_
      refine k_gr hq (C := RX12) (T := TX12) 11 7 rfl (by decide) (lay_X12 7 (by decide)) tw_934 dX12_joinedAll_69 fun v13 => ?_
      refine k_iload hq dX12_joinedAll_72 9 rfl ?_
      refine k_iald hq dX12_joinedAll_74 fun v14 => ?_
      refine k_iload hq dX12_joinedAll_75 5 rfl ?_
      refine k_icmp_le hq (tgt := 84) dX12_joinedAll_77 (by decide) (fun _ => ?_) (fun _ => ?_)
      · exact k_sub [0, 1, 2, 3, 4, 5, 6, 7, 8, 9] rfl (P_X12_joinedAll_84 hq N k22 k40 hk22 hk40 l0 l1 l2 l3 l4 l6 l7 l8 l9 l10 h12)
      · refine k_iconst hq dX12_joinedAll_80 (v := 1) rfl ?_
        refine k_goto hq (tgt := 85) dX12_joinedAll_81 (by decide) ?_
        exact k_sub [0, 1, 2, 3, 4, 5, 6, 7, 8, 9] rfl (P_X12_joinedAll_85 hq N k22 k40 hk22 hk40 l0 l1 l2 l3 l4 l6 l7 l8 l9 l10 1 h12)
theorem Q_X12_joinedAll_40 {q : eT} {r0 : Int64} {h0 : eH} (hq : e_B q yX12_joinedAll.cls cX12_joinedAll 12 2 55 (some .long) yX12_joinedAll.name) (N : Nat) (k22 : Nat → Int32 → Int32 → Int32 → Int64 → Int32 → Int32 → Int32 → eH → Option (Int64 × eH)) (hk22 : ∀ (l0 : Nat) (l1 : Int32) (l2 : Int32) (l3 : Int32) (l4 : Int64) (l6 : Int32) (l7 : Int32) (l8 : Int32) h, e_K eL q r0 h0 22 [(0, .ref l0), (1, .int l1), (2, .int l2), (3, .int l3), (4, .long l4), (6, .int l6), (7, .int l7), (8, .int l8)] [] h (k22 l0 l1 l2 l3 l4 l6 l7 l8 h)) (l0 : Nat) (l1 : Int32) (l2 : Int32) (l3 : Int32) (l4 : Int64) (l6 : Int32) (l7 : Int32) (l8 : Int32) (l9 : Int32) (l10 : Int32) (h : eH) : e_K eL q r0 h0 40 [(0, .ref l0), (1, .int l1), (2, .int l2), (3, .int l3), (4, .long l4), (6, .int l6), (7, .int l7), (8, .int l8), (9, .int l9), (10, .int l10)] [] h (L_X12_joinedAll_40 N k22 l0 l1 l2 l3 l4 l6 l7 l8 l9 l10 h) :=
  k_loop (mk := (fun s => [(0, .ref s.1), (1, .int s.2.1), (2, .int s.2.2.1), (3, .int s.2.2.2.1), (4, .long s.2.2.2.2.1), (6, .int s.2.2.2.2.2.1), (7, .int s.2.2.2.2.2.2.1), (8, .int s.2.2.2.2.2.2.2.1), (9, .int s.2.2.2.2.2.2.2.2.1), (10, .int s.2.2.2.2.2.2.2.2.2.1)])) (hp := fun s => s.2.2.2.2.2.2.2.2.2.2) (fun k hk s => P_X12_joinedAll_40b hq N k22 (fun l0 l1 l2 l3 l4 l6 l7 l8 l9 l10 h => k (l0, l1, l2, l3, l4, l6, l7, l8, l9, l10, h)) hk22 (fun l0 l1 l2 l3 l4 l6 l7 l8 l9 l10 h => hk (l0, l1, l2, l3, l4, l6, l7, l8, l9, l10, h)) s.1 s.2.1 s.2.2.1 s.2.2.2.1 s.2.2.2.2.1 s.2.2.2.2.2.1 s.2.2.2.2.2.2.1 s.2.2.2.2.2.2.2.1 s.2.2.2.2.2.2.2.2.1 s.2.2.2.2.2.2.2.2.2.1 s.2.2.2.2.2.2.2.2.2.2) N (l0, l1, l2, l3, l4, l6, l7, l8, l9, l10, h)
set_option maxRecDepth 100000 in
set_option maxHeartbeats 4000000 in
theorem P_X12_joinedAll_224 {q : eT} {r0 : Int64} {h0 : eH} (hq : e_B q yX12_joinedAll.cls cX12_joinedAll 12 2 55 (some .long) yX12_joinedAll.name) (N : Nat) (l4 : Int64) (s0 : Nat) (s1 : Int32) (h : eH) : e_K eL q r0 h0 224 [(4, .long l4)] [.int s1, .ref s0] h (F_X12_joinedAll_224 N l4 s0 s1 h) := by
  unfold F_X12_joinedAll_224
  refine k_pz hq (C := RX12) (T := TX12) 11 35 rfl (by decide) lay_X12 tyX12 tyX12_ok nmX12 tw_962 rfl rfl dX12_joinedAll_224 fun h1 => ?_
  refine k_lload hq dX12_joinedAll_227 0 rfl ?_
  refine k_lneg hq dX12_joinedAll_229 ?_
  refine k_let (mk := fun z => .long z :: []) fun v2 _ => ?_
  refine k_lstore hq dX12_joinedAll_230 (by decide) (ls' := [(4, .long v2)]) rfl ?_
  refine k_lload hq dX12_joinedAll_232 0 rfl ?_
  exact k_lret hq dX12_joinedAll_234
set_option maxRecDepth 100000 in
set_option maxHeartbeats 4000000 in
theorem P_X12_joinedAll_207 {q : eT} {r0 : Int64} {h0 : eH} (hq : e_B q yX12_joinedAll.cls cX12_joinedAll 12 2 55 (some .long) yX12_joinedAll.name) (N : Nat) (l0 : Nat) (s0 : Int64) (h : eH) : e_K eL q r0 h0 207 [(0, .ref l0)] [.long s0] h (F_X12_joinedAll_207 N l0 s0 h) := by
  unfold F_X12_joinedAll_207
  refine k_lstore hq dX12_joinedAll_207 (by decide) (ls' := [(4, .long s0), (0, .ref l0)]) rfl ?_
  refine k_aload_n hq dX12_joinedAll_209 1 rfl ?_
  refine k_lload hq dX12_joinedAll_210 0 rfl ?_
  refine k_ldc2 hq (v := (-9223372036854775808)) tw_1170 dX12_joinedAll_212 ?_
  refine k_lcmp hq dX12_joinedAll_215 ?_
  refine k_if_ne hq (tgt := 223) dX12_joinedAll_216 (by decide) (fun _ => ?_) (fun _ => ?_)
  · refine k_iconst hq dX12_joinedAll_219 (v := 1) rfl ?_
    refine k_goto hq (tgt := 224) dX12_joinedAll_220 (by decide) ?_
    exact k_sub [0] rfl (P_X12_joinedAll_224 hq N s0 l0 1 h)
  · refine k_iconst hq dX12_joinedAll_223 (v := 0) rfl ?_
    exact k_sub [0] rfl (P_X12_joinedAll_224 hq N s0 l0 0 h)
set_option maxRecDepth 100000 in
set_option maxHeartbeats 4000000 in
theorem P_X12_joinedAll_22b {q : eT} {r0 : Int64} {h0 : eH} (hq : e_B q yX12_joinedAll.cls cX12_joinedAll 12 2 55 (some .long) yX12_joinedAll.name) (N : Nat) (k22 : Nat → Int32 → Int32 → Int32 → Int64 → Int32 → Int32 → Int32 → eH → Option (Int64 × eH)) (hk22 : ∀ (l0 : Nat) (l1 : Int32) (l2 : Int32) (l3 : Int32) (l4 : Int64) (l6 : Int32) (l7 : Int32) (l8 : Int32) h, e_K eL q r0 h0 22 [(0, .ref l0), (1, .int l1), (2, .int l2), (3, .int l3), (4, .long l4), (6, .int l6), (7, .int l7), (8, .int l8)] [] h (k22 l0 l1 l2 l3 l4 l6 l7 l8 h)) (l0 : Nat) (l1 : Int32) (l2 : Int32) (l3 : Int32) (l4 : Int64) (l6 : Int32) (l7 : Int32) (l8 : Int32) (h : eH) : e_K eL q r0 h0 22 [(0, .ref l0), (1, .int l1), (2, .int l2), (3, .int l3), (4, .long l4), (6, .int l6), (7, .int l7), (8, .int l8)] [] h (F_X12_joinedAll_22b N k22 l0 l1 l2 l3 l4 l6 l7 l8 h) := by
  unfold F_X12_joinedAll_22b
  refine k_iload hq dX12_joinedAll_22 7 rfl ?_
  refine k_iload hq dX12_joinedAll_24 6 rfl ?_
  refine k_icmp_ge hq (tgt := 178) dX12_joinedAll_26 (by decide) (fun _ => ?_) (fun _ => ?_)
  · refine k_iload_n hq dX12_joinedAll_178 3 rfl ?_
    refine k_iconst hq dX12_joinedAll_179 (v := 3) rfl ?_
    refine k_icmp_ne hq (tgt := 232) dX12_joinedAll_180 (by decide) (fun _ => ?_) (fun _ => ?_)
    · refine k_aload_n hq dX12_joinedAll_183 0 rfl ?_
      refine k_gr hq (C := RX12) (T := TX12) 11 4 rfl (by decide) (lay_X12 4 (by decide)) tw_931 dX12_joinedAll_184 fun v1 => ?_
      refine k_iload_n hq dX12_joinedAll_187 2 rfl ?_
      refine k_iald hq dX12_joinedAll_188 fun v2 => ?_
      refine k_if_ne hq (tgt := 232) dX12_joinedAll_189 (by decide) (fun _ => ?_) (fun _ => ?_)
      · refine k_lload hq dX12_joinedAll_192 4 rfl ?_
        refine k_lconst hq dX12_joinedAll_194 (v := 0) rfl ?_
        refine k_lcmp hq dX12_joinedAll_195 ?_
        refine k_if_le hq (tgt := 205) dX12_joinedAll_196 (by decide) (fun _ => ?_) (fun _ => ?_)
        · refine k_lload hq dX12_joinedAll_205 4 rfl ?_
          exact k_sub [0] rfl (P_X12_joinedAll_207 hq N l0 l4 h)
        · refine k_lload hq dX12_joinedAll_199 4 rfl ?_
          refine k_lneg hq dX12_joinedAll_201 ?_
          refine k_goto hq (tgt := 207) dX12_joinedAll_202 (by decide) ?_
          exact k_sub [0] rfl (P_X12_joinedAll_207 hq N l0 (-l4) h)
      · refine k_lload hq dX12_joinedAll_232 4 rfl ?_
        exact k_lret hq dX12_joinedAll_234
    · refine k_lload hq dX12_joinedAll_232 4 rfl ?_
      exact k_lret hq dX12_joinedAll_234
  · refine k_bipush hq dX12_joinedAll_29 (v := (-9)) rfl ?_
    refine k_istore hq dX12_joinedAll_31 (by decide) (ls' := [(9, .int (-9)), (0, .ref l0), (1, .int l1), (2, .int l2), (3, .int l3), (4, .long l4), (6, .int l6), (7, .int l7), (8, .int l8)]) rfl ?_
    refine k_sipush hq dX12_joinedAll_33 (v := 164) rfl ?_
    refine k_iload_n hq dX12_joinedAll_36 3 rfl ?_
    refine k_imul hq dX12_joinedAll_37 ?_
    refine k_let (mk := fun z => .int z :: []) fun v3 _ => ?_
    refine k_istore hq dX12_joinedAll_38 (by decide) (ls' := [(10, .int v3), (9, .int (-9)), (0, .ref l0), (1, .int l1), (2, .int l2), (3, .int l3), (4, .long l4), (6, .int l6), (7, .int l7), (8, .int l8)]) rfl ?_
    exact k_sub [2, 3, 4, 5, 6, 7, 8, 9, 1, 0] rfl (Q_X12_joinedAll_40 hq N k22 hk22 l0 l1 l2 l3 l4 l6 l7 l8 (-9) v3 h)
theorem Q_X12_joinedAll_22 {q : eT} {r0 : Int64} {h0 : eH} (hq : e_B q yX12_joinedAll.cls cX12_joinedAll 12 2 55 (some .long) yX12_joinedAll.name) (N : Nat) (l0 : Nat) (l1 : Int32) (l2 : Int32) (l3 : Int32) (l4 : Int64) (l6 : Int32) (l7 : Int32) (l8 : Int32) (h : eH) : e_K eL q r0 h0 22 [(0, .ref l0), (1, .int l1), (2, .int l2), (3, .int l3), (4, .long l4), (6, .int l6), (7, .int l7), (8, .int l8)] [] h (L_X12_joinedAll_22 N l0 l1 l2 l3 l4 l6 l7 l8 h) :=
  k_loop (mk := (fun s => [(0, .ref s.1), (1, .int s.2.1), (2, .int s.2.2.1), (3, .int s.2.2.2.1), (4, .long s.2.2.2.2.1), (6, .int s.2.2.2.2.2.1), (7, .int s.2.2.2.2.2.2.1), (8, .int s.2.2.2.2.2.2.2.1)])) (hp := fun s => s.2.2.2.2.2.2.2.2) (fun k hk s => P_X12_joinedAll_22b hq N (fun l0 l1 l2 l3 l4 l6 l7 l8 h => k (l0, l1, l2, l3, l4, l6, l7, l8, h)) (fun l0 l1 l2 l3 l4 l6 l7 l8 h => hk (l0, l1, l2, l3, l4, l6, l7, l8, h)) s.1 s.2.1 s.2.2.1 s.2.2.2.1 s.2.2.2.2.1 s.2.2.2.2.2.1 s.2.2.2.2.2.2.1 s.2.2.2.2.2.2.2.1 s.2.2.2.2.2.2.2.2) N (l0, l1, l2, l3, l4, l6, l7, l8, h)
set_option maxRecDepth 100000 in
set_option maxHeartbeats 4000000 in
theorem P_X12_joinedAll_0 {q : eT} {r0 : Int64} {h0 : eH} (hq : e_B q yX12_joinedAll.cls cX12_joinedAll 12 2 55 (some .long) yX12_joinedAll.name) (N : Nat) (l0 : Nat) (l1 : Int32) (l2 : Int32) (l3 : Int32) (h : eH) : e_K eL q r0 h0 0 [(0, .ref l0), (1, .int l1), (2, .int l2), (3, .int l3)] [] h (F_X12_joinedAll N l0 l1 l2 l3 h) := by
  unfold F_X12_joinedAll
  refine k_aload_n hq dX12_joinedAll_0 0 rfl ?_
  refine k_iconst hq dX12_joinedAll_1 (v := 0) rfl ?_
  refine k_pz hq (C := RX12) (T := TX12) 11 35 rfl (by decide) lay_X12 tyX12 tyX12_ok nmX12 tw_962 rfl rfl dX12_joinedAll_2 fun h1 => ?_
  refine k_lconst hq dX12_joinedAll_5 (v := 0) rfl ?_
  refine k_lstore hq dX12_joinedAll_6 (by decide) (ls' := [(4, .long 0), (0, .ref l0), (1, .int l1), (2, .int l2), (3, .int l3)]) rfl ?_
  refine k_iconst hq dX12_joinedAll_8 (v := 0) rfl ?_
  refine k_istore hq dX12_joinedAll_9 (by decide) (ls' := [(6, .int 0), (4, .long 0), (0, .ref l0), (1, .int l1), (2, .int l2), (3, .int l3)]) rfl ?_
  refine k_aload_n hq dX12_joinedAll_11 2 rfl ?_
  refine k_iload_n hq dX12_joinedAll_12 3 rfl ?_
  refine k_iload_n hq dX12_joinedAll_13 4 rfl ?_
  refine k_callV hq (na := 2) (As := [.int l1, .int l2]) (st := []) 11 (C := RX12) (T := TX12) rfl (con_X12_siblings _ _ _ _ N l0 l1 l2) tw_1122 tw_59 tw_1119 tw_1121 tw_30 ⟨by decide, by decide, by decide +kernel⟩ rfl (by decide) rfl (Nat.le_of_ble_eq_true rfl) dX12_joinedAll_14 fun v2 h3 => ?_
  refine k_istore hq dX12_joinedAll_17 (by decide) (ls' := [(7, .int v2), (6, .int 0), (4, .long 0), (0, .ref l0), (1, .int l1), (2, .int l2), (3, .int l3)]) rfl ?_
  refine k_iconst hq dX12_joinedAll_19 (v := 0) rfl ?_
  refine k_istore hq dX12_joinedAll_20 (by decide) (ls' := [(8, .int 0), (7, .int v2), (6, .int 0), (4, .long 0), (0, .ref l0), (1, .int l1), (2, .int l2), (3, .int l3)]) rfl ?_
  exact k_sub [4, 5, 6, 7, 3, 2, 1, 0] rfl (Q_X12_joinedAll_22 hq N l0 l1 l2 l3 0 0 v2 0 h3)
theorem con_X12_joinedAll (l : Launch) (G : eG) (B0 n : Nat) (N : Nat) (l0 : Nat) (l1 : Int32) (l2 : Int32) (l3 : Int32) : e_C eL l G B0 n yX12_joinedAll cX12_joinedAll 12 (some .long) 2 55 [.ref l0, .int l1, .int l2, .int l3] (F_X12_joinedAll N l0 l1 l2 l3) := by
  refine e_mk (by decide) (Nat.le_of_ble_eq_true rfl) fun q r0 h0 h hq e1 e2 e3 e4 => ?_
  subst e1; subst e2; subst e3; subst e4
  exact P_X12_joinedAll_0 hq N l0 l1 l2 l3 h
set_option maxRecDepth 100000 in
set_option maxHeartbeats 4000000 in
theorem P_X12_merges_146 {q : eT} {r0 : Int32} {h0 : eH} (hq : e_B q yX12_merges.cls cX12_merges 8 4 96 (some .int) yX12_merges.name) (N : Nat) (k87 : Nat → Int32 → Int32 → Int64 → Int32 → eH → Option (Int32 × eH)) (hk87 : ∀ (l0 : Nat) (l1 : Int32) (l2 : Int32) (l4 : Int64) (l6 : Int32) h, e_K eI q r0 h0 87 [(0, .ref l0), (1, .int l1), (2, .int l2), (4, .long l4), (6, .int l6)] [] h (k87 l0 l1 l2 l4 l6 h)) (l0 : Nat) (l1 : Int32) (l2 : Int32) (l4 : Int64) (l6 : Int32) (h : eH) : e_K eI q r0 h0 146 [(0, .ref l0), (1, .int l1), (2, .int l2), (4, .long l4), (6, .int l6)] [] h (F_X12_merges_146 N k87 l0 l1 l2 l4 l6 h) := by
  unfold F_X12_merges_146
  refine k_iinc hq dX12_merges_146 4 rfl (v := l6 + 1) rfl (by decide) (ls' := [(6, .int (l6 + 1)), (0, .ref l0), (1, .int l1), (2, .int l2), (4, .long l4)]) rfl ?_
  refine k_goto hq (tgt := 87) dX12_merges_149 (by decide) ?_
  exact k_sub [1, 2, 3, 4, 0] rfl (hk87 l0 l1 l2 l4 (l6 + 1) h)
set_option maxRecDepth 100000 in
set_option maxHeartbeats 4000000 in
theorem P_X12_merges_174b {q : eT} {r0 : Int32} {h0 : eH} (hq : e_B q yX12_merges.cls cX12_merges 8 4 96 (some .int) yX12_merges.name) (N : Nat) (k174 : Nat → Int32 → Int32 → Int64 → Int32 → Int32 → eH → Option (Int32 × eH)) (hk174 : ∀ (l0 : Nat) (l1 : Int32) (l2 : Int32) (l4 : Int64) (l6 : Int32) (l7 : Int32) h, e_K eI q r0 h0 174 [(0, .ref l0), (1, .int l1), (2, .int l2), (4, .long l4), (6, .int l6), (7, .int l7)] [] h (k174 l0 l1 l2 l4 l6 l7 h)) (l0 : Nat) (l1 : Int32) (l2 : Int32) (l4 : Int64) (l6 : Int32) (l7 : Int32) (h : eH) : e_K eI q r0 h0 174 [(0, .ref l0), (1, .int l1), (2, .int l2), (4, .long l4), (6, .int l6), (7, .int l7)] [] h (F_X12_merges_174b N k174 l0 l1 l2 l4 l6 l7 h) := by
  unfold F_X12_merges_174b
  refine k_iload hq dX12_merges_174 5 rfl ?_
  refine k_iconst hq dX12_merges_176 (v := 4) rfl ?_
  refine k_icmp_ge hq (tgt := 236) dX12_merges_177 (by decide) (fun _ => ?_) (fun _ => ?_)
  · refine k_aload_n hq dX12_merges_236 0 rfl ?_
    refine k_iload_n hq dX12_merges_237 2 rfl ?_
    refine k_iload_n hq dX12_merges_238 1 rfl ?_
    refine k_lload hq dX12_merges_239 3 rfl ?_
    refine k_callV hq (na := 3) (As := [.int l2, .int l1, .long l4]) (st := []) 11 (C := RX12) (T := TX12) rfl (con_X12_comes _ _ _ _ N l0 l2 l1 l4) tw_1130 tw_59 tw_1127 tw_1129 tw_31 ⟨by decide, by decide, by decide +kernel⟩ rfl (by decide) rfl (Nat.le_of_ble_eq_true rfl) dX12_merges_241 fun v1 h2 => ?_
    exact k_iret hq dX12_merges_244
  · refine k_aload_n hq dX12_merges_180 0 rfl ?_
    refine k_gr hq (C := RX12) (T := TX12) 11 8 rfl (by decide) (lay_X12 8 (by decide)) tw_935 dX12_merges_181 fun v3 => ?_
    refine k_iconst hq dX12_merges_184 (v := 4) rfl ?_
    refine k_iload hq dX12_merges_185 4 rfl ?_
    refine k_imul hq dX12_merges_187 ?_
    refine k_iload hq dX12_merges_188 5 rfl ?_
    refine k_iadd hq dX12_merges_190 ?_
    refine k_aload_n hq dX12_merges_191 0 rfl ?_
    refine k_gr hq (C := RX12) (T := TX12) 11 16 rfl (by decide) (lay_X12 16 (by decide)) tw_943 dX12_merges_192 fun v4 => ?_
    refine k_iload_n hq dX12_merges_195 2 rfl ?_
    refine k_iload_n hq dX12_merges_196 1 rfl ?_
    refine k_callS hq (na := 2) (As := [.int l2, .int l1]) (st := [.ref v4, .int ((4 * l6) + l7), .ref v3]) (con_X12_rowAt _ _ _ _ l2 l1) tw_1112 tw_59 tw_1110 tw_1111 ⟨by decide, by decide, by decide +kernel⟩ rfl (by decide) rfl (Nat.le_of_ble_eq_true rfl) dX12_merges_197 fun v5 h6 => ?_
    refine k_iload hq dX12_merges_200 5 rfl ?_
    refine k_iadd hq dX12_merges_202 ?_
    refine k_iald hq dX12_merges_203 fun v7 => ?_
    refine k_iast hq dX12_merges_204 fun h8 => ?_
    refine k_aload_n hq dX12_merges_205 0 rfl ?_
    refine k_gr hq (C := RX12) (T := TX12) 11 9 rfl (by decide) (lay_X12 9 (by decide)) tw_936 dX12_merges_206 fun v9 => ?_
    refine k_iconst hq dX12_merges_209 (v := 4) rfl ?_
    refine k_iload hq dX12_merges_210 4 rfl ?_
    refine k_imul hq dX12_merges_212 ?_
    refine k_iload hq dX12_merges_213 5 rfl ?_
    refine k_iadd hq dX12_merges_215 ?_
    refine k_aload_n hq dX12_merges_216 0 rfl ?_
    refine k_gr hq (C := RX12) (T := TX12) 11 16 rfl (by decide) (lay_X12 16 (by decide)) tw_943 dX12_merges_217 fun v10 => ?_
    refine k_iload_n hq dX12_merges_220 2 rfl ?_
    refine k_iload_n hq dX12_merges_221 1 rfl ?_
    refine k_callS hq (na := 2) (As := [.int l2, .int l1]) (st := [.ref v10, .int ((4 * l6) + l7), .ref v9]) (con_X12_rowAt _ _ _ _ l2 l1) tw_1112 tw_59 tw_1110 tw_1111 ⟨by decide, by decide, by decide +kernel⟩ rfl (by decide) rfl (Nat.le_of_ble_eq_true rfl) dX12_merges_222 fun v11 h12 => ?_
    refine k_iload hq dX12_merges_225 5 rfl ?_
    refine k_iadd hq dX12_merges_227 ?_
    refine k_iald hq dX12_merges_228 fun v13 => ?_
    refine k_iast hq dX12_merges_229 fun h14 => ?_
    refine k_iinc hq dX12_merges_230 5 rfl (v := l7 + 1) rfl (by decide) (ls' := [(7, .int (l7 + 1)), (0, .ref l0), (1, .int l1), (2, .int l2), (4, .long l4), (6, .int l6)]) rfl ?_
    refine k_goto hq (tgt := 174) dX12_merges_233 (by decide) ?_
    exact k_sub [1, 2, 3, 4, 5, 0] rfl (hk174 l0 l1 l2 l4 l6 (l7 + 1) h14)
theorem Q_X12_merges_174 {q : eT} {r0 : Int32} {h0 : eH} (hq : e_B q yX12_merges.cls cX12_merges 8 4 96 (some .int) yX12_merges.name) (N : Nat) (l0 : Nat) (l1 : Int32) (l2 : Int32) (l4 : Int64) (l6 : Int32) (l7 : Int32) (h : eH) : e_K eI q r0 h0 174 [(0, .ref l0), (1, .int l1), (2, .int l2), (4, .long l4), (6, .int l6), (7, .int l7)] [] h (L_X12_merges_174 N l0 l1 l2 l4 l6 l7 h) :=
  k_loop (mk := (fun s => [(0, .ref s.1), (1, .int s.2.1), (2, .int s.2.2.1), (4, .long s.2.2.2.1), (6, .int s.2.2.2.2.1), (7, .int s.2.2.2.2.2.1)])) (hp := fun s => s.2.2.2.2.2.2) (fun k hk s => P_X12_merges_174b hq N (fun l0 l1 l2 l4 l6 l7 h => k (l0, l1, l2, l4, l6, l7, h)) (fun l0 l1 l2 l4 l6 l7 h => hk (l0, l1, l2, l4, l6, l7, h)) s.1 s.2.1 s.2.2.1 s.2.2.2.1 s.2.2.2.2.1 s.2.2.2.2.2.1 s.2.2.2.2.2.2) N (l0, l1, l2, l4, l6, l7, h)
set_option maxRecDepth 100000 in
set_option maxHeartbeats 4000000 in
theorem P_X12_merges_87b {q : eT} {r0 : Int32} {h0 : eH} (hq : e_B q yX12_merges.cls cX12_merges 8 4 96 (some .int) yX12_merges.name) (N : Nat) (k87 : Nat → Int32 → Int32 → Int64 → Int32 → eH → Option (Int32 × eH)) (hk87 : ∀ (l0 : Nat) (l1 : Int32) (l2 : Int32) (l4 : Int64) (l6 : Int32) h, e_K eI q r0 h0 87 [(0, .ref l0), (1, .int l1), (2, .int l2), (4, .long l4), (6, .int l6)] [] h (k87 l0 l1 l2 l4 l6 h)) (l0 : Nat) (l1 : Int32) (l2 : Int32) (l4 : Int64) (l6 : Int32) (h : eH) : e_K eI q r0 h0 87 [(0, .ref l0), (1, .int l1), (2, .int l2), (4, .long l4), (6, .int l6)] [] h (F_X12_merges_87b N k87 l0 l1 l2 l4 l6 h) := by
  unfold F_X12_merges_87b
  refine k_iload hq dX12_merges_87 4 rfl ?_
  refine k_sipush hq dX12_merges_89 (v := 164) rfl ?_
  refine k_iload_n hq dX12_merges_92 2 rfl ?_
  refine k_imul hq dX12_merges_93 ?_
  refine k_sipush hq dX12_merges_94 (v := 164) rfl ?_
  refine k_iadd hq dX12_merges_97 ?_
  refine k_icmp_ge hq (tgt := 152) dX12_merges_98 (by decide) (fun _ => ?_) (fun _ => ?_)
  · refine k_iload_n hq dX12_merges_152 2 rfl ?_
    refine k_iload_n hq dX12_merges_153 1 rfl ?_
    refine k_aload_n hq dX12_merges_154 0 rfl ?_
    refine k_gr hq (C := RX12) (T := TX12) 11 15 rfl (by decide) (lay_X12 15 (by decide)) tw_942 dX12_merges_155 fun v1 => ?_
    refine k_iconst hq dX12_merges_158 (v := 4) rfl ?_
    refine k_iload_n hq dX12_merges_159 2 rfl ?_
    refine k_imul hq dX12_merges_160 ?_
    refine k_iload_n hq dX12_merges_161 1 rfl ?_
    refine k_iadd hq dX12_merges_162 ?_
    refine k_iald hq dX12_merges_163 fun v2 => ?_
    refine k_iconst hq dX12_merges_164 (v := 1) rfl ?_
    refine k_iadd hq dX12_merges_165 ?_
    refine k_callS hq (na := 3) (As := [.int l2, .int l1, .int (v2 + 1)]) (st := []) (con_X12_at _ _ _ _ l2 l1 (v2 + 1)) tw_1115 tw_59 tw_1113 tw_1114 ⟨by decide, by decide, by decide +kernel⟩ rfl (by decide) rfl (Nat.le_of_ble_eq_true rfl) dX12_merges_166 fun v3 h4 => ?_
    refine k_istore hq dX12_merges_169 (by decide) (ls' := [(6, .int v3), (0, .ref l0), (1, .int l1), (2, .int l2), (4, .long l4)]) rfl ?_
    refine k_iconst hq dX12_merges_171 (v := 0) rfl ?_
    refine k_istore hq dX12_merges_172 (by decide) (ls' := [(7, .int 0), (6, .int v3), (0, .ref l0), (1, .int l1), (2, .int l2), (4, .long l4)]) rfl ?_
    exact k_sub [2, 3, 4, 5, 1, 0] rfl (Q_X12_merges_174 hq N l0 l1 l2 l4 v3 0 h4)
  · refine k_aload_n hq dX12_merges_101 0 rfl ?_
    refine k_gr hq (C := RX12) (T := TX12) 11 14 rfl (by decide) (lay_X12 14 (by decide)) tw_941 dX12_merges_102 fun v5 => ?_
    refine k_iload hq dX12_merges_105 4 rfl ?_
    refine k_iald hq dX12_merges_107 fun v6 => ?_
    refine k_iload_n hq dX12_merges_108 1 rfl ?_
    refine k_callS hq (na := 2) (As := [.int v6, .int l1]) (st := []) (con_X12_has _ _ _ _ v6 l1) tw_1118 tw_59 tw_1116 tw_1117 ⟨by decide, by decide, by decide +kernel⟩ rfl (by decide) rfl (Nat.le_of_ble_eq_true rfl) dX12_merges_109 fun v7 h8 => ?_
    refine k_if_eq hq (tgt := 146) dX12_merges_112 (by decide) (fun _ => ?_) (fun _ => ?_)
    · exact k_sub [0, 1, 2, 3, 4] rfl (P_X12_merges_146 hq N k87 hk87 l0 l1 l2 l4 l6 h8)
    · refine k_aload_n hq dX12_merges_115 0 rfl ?_
      refine k_gr hq (C := RX12) (T := TX12) 11 10 rfl (by decide) (lay_X12 10 (by decide)) tw_937 dX12_merges_116 fun v9 => ?_
      refine k_iload hq dX12_merges_119 4 rfl ?_
      refine k_iconst hq dX12_merges_121 (v := 1) rfl ?_
      refine k_zast hq dX12_merges_122 fun h10 => ?_
      refine k_aload_n hq dX12_merges_123 0 rfl ?_
      refine k_gr hq (C := RX12) (T := TX12) 11 13 rfl (by decide) (lay_X12 13 (by decide)) tw_940 dX12_merges_124 fun v11 => ?_
      refine k_iload hq dX12_merges_127 4 rfl ?_
      refine k_iconst hq dX12_merges_129 (v := 1) rfl ?_
      refine k_zast hq dX12_merges_130 fun h12 => ?_
      refine k_aload_n hq dX12_merges_131 0 rfl ?_
      refine k_gr hq (C := RX12) (T := TX12) 11 14 rfl (by decide) (lay_X12 14 (by decide)) tw_941 dX12_merges_132 fun v13 => ?_
      refine k_iload hq dX12_merges_135 4 rfl ?_
      refine k_dup2_11 hq dX12_merges_137 rfl rfl ?_
      refine k_iald hq dX12_merges_138 fun v14 => ?_
      refine k_iconst hq dX12_merges_139 (v := 1) rfl ?_
      refine k_iload_n hq dX12_merges_140 1 rfl ?_
      refine k_ishl hq dX12_merges_141 ?_
      refine k_iconst hq dX12_merges_142 (v := (-1)) rfl ?_
      refine k_ixor hq dX12_merges_143 ?_
      refine k_iand hq dX12_merges_144 ?_
      refine k_iast hq dX12_merges_145 fun h15 => ?_
      exact k_sub [0, 1, 2, 3, 4] rfl (P_X12_merges_146 hq N k87 hk87 l0 l1 l2 l4 l6 h15)
theorem Q_X12_merges_87 {q : eT} {r0 : Int32} {h0 : eH} (hq : e_B q yX12_merges.cls cX12_merges 8 4 96 (some .int) yX12_merges.name) (N : Nat) (l0 : Nat) (l1 : Int32) (l2 : Int32) (l4 : Int64) (l6 : Int32) (h : eH) : e_K eI q r0 h0 87 [(0, .ref l0), (1, .int l1), (2, .int l2), (4, .long l4), (6, .int l6)] [] h (L_X12_merges_87 N l0 l1 l2 l4 l6 h) :=
  k_loop (mk := (fun s => [(0, .ref s.1), (1, .int s.2.1), (2, .int s.2.2.1), (4, .long s.2.2.2.1), (6, .int s.2.2.2.2.1)])) (hp := fun s => s.2.2.2.2.2) (fun k hk s => P_X12_merges_87b hq N (fun l0 l1 l2 l4 l6 h => k (l0, l1, l2, l4, l6, h)) (fun l0 l1 l2 l4 l6 h => hk (l0, l1, l2, l4, l6, h)) s.1 s.2.1 s.2.2.1 s.2.2.2.1 s.2.2.2.2.1 s.2.2.2.2.2) N (l0, l1, l2, l4, l6, h)
set_option maxRecDepth 100000 in
set_option maxHeartbeats 4000000 in
theorem P_X12_merges_0 {q : eT} {r0 : Int32} {h0 : eH} (hq : e_B q yX12_merges.cls cX12_merges 8 4 96 (some .int) yX12_merges.name) (N : Nat) (l0 : Nat) (l1 : Int32) (l2 : Int32) (h : eH) : e_K eI q r0 h0 0 [(0, .ref l0), (1, .int l1), (2, .int l2)] [] h (F_X12_merges N l0 l1 l2 h) := by
  unfold F_X12_merges
  refine k_aload_n hq dX12_merges_0 0 rfl ?_
  refine k_iload_n hq dX12_merges_1 1 rfl ?_
  refine k_callV hq (na := 1) (As := [.int l1]) (st := []) 11 (C := RX12) (T := TX12) rfl (con_X12_isSite _ _ _ _ l0 l1) tw_1105 tw_59 tw_1102 tw_1104 tw_28 ⟨by decide, by decide, by decide +kernel⟩ rfl (by decide) rfl (Nat.le_of_ble_eq_true rfl) dX12_merges_2 fun v1 h2 => ?_
  refine k_if_eq hq (tgt := 16) dX12_merges_5 (by decide) (fun _ => ?_) (fun _ => ?_)
  · refine k_iconst hq dX12_merges_16 (v := (-1)) rfl ?_
    exact k_iret hq dX12_merges_17
  · refine k_aload_n hq dX12_merges_8 0 rfl ?_
    refine k_iload_n hq dX12_merges_9 2 rfl ?_
    refine k_callV hq (na := 1) (As := [.int l2]) (st := []) 11 (C := RX12) (T := TX12) rfl (con_X12_isKey _ _ _ _ l0 l2) tw_1109 tw_59 tw_1106 tw_1108 tw_29 ⟨by decide, by decide, by decide +kernel⟩ rfl (by decide) rfl (Nat.le_of_ble_eq_true rfl) dX12_merges_10 fun v3 h4 => ?_
    refine k_if_ne hq (tgt := 18) dX12_merges_13 (by decide) (fun _ => ?_) (fun _ => ?_)
    · refine k_iconst hq dX12_merges_16 (v := (-1)) rfl ?_
      exact k_iret hq dX12_merges_17
    · refine k_aload_n hq dX12_merges_18 0 rfl ?_
      refine k_iload_n hq dX12_merges_19 2 rfl ?_
      refine k_callV hq (na := 1) (As := [.int l2]) (st := []) 11 (C := RX12) (T := TX12) rfl (con_X12_ruleOf _ _ _ _ N l0 l2) tw_1154 tw_59 tw_1151 tw_1153 tw_34 ⟨by decide, by decide, by decide +kernel⟩ rfl (by decide) rfl (Nat.le_of_ble_eq_true rfl) dX12_merges_20 fun v5 h6 => ?_
      refine k_istore_n hq dX12_merges_23 rfl (by decide) (ls' := [(3, .int v5), (0, .ref l0), (1, .int l1), (2, .int l2)]) rfl ?_
      refine k_iload_n hq dX12_merges_24 0 rfl ?_
      refine k_bipush hq dX12_merges_25 (v := (-9)) rfl ?_
      refine k_icmp_eq hq (tgt := 40) dX12_merges_27 (by decide) (fun _ => ?_) (fun _ => ?_)
      · refine k_bipush hq dX12_merges_40 (v := (-2)) rfl ?_
        exact k_iret hq dX12_merges_42
      · refine k_aload_n hq dX12_merges_30 1 rfl ?_
        refine k_iload_n hq dX12_merges_31 2 rfl ?_
        refine k_iload_n hq dX12_merges_32 3 rfl ?_
        refine k_callV hq (na := 2) (As := [.int l1, .int l2]) (st := []) 11 (C := RX12) (T := TX12) rfl (con_X12_siblings _ _ _ _ N l0 l1 l2) tw_1122 tw_59 tw_1119 tw_1121 tw_30 ⟨by decide, by decide, by decide +kernel⟩ rfl (by decide) rfl (Nat.le_of_ble_eq_true rfl) dX12_merges_33 fun v7 h8 => ?_
        refine k_iconst hq dX12_merges_36 (v := 2) rfl ?_
        refine k_icmp_ge hq (tgt := 43) dX12_merges_37 (by decide) (fun _ => ?_) (fun _ => ?_)
        · refine k_aload_n hq dX12_merges_43 1 rfl ?_
          refine k_gr hq (C := RX12) (T := TX12) 11 15 rfl (by decide) (lay_X12 15 (by decide)) tw_942 dX12_merges_44 fun v9 => ?_
          refine k_iconst hq dX12_merges_47 (v := 4) rfl ?_
          refine k_iload_n hq dX12_merges_48 3 rfl ?_
          refine k_imul hq dX12_merges_49 ?_
          refine k_iload_n hq dX12_merges_50 2 rfl ?_
          refine k_iadd hq dX12_merges_51 ?_
          refine k_iald hq dX12_merges_52 fun v10 => ?_
          refine k_bipush hq dX12_merges_53 (v := 40) rfl ?_
          refine k_icmp_ne hq (tgt := 61) dX12_merges_55 (by decide) (fun _ => ?_) (fun _ => ?_)
          · refine k_bipush hq dX12_merges_58 (v := (-3)) rfl ?_
            exact k_iret hq dX12_merges_60
          · refine k_aload_n hq dX12_merges_61 1 rfl ?_
            refine k_iload_n hq dX12_merges_62 2 rfl ?_
            refine k_iload_n hq dX12_merges_63 3 rfl ?_
            refine k_iload_n hq dX12_merges_64 0 rfl ?_
            refine k_callV hq (na := 3) (As := [.int l1, .int l2, .int v5]) (st := []) 11 (C := RX12) (T := TX12) rfl (con_X12_joinedAll _ _ _ _ N l0 l1 l2 v5) tw_1158 tw_59 tw_1155 tw_1157 tw_35 ⟨by decide, by decide, by decide +kernel⟩ rfl (by decide) rfl (Nat.le_of_ble_eq_true rfl) dX12_merges_65 fun v11 h12 => ?_
            refine k_lstore hq dX12_merges_68 (by decide) (ls' := [(4, .long v11), (3, .int v5), (0, .ref l0), (1, .int l1), (2, .int l2)]) rfl ?_
            refine k_aload_n hq dX12_merges_70 2 rfl ?_
            refine k_gi hq (C := RX12) (T := TX12) 11 35 rfl (by decide) (lay_X12 35 (by decide)) tw_962 dX12_merges_71 fun v13 => ?_
            refine k_if_eq hq (tgt := 80) dX12_merges_74 (by decide) (fun _ => ?_) (fun _ => ?_)
            · refine k_sipush hq dX12_merges_80 (v := 164) rfl ?_
              refine k_iload_n hq dX12_merges_83 4 rfl ?_
              refine k_imul hq dX12_merges_84 ?_
              refine k_let (mk := fun z => .int z :: []) fun v14 _ => ?_
              refine k_istore hq dX12_merges_85 (by decide) (ls' := [(6, .int v14), (4, .long v11), (3, .int v5), (0, .ref l0), (1, .int l1), (2, .int l2)]) rfl ?_
              exact k_sub [3, 4, 5, 1, 0] rfl (Q_X12_merges_87 hq N l0 l1 l2 v11 v14 h12)
            · refine k_bipush hq dX12_merges_77 (v := (-5)) rfl ?_
              exact k_iret hq dX12_merges_79
        · refine k_bipush hq dX12_merges_40 (v := (-2)) rfl ?_
          exact k_iret hq dX12_merges_42
theorem con_X12_merges (l : Launch) (G : eG) (B0 n : Nat) (N : Nat) (l0 : Nat) (l1 : Int32) (l2 : Int32) : e_C eI l G B0 n yX12_merges cX12_merges 8 (some .int) 4 96 [.ref l0, .int l1, .int l2] (F_X12_merges N l0 l1 l2) := by
  refine e_mk (by decide) (Nat.le_of_ble_eq_true rfl) fun q r0 h0 h hq e1 e2 e3 e4 => ?_
  subst e1; subst e2; subst e3; subst e4
  exact P_X12_merges_0 hq N l0 l1 l2 h
set_option maxRecDepth 100000 in
set_option maxHeartbeats 4000000 in
theorem P_X12_rules_105 {q : eT} {r0 : Int32} {h0 : eH} (hq : e_B q yX12_rules.cls cX12_rules 4 2 46 (some .int) yX12_rules.name) (N : Nat) (l0 : Nat) (l1 : Int32) (l2 : Int32) (l3 : Int32) (h : eH) : e_K eI q r0 h0 105 [(0, .ref l0), (1, .int l1), (2, .int l2), (3, .int l3)] [] h (F_X12_rules_105 N l0 l1 l2 l3 h) := by
  unfold F_X12_rules_105
  refine k_aload_n hq dX12_rules_105 0 rfl ?_
  refine k_gr hq (C := RX12) (T := TX12) 11 22 rfl (by decide) (lay_X12 22 (by decide)) tw_949 dX12_rules_106 fun v1 => ?_
  refine k_aload_n hq dX12_rules_109 0 rfl ?_
  refine k_gi hq (C := RX12) (T := TX12) 11 21 rfl (by decide) (lay_X12 21 (by decide)) tw_948 dX12_rules_110 fun v2 => ?_
  refine k_iload_n hq dX12_rules_113 1 rfl ?_
  refine k_iast hq dX12_rules_114 fun h3 => ?_
  refine k_aload_n hq dX12_rules_115 0 rfl ?_
  refine k_gr hq (C := RX12) (T := TX12) 11 23 rfl (by decide) (lay_X12 23 (by decide)) tw_950 dX12_rules_116 fun v4 => ?_
  refine k_aload_n hq dX12_rules_119 0 rfl ?_
  refine k_gi hq (C := RX12) (T := TX12) 11 21 rfl (by decide) (lay_X12 21 (by decide)) tw_948 dX12_rules_120 fun v5 => ?_
  refine k_iload_n hq dX12_rules_123 2 rfl ?_
  refine k_iast hq dX12_rules_124 fun h6 => ?_
  refine k_aload_n hq dX12_rules_125 0 rfl ?_
  refine k_dup hq dX12_rules_126 rfl ?_
  refine k_gi hq (C := RX12) (T := TX12) 11 21 rfl (by decide) (lay_X12 21 (by decide)) tw_948 dX12_rules_127 fun v7 => ?_
  refine k_iconst hq dX12_rules_130 (v := 1) rfl ?_
  refine k_iadd hq dX12_rules_131 ?_
  refine k_p hq (C := RX12) (T := TX12) 11 21 rfl (by decide) lay_X12 tyX12 tyX12_ok nmX12 tw_948 rfl rfl rfl dX12_rules_132 fun h8 => ?_
  refine k_iload_n hq dX12_rules_135 3 rfl ?_
  exact k_iret hq dX12_rules_136
set_option maxRecDepth 100000 in
set_option maxHeartbeats 4000000 in
theorem P_X12_rules_24b {q : eT} {r0 : Int32} {h0 : eH} (hq : e_B q yX12_rules.cls cX12_rules 4 2 46 (some .int) yX12_rules.name) (N : Nat) (k24 : Nat → Int32 → Int32 → Int32 → eH → Option (Int32 × eH)) (hk24 : ∀ (l0 : Nat) (l1 : Int32) (l2 : Int32) (l3 : Int32) h, e_K eI q r0 h0 24 [(0, .ref l0), (1, .int l1), (2, .int l2), (3, .int l3)] [] h (k24 l0 l1 l2 l3 h)) (l0 : Nat) (l1 : Int32) (l2 : Int32) (l3 : Int32) (h : eH) : e_K eI q r0 h0 24 [(0, .ref l0), (1, .int l1), (2, .int l2), (3, .int l3)] [] h (F_X12_rules_24b N k24 l0 l1 l2 l3 h) := by
  unfold F_X12_rules_24b
  refine k_iload_n hq dX12_rules_24 3 rfl ?_
  refine k_aload_n hq dX12_rules_25 0 rfl ?_
  refine k_gi hq (C := RX12) (T := TX12) 11 21 rfl (by decide) (lay_X12 21 (by decide)) tw_948 dX12_rules_26 fun v1 => ?_
  refine k_icmp_ge hq (tgt := 58) dX12_rules_29 (by decide) (fun _ => ?_) (fun _ => ?_)
  · refine k_bipush hq dX12_rules_58 (v := (-9)) rfl ?_
    refine k_istore_n hq dX12_rules_60 rfl (by decide) (ls' := [(3, .int (-9)), (0, .ref l0), (1, .int l1), (2, .int l2)]) rfl ?_
    refine k_aload_n hq dX12_rules_61 1 rfl ?_
    refine k_gi hq (C := RX12) (T := TX12) 11 21 rfl (by decide) (lay_X12 21 (by decide)) tw_948 dX12_rules_62 fun v2 => ?_
    refine k_iconst hq dX12_rules_65 (v := 2) rfl ?_
    refine k_icmp_ne hq (tgt := 105) dX12_rules_66 (by decide) (fun _ => ?_) (fun _ => ?_)
    · refine k_aload_n hq dX12_rules_69 1 rfl ?_
      refine k_gr hq (C := RX12) (T := TX12) 11 22 rfl (by decide) (lay_X12 22 (by decide)) tw_949 dX12_rules_70 fun v3 => ?_
      refine k_iconst hq dX12_rules_73 (v := 0) rfl ?_
      refine k_iald hq dX12_rules_74 fun v4 => ?_
      refine k_istore_n hq dX12_rules_75 rfl (by decide) (ls' := [(3, .int v4), (0, .ref l0), (1, .int l1), (2, .int l2)]) rfl ?_
      refine k_aload_n hq dX12_rules_76 1 rfl ?_
      refine k_gr hq (C := RX12) (T := TX12) 11 22 rfl (by decide) (lay_X12 22 (by decide)) tw_949 dX12_rules_77 fun v5 => ?_
      refine k_iconst hq dX12_rules_80 (v := 0) rfl ?_
      refine k_aload_n hq dX12_rules_81 1 rfl ?_
      refine k_gr hq (C := RX12) (T := TX12) 11 22 rfl (by decide) (lay_X12 22 (by decide)) tw_949 dX12_rules_82 fun v6 => ?_
      refine k_iconst hq dX12_rules_85 (v := 1) rfl ?_
      refine k_iald hq dX12_rules_86 fun v7 => ?_
      refine k_iast hq dX12_rules_87 fun h8 => ?_
      refine k_aload_n hq dX12_rules_88 1 rfl ?_
      refine k_gr hq (C := RX12) (T := TX12) 11 23 rfl (by decide) (lay_X12 23 (by decide)) tw_950 dX12_rules_89 fun v9 => ?_
      refine k_iconst hq dX12_rules_92 (v := 0) rfl ?_
      refine k_aload_n hq dX12_rules_93 1 rfl ?_
      refine k_gr hq (C := RX12) (T := TX12) 11 23 rfl (by decide) (lay_X12 23 (by decide)) tw_950 dX12_rules_94 fun v10 => ?_
      refine k_iconst hq dX12_rules_97 (v := 1) rfl ?_
      refine k_iald hq dX12_rules_98 fun v11 => ?_
      refine k_iast hq dX12_rules_99 fun h12 => ?_
      refine k_aload_n hq dX12_rules_100 1 rfl ?_
      refine k_iconst hq dX12_rules_101 (v := 1) rfl ?_
      refine k_p hq (C := RX12) (T := TX12) 11 21 rfl (by decide) lay_X12 tyX12 tyX12_ok nmX12 tw_948 rfl rfl rfl dX12_rules_102 fun h13 => ?_
      exact k_sub [1, 2, 3, 0] rfl (P_X12_rules_105 hq N l0 l1 l2 v4 h13)
    · exact k_sub [1, 2, 3, 0] rfl (P_X12_rules_105 hq N l0 l1 l2 (-9) h)
  · refine k_aload_n hq dX12_rules_32 0 rfl ?_
    refine k_gr hq (C := RX12) (T := TX12) 11 22 rfl (by decide) (lay_X12 22 (by decide)) tw_949 dX12_rules_33 fun v14 => ?_
    refine k_iload_n hq dX12_rules_36 3 rfl ?_
    refine k_iald hq dX12_rules_37 fun v15 => ?_
    refine k_iload_n hq dX12_rules_38 1 rfl ?_
    refine k_icmp_ne hq (tgt := 52) dX12_rules_39 (by decide) (fun _ => ?_) (fun _ => ?_)
    · refine k_aload_n hq dX12_rules_42 0 rfl ?_
      refine k_gr hq (C := RX12) (T := TX12) 11 23 rfl (by decide) (lay_X12 23 (by decide)) tw_950 dX12_rules_43 fun v16 => ?_
      refine k_iload_n hq dX12_rules_46 3 rfl ?_
      refine k_iload_n hq dX12_rules_47 2 rfl ?_
      refine k_iast hq dX12_rules_48 fun h17 => ?_
      refine k_bipush hq dX12_rules_49 (v := (-9)) rfl ?_
      exact k_iret hq dX12_rules_51
    · refine k_iinc hq dX12_rules_52 3 rfl (v := l3 + 1) rfl (by decide) (ls' := [(3, .int (l3 + 1)), (0, .ref l0), (1, .int l1), (2, .int l2)]) rfl ?_
      refine k_goto hq (tgt := 24) dX12_rules_55 (by decide) ?_
      exact k_sub [1, 2, 3, 0] rfl (hk24 l0 l1 l2 (l3 + 1) h)
theorem Q_X12_rules_24 {q : eT} {r0 : Int32} {h0 : eH} (hq : e_B q yX12_rules.cls cX12_rules 4 2 46 (some .int) yX12_rules.name) (N : Nat) (l0 : Nat) (l1 : Int32) (l2 : Int32) (l3 : Int32) (h : eH) : e_K eI q r0 h0 24 [(0, .ref l0), (1, .int l1), (2, .int l2), (3, .int l3)] [] h (L_X12_rules_24 N l0 l1 l2 l3 h) :=
  k_loop (mk := (fun s => [(0, .ref s.1), (1, .int s.2.1), (2, .int s.2.2.1), (3, .int s.2.2.2.1)])) (hp := fun s => s.2.2.2.2) (fun k hk s => P_X12_rules_24b hq N (fun l0 l1 l2 l3 h => k (l0, l1, l2, l3, h)) (fun l0 l1 l2 l3 h => hk (l0, l1, l2, l3, h)) s.1 s.2.1 s.2.2.1 s.2.2.2.1 s.2.2.2.2) N (l0, l1, l2, l3, h)
set_option maxRecDepth 100000 in
set_option maxHeartbeats 4000000 in
theorem P_X12_rules_0 {q : eT} {r0 : Int32} {h0 : eH} (hq : e_B q yX12_rules.cls cX12_rules 4 2 46 (some .int) yX12_rules.name) (N : Nat) (l0 : Nat) (l1 : Int32) (l2 : Int32) (h : eH) : e_K eI q r0 h0 0 [(0, .ref l0), (1, .int l1), (2, .int l2)] [] h (F_X12_rules N l0 l1 l2 h) := by
  unfold F_X12_rules
  refine k_aload_n hq dX12_rules_0 0 rfl ?_
  refine k_iload_n hq dX12_rules_1 1 rfl ?_
  refine k_callV hq (na := 1) (As := [.int l1]) (st := []) 11 (C := RX12) (T := TX12) rfl (con_X12_isKey _ _ _ _ l0 l1) tw_1109 tw_59 tw_1106 tw_1108 tw_29 ⟨by decide, by decide, by decide +kernel⟩ rfl (by decide) rfl (Nat.le_of_ble_eq_true rfl) dX12_rules_2 fun v1 h2 => ?_
  refine k_if_eq hq (tgt := 20) dX12_rules_5 (by decide) (fun _ => ?_) (fun _ => ?_)
  · refine k_iconst hq dX12_rules_20 (v := (-1)) rfl ?_
    exact k_iret hq dX12_rules_21
  · refine k_iload_n hq dX12_rules_8 2 rfl ?_
    refine k_i2l hq dX12_rules_9 ?_
    refine k_lconst hq dX12_rules_10 (v := 0) rfl ?_
    refine k_ldc2 hq (v := 4) tw_1175 dX12_rules_11 ?_
    refine k_callS hq (na := 3) (As := [.long (l2.toInt64), .long 0, .long 4]) (st := []) (con_X12_in _ _ _ _ (l2.toInt64) 0 4) tw_1059 tw_59 tw_1057 tw_1058 ⟨by decide, by decide, by decide +kernel⟩ rfl (by decide) rfl (Nat.le_of_ble_eq_true rfl) dX12_rules_14 fun v3 h4 => ?_
    refine k_if_ne hq (tgt := 22) dX12_rules_17 (by decide) (fun _ => ?_) (fun _ => ?_)
    · refine k_iconst hq dX12_rules_20 (v := (-1)) rfl ?_
      exact k_iret hq dX12_rules_21
    · refine k_iconst hq dX12_rules_22 (v := 0) rfl ?_
      refine k_istore_n hq dX12_rules_23 rfl (by decide) (ls' := [(3, .int 0), (0, .ref l0), (1, .int l1), (2, .int l2)]) rfl ?_
      exact k_sub [1, 2, 3, 0] rfl (Q_X12_rules_24 hq N l0 l1 l2 0 h4)
theorem con_X12_rules (l : Launch) (G : eG) (B0 n : Nat) (N : Nat) (l0 : Nat) (l1 : Int32) (l2 : Int32) : e_C eI l G B0 n yX12_rules cX12_rules 4 (some .int) 2 46 [.ref l0, .int l1, .int l2] (F_X12_rules N l0 l1 l2) := by
  refine e_mk (by decide) (Nat.le_of_ble_eq_true rfl) fun q r0 h0 h hq e1 e2 e3 e4 => ?_
  subst e1; subst e2; subst e3; subst e4
  exact P_X12_rules_0 hq N l0 l1 l2 h
set_option maxRecDepth 100000 in
set_option maxHeartbeats 4000000 in
theorem P_X12_row_0 {q : eT} {r0 : Int32} {h0 : eH} (hq : e_B q yX12_row.cls cX12_row 4 2 46 (some .int) yX12_row.name) (l0 : Nat) (l1 : Int32) (l2 : Int32) (l3 : Int32) (h : eH) : e_K eI q r0 h0 0 [(0, .ref l0), (1, .int l1), (2, .int l2), (3, .int l3)] [] h (F_X12_row l0 l1 l2 l3 h) := by
  unfold F_X12_row
  refine k_aload_n hq dX12_row_0 0 rfl ?_
  refine k_iload_n hq dX12_row_1 1 rfl ?_
  refine k_callV hq (na := 1) (As := [.int l1]) (st := []) 11 (C := RX12) (T := TX12) rfl (con_X12_isSite _ _ _ _ l0 l1) tw_1105 tw_59 tw_1102 tw_1104 tw_28 ⟨by decide, by decide, by decide +kernel⟩ rfl (by decide) rfl (Nat.le_of_ble_eq_true rfl) dX12_row_2 fun v1 h2 => ?_
  refine k_if_eq hq (tgt := 39) dX12_row_5 (by decide) (fun _ => ?_) (fun _ => ?_)
  · refine k_iconst hq dX12_row_39 (v := (-1)) rfl ?_
    exact k_iret hq dX12_row_40
  · refine k_aload_n hq dX12_row_8 0 rfl ?_
    refine k_iload_n hq dX12_row_9 2 rfl ?_
    refine k_callV hq (na := 1) (As := [.int l2]) (st := []) 11 (C := RX12) (T := TX12) rfl (con_X12_isKey _ _ _ _ l0 l2) tw_1109 tw_59 tw_1106 tw_1108 tw_29 ⟨by decide, by decide, by decide +kernel⟩ rfl (by decide) rfl (Nat.le_of_ble_eq_true rfl) dX12_row_10 fun v3 h4 => ?_
    refine k_if_eq hq (tgt := 39) dX12_row_13 (by decide) (fun _ => ?_) (fun _ => ?_)
    · refine k_iconst hq dX12_row_39 (v := (-1)) rfl ?_
      exact k_iret hq dX12_row_40
    · refine k_aload_n hq dX12_row_16 0 rfl ?_
      refine k_iload_n hq dX12_row_17 3 rfl ?_
      refine k_callV hq (na := 1) (As := [.int l3]) (st := []) 11 (C := RX12) (T := TX12) rfl (con_X12_isSite _ _ _ _ l0 l3) tw_1105 tw_59 tw_1102 tw_1104 tw_28 ⟨by decide, by decide, by decide +kernel⟩ rfl (by decide) rfl (Nat.le_of_ble_eq_true rfl) dX12_row_18 fun v5 h6 => ?_
      refine k_if_eq hq (tgt := 39) dX12_row_21 (by decide) (fun _ => ?_) (fun _ => ?_)
      · refine k_iconst hq dX12_row_39 (v := (-1)) rfl ?_
        exact k_iret hq dX12_row_40
      · refine k_aload_n hq dX12_row_24 0 rfl ?_
        refine k_gr hq (C := RX12) (T := TX12) 11 16 rfl (by decide) (lay_X12 16 (by decide)) tw_943 dX12_row_25 fun v7 => ?_
        refine k_iload_n hq dX12_row_28 2 rfl ?_
        refine k_iload_n hq dX12_row_29 1 rfl ?_
        refine k_callS hq (na := 2) (As := [.int l2, .int l1]) (st := [.ref v7]) (con_X12_rowAt _ _ _ _ l2 l1) tw_1112 tw_59 tw_1110 tw_1111 ⟨by decide, by decide, by decide +kernel⟩ rfl (by decide) rfl (Nat.le_of_ble_eq_true rfl) dX12_row_30 fun v8 h9 => ?_
        refine k_iload_n hq dX12_row_33 3 rfl ?_
        refine k_iadd hq dX12_row_34 ?_
        refine k_iald hq dX12_row_35 fun v10 => ?_
        refine k_goto hq (tgt := 40) dX12_row_36 (by decide) ?_
        exact k_iret hq dX12_row_40
theorem con_X12_row (l : Launch) (G : eG) (B0 n : Nat) (l0 : Nat) (l1 : Int32) (l2 : Int32) (l3 : Int32) : e_C eI l G B0 n yX12_row cX12_row 4 (some .int) 2 46 [.ref l0, .int l1, .int l2, .int l3] (F_X12_row l0 l1 l2 l3) := by
  refine e_mk (by decide) (Nat.le_of_ble_eq_true rfl) fun q r0 h0 h hq e1 e2 e3 e4 => ?_
  subst e1; subst e2; subst e3; subst e4
  exact P_X12_row_0 hq l0 l1 l2 l3 h
set_option maxRecDepth 100000 in
set_option maxHeartbeats 4000000 in
theorem P_X12_sibling_138 {q : eT} {r0 : Int64} {h0 : eH} (hq : e_B q yX12_sibling.cls cX12_sibling 8 2 46 (some .long) yX12_sibling.name) (N : Nat) (k43 : Nat → Int32 → Int32 → Int32 → Int32 → Int32 → Int32 → eH → Option (Int64 × eH)) (hk43 : ∀ (l0 : Nat) (l1 : Int32) (l2 : Int32) (l3 : Int32) (l4 : Int32) (l5 : Int32) (l6 : Int32) h, e_K eL q r0 h0 43 [(0, .ref l0), (1, .int l1), (2, .int l2), (3, .int l3), (4, .int l4), (5, .int l5), (6, .int l6)] [] h (k43 l0 l1 l2 l3 l4 l5 l6 h)) (l0 : Nat) (l1 : Int32) (l2 : Int32) (l3 : Int32) (l4 : Int32) (l5 : Int32) (l6 : Int32) (h : eH) : e_K eL q r0 h0 138 [(0, .ref l0), (1, .int l1), (2, .int l2), (3, .int l3), (4, .int l4), (5, .int l5), (6, .int l6)] [] h (F_X12_sibling_138 N k43 l0 l1 l2 l3 l4 l5 l6 h) := by
  unfold F_X12_sibling_138
  refine k_iinc hq dX12_sibling_138 6 rfl (v := l6 + 1) rfl (by decide) (ls' := [(6, .int (l6 + 1)), (0, .ref l0), (1, .int l1), (2, .int l2), (3, .int l3), (4, .int l4), (5, .int l5)]) rfl ?_
  refine k_goto hq (tgt := 43) dX12_sibling_141 (by decide) ?_
  exact k_sub [1, 2, 3, 4, 5, 6, 0] rfl (hk43 l0 l1 l2 l3 l4 l5 (l6 + 1) h)
set_option maxRecDepth 100000 in
set_option maxHeartbeats 4000000 in
theorem P_X12_sibling_43b {q : eT} {r0 : Int64} {h0 : eH} (hq : e_B q yX12_sibling.cls cX12_sibling 8 2 46 (some .long) yX12_sibling.name) (N : Nat) (k43 : Nat → Int32 → Int32 → Int32 → Int32 → Int32 → Int32 → eH → Option (Int64 × eH)) (hk43 : ∀ (l0 : Nat) (l1 : Int32) (l2 : Int32) (l3 : Int32) (l4 : Int32) (l5 : Int32) (l6 : Int32) h, e_K eL q r0 h0 43 [(0, .ref l0), (1, .int l1), (2, .int l2), (3, .int l3), (4, .int l4), (5, .int l5), (6, .int l6)] [] h (k43 l0 l1 l2 l3 l4 l5 l6 h)) (l0 : Nat) (l1 : Int32) (l2 : Int32) (l3 : Int32) (l4 : Int32) (l5 : Int32) (l6 : Int32) (h : eH) : e_K eL q r0 h0 43 [(0, .ref l0), (1, .int l1), (2, .int l2), (3, .int l3), (4, .int l4), (5, .int l5), (6, .int l6)] [] h (F_X12_sibling_43b N k43 l0 l1 l2 l3 l4 l5 l6 h) := by
  unfold F_X12_sibling_43b
  refine k_iload hq dX12_sibling_43 6 rfl ?_
  refine k_sipush hq dX12_sibling_45 (v := 164) rfl ?_
  refine k_icmp_ge hq (tgt := 144) dX12_sibling_48 (by decide) (fun _ => ?_) (fun _ => ?_)
  · refine k_ldc2 hq (v := (-9)) tw_1184 dX12_sibling_144 ?_
    exact k_lret hq dX12_sibling_147
  · refine k_sipush hq dX12_sibling_51 (v := 164) rfl ?_
    refine k_iload_n hq dX12_sibling_54 2 rfl ?_
    refine k_imul hq dX12_sibling_55 ?_
    refine k_iload hq dX12_sibling_56 6 rfl ?_
    refine k_iadd hq dX12_sibling_58 ?_
    refine k_let (mk := fun z => .int z :: []) fun v1 _ => ?_
    refine k_istore hq dX12_sibling_59 (by decide) (ls' := [(7, .int v1), (0, .ref l0), (1, .int l1), (2, .int l2), (3, .int l3), (4, .int l4), (5, .int l5), (6, .int l6)]) rfl ?_
    refine k_aload_n hq dX12_sibling_61 1 rfl ?_
    refine k_gr hq (C := RX12) (T := TX12) 11 14 rfl (by decide) (lay_X12 14 (by decide)) tw_941 dX12_sibling_62 fun v2 => ?_
    refine k_iload hq dX12_sibling_65 0 rfl ?_
    refine k_iald hq dX12_sibling_67 fun v3 => ?_
    refine k_iload_n hq dX12_sibling_68 2 rfl ?_
    refine k_callS hq (na := 2) (As := [.int v3, .int l1]) (st := []) (con_X12_has _ _ _ _ v3 l1) tw_1118 tw_59 tw_1116 tw_1117 ⟨by decide, by decide, by decide +kernel⟩ rfl (by decide) rfl (Nat.le_of_ble_eq_true rfl) dX12_sibling_69 fun v4 h5 => ?_
    refine k_if_eq hq (tgt := 138) dX12_sibling_72 (by decide) (fun _ => ?_) (fun _ => ?_)
    · exact k_sub [1, 2, 3, 4, 5, 6, 7] rfl (P_X12_sibling_138 hq N k43 hk43 l0 l1 l2 l3 l4 l5 l6 h5)
    · refine k_iload hq dX12_sibling_75 6 rfl ?_
      refine k_iload_n hq dX12_sibling_77 4 rfl ?_
      refine k_icmp_ne hq (tgt := 135) dX12_sibling_78 (by decide) (fun _ => ?_) (fun _ => ?_)
      · refine k_iload hq dX12_sibling_81 5 rfl ?_
        refine k_if_ne hq (tgt := 95) dX12_sibling_83 (by decide) (fun _ => ?_) (fun _ => ?_)
        · refine k_iload hq dX12_sibling_86 7 rfl ?_
          refine k_bipush hq dX12_sibling_88 (v := 41) rfl ?_
          refine k_idivK hq (by decide) dX12_sibling_90 ?_
          refine k_i2l hq dX12_sibling_91 ?_
          refine k_goto hq (tgt := 134) dX12_sibling_92 (by decide) ?_
          exact k_lret hq dX12_sibling_134
        · refine k_iload hq dX12_sibling_95 5 rfl ?_
          refine k_iconst hq dX12_sibling_97 (v := 1) rfl ?_
          refine k_icmp_ne hq (tgt := 110) dX12_sibling_98 (by decide) (fun _ => ?_) (fun _ => ?_)
          · refine k_iload hq dX12_sibling_101 7 rfl ?_
            refine k_bipush hq dX12_sibling_103 (v := 41) rfl ?_
            refine k_iremK hq (by decide) dX12_sibling_105 ?_
            refine k_i2l hq dX12_sibling_106 ?_
            refine k_goto hq (tgt := 134) dX12_sibling_107 (by decide) ?_
            exact k_lret hq dX12_sibling_134
          · refine k_iload hq dX12_sibling_110 5 rfl ?_
            refine k_iconst hq dX12_sibling_112 (v := 2) rfl ?_
            refine k_icmp_ne hq (tgt := 127) dX12_sibling_113 (by decide) (fun _ => ?_) (fun _ => ?_)
            · refine k_aload_n hq dX12_sibling_116 1 rfl ?_
              refine k_gr hq (C := RX12) (T := TX12) 11 7 rfl (by decide) (lay_X12 7 (by decide)) tw_934 dX12_sibling_117 fun v8 => ?_
              refine k_iload hq dX12_sibling_120 0 rfl ?_
              refine k_iald hq dX12_sibling_122 fun v9 => ?_
              refine k_i2l hq dX12_sibling_123 ?_
              refine k_goto hq (tgt := 134) dX12_sibling_124 (by decide) ?_
              exact k_lret hq dX12_sibling_134
            · refine k_aload_n hq dX12_sibling_127 1 rfl ?_
              refine k_gr hq (C := RX12) (T := TX12) 11 6 rfl (by decide) (lay_X12 6 (by decide)) tw_933 dX12_sibling_128 fun v6 => ?_
              refine k_iload hq dX12_sibling_131 0 rfl ?_
              refine k_lald hq dX12_sibling_133 fun v7 => ?_
              exact k_lret hq dX12_sibling_134
      · refine k_iinc hq dX12_sibling_135 6 rfl (v := l5 + 1) rfl (by decide) (ls' := [(5, .int (l5 + 1)), (7, .int v1), (0, .ref l0), (1, .int l1), (2, .int l2), (3, .int l3), (4, .int l4), (6, .int l6)]) rfl ?_
        exact k_sub [2, 3, 4, 5, 6, 0, 7] rfl (P_X12_sibling_138 hq N k43 hk43 l0 l1 l2 l3 l4 (l5 + 1) l6 h5)
theorem Q_X12_sibling_43 {q : eT} {r0 : Int64} {h0 : eH} (hq : e_B q yX12_sibling.cls cX12_sibling 8 2 46 (some .long) yX12_sibling.name) (N : Nat) (l0 : Nat) (l1 : Int32) (l2 : Int32) (l3 : Int32) (l4 : Int32) (l5 : Int32) (l6 : Int32) (h : eH) : e_K eL q r0 h0 43 [(0, .ref l0), (1, .int l1), (2, .int l2), (3, .int l3), (4, .int l4), (5, .int l5), (6, .int l6)] [] h (L_X12_sibling_43 N l0 l1 l2 l3 l4 l5 l6 h) :=
  k_loop (mk := (fun s => [(0, .ref s.1), (1, .int s.2.1), (2, .int s.2.2.1), (3, .int s.2.2.2.1), (4, .int s.2.2.2.2.1), (5, .int s.2.2.2.2.2.1), (6, .int s.2.2.2.2.2.2.1)])) (hp := fun s => s.2.2.2.2.2.2.2) (fun k hk s => P_X12_sibling_43b hq N (fun l0 l1 l2 l3 l4 l5 l6 h => k (l0, l1, l2, l3, l4, l5, l6, h)) (fun l0 l1 l2 l3 l4 l5 l6 h => hk (l0, l1, l2, l3, l4, l5, l6, h)) s.1 s.2.1 s.2.2.1 s.2.2.2.1 s.2.2.2.2.1 s.2.2.2.2.2.1 s.2.2.2.2.2.2.1 s.2.2.2.2.2.2.2) N (l0, l1, l2, l3, l4, l5, l6, h)
set_option maxRecDepth 100000 in
set_option maxHeartbeats 4000000 in
theorem P_X12_sibling_0 {q : eT} {r0 : Int64} {h0 : eH} (hq : e_B q yX12_sibling.cls cX12_sibling 8 2 46 (some .long) yX12_sibling.name) (N : Nat) (l0 : Nat) (l1 : Int32) (l2 : Int32) (l3 : Int32) (l4 : Int32) (h : eH) : e_K eL q r0 h0 0 [(0, .ref l0), (1, .int l1), (2, .int l2), (3, .int l3), (4, .int l4)] [] h (F_X12_sibling N l0 l1 l2 l3 l4 h) := by
  unfold F_X12_sibling
  refine k_aload_n hq dX12_sibling_0 0 rfl ?_
  refine k_iload_n hq dX12_sibling_1 1 rfl ?_
  refine k_callV hq (na := 1) (As := [.int l1]) (st := []) 11 (C := RX12) (T := TX12) rfl (con_X12_isSite _ _ _ _ l0 l1) tw_1105 tw_59 tw_1102 tw_1104 tw_28 ⟨by decide, by decide, by decide +kernel⟩ rfl (by decide) rfl (Nat.le_of_ble_eq_true rfl) dX12_sibling_2 fun v1 h2 => ?_
  refine k_if_eq hq (tgt := 33) dX12_sibling_5 (by decide) (fun _ => ?_) (fun _ => ?_)
  · refine k_ldc2 hq (v := (-1)) tw_1082 dX12_sibling_33 ?_
    exact k_lret hq dX12_sibling_36
  · refine k_aload_n hq dX12_sibling_8 0 rfl ?_
    refine k_iload_n hq dX12_sibling_9 2 rfl ?_
    refine k_callV hq (na := 1) (As := [.int l2]) (st := []) 11 (C := RX12) (T := TX12) rfl (con_X12_isKey _ _ _ _ l0 l2) tw_1109 tw_59 tw_1106 tw_1108 tw_29 ⟨by decide, by decide, by decide +kernel⟩ rfl (by decide) rfl (Nat.le_of_ble_eq_true rfl) dX12_sibling_10 fun v3 h4 => ?_
    refine k_if_eq hq (tgt := 33) dX12_sibling_13 (by decide) (fun _ => ?_) (fun _ => ?_)
    · refine k_ldc2 hq (v := (-1)) tw_1082 dX12_sibling_33 ?_
      exact k_lret hq dX12_sibling_36
    · refine k_iload_n hq dX12_sibling_16 3 rfl ?_
      refine k_if_lt hq (tgt := 33) dX12_sibling_17 (by decide) (fun _ => ?_) (fun _ => ?_)
      · refine k_ldc2 hq (v := (-1)) tw_1082 dX12_sibling_33 ?_
        exact k_lret hq dX12_sibling_36
      · refine k_iload hq dX12_sibling_20 4 rfl ?_
        refine k_i2l hq dX12_sibling_22 ?_
        refine k_lconst hq dX12_sibling_23 (v := 0) rfl ?_
        refine k_ldc2 hq (v := 3) tw_1101 dX12_sibling_24 ?_
        refine k_callS hq (na := 3) (As := [.long (l4.toInt64), .long 0, .long 3]) (st := []) (con_X12_in _ _ _ _ (l4.toInt64) 0 3) tw_1059 tw_59 tw_1057 tw_1058 ⟨by decide, by decide, by decide +kernel⟩ rfl (by decide) rfl (Nat.le_of_ble_eq_true rfl) dX12_sibling_27 fun v5 h6 => ?_
        refine k_if_ne hq (tgt := 37) dX12_sibling_30 (by decide) (fun _ => ?_) (fun _ => ?_)
        · refine k_ldc2 hq (v := (-1)) tw_1082 dX12_sibling_33 ?_
          exact k_lret hq dX12_sibling_36
        · refine k_iconst hq dX12_sibling_37 (v := 0) rfl ?_
          refine k_istore hq dX12_sibling_38 (by decide) (ls' := [(5, .int 0), (0, .ref l0), (1, .int l1), (2, .int l2), (3, .int l3), (4, .int l4)]) rfl ?_
          refine k_iconst hq dX12_sibling_40 (v := 0) rfl ?_
          refine k_istore hq dX12_sibling_41 (by decide) (ls' := [(6, .int 0), (5, .int 0), (0, .ref l0), (1, .int l1), (2, .int l2), (3, .int l3), (4, .int l4)]) rfl ?_
          exact k_sub [2, 3, 4, 5, 6, 1, 0] rfl (Q_X12_sibling_43 hq N l0 l1 l2 l3 l4 0 0 h6)
theorem con_X12_sibling (l : Launch) (G : eG) (B0 n : Nat) (N : Nat) (l0 : Nat) (l1 : Int32) (l2 : Int32) (l3 : Int32) (l4 : Int32) : e_C eL l G B0 n yX12_sibling cX12_sibling 8 (some .long) 2 46 [.ref l0, .int l1, .int l2, .int l3, .int l4] (F_X12_sibling N l0 l1 l2 l3 l4) := by
  refine e_mk (by decide) (Nat.le_of_ble_eq_true rfl) fun q r0 h0 h hq e1 e2 e3 e4 => ?_
  subst e1; subst e2; subst e3; subst e4
  exact P_X12_sibling_0 hq N l0 l1 l2 l3 l4 h
set_option maxRecDepth 100000 in
set_option maxHeartbeats 4000000 in
theorem P_X12_context_52 {q : eT} {r0 : Int32} {h0 : eH} (hq : e_B q yX12_context.cls cX12_context 3 2 46 (some .int) yX12_context.name) (l0 : Nat) (l1 : Int32) (h : eH) : e_K eI q r0 h0 52 [(0, .ref l0), (1, .int l1)] [] h (F_X12_context_52 l0 l1 h) := by
  unfold F_X12_context_52
  refine k_aload_n hq dX12_context_52 0 rfl ?_
  refine k_gr hq (C := RX12) (T := TX12) 11 18 rfl (by decide) (lay_X12 18 (by decide)) tw_945 dX12_context_53 fun v1 => ?_
  refine k_iload_n hq dX12_context_56 1 rfl ?_
  refine k_iald hq dX12_context_57 fun v2 => ?_
  exact k_iret hq dX12_context_58
set_option maxRecDepth 100000 in
set_option maxHeartbeats 4000000 in
theorem P_X12_context_37 {q : eT} {r0 : Int32} {h0 : eH} (hq : e_B q yX12_context.cls cX12_context 3 2 46 (some .int) yX12_context.name) (l0 : Nat) (l1 : Int32) (l2 : Int32) (h : eH) : e_K eI q r0 h0 37 [(0, .ref l0), (1, .int l1), (2, .int l2)] [] h (F_X12_context_37 l0 l1 l2 h) := by
  unfold F_X12_context_37
  refine k_aload_n hq dX12_context_37 0 rfl ?_
  refine k_gr hq (C := RX12) (T := TX12) 11 18 rfl (by decide) (lay_X12 18 (by decide)) tw_945 dX12_context_38 fun v1 => ?_
  refine k_iload_n hq dX12_context_41 1 rfl ?_
  refine k_iald hq dX12_context_42 fun v2 => ?_
  refine k_bipush hq dX12_context_43 (v := (-9)) rfl ?_
  refine k_icmp_eq hq (tgt := 52) dX12_context_45 (by decide) (fun _ => ?_) (fun _ => ?_)
  · exact k_sub [0, 1] rfl (P_X12_context_52 hq l0 l1 h)
  · refine k_iload_n hq dX12_context_48 2 rfl ?_
    refine k_if_ge hq (tgt := 59) dX12_context_49 (by decide) (fun _ => ?_) (fun _ => ?_)
    · refine k_iload_n hq dX12_context_59 2 rfl ?_
      refine k_iconst hq dX12_context_60 (v := 4) rfl ?_
      refine k_icmp_ge hq (tgt := 77) dX12_context_61 (by decide) (fun _ => ?_) (fun _ => ?_)
      · refine k_aload_n hq dX12_context_77 0 rfl ?_
        refine k_gr hq (C := RX12) (T := TX12) 11 20 rfl (by decide) (lay_X12 20 (by decide)) tw_947 dX12_context_78 fun v3 => ?_
        refine k_iconst hq dX12_context_81 (v := 4) rfl ?_
        refine k_iload_n hq dX12_context_82 1 rfl ?_
        refine k_imul hq dX12_context_83 ?_
        refine k_iload_n hq dX12_context_84 2 rfl ?_
        refine k_iadd hq dX12_context_85 ?_
        refine k_iconst hq dX12_context_86 (v := 4) rfl ?_
        refine k_isub hq dX12_context_87 ?_
        refine k_iald hq dX12_context_88 fun v4 => ?_
        exact k_iret hq dX12_context_89
      · refine k_aload_n hq dX12_context_64 0 rfl ?_
        refine k_gr hq (C := RX12) (T := TX12) 11 19 rfl (by decide) (lay_X12 19 (by decide)) tw_946 dX12_context_65 fun v5 => ?_
        refine k_iconst hq dX12_context_68 (v := 4) rfl ?_
        refine k_iload_n hq dX12_context_69 1 rfl ?_
        refine k_imul hq dX12_context_70 ?_
        refine k_iload_n hq dX12_context_71 2 rfl ?_
        refine k_iadd hq dX12_context_72 ?_
        refine k_iald hq dX12_context_73 fun v6 => ?_
        refine k_goto hq (tgt := 89) dX12_context_74 (by decide) ?_
        exact k_iret hq dX12_context_89
    · exact k_sub [0, 1] rfl (P_X12_context_52 hq l0 l1 h)
set_option maxRecDepth 100000 in
set_option maxHeartbeats 4000000 in
theorem P_X12_context_0 {q : eT} {r0 : Int32} {h0 : eH} (hq : e_B q yX12_context.cls cX12_context 3 2 46 (some .int) yX12_context.name) (l0 : Nat) (l1 : Int32) (l2 : Int32) (h : eH) : e_K eI q r0 h0 0 [(0, .ref l0), (1, .int l1), (2, .int l2)] [] h (F_X12_context l0 l1 l2 h) := by
  unfold F_X12_context
  refine k_iload_n hq dX12_context_0 1 rfl ?_
  refine k_callS hq (na := 1) (As := [.int l1]) (st := []) (con_X12_isClient _ _ _ _ l1) tw_1100 tw_59 tw_1098 tw_1099 ⟨by decide, by decide, by decide +kernel⟩ rfl (by decide) rfl (Nat.le_of_ble_eq_true rfl) dX12_context_1 fun v1 h2 => ?_
  refine k_if_eq hq (tgt := 35) dX12_context_4 (by decide) (fun _ => ?_) (fun _ => ?_)
  · refine k_iconst hq dX12_context_35 (v := (-1)) rfl ?_
    exact k_iret hq dX12_context_36
  · refine k_iload_n hq dX12_context_7 2 rfl ?_
    refine k_i2l hq dX12_context_8 ?_
    refine k_ldc2 hq (v := (-1)) tw_1082 dX12_context_9 ?_
    refine k_ldc2 hq (v := 7) tw_1189 dX12_context_12 ?_
    refine k_callS hq (na := 3) (As := [.long (l2.toInt64), .long (-1), .long 7]) (st := []) (con_X12_in _ _ _ _ (l2.toInt64) (-1) 7) tw_1059 tw_59 tw_1057 tw_1058 ⟨by decide, by decide, by decide +kernel⟩ rfl (by decide) rfl (Nat.le_of_ble_eq_true rfl) dX12_context_15 fun v3 h4 => ?_
    refine k_if_eq hq (tgt := 35) dX12_context_18 (by decide) (fun _ => ?_) (fun _ => ?_)
    · refine k_iconst hq dX12_context_35 (v := (-1)) rfl ?_
      exact k_iret hq dX12_context_36
    · refine k_iload_n hq dX12_context_21 2 rfl ?_
      refine k_if_lt hq (tgt := 37) dX12_context_22 (by decide) (fun _ => ?_) (fun _ => ?_)
      · exact k_sub [0, 1, 2] rfl (P_X12_context_37 hq l0 l1 l2 h4)
      · refine k_aload_n hq dX12_context_25 0 rfl ?_
        refine k_iload_n hq dX12_context_26 2 rfl ?_
        refine k_iconst hq dX12_context_27 (v := 4) rfl ?_
        refine k_iremK hq (by decide) dX12_context_28 ?_
        refine k_callV hq (na := 1) (As := [.int (l2 - l2 / 4 * 4)]) (st := []) 11 (C := RX12) (T := TX12) rfl (con_X12_isSite _ _ _ _ l0 (l2 - l2 / 4 * 4)) tw_1105 tw_59 tw_1102 tw_1104 tw_28 ⟨by decide, by decide, by decide +kernel⟩ rfl (by decide) rfl (Nat.le_of_ble_eq_true rfl) dX12_context_29 fun v5 h6 => ?_
        refine k_if_ne hq (tgt := 37) dX12_context_32 (by decide) (fun _ => ?_) (fun _ => ?_)
        · refine k_iconst hq dX12_context_35 (v := (-1)) rfl ?_
          exact k_iret hq dX12_context_36
        · exact k_sub [0, 1, 2] rfl (P_X12_context_37 hq l0 l1 l2 h6)
theorem con_X12_context (l : Launch) (G : eG) (B0 n : Nat) (l0 : Nat) (l1 : Int32) (l2 : Int32) : e_C eI l G B0 n yX12_context cX12_context 3 (some .int) 2 46 [.ref l0, .int l1, .int l2] (F_X12_context l0 l1 l2) := by
  refine e_mk (by decide) (Nat.le_of_ble_eq_true rfl) fun q r0 h0 h hq e1 e2 e3 e4 => ?_
  subst e1; subst e2; subst e3; subst e4
  exact P_X12_context_0 hq l0 l1 l2 h
set_option maxRecDepth 100000 in
set_option maxHeartbeats 4000000 in
theorem P_X12_bit_0 {q : eT} {r0 : Int32} {h0 : eH} (hq : e_B q yX12_bit.cls cX12_bit 1 0 0 (some .int) yX12_bit.name) (l0 : Int32) (h : eH) : e_K eI q r0 h0 0 [(0, .int l0)] [] h (F_X12_bit l0 h) := by
  unfold F_X12_bit
  refine k_iload_n hq dX12_bit_0 0 rfl ?_
  refine k_if_eq hq (tgt := 8) dX12_bit_1 (by decide) (fun _ => ?_) (fun _ => ?_)
  · refine k_iconst hq dX12_bit_8 (v := 0) rfl ?_
    exact k_iret hq dX12_bit_9
  · refine k_iconst hq dX12_bit_4 (v := 1) rfl ?_
    refine k_goto hq (tgt := 9) dX12_bit_5 (by decide) ?_
    exact k_iret hq dX12_bit_9
theorem con_X12_bit (l : Launch) (G : eG) (B0 n : Nat) (l0 : Int32) : e_C eI l G B0 n yX12_bit cX12_bit 1 (some .int) 0 0 [.int l0] (F_X12_bit l0) := by
  refine e_mk (by decide) (Nat.le_of_ble_eq_true rfl) fun q r0 h0 h hq e1 e2 e3 e4 => ?_
  subst e1; subst e2; subst e3; subst e4
  exact P_X12_bit_0 hq l0 h
set_option maxRecDepth 100000 in
set_option maxHeartbeats 4000000 in
theorem P_X12_isLost_0 {q : eT} {r0 : Int32} {h0 : eH} (hq : e_B q yX12_isLost.cls cX12_isLost 2 0 0 (some .boolean) yX12_isLost.name) (l0 : Nat) (l1 : Int32) (h : eH) : e_K eI q r0 h0 0 [(0, .ref l0), (1, .int l1)] [] h (F_X12_isLost l0 l1 h) := by
  unfold F_X12_isLost
  refine k_aload_n hq dX12_isLost_0 0 rfl ?_
  refine k_gr hq (C := RX12) (T := TX12) 11 14 rfl (by decide) (lay_X12 14 (by decide)) tw_941 dX12_isLost_1 fun v1 => ?_
  refine k_iload_n hq dX12_isLost_4 1 rfl ?_
  refine k_iald hq dX12_isLost_5 fun v2 => ?_
  refine k_if_ne hq (tgt := 22) dX12_isLost_6 (by decide) (fun _ => ?_) (fun _ => ?_)
  · refine k_aload_n hq dX12_isLost_9 0 rfl ?_
    refine k_gr hq (C := RX12) (T := TX12) 11 10 rfl (by decide) (lay_X12 10 (by decide)) tw_937 dX12_isLost_10 fun v3 => ?_
    refine k_iload_n hq dX12_isLost_13 1 rfl ?_
    refine k_zald hq dX12_isLost_14 fun v4 => ?_
    refine k_if_ne hq (tgt := 22) dX12_isLost_15 (by decide) (fun _ => ?_) (fun _ => ?_)
    · refine k_iconst hq dX12_isLost_18 (v := 1) rfl ?_
      refine k_goto hq (tgt := 23) dX12_isLost_19 (by decide) ?_
      exact k_zret hq dX12_isLost_23
    · refine k_iconst hq dX12_isLost_22 (v := 0) rfl ?_
      exact k_zret hq dX12_isLost_23
  · refine k_iconst hq dX12_isLost_22 (v := 0) rfl ?_
    exact k_zret hq dX12_isLost_23
theorem con_X12_isLost (l : Launch) (G : eG) (B0 n : Nat) (l0 : Nat) (l1 : Int32) : e_C eI l G B0 n yX12_isLost cX12_isLost 2 (some .boolean) 0 0 [.ref l0, .int l1] (F_X12_isLost l0 l1) := by
  refine e_mk (by decide) (Nat.le_of_ble_eq_true rfl) fun q r0 h0 h hq e1 e2 e3 e4 => ?_
  subst e1; subst e2; subst e3; subst e4
  exact P_X12_isLost_0 hq l0 l1 h
set_option maxRecDepth 100000 in
set_option maxHeartbeats 4000000 in
theorem P_X12_write_0 {q : eT} {r0 : Int64} {h0 : eH} (hq : e_B q yX12_write.cls cX12_write 6 3 69 (some .long) yX12_write.name) (l0 : Nat) (l1 : Int32) (l2 : Int32) (l3 : Int32) (l4 : Int32) (h : eH) : e_K eL q r0 h0 0 [(0, .ref l0), (1, .int l1), (2, .int l2), (3, .int l3), (4, .int l4)] [] h (F_X12_write l0 l1 l2 l3 l4 h) := by
  unfold F_X12_write
  refine k_aload_n hq dX12_write_0 0 rfl ?_
  refine k_iload_n hq dX12_write_1 1 rfl ?_
  refine k_iload_n hq dX12_write_2 2 rfl ?_
  refine k_iload_n hq dX12_write_3 3 rfl ?_
  refine k_callV hq (na := 3) (As := [.int l1, .int l2, .int l3]) (st := []) 11 (C := RX12) (T := TX12) rfl (con_X12_isWrite _ _ _ _ l0 l1 l2 l3) tw_1197 tw_59 tw_1194 tw_1196 tw_38 ⟨by decide, by decide, by decide +kernel⟩ rfl (by decide) rfl (Nat.le_of_ble_eq_true rfl) dX12_write_4 fun v1 h2 => ?_
  refine k_if_eq hq (tgt := 23) dX12_write_7 (by decide) (fun _ => ?_) (fun _ => ?_)
  · refine k_ldc2 hq (v := (-1)) tw_1082 dX12_write_23 ?_
    exact k_lret hq dX12_write_26
  · refine k_iload hq dX12_write_10 4 rfl ?_
    refine k_i2l hq dX12_write_12 ?_
    refine k_lconst hq dX12_write_13 (v := 0) rfl ?_
    refine k_ldc2 hq (v := 7) tw_1189 dX12_write_14 ?_
    refine k_callS hq (na := 3) (As := [.long (l4.toInt64), .long 0, .long 7]) (st := []) (con_X12_in _ _ _ _ (l4.toInt64) 0 7) tw_1059 tw_59 tw_1057 tw_1058 ⟨by decide, by decide, by decide +kernel⟩ rfl (by decide) rfl (Nat.le_of_ble_eq_true rfl) dX12_write_17 fun v3 h4 => ?_
    refine k_if_ne hq (tgt := 27) dX12_write_20 (by decide) (fun _ => ?_) (fun _ => ?_)
    · refine k_ldc2 hq (v := (-1)) tw_1082 dX12_write_23 ?_
      exact k_lret hq dX12_write_26
    · refine k_iload_n hq dX12_write_27 1 rfl ?_
      refine k_iload_n hq dX12_write_28 2 rfl ?_
      refine k_iload_n hq dX12_write_29 3 rfl ?_
      refine k_callS hq (na := 3) (As := [.int l1, .int l2, .int l3]) (st := []) (con_X12_at _ _ _ _ l1 l2 l3) tw_1115 tw_59 tw_1113 tw_1114 ⟨by decide, by decide, by decide +kernel⟩ rfl (by decide) rfl (Nat.le_of_ble_eq_true rfl) dX12_write_30 fun v5 h6 => ?_
      refine k_istore hq dX12_write_33 (by decide) (ls' := [(5, .int v5), (0, .ref l0), (1, .int l1), (2, .int l2), (3, .int l3), (4, .int l4)]) rfl ?_
      refine k_iload hq dX12_write_35 5 rfl ?_
      refine k_ite (fun e0 => ?_) (fun n0 => ?_)
      · refine k_tableIn hq (tgt := 80) dX12_write_37 (by rw [e0]; decide) (by rw [e0]; decide) (off := 43) (by rw [e0]; rfl) (by decide) ?_
        refine k_aload_n hq dX12_write_80 1 rfl ?_
        refine k_gr hq (C := RX12) (T := TX12) 11 6 rfl (by decide) (lay_X12 6 (by decide)) tw_933 dX12_write_81 fun v7 => ?_
        refine k_iload hq dX12_write_84 0 rfl ?_
        refine k_lald hq dX12_write_86 fun v8 => ?_
        exact k_lret hq dX12_write_87
      refine k_ite (fun e0 => ?_) (fun n1 => ?_)
      · refine k_tableIn hq (tgt := 88) dX12_write_37 (by rw [e0]; decide) (by rw [e0]; decide) (off := 51) (by rw [e0]; rfl) (by decide) ?_
        refine k_aload_n hq dX12_write_88 1 rfl ?_
        refine k_gr hq (C := RX12) (T := TX12) 11 7 rfl (by decide) (lay_X12 7 (by decide)) tw_934 dX12_write_89 fun v9 => ?_
        refine k_iload hq dX12_write_92 0 rfl ?_
        refine k_iald hq dX12_write_94 fun v10 => ?_
        refine k_i2l hq dX12_write_95 ?_
        exact k_lret hq dX12_write_96
      refine k_ite (fun e0 => ?_) (fun n2 => ?_)
      · refine k_tableIn hq (tgt := 97) dX12_write_37 (by rw [e0]; decide) (by rw [e0]; decide) (off := 60) (by rw [e0]; rfl) (by decide) ?_
        refine k_aload_n hq dX12_write_97 1 rfl ?_
        refine k_gr hq (C := RX12) (T := TX12) 11 10 rfl (by decide) (lay_X12 10 (by decide)) tw_937 dX12_write_98 fun v11 => ?_
        refine k_iload hq dX12_write_101 0 rfl ?_
        refine k_zald hq dX12_write_103 fun v12 => ?_
        refine k_callS hq (na := 1) (As := [.int v12]) (st := []) (con_X12_bit _ _ _ _ v12) tw_1200 tw_59 tw_1198 tw_1199 ⟨by decide, by decide, by decide +kernel⟩ rfl (by decide) rfl (Nat.le_of_ble_eq_true rfl) dX12_write_104 fun v13 h14 => ?_
        refine k_i2l hq dX12_write_107 ?_
        exact k_lret hq dX12_write_108
      refine k_ite (fun e0 => ?_) (fun n3 => ?_)
      · refine k_tableIn hq (tgt := 109) dX12_write_37 (by rw [e0]; decide) (by rw [e0]; decide) (off := 72) (by rw [e0]; rfl) (by decide) ?_
        refine k_aload_n hq dX12_write_109 1 rfl ?_
        refine k_gr hq (C := RX12) (T := TX12) 11 11 rfl (by decide) (lay_X12 11 (by decide)) tw_938 dX12_write_110 fun v15 => ?_
        refine k_iload hq dX12_write_113 0 rfl ?_
        refine k_zald hq dX12_write_115 fun v16 => ?_
        refine k_callS hq (na := 1) (As := [.int v16]) (st := []) (con_X12_bit _ _ _ _ v16) tw_1200 tw_59 tw_1198 tw_1199 ⟨by decide, by decide, by decide +kernel⟩ rfl (by decide) rfl (Nat.le_of_ble_eq_true rfl) dX12_write_116 fun v17 h18 => ?_
        refine k_i2l hq dX12_write_119 ?_
        exact k_lret hq dX12_write_120
      refine k_ite (fun e0 => ?_) (fun n4 => ?_)
      · refine k_tableIn hq (tgt := 121) dX12_write_37 (by rw [e0]; decide) (by rw [e0]; decide) (off := 84) (by rw [e0]; rfl) (by decide) ?_
        refine k_aload_n hq dX12_write_121 1 rfl ?_
        refine k_gr hq (C := RX12) (T := TX12) 11 12 rfl (by decide) (lay_X12 12 (by decide)) tw_939 dX12_write_122 fun v19 => ?_
        refine k_iload hq dX12_write_125 0 rfl ?_
        refine k_zald hq dX12_write_127 fun v20 => ?_
        refine k_callS hq (na := 1) (As := [.int v20]) (st := []) (con_X12_bit _ _ _ _ v20) tw_1200 tw_59 tw_1198 tw_1199 ⟨by decide, by decide, by decide +kernel⟩ rfl (by decide) rfl (Nat.le_of_ble_eq_true rfl) dX12_write_128 fun v21 h22 => ?_
        refine k_i2l hq dX12_write_131 ?_
        exact k_lret hq dX12_write_132
      refine k_ite (fun e0 => ?_) (fun n5 => ?_)
      · refine k_tableIn hq (tgt := 133) dX12_write_37 (by rw [e0]; decide) (by rw [e0]; decide) (off := 96) (by rw [e0]; rfl) (by decide) ?_
        refine k_aload_n hq dX12_write_133 1 rfl ?_
        refine k_gr hq (C := RX12) (T := TX12) 11 13 rfl (by decide) (lay_X12 13 (by decide)) tw_940 dX12_write_134 fun v23 => ?_
        refine k_iload hq dX12_write_137 0 rfl ?_
        refine k_zald hq dX12_write_139 fun v24 => ?_
        refine k_callS hq (na := 1) (As := [.int v24]) (st := []) (con_X12_bit _ _ _ _ v24) tw_1200 tw_59 tw_1198 tw_1199 ⟨by decide, by decide, by decide +kernel⟩ rfl (by decide) rfl (Nat.le_of_ble_eq_true rfl) dX12_write_140 fun v25 h26 => ?_
        refine k_i2l hq dX12_write_143 ?_
        exact k_lret hq dX12_write_144
      refine k_ite (fun e0 => ?_) (fun n6 => ?_)
      · refine k_tableIn hq (tgt := 145) dX12_write_37 (by rw [e0]; decide) (by rw [e0]; decide) (off := 108) (by rw [e0]; rfl) (by decide) ?_
        refine k_aload_n hq dX12_write_145 1 rfl ?_
        refine k_gr hq (C := RX12) (T := TX12) 11 14 rfl (by decide) (lay_X12 14 (by decide)) tw_941 dX12_write_146 fun v27 => ?_
        refine k_iload hq dX12_write_149 0 rfl ?_
        refine k_iald hq dX12_write_151 fun v28 => ?_
        refine k_i2l hq dX12_write_152 ?_
        exact k_lret hq dX12_write_153
      refine k_tableOut hq (tgt := 154) dX12_write_37 (by have m0 := e_ne n0 (show (0 : Int32).toInt = 0 from rfl); have m1 := e_ne n1 (show (1 : Int32).toInt = 1 from rfl); have m2 := e_ne n2 (show (2 : Int32).toInt = 2 from rfl); have m3 := e_ne n3 (show (3 : Int32).toInt = 3 from rfl); have m4 := e_ne n4 (show (4 : Int32).toInt = 4 from rfl); have m5 := e_ne n5 (show (5 : Int32).toInt = 5 from rfl); have m6 := e_ne n6 (show (6 : Int32).toInt = 6 from rfl); omega) (by decide) ?_
      refine k_aload_n hq dX12_write_154 1 rfl ?_
      refine k_iload hq dX12_write_155 0 rfl ?_
      refine k_callV hq (na := 1) (As := [.int v5]) (st := []) 11 (C := RX12) (T := TX12) rfl (con_X12_isLost _ _ _ _ l0 v5) tw_1204 tw_59 tw_1201 tw_1203 tw_39 ⟨by decide, by decide, by decide +kernel⟩ rfl (by decide) rfl (Nat.le_of_ble_eq_true rfl) dX12_write_157 fun v29 h30 => ?_
      refine k_callS hq (na := 1) (As := [.int v29]) (st := []) (con_X12_bit _ _ _ _ v29) tw_1200 tw_59 tw_1198 tw_1199 ⟨by decide, by decide, by decide +kernel⟩ rfl (by decide) rfl (Nat.le_of_ble_eq_true rfl) dX12_write_160 fun v31 h32 => ?_
      refine k_i2l hq dX12_write_163 ?_
      exact k_lret hq dX12_write_164
theorem con_X12_write (l : Launch) (G : eG) (B0 n : Nat) (l0 : Nat) (l1 : Int32) (l2 : Int32) (l3 : Int32) (l4 : Int32) : e_C eL l G B0 n yX12_write cX12_write 6 (some .long) 3 69 [.ref l0, .int l1, .int l2, .int l3, .int l4] (F_X12_write l0 l1 l2 l3 l4) := by
  refine e_mk (by decide) (Nat.le_of_ble_eq_true rfl) fun q r0 h0 h hq e1 e2 e3 e4 => ?_
  subst e1; subst e2; subst e3; subst e4
  exact P_X12_write_0 hq l0 l1 l2 l3 l4 h
set_option maxRecDepth 100000 in
set_option maxHeartbeats 4000000 in
theorem P_X12_ahead_80 {q : eT} {r0 : Int32} {h0 : eH} (hq : e_B q yX12_ahead.cls cX12_ahead 8 3 69 (some .int) yX12_ahead.name) (s0 : Int32) (h : eH) : e_K eI q r0 h0 80 [] [.int s0] h (F_X12_ahead_80 s0 h) := by
  unfold F_X12_ahead_80
  refine k_callS hq (na := 1) (As := [.int s0]) (st := []) (con_X12_bit _ _ _ _ s0) tw_1200 tw_59 tw_1198 tw_1199 ⟨by decide, by decide, by decide +kernel⟩ rfl (by decide) rfl (Nat.le_of_ble_eq_true rfl) dX12_ahead_80 fun v1 h2 => ?_
  exact k_iret hq dX12_ahead_83
set_option maxRecDepth 100000 in
set_option maxHeartbeats 4000000 in
theorem P_X12_ahead_71 {q : eT} {r0 : Int32} {h0 : eH} (hq : e_B q yX12_ahead.cls cX12_ahead 8 3 69 (some .int) yX12_ahead.name) (l3 : Int32) (s0 : Int32) (h : eH) : e_K eI q r0 h0 71 [(3, .int l3)] [.int s0] h (F_X12_ahead_71 l3 s0 h) := by
  unfold F_X12_ahead_71
  refine k_iload_n hq dX12_ahead_71 0 rfl ?_
  refine k_icmp_lt hq (tgt := 79) dX12_ahead_72 (by decide) (fun _ => ?_) (fun _ => ?_)
  · refine k_iconst hq dX12_ahead_79 (v := 0) rfl ?_
    exact k_sub [] rfl (P_X12_ahead_80 hq 0 h)
  · refine k_iconst hq dX12_ahead_75 (v := 1) rfl ?_
    refine k_goto hq (tgt := 80) dX12_ahead_76 (by decide) ?_
    exact k_sub [] rfl (P_X12_ahead_80 hq 1 h)
set_option maxRecDepth 100000 in
set_option maxHeartbeats 4000000 in
theorem P_X12_ahead_0 {q : eT} {r0 : Int32} {h0 : eH} (hq : e_B q yX12_ahead.cls cX12_ahead 8 3 69 (some .int) yX12_ahead.name) (l0 : Nat) (l1 : Int32) (l2 : Int32) (l3 : Int32) (l4 : Int32) (l5 : Int32) (l6 : Int32) (h : eH) : e_K eI q r0 h0 0 [(0, .ref l0), (1, .int l1), (2, .int l2), (3, .int l3), (4, .int l4), (5, .int l5), (6, .int l6)] [] h (F_X12_ahead l0 l1 l2 l3 l4 l5 l6 h) := by
  unfold F_X12_ahead
  refine k_aload_n hq dX12_ahead_0 0 rfl ?_
  refine k_iload_n hq dX12_ahead_1 1 rfl ?_
  refine k_iload_n hq dX12_ahead_2 2 rfl ?_
  refine k_iload_n hq dX12_ahead_3 3 rfl ?_
  refine k_callV hq (na := 3) (As := [.int l1, .int l2, .int l3]) (st := []) 11 (C := RX12) (T := TX12) rfl (con_X12_isWrite _ _ _ _ l0 l1 l2 l3) tw_1197 tw_59 tw_1194 tw_1196 tw_38 ⟨by decide, by decide, by decide +kernel⟩ rfl (by decide) rfl (Nat.le_of_ble_eq_true rfl) dX12_ahead_4 fun v1 h2 => ?_
  refine k_if_eq hq (tgt := 33) dX12_ahead_7 (by decide) (fun _ => ?_) (fun _ => ?_)
  · refine k_iconst hq dX12_ahead_33 (v := (-1)) rfl ?_
    exact k_iret hq dX12_ahead_34
  · refine k_aload_n hq dX12_ahead_10 0 rfl ?_
    refine k_iload_n hq dX12_ahead_11 1 rfl ?_
    refine k_iload hq dX12_ahead_12 4 rfl ?_
    refine k_iload hq dX12_ahead_14 5 rfl ?_
    refine k_callV hq (na := 3) (As := [.int l1, .int l4, .int l5]) (st := []) 11 (C := RX12) (T := TX12) rfl (con_X12_isWrite _ _ _ _ l0 l1 l4 l5) tw_1197 tw_59 tw_1194 tw_1196 tw_38 ⟨by decide, by decide, by decide +kernel⟩ rfl (by decide) rfl (Nat.le_of_ble_eq_true rfl) dX12_ahead_16 fun v3 h4 => ?_
    refine k_if_eq hq (tgt := 33) dX12_ahead_19 (by decide) (fun _ => ?_) (fun _ => ?_)
    · refine k_iconst hq dX12_ahead_33 (v := (-1)) rfl ?_
      exact k_iret hq dX12_ahead_34
    · refine k_iload hq dX12_ahead_22 6 rfl ?_
      refine k_i2l hq dX12_ahead_24 ?_
      refine k_lconst hq dX12_ahead_25 (v := 0) rfl ?_
      refine k_lconst hq dX12_ahead_26 (v := 1) rfl ?_
      refine k_callS hq (na := 3) (As := [.long (l6.toInt64), .long 0, .long 1]) (st := []) (con_X12_in _ _ _ _ (l6.toInt64) 0 1) tw_1059 tw_59 tw_1057 tw_1058 ⟨by decide, by decide, by decide +kernel⟩ rfl (by decide) rfl (Nat.le_of_ble_eq_true rfl) dX12_ahead_27 fun v5 h6 => ?_
      refine k_if_ne hq (tgt := 35) dX12_ahead_30 (by decide) (fun _ => ?_) (fun _ => ?_)
      · refine k_iconst hq dX12_ahead_33 (v := (-1)) rfl ?_
        exact k_iret hq dX12_ahead_34
      · refine k_iconst hq dX12_ahead_35 (v := 4) rfl ?_
        refine k_iload_n hq dX12_ahead_36 1 rfl ?_
        refine k_iload hq dX12_ahead_37 4 rfl ?_
        refine k_iload hq dX12_ahead_39 5 rfl ?_
        refine k_callS hq (na := 3) (As := [.int l1, .int l4, .int l5]) (st := [.int 4]) (con_X12_at _ _ _ _ l1 l4 l5) tw_1115 tw_59 tw_1113 tw_1114 ⟨by decide, by decide, by decide +kernel⟩ rfl (by decide) rfl (Nat.le_of_ble_eq_true rfl) dX12_ahead_41 fun v7 h8 => ?_
        refine k_imul hq dX12_ahead_44 ?_
        refine k_iload_n hq dX12_ahead_45 2 rfl ?_
        refine k_iadd hq dX12_ahead_46 ?_
        refine k_let (mk := fun z => .int z :: []) fun v9 _ => ?_
        refine k_istore hq dX12_ahead_47 (by decide) (ls' := [(7, .int v9), (0, .ref l0), (1, .int l1), (2, .int l2), (3, .int l3), (4, .int l4), (5, .int l5), (6, .int l6)]) rfl ?_
        refine k_iload hq dX12_ahead_49 7 rfl ?_
        refine k_if_ne hq (tgt := 64) dX12_ahead_51 (by decide) (fun _ => ?_) (fun _ => ?_)
        · refine k_aload_n hq dX12_ahead_54 1 rfl ?_
          refine k_gr hq (C := RX12) (T := TX12) 11 8 rfl (by decide) (lay_X12 8 (by decide)) tw_935 dX12_ahead_55 fun v12 => ?_
          refine k_iload hq dX12_ahead_58 0 rfl ?_
          refine k_iald hq dX12_ahead_60 fun v13 => ?_
          refine k_goto hq (tgt := 71) dX12_ahead_61 (by decide) ?_
          exact k_sub [4] rfl (P_X12_ahead_71 hq l3 v13 h8)
        · refine k_aload_n hq dX12_ahead_64 1 rfl ?_
          refine k_gr hq (C := RX12) (T := TX12) 11 9 rfl (by decide) (lay_X12 9 (by decide)) tw_936 dX12_ahead_65 fun v10 => ?_
          refine k_iload hq dX12_ahead_68 0 rfl ?_
          refine k_iald hq dX12_ahead_70 fun v11 => ?_
          exact k_sub [4] rfl (P_X12_ahead_71 hq l3 v11 h8)
theorem con_X12_ahead (l : Launch) (G : eG) (B0 n : Nat) (l0 : Nat) (l1 : Int32) (l2 : Int32) (l3 : Int32) (l4 : Int32) (l5 : Int32) (l6 : Int32) : e_C eI l G B0 n yX12_ahead cX12_ahead 8 (some .int) 3 69 [.ref l0, .int l1, .int l2, .int l3, .int l4, .int l5, .int l6] (F_X12_ahead l0 l1 l2 l3 l4 l5 l6) := by
  refine e_mk (by decide) (Nat.le_of_ble_eq_true rfl) fun q r0 h0 h hq e1 e2 e3 e4 => ?_
  subst e1; subst e2; subst e3; subst e4
  exact P_X12_ahead_0 hq l0 l1 l2 l3 l4 l5 l6 h
set_option maxRecDepth 100000 in
set_option maxHeartbeats 4000000 in
theorem P_X12_areAlike_54 {q : eT} {r0 : Int32} {h0 : eH} (hq : e_B q yX12_areAlike.cls cX12_areAlike 6 1 21 (some .boolean) yX12_areAlike.name) (N : Nat) (k6 : Nat → Int32 → Int32 → Int32 → Int32 → Int32 → eH → Option (Int32 × eH)) (hk6 : ∀ (l0 : Nat) (l1 : Int32) (l2 : Int32) (l3 : Int32) (l4 : Int32) (l5 : Int32) h, e_K eI q r0 h0 6 [(0, .ref l0), (1, .int l1), (2, .int l2), (3, .int l3), (4, .int l4), (5, .int l5)] [] h (k6 l0 l1 l2 l3 l4 l5 h)) (l0 : Nat) (l1 : Int32) (l2 : Int32) (l3 : Int32) (l5 : Int32) (s0 : Int32) (h : eH) : e_K eI q r0 h0 54 [(0, .ref l0), (1, .int l1), (2, .int l2), (3, .int l3), (5, .int l5)] [.int s0] h (F_X12_areAlike_54 N k6 l0 l1 l2 l3 l5 s0 h) := by
  unfold F_X12_areAlike_54
  refine k_istore hq dX12_areAlike_54 (by decide) (ls' := [(4, .int s0), (0, .ref l0), (1, .int l1), (2, .int l2), (3, .int l3), (5, .int l5)]) rfl ?_
  refine k_iinc hq dX12_areAlike_56 5 rfl (v := l5 + 1) rfl (by decide) (ls' := [(5, .int (l5 + 1)), (4, .int s0), (0, .ref l0), (1, .int l1), (2, .int l2), (3, .int l3)]) rfl ?_
  refine k_goto hq (tgt := 6) dX12_areAlike_59 (by decide) ?_
  exact k_sub [2, 3, 4, 5, 1, 0] rfl (hk6 l0 l1 l2 l3 s0 (l5 + 1) h)
set_option maxRecDepth 100000 in
set_option maxHeartbeats 4000000 in
theorem P_X12_areAlike_53 {q : eT} {r0 : Int32} {h0 : eH} (hq : e_B q yX12_areAlike.cls cX12_areAlike 6 1 21 (some .boolean) yX12_areAlike.name) (N : Nat) (k6 : Nat → Int32 → Int32 → Int32 → Int32 → Int32 → eH → Option (Int32 × eH)) (hk6 : ∀ (l0 : Nat) (l1 : Int32) (l2 : Int32) (l3 : Int32) (l4 : Int32) (l5 : Int32) h, e_K eI q r0 h0 6 [(0, .ref l0), (1, .int l1), (2, .int l2), (3, .int l3), (4, .int l4), (5, .int l5)] [] h (k6 l0 l1 l2 l3 l4 l5 h)) (l0 : Nat) (l1 : Int32) (l2 : Int32) (l3 : Int32) (l5 : Int32) (h : eH) : e_K eI q r0 h0 53 [(0, .ref l0), (1, .int l1), (2, .int l2), (3, .int l3), (5, .int l5)] [] h (F_X12_areAlike_53 N k6 l0 l1 l2 l3 l5 h) := by
  unfold F_X12_areAlike_53
  refine k_iconst hq dX12_areAlike_53 (v := 0) rfl ?_
  exact k_sub [0, 1, 2, 3, 4] rfl (P_X12_areAlike_54 hq N k6 hk6 l0 l1 l2 l3 l5 0 h)
set_option maxRecDepth 100000 in
set_option maxHeartbeats 4000000 in
theorem P_X12_areAlike_118 {q : eT} {r0 : Int32} {h0 : eH} (hq : e_B q yX12_areAlike.cls cX12_areAlike 6 1 21 (some .boolean) yX12_areAlike.name) (N : Nat) (k69 : Nat → Int32 → Int32 → Int32 → Int32 → Int32 → eH → Option (Int32 × eH)) (hk69 : ∀ (l0 : Nat) (l1 : Int32) (l2 : Int32) (l3 : Int32) (l4 : Int32) (l5 : Int32) h, e_K eI q r0 h0 69 [(0, .ref l0), (1, .int l1), (2, .int l2), (3, .int l3), (4, .int l4), (5, .int l5)] [] h (k69 l0 l1 l2 l3 l4 l5 h)) (l0 : Nat) (l1 : Int32) (l2 : Int32) (l3 : Int32) (l5 : Int32) (s0 : Int32) (h : eH) : e_K eI q r0 h0 118 [(0, .ref l0), (1, .int l1), (2, .int l2), (3, .int l3), (5, .int l5)] [.int s0] h (F_X12_areAlike_118 N k69 l0 l1 l2 l3 l5 s0 h) := by
  unfold F_X12_areAlike_118
  refine k_istore hq dX12_areAlike_118 (by decide) (ls' := [(4, .int s0), (0, .ref l0), (1, .int l1), (2, .int l2), (3, .int l3), (5, .int l5)]) rfl ?_
  refine k_iinc hq dX12_areAlike_120 5 rfl (v := l5 + 1) rfl (by decide) (ls' := [(5, .int (l5 + 1)), (4, .int s0), (0, .ref l0), (1, .int l1), (2, .int l2), (3, .int l3)]) rfl ?_
  refine k_goto hq (tgt := 69) dX12_areAlike_123 (by decide) ?_
  exact k_sub [2, 3, 4, 5, 1, 0] rfl (hk69 l0 l1 l2 l3 s0 (l5 + 1) h)
set_option maxRecDepth 100000 in
set_option maxHeartbeats 4000000 in
theorem P_X12_areAlike_117 {q : eT} {r0 : Int32} {h0 : eH} (hq : e_B q yX12_areAlike.cls cX12_areAlike 6 1 21 (some .boolean) yX12_areAlike.name) (N : Nat) (k69 : Nat → Int32 → Int32 → Int32 → Int32 → Int32 → eH → Option (Int32 × eH)) (hk69 : ∀ (l0 : Nat) (l1 : Int32) (l2 : Int32) (l3 : Int32) (l4 : Int32) (l5 : Int32) h, e_K eI q r0 h0 69 [(0, .ref l0), (1, .int l1), (2, .int l2), (3, .int l3), (4, .int l4), (5, .int l5)] [] h (k69 l0 l1 l2 l3 l4 l5 h)) (l0 : Nat) (l1 : Int32) (l2 : Int32) (l3 : Int32) (l5 : Int32) (h : eH) : e_K eI q r0 h0 117 [(0, .ref l0), (1, .int l1), (2, .int l2), (3, .int l3), (5, .int l5)] [] h (F_X12_areAlike_117 N k69 l0 l1 l2 l3 l5 h) := by
  unfold F_X12_areAlike_117
  refine k_iconst hq dX12_areAlike_117 (v := 0) rfl ?_
  exact k_sub [0, 1, 2, 3, 4] rfl (P_X12_areAlike_118 hq N k69 hk69 l0 l1 l2 l3 l5 0 h)
set_option maxRecDepth 100000 in
set_option maxHeartbeats 4000000 in
theorem P_X12_areAlike_69b {q : eT} {r0 : Int32} {h0 : eH} (hq : e_B q yX12_areAlike.cls cX12_areAlike 6 1 21 (some .boolean) yX12_areAlike.name) (N : Nat) (k69 : Nat → Int32 → Int32 → Int32 → Int32 → Int32 → eH → Option (Int32 × eH)) (hk69 : ∀ (l0 : Nat) (l1 : Int32) (l2 : Int32) (l3 : Int32) (l4 : Int32) (l5 : Int32) h, e_K eI q r0 h0 69 [(0, .ref l0), (1, .int l1), (2, .int l2), (3, .int l3), (4, .int l4), (5, .int l5)] [] h (k69 l0 l1 l2 l3 l4 l5 h)) (l0 : Nat) (l1 : Int32) (l2 : Int32) (l3 : Int32) (l4 : Int32) (l5 : Int32) (h : eH) : e_K eI q r0 h0 69 [(0, .ref l0), (1, .int l1), (2, .int l2), (3, .int l3), (4, .int l4), (5, .int l5)] [] h (F_X12_areAlike_69b N k69 l0 l1 l2 l3 l4 l5 h) := by
  unfold F_X12_areAlike_69b
  refine k_iload hq dX12_areAlike_69 5 rfl ?_
  refine k_sipush hq dX12_areAlike_71 (v := 164) rfl ?_
  refine k_iload_n hq dX12_areAlike_74 3 rfl ?_
  refine k_imul hq dX12_areAlike_75 ?_
  refine k_sipush hq dX12_areAlike_76 (v := 164) rfl ?_
  refine k_iadd hq dX12_areAlike_79 ?_
  refine k_icmp_ge hq (tgt := 126) dX12_areAlike_80 (by decide) (fun _ => ?_) (fun _ => ?_)
  · refine k_iload hq dX12_areAlike_126 4 rfl ?_
    exact k_zret hq dX12_areAlike_128
  · refine k_iload hq dX12_areAlike_83 4 rfl ?_
    refine k_if_eq hq (tgt := 117) dX12_areAlike_85 (by decide) (fun _ => ?_) (fun _ => ?_)
    · exact k_sub [0, 1, 2, 3, 5] rfl (P_X12_areAlike_117 hq N k69 hk69 l0 l1 l2 l3 l5 h)
    · refine k_aload_n hq dX12_areAlike_88 0 rfl ?_
      refine k_gr hq (C := RX12) (T := TX12) 11 14 rfl (by decide) (lay_X12 14 (by decide)) tw_941 dX12_areAlike_89 fun v1 => ?_
      refine k_iload hq dX12_areAlike_92 5 rfl ?_
      refine k_iald hq dX12_areAlike_94 fun v2 => ?_
      refine k_iload_n hq dX12_areAlike_95 1 rfl ?_
      refine k_callS hq (na := 2) (As := [.int v2, .int l1]) (st := []) (con_X12_has _ _ _ _ v2 l1) tw_1118 tw_59 tw_1116 tw_1117 ⟨by decide, by decide, by decide +kernel⟩ rfl (by decide) rfl (Nat.le_of_ble_eq_true rfl) dX12_areAlike_96 fun v3 h4 => ?_
      refine k_aload_n hq dX12_areAlike_99 0 rfl ?_
      refine k_gr hq (C := RX12) (T := TX12) 11 14 rfl (by decide) (lay_X12 14 (by decide)) tw_941 dX12_areAlike_100 fun v5 => ?_
      refine k_iload hq dX12_areAlike_103 5 rfl ?_
      refine k_iald hq dX12_areAlike_105 fun v6 => ?_
      refine k_iload_n hq dX12_areAlike_106 2 rfl ?_
      refine k_callS hq (na := 2) (As := [.int v6, .int l2]) (st := [.int v3]) (con_X12_has _ _ _ _ v6 l2) tw_1118 tw_59 tw_1116 tw_1117 ⟨by decide, by decide, by decide +kernel⟩ rfl (by decide) rfl (Nat.le_of_ble_eq_true rfl) dX12_areAlike_107 fun v7 h8 => ?_
      refine k_icmp_ne hq (tgt := 117) dX12_areAlike_110 (by decide) (fun _ => ?_) (fun _ => ?_)
      · refine k_iconst hq dX12_areAlike_113 (v := 1) rfl ?_
        refine k_goto hq (tgt := 118) dX12_areAlike_114 (by decide) ?_
        exact k_sub [0, 1, 2, 3, 5] rfl (P_X12_areAlike_118 hq N k69 hk69 l0 l1 l2 l3 l5 1 h8)
      · exact k_sub [0, 1, 2, 3, 5] rfl (P_X12_areAlike_117 hq N k69 hk69 l0 l1 l2 l3 l5 h8)
theorem Q_X12_areAlike_69 {q : eT} {r0 : Int32} {h0 : eH} (hq : e_B q yX12_areAlike.cls cX12_areAlike 6 1 21 (some .boolean) yX12_areAlike.name) (N : Nat) (l0 : Nat) (l1 : Int32) (l2 : Int32) (l3 : Int32) (l4 : Int32) (l5 : Int32) (h : eH) : e_K eI q r0 h0 69 [(0, .ref l0), (1, .int l1), (2, .int l2), (3, .int l3), (4, .int l4), (5, .int l5)] [] h (L_X12_areAlike_69 N l0 l1 l2 l3 l4 l5 h) :=
  k_loop (mk := (fun s => [(0, .ref s.1), (1, .int s.2.1), (2, .int s.2.2.1), (3, .int s.2.2.2.1), (4, .int s.2.2.2.2.1), (5, .int s.2.2.2.2.2.1)])) (hp := fun s => s.2.2.2.2.2.2) (fun k hk s => P_X12_areAlike_69b hq N (fun l0 l1 l2 l3 l4 l5 h => k (l0, l1, l2, l3, l4, l5, h)) (fun l0 l1 l2 l3 l4 l5 h => hk (l0, l1, l2, l3, l4, l5, h)) s.1 s.2.1 s.2.2.1 s.2.2.2.1 s.2.2.2.2.1 s.2.2.2.2.2.1 s.2.2.2.2.2.2) N (l0, l1, l2, l3, l4, l5, h)
set_option maxRecDepth 100000 in
set_option maxHeartbeats 4000000 in
theorem P_X12_areAlike_6b {q : eT} {r0 : Int32} {h0 : eH} (hq : e_B q yX12_areAlike.cls cX12_areAlike 6 1 21 (some .boolean) yX12_areAlike.name) (N : Nat) (k6 : Nat → Int32 → Int32 → Int32 → Int32 → Int32 → eH → Option (Int32 × eH)) (hk6 : ∀ (l0 : Nat) (l1 : Int32) (l2 : Int32) (l3 : Int32) (l4 : Int32) (l5 : Int32) h, e_K eI q r0 h0 6 [(0, .ref l0), (1, .int l1), (2, .int l2), (3, .int l3), (4, .int l4), (5, .int l5)] [] h (k6 l0 l1 l2 l3 l4 l5 h)) (l0 : Nat) (l1 : Int32) (l2 : Int32) (l3 : Int32) (l4 : Int32) (l5 : Int32) (h : eH) : e_K eI q r0 h0 6 [(0, .ref l0), (1, .int l1), (2, .int l2), (3, .int l3), (4, .int l4), (5, .int l5)] [] h (F_X12_areAlike_6b N k6 l0 l1 l2 l3 l4 l5 h) := by
  unfold F_X12_areAlike_6b
  refine k_iload hq dX12_areAlike_6 5 rfl ?_
  refine k_aload_n hq dX12_areAlike_8 0 rfl ?_
  refine k_gi hq (C := RX12) (T := TX12) 11 0 rfl (by decide) (lay_X12 0 (by decide)) tw_927 dX12_areAlike_9 fun v1 => ?_
  refine k_icmp_ge hq (tgt := 62) dX12_areAlike_12 (by decide) (fun _ => ?_) (fun _ => ?_)
  · refine k_sipush hq dX12_areAlike_62 (v := 164) rfl ?_
    refine k_iload_n hq dX12_areAlike_65 3 rfl ?_
    refine k_imul hq dX12_areAlike_66 ?_
    refine k_let (mk := fun z => .int z :: []) fun v2 _ => ?_
    refine k_istore hq dX12_areAlike_67 (by decide) (ls' := [(5, .int v2), (0, .ref l0), (1, .int l1), (2, .int l2), (3, .int l3), (4, .int l4)]) rfl ?_
    exact k_sub [1, 2, 3, 4, 5, 0] rfl (Q_X12_areAlike_69 hq N l0 l1 l2 l3 l4 v2 h)
  · refine k_iload hq dX12_areAlike_15 4 rfl ?_
    refine k_if_eq hq (tgt := 53) dX12_areAlike_17 (by decide) (fun _ => ?_) (fun _ => ?_)
    · exact k_sub [0, 1, 2, 3, 5] rfl (P_X12_areAlike_53 hq N k6 hk6 l0 l1 l2 l3 l5 h)
    · refine k_aload_n hq dX12_areAlike_20 0 rfl ?_
      refine k_gr hq (C := RX12) (T := TX12) 11 16 rfl (by decide) (lay_X12 16 (by decide)) tw_943 dX12_areAlike_21 fun v3 => ?_
      refine k_iload_n hq dX12_areAlike_24 3 rfl ?_
      refine k_iload_n hq dX12_areAlike_25 1 rfl ?_
      refine k_callS hq (na := 2) (As := [.int l3, .int l1]) (st := [.ref v3]) (con_X12_rowAt _ _ _ _ l3 l1) tw_1112 tw_59 tw_1110 tw_1111 ⟨by decide, by decide, by decide +kernel⟩ rfl (by decide) rfl (Nat.le_of_ble_eq_true rfl) dX12_areAlike_26 fun v4 h5 => ?_
      refine k_iload hq dX12_areAlike_29 5 rfl ?_
      refine k_iadd hq dX12_areAlike_31 ?_
      refine k_iald hq dX12_areAlike_32 fun v6 => ?_
      refine k_aload_n hq dX12_areAlike_33 0 rfl ?_
      refine k_gr hq (C := RX12) (T := TX12) 11 16 rfl (by decide) (lay_X12 16 (by decide)) tw_943 dX12_areAlike_34 fun v7 => ?_
      refine k_iload_n hq dX12_areAlike_37 3 rfl ?_
      refine k_iload_n hq dX12_areAlike_38 2 rfl ?_
      refine k_callS hq (na := 2) (As := [.int l3, .int l2]) (st := [.ref v7, .int v6]) (con_X12_rowAt _ _ _ _ l3 l2) tw_1112 tw_59 tw_1110 tw_1111 ⟨by decide, by decide, by decide +kernel⟩ rfl (by decide) rfl (Nat.le_of_ble_eq_true rfl) dX12_areAlike_39 fun v8 h9 => ?_
      refine k_iload hq dX12_areAlike_42 5 rfl ?_
      refine k_iadd hq dX12_areAlike_44 ?_
      refine k_iald hq dX12_areAlike_45 fun v10 => ?_
      refine k_icmp_ne hq (tgt := 53) dX12_areAlike_46 (by decide) (fun _ => ?_) (fun _ => ?_)
      · refine k_iconst hq dX12_areAlike_49 (v := 1) rfl ?_
        refine k_goto hq (tgt := 54) dX12_areAlike_50 (by decide) ?_
        exact k_sub [0, 1, 2, 3, 5] rfl (P_X12_areAlike_54 hq N k6 hk6 l0 l1 l2 l3 l5 1 h9)
      · exact k_sub [0, 1, 2, 3, 5] rfl (P_X12_areAlike_53 hq N k6 hk6 l0 l1 l2 l3 l5 h9)
theorem Q_X12_areAlike_6 {q : eT} {r0 : Int32} {h0 : eH} (hq : e_B q yX12_areAlike.cls cX12_areAlike 6 1 21 (some .boolean) yX12_areAlike.name) (N : Nat) (l0 : Nat) (l1 : Int32) (l2 : Int32) (l3 : Int32) (l4 : Int32) (l5 : Int32) (h : eH) : e_K eI q r0 h0 6 [(0, .ref l0), (1, .int l1), (2, .int l2), (3, .int l3), (4, .int l4), (5, .int l5)] [] h (L_X12_areAlike_6 N l0 l1 l2 l3 l4 l5 h) :=
  k_loop (mk := (fun s => [(0, .ref s.1), (1, .int s.2.1), (2, .int s.2.2.1), (3, .int s.2.2.2.1), (4, .int s.2.2.2.2.1), (5, .int s.2.2.2.2.2.1)])) (hp := fun s => s.2.2.2.2.2.2) (fun k hk s => P_X12_areAlike_6b hq N (fun l0 l1 l2 l3 l4 l5 h => k (l0, l1, l2, l3, l4, l5, h)) (fun l0 l1 l2 l3 l4 l5 h => hk (l0, l1, l2, l3, l4, l5, h)) s.1 s.2.1 s.2.2.1 s.2.2.2.1 s.2.2.2.2.1 s.2.2.2.2.2.1 s.2.2.2.2.2.2) N (l0, l1, l2, l3, l4, l5, h)
set_option maxRecDepth 100000 in
set_option maxHeartbeats 4000000 in
theorem P_X12_areAlike_0 {q : eT} {r0 : Int32} {h0 : eH} (hq : e_B q yX12_areAlike.cls cX12_areAlike 6 1 21 (some .boolean) yX12_areAlike.name) (N : Nat) (l0 : Nat) (l1 : Int32) (l2 : Int32) (l3 : Int32) (h : eH) : e_K eI q r0 h0 0 [(0, .ref l0), (1, .int l1), (2, .int l2), (3, .int l3)] [] h (F_X12_areAlike N l0 l1 l2 l3 h) := by
  unfold F_X12_areAlike
  refine k_iconst hq dX12_areAlike_0 (v := 1) rfl ?_
  refine k_istore hq dX12_areAlike_1 (by decide) (ls' := [(4, .int 1), (0, .ref l0), (1, .int l1), (2, .int l2), (3, .int l3)]) rfl ?_
  refine k_iconst hq dX12_areAlike_3 (v := 0) rfl ?_
  refine k_istore hq dX12_areAlike_4 (by decide) (ls' := [(5, .int 0), (4, .int 1), (0, .ref l0), (1, .int l1), (2, .int l2), (3, .int l3)]) rfl ?_
  exact k_sub [2, 3, 4, 5, 1, 0] rfl (Q_X12_areAlike_6 hq N l0 l1 l2 l3 1 0 h)
theorem con_X12_areAlike (l : Launch) (G : eG) (B0 n : Nat) (N : Nat) (l0 : Nat) (l1 : Int32) (l2 : Int32) (l3 : Int32) : e_C eI l G B0 n yX12_areAlike cX12_areAlike 6 (some .boolean) 1 21 [.ref l0, .int l1, .int l2, .int l3] (F_X12_areAlike N l0 l1 l2 l3) := by
  refine e_mk (by decide) (Nat.le_of_ble_eq_true rfl) fun q r0 h0 h hq e1 e2 e3 e4 => ?_
  subst e1; subst e2; subst e3; subst e4
  exact P_X12_areAlike_0 hq N l0 l1 l2 l3 h
set_option maxRecDepth 100000 in
set_option maxHeartbeats 4000000 in
theorem P_X12_alike_0 {q : eT} {r0 : Int32} {h0 : eH} (hq : e_B q yX12_alike.cls cX12_alike 4 2 46 (some .int) yX12_alike.name) (N : Nat) (l0 : Nat) (l1 : Int32) (l2 : Int32) (l3 : Int32) (h : eH) : e_K eI q r0 h0 0 [(0, .ref l0), (1, .int l1), (2, .int l2), (3, .int l3)] [] h (F_X12_alike N l0 l1 l2 l3 h) := by
  unfold F_X12_alike
  refine k_aload_n hq dX12_alike_0 0 rfl ?_
  refine k_iload_n hq dX12_alike_1 1 rfl ?_
  refine k_callV hq (na := 1) (As := [.int l1]) (st := []) 11 (C := RX12) (T := TX12) rfl (con_X12_isSite _ _ _ _ l0 l1) tw_1105 tw_59 tw_1102 tw_1104 tw_28 ⟨by decide, by decide, by decide +kernel⟩ rfl (by decide) rfl (Nat.le_of_ble_eq_true rfl) dX12_alike_2 fun v1 h2 => ?_
  refine k_if_eq hq (tgt := 37) dX12_alike_5 (by decide) (fun _ => ?_) (fun _ => ?_)
  · refine k_iconst hq dX12_alike_37 (v := (-1)) rfl ?_
    exact k_iret hq dX12_alike_38
  · refine k_aload_n hq dX12_alike_8 0 rfl ?_
    refine k_iload_n hq dX12_alike_9 2 rfl ?_
    refine k_callV hq (na := 1) (As := [.int l2]) (st := []) 11 (C := RX12) (T := TX12) rfl (con_X12_isSite _ _ _ _ l0 l2) tw_1105 tw_59 tw_1102 tw_1104 tw_28 ⟨by decide, by decide, by decide +kernel⟩ rfl (by decide) rfl (Nat.le_of_ble_eq_true rfl) dX12_alike_10 fun v3 h4 => ?_
    refine k_if_eq hq (tgt := 37) dX12_alike_13 (by decide) (fun _ => ?_) (fun _ => ?_)
    · refine k_iconst hq dX12_alike_37 (v := (-1)) rfl ?_
      exact k_iret hq dX12_alike_38
    · refine k_aload_n hq dX12_alike_16 0 rfl ?_
      refine k_iload_n hq dX12_alike_17 3 rfl ?_
      refine k_callV hq (na := 1) (As := [.int l3]) (st := []) 11 (C := RX12) (T := TX12) rfl (con_X12_isKey _ _ _ _ l0 l3) tw_1109 tw_59 tw_1106 tw_1108 tw_29 ⟨by decide, by decide, by decide +kernel⟩ rfl (by decide) rfl (Nat.le_of_ble_eq_true rfl) dX12_alike_18 fun v5 h6 => ?_
      refine k_if_eq hq (tgt := 37) dX12_alike_21 (by decide) (fun _ => ?_) (fun _ => ?_)
      · refine k_iconst hq dX12_alike_37 (v := (-1)) rfl ?_
        exact k_iret hq dX12_alike_38
      · refine k_aload_n hq dX12_alike_24 0 rfl ?_
        refine k_iload_n hq dX12_alike_25 1 rfl ?_
        refine k_iload_n hq dX12_alike_26 2 rfl ?_
        refine k_iload_n hq dX12_alike_27 3 rfl ?_
        refine k_callV hq (na := 3) (As := [.int l1, .int l2, .int l3]) (st := []) 11 (C := RX12) (T := TX12) rfl (con_X12_areAlike _ _ _ _ N l0 l1 l2 l3) tw_1216 tw_59 tw_1213 tw_1215 tw_40 ⟨by decide, by decide, by decide +kernel⟩ rfl (by decide) rfl (Nat.le_of_ble_eq_true rfl) dX12_alike_28 fun v7 h8 => ?_
        refine k_callS hq (na := 1) (As := [.int v7]) (st := []) (con_X12_bit _ _ _ _ v7) tw_1200 tw_59 tw_1198 tw_1199 ⟨by decide, by decide, by decide +kernel⟩ rfl (by decide) rfl (Nat.le_of_ble_eq_true rfl) dX12_alike_31 fun v9 h10 => ?_
        refine k_goto hq (tgt := 38) dX12_alike_34 (by decide) ?_
        exact k_iret hq dX12_alike_38
theorem con_X12_alike (l : Launch) (G : eG) (B0 n : Nat) (N : Nat) (l0 : Nat) (l1 : Int32) (l2 : Int32) (l3 : Int32) : e_C eI l G B0 n yX12_alike cX12_alike 4 (some .int) 2 46 [.ref l0, .int l1, .int l2, .int l3] (F_X12_alike N l0 l1 l2 l3) := by
  refine e_mk (by decide) (Nat.le_of_ble_eq_true rfl) fun q r0 h0 h hq e1 e2 e3 e4 => ?_
  subst e1; subst e2; subst e3; subst e4
  exact P_X12_alike_0 hq N l0 l1 l2 l3 h
set_option maxRecDepth 100000 in
set_option maxHeartbeats 4000000 in
theorem P_X12_behind_77 {q : eT} {r0 : Int32} {h0 : eH} (hq : e_B q yX12_behind.cls cX12_behind 8 2 46 (some .int) yX12_behind.name) (N : Nat) (k23 : Nat → Int32 → Int32 → Int32 → Int32 → eH → Option (Int32 × eH)) (k38 : Nat → Int32 → Int32 → Int32 → Int32 → Int32 → Int32 → eH → Option (Int32 × eH)) (hk23 : ∀ (l0 : Nat) (l1 : Int32) (l2 : Int32) (l3 : Int32) (l4 : Int32) h, e_K eI q r0 h0 23 [(0, .ref l0), (1, .int l1), (2, .int l2), (3, .int l3), (4, .int l4)] [] h (k23 l0 l1 l2 l3 l4 h)) (hk38 : ∀ (l0 : Nat) (l1 : Int32) (l2 : Int32) (l3 : Int32) (l4 : Int32) (l5 : Int32) (l6 : Int32) h, e_K eI q r0 h0 38 [(0, .ref l0), (1, .int l1), (2, .int l2), (3, .int l3), (4, .int l4), (5, .int l5), (6, .int l6)] [] h (k38 l0 l1 l2 l3 l4 l5 l6 h)) (l0 : Nat) (l1 : Int32) (l2 : Int32) (l3 : Int32) (l4 : Int32) (l6 : Int32) (s0 : Int32) (h : eH) : e_K eI q r0 h0 77 [(0, .ref l0), (1, .int l1), (2, .int l2), (3, .int l3), (4, .int l4), (6, .int l6)] [.int s0] h (F_X12_behind_77 N k23 k38 l0 l1 l2 l3 l4 l6 s0 h) := by
  unfold F_X12_behind_77
  refine k_istore hq dX12_behind_77 (by decide) (ls' := [(5, .int s0), (0, .ref l0), (1, .int l1), (2, .int l2), (3, .int l3), (4, .int l4), (6, .int l6)]) rfl ?_
  refine k_iinc hq dX12_behind_79 6 rfl (v := l6 + 1) rfl (by decide) (ls' := [(6, .int (l6 + 1)), (5, .int s0), (0, .ref l0), (1, .int l1), (2, .int l2), (3, .int l3), (4, .int l4)]) rfl ?_
  refine k_goto hq (tgt := 38) dX12_behind_82 (by decide) ?_
  exact k_sub [2, 3, 4, 5, 6, 1, 0] rfl (hk38 l0 l1 l2 l3 l4 s0 (l6 + 1) h)
set_option maxRecDepth 100000 in
set_option maxHeartbeats 4000000 in
theorem P_X12_behind_38b {q : eT} {r0 : Int32} {h0 : eH} (hq : e_B q yX12_behind.cls cX12_behind 8 2 46 (some .int) yX12_behind.name) (N : Nat) (k23 : Nat → Int32 → Int32 → Int32 → Int32 → eH → Option (Int32 × eH)) (k38 : Nat → Int32 → Int32 → Int32 → Int32 → Int32 → Int32 → eH → Option (Int32 × eH)) (hk23 : ∀ (l0 : Nat) (l1 : Int32) (l2 : Int32) (l3 : Int32) (l4 : Int32) h, e_K eI q r0 h0 23 [(0, .ref l0), (1, .int l1), (2, .int l2), (3, .int l3), (4, .int l4)] [] h (k23 l0 l1 l2 l3 l4 h)) (hk38 : ∀ (l0 : Nat) (l1 : Int32) (l2 : Int32) (l3 : Int32) (l4 : Int32) (l5 : Int32) (l6 : Int32) h, e_K eI q r0 h0 38 [(0, .ref l0), (1, .int l1), (2, .int l2), (3, .int l3), (4, .int l4), (5, .int l5), (6, .int l6)] [] h (k38 l0 l1 l2 l3 l4 l5 l6 h)) (l0 : Nat) (l1 : Int32) (l2 : Int32) (l3 : Int32) (l4 : Int32) (l5 : Int32) (l6 : Int32) (h : eH) : e_K eI q r0 h0 38 [(0, .ref l0), (1, .int l1), (2, .int l2), (3, .int l3), (4, .int l4), (5, .int l5), (6, .int l6)] [] h (F_X12_behind_38b N k23 k38 l0 l1 l2 l3 l4 l5 l6 h) := by
  unfold F_X12_behind_38b
  refine k_iload hq dX12_behind_38 6 rfl ?_
  refine k_aload_n hq dX12_behind_40 0 rfl ?_
  refine k_gi hq (C := RX12) (T := TX12) 11 0 rfl (by decide) (lay_X12 0 (by decide)) tw_927 dX12_behind_41 fun v1 => ?_
  refine k_icmp_ge hq (tgt := 85) dX12_behind_44 (by decide) (fun _ => ?_) (fun _ => ?_)
  · refine k_iload_n hq dX12_behind_85 3 rfl ?_
    refine k_iload hq dX12_behind_86 5 rfl ?_
    refine k_aload_n hq dX12_behind_88 0 rfl ?_
    refine k_gr hq (C := RX12) (T := TX12) 11 16 rfl (by decide) (lay_X12 16 (by decide)) tw_943 dX12_behind_89 fun v2 => ?_
    refine k_iload_n hq dX12_behind_92 2 rfl ?_
    refine k_iload_n hq dX12_behind_93 1 rfl ?_
    refine k_callS hq (na := 2) (As := [.int l2, .int l1]) (st := [.ref v2, .int l5, .int l3]) (con_X12_rowAt _ _ _ _ l2 l1) tw_1112 tw_59 tw_1110 tw_1111 ⟨by decide, by decide, by decide +kernel⟩ rfl (by decide) rfl (Nat.le_of_ble_eq_true rfl) dX12_behind_94 fun v3 h4 => ?_
    refine k_iload hq dX12_behind_97 4 rfl ?_
    refine k_iadd hq dX12_behind_99 ?_
    refine k_iald hq dX12_behind_100 fun v5 => ?_
    refine k_isub hq dX12_behind_101 ?_
    refine k_iadd hq dX12_behind_102 ?_
    refine k_let (mk := fun z => .int z :: []) fun v6 _ => ?_
    refine k_istore_n hq dX12_behind_103 rfl (by decide) (ls' := [(3, .int v6), (0, .ref l0), (1, .int l1), (2, .int l2), (4, .int l4), (5, .int l5), (6, .int l6)]) rfl ?_
    refine k_iinc hq dX12_behind_104 4 rfl (v := l4 + 1) rfl (by decide) (ls' := [(4, .int (l4 + 1)), (3, .int v6), (0, .ref l0), (1, .int l1), (2, .int l2), (5, .int l5), (6, .int l6)]) rfl ?_
    refine k_goto hq (tgt := 23) dX12_behind_107 (by decide) ?_
    exact k_sub [2, 3, 4, 1, 0] rfl (hk23 l0 l1 l2 v6 (l4 + 1) h4)
  · refine k_aload_n hq dX12_behind_47 0 rfl ?_
    refine k_gr hq (C := RX12) (T := TX12) 11 16 rfl (by decide) (lay_X12 16 (by decide)) tw_943 dX12_behind_48 fun v7 => ?_
    refine k_iload_n hq dX12_behind_51 2 rfl ?_
    refine k_iload hq dX12_behind_52 6 rfl ?_
    refine k_callS hq (na := 2) (As := [.int l2, .int l6]) (st := [.ref v7]) (con_X12_rowAt _ _ _ _ l2 l6) tw_1112 tw_59 tw_1110 tw_1111 ⟨by decide, by decide, by decide +kernel⟩ rfl (by decide) rfl (Nat.le_of_ble_eq_true rfl) dX12_behind_54 fun v8 h9 => ?_
    refine k_iload hq dX12_behind_57 4 rfl ?_
    refine k_iadd hq dX12_behind_59 ?_
    refine k_iald hq dX12_behind_60 fun v10 => ?_
    refine k_istore hq dX12_behind_61 (by decide) (ls' := [(7, .int v10), (0, .ref l0), (1, .int l1), (2, .int l2), (3, .int l3), (4, .int l4), (5, .int l5), (6, .int l6)]) rfl ?_
    refine k_iload hq dX12_behind_63 0 rfl ?_
    refine k_iload hq dX12_behind_65 6 rfl ?_
    refine k_icmp_le hq (tgt := 75) dX12_behind_67 (by decide) (fun _ => ?_) (fun _ => ?_)
    · refine k_iload hq dX12_behind_75 6 rfl ?_
      exact k_sub [1, 2, 3, 4, 5, 7] rfl (P_X12_behind_77 hq N k23 k38 hk23 hk38 l0 l1 l2 l3 l4 l6 l5 h9)
    · refine k_iload hq dX12_behind_70 0 rfl ?_
      refine k_goto hq (tgt := 77) dX12_behind_72 (by decide) ?_
      exact k_sub [1, 2, 3, 4, 5, 7] rfl (P_X12_behind_77 hq N k23 k38 hk23 hk38 l0 l1 l2 l3 l4 l6 v10 h9)
theorem Q_X12_behind_38 {q : eT} {r0 : Int32} {h0 : eH} (hq : e_B q yX12_behind.cls cX12_behind 8 2 46 (some .int) yX12_behind.name) (N : Nat) (k23 : Nat → Int32 → Int32 → Int32 → Int32 → eH → Option (Int32 × eH)) (hk23 : ∀ (l0 : Nat) (l1 : Int32) (l2 : Int32) (l3 : Int32) (l4 : Int32) h, e_K eI q r0 h0 23 [(0, .ref l0), (1, .int l1), (2, .int l2), (3, .int l3), (4, .int l4)] [] h (k23 l0 l1 l2 l3 l4 h)) (l0 : Nat) (l1 : Int32) (l2 : Int32) (l3 : Int32) (l4 : Int32) (l5 : Int32) (l6 : Int32) (h : eH) : e_K eI q r0 h0 38 [(0, .ref l0), (1, .int l1), (2, .int l2), (3, .int l3), (4, .int l4), (5, .int l5), (6, .int l6)] [] h (L_X12_behind_38 N k23 l0 l1 l2 l3 l4 l5 l6 h) :=
  k_loop (mk := (fun s => [(0, .ref s.1), (1, .int s.2.1), (2, .int s.2.2.1), (3, .int s.2.2.2.1), (4, .int s.2.2.2.2.1), (5, .int s.2.2.2.2.2.1), (6, .int s.2.2.2.2.2.2.1)])) (hp := fun s => s.2.2.2.2.2.2.2) (fun k hk s => P_X12_behind_38b hq N k23 (fun l0 l1 l2 l3 l4 l5 l6 h => k (l0, l1, l2, l3, l4, l5, l6, h)) hk23 (fun l0 l1 l2 l3 l4 l5 l6 h => hk (l0, l1, l2, l3, l4, l5, l6, h)) s.1 s.2.1 s.2.2.1 s.2.2.2.1 s.2.2.2.2.1 s.2.2.2.2.2.1 s.2.2.2.2.2.2.1 s.2.2.2.2.2.2.2) N (l0, l1, l2, l3, l4, l5, l6, h)
set_option maxRecDepth 100000 in
set_option maxHeartbeats 4000000 in
theorem P_X12_behind_23b {q : eT} {r0 : Int32} {h0 : eH} (hq : e_B q yX12_behind.cls cX12_behind 8 2 46 (some .int) yX12_behind.name) (N : Nat) (k23 : Nat → Int32 → Int32 → Int32 → Int32 → eH → Option (Int32 × eH)) (hk23 : ∀ (l0 : Nat) (l1 : Int32) (l2 : Int32) (l3 : Int32) (l4 : Int32) h, e_K eI q r0 h0 23 [(0, .ref l0), (1, .int l1), (2, .int l2), (3, .int l3), (4, .int l4)] [] h (k23 l0 l1 l2 l3 l4 h)) (l0 : Nat) (l1 : Int32) (l2 : Int32) (l3 : Int32) (l4 : Int32) (h : eH) : e_K eI q r0 h0 23 [(0, .ref l0), (1, .int l1), (2, .int l2), (3, .int l3), (4, .int l4)] [] h (F_X12_behind_23b N k23 l0 l1 l2 l3 l4 h) := by
  unfold F_X12_behind_23b
  refine k_iload hq dX12_behind_23 4 rfl ?_
  refine k_aload_n hq dX12_behind_25 0 rfl ?_
  refine k_gi hq (C := RX12) (T := TX12) 11 0 rfl (by decide) (lay_X12 0 (by decide)) tw_927 dX12_behind_26 fun v1 => ?_
  refine k_icmp_ge hq (tgt := 110) dX12_behind_29 (by decide) (fun _ => ?_) (fun _ => ?_)
  · refine k_iload_n hq dX12_behind_110 3 rfl ?_
    exact k_iret hq dX12_behind_111
  · refine k_iconst hq dX12_behind_32 (v := 0) rfl ?_
    refine k_istore hq dX12_behind_33 (by decide) (ls' := [(5, .int 0), (0, .ref l0), (1, .int l1), (2, .int l2), (3, .int l3), (4, .int l4)]) rfl ?_
    refine k_iconst hq dX12_behind_35 (v := 0) rfl ?_
    refine k_istore hq dX12_behind_36 (by decide) (ls' := [(6, .int 0), (5, .int 0), (0, .ref l0), (1, .int l1), (2, .int l2), (3, .int l3), (4, .int l4)]) rfl ?_
    exact k_sub [2, 3, 4, 5, 6, 1, 0] rfl (Q_X12_behind_38 hq N k23 hk23 l0 l1 l2 l3 l4 0 0 h)
theorem Q_X12_behind_23 {q : eT} {r0 : Int32} {h0 : eH} (hq : e_B q yX12_behind.cls cX12_behind 8 2 46 (some .int) yX12_behind.name) (N : Nat) (l0 : Nat) (l1 : Int32) (l2 : Int32) (l3 : Int32) (l4 : Int32) (h : eH) : e_K eI q r0 h0 23 [(0, .ref l0), (1, .int l1), (2, .int l2), (3, .int l3), (4, .int l4)] [] h (L_X12_behind_23 N l0 l1 l2 l3 l4 h) :=
  k_loop (mk := (fun s => [(0, .ref s.1), (1, .int s.2.1), (2, .int s.2.2.1), (3, .int s.2.2.2.1), (4, .int s.2.2.2.2.1)])) (hp := fun s => s.2.2.2.2.2) (fun k hk s => P_X12_behind_23b hq N (fun l0 l1 l2 l3 l4 h => k (l0, l1, l2, l3, l4, h)) (fun l0 l1 l2 l3 l4 h => hk (l0, l1, l2, l3, l4, h)) s.1 s.2.1 s.2.2.1 s.2.2.2.1 s.2.2.2.2.1 s.2.2.2.2.2) N (l0, l1, l2, l3, l4, h)
set_option maxRecDepth 100000 in
set_option maxHeartbeats 4000000 in
theorem P_X12_behind_0 {q : eT} {r0 : Int32} {h0 : eH} (hq : e_B q yX12_behind.cls cX12_behind 8 2 46 (some .int) yX12_behind.name) (N : Nat) (l0 : Nat) (l1 : Int32) (l2 : Int32) (h : eH) : e_K eI q r0 h0 0 [(0, .ref l0), (1, .int l1), (2, .int l2)] [] h (F_X12_behind N l0 l1 l2 h) := by
  unfold F_X12_behind
  refine k_aload_n hq dX12_behind_0 0 rfl ?_
  refine k_iload_n hq dX12_behind_1 1 rfl ?_
  refine k_callV hq (na := 1) (As := [.int l1]) (st := []) 11 (C := RX12) (T := TX12) rfl (con_X12_isSite _ _ _ _ l0 l1) tw_1105 tw_59 tw_1102 tw_1104 tw_28 ⟨by decide, by decide, by decide +kernel⟩ rfl (by decide) rfl (Nat.le_of_ble_eq_true rfl) dX12_behind_2 fun v1 h2 => ?_
  refine k_if_eq hq (tgt := 16) dX12_behind_5 (by decide) (fun _ => ?_) (fun _ => ?_)
  · refine k_iconst hq dX12_behind_16 (v := (-1)) rfl ?_
    exact k_iret hq dX12_behind_17
  · refine k_aload_n hq dX12_behind_8 0 rfl ?_
    refine k_iload_n hq dX12_behind_9 2 rfl ?_
    refine k_callV hq (na := 1) (As := [.int l2]) (st := []) 11 (C := RX12) (T := TX12) rfl (con_X12_isKey _ _ _ _ l0 l2) tw_1109 tw_59 tw_1106 tw_1108 tw_29 ⟨by decide, by decide, by decide +kernel⟩ rfl (by decide) rfl (Nat.le_of_ble_eq_true rfl) dX12_behind_10 fun v3 h4 => ?_
    refine k_if_ne hq (tgt := 18) dX12_behind_13 (by decide) (fun _ => ?_) (fun _ => ?_)
    · refine k_iconst hq dX12_behind_16 (v := (-1)) rfl ?_
      exact k_iret hq dX12_behind_17
    · refine k_iconst hq dX12_behind_18 (v := 0) rfl ?_
      refine k_istore_n hq dX12_behind_19 rfl (by decide) (ls' := [(3, .int 0), (0, .ref l0), (1, .int l1), (2, .int l2)]) rfl ?_
      refine k_iconst hq dX12_behind_20 (v := 0) rfl ?_
      refine k_istore hq dX12_behind_21 (by decide) (ls' := [(4, .int 0), (3, .int 0), (0, .ref l0), (1, .int l1), (2, .int l2)]) rfl ?_
      exact k_sub [2, 3, 4, 1, 0] rfl (Q_X12_behind_23 hq N l0 l1 l2 0 0 h4)
theorem con_X12_behind (l : Launch) (G : eG) (B0 n : Nat) (N : Nat) (l0 : Nat) (l1 : Int32) (l2 : Int32) : e_C eI l G B0 n yX12_behind cX12_behind 8 (some .int) 2 46 [.ref l0, .int l1, .int l2] (F_X12_behind N l0 l1 l2) := by
  refine e_mk (by decide) (Nat.le_of_ble_eq_true rfl) fun q r0 h0 h hq e1 e2 e3 e4 => ?_
  subst e1; subst e2; subst e3; subst e4
  exact P_X12_behind_0 hq N l0 l1 l2 h
set_option maxRecDepth 100000 in
set_option maxHeartbeats 4000000 in
theorem P_X12_joinsSet_178 {q : eT} {r0 : Unit} {h0 : eH} (hq : e_B q yX12_joinsSet.cls cX12_joinsSet 13 1 22 none yX12_joinsSet.name) (N : Nat) (k12 : Nat → Int32 → Int32 → Int32 → Int32 → Int32 → eH → Option (Unit × eH)) (k65 : Nat → Int32 → Int32 → Int32 → Int32 → Int32 → Int32 → Int32 → Int64 → Int32 → eH → Option (Unit × eH)) (hk12 : ∀ (l0 : Nat) (l1 : Int32) (l2 : Int32) (l3 : Int32) (l4 : Int32) (l5 : Int32) h, e_K eV q r0 h0 12 [(0, .ref l0), (1, .int l1), (2, .int l2), (3, .int l3), (4, .int l4), (5, .int l5)] [] h (k12 l0 l1 l2 l3 l4 l5 h)) (hk65 : ∀ (l0 : Nat) (l1 : Int32) (l2 : Int32) (l3 : Int32) (l4 : Int32) (l5 : Int32) (l6 : Int32) (l7 : Int32) (l8 : Int64) (l10 : Int32) h, e_K eV q r0 h0 65 [(0, .ref l0), (1, .int l1), (2, .int l2), (3, .int l3), (4, .int l4), (5, .int l5), (6, .int l6), (7, .int l7), (8, .long l8), (10, .int l10)] [] h (k65 l0 l1 l2 l3 l4 l5 l6 l7 l8 l10 h)) (l0 : Nat) (l1 : Int32) (l2 : Int32) (l3 : Int32) (l4 : Int32) (l5 : Int32) (l6 : Int32) (l7 : Int32) (l10 : Int32) (s0 : Int64) (s1 : Int64) (h : eH) : e_K eV q r0 h0 178 [(0, .ref l0), (1, .int l1), (2, .int l2), (3, .int l3), (4, .int l4), (5, .int l5), (6, .int l6), (7, .int l7), (10, .int l10)] [.long s1, .long s0] h (F_X12_joinsSet_178 N k12 k65 l0 l1 l2 l3 l4 l5 l6 l7 l10 s0 s1 h) := by
  unfold F_X12_joinsSet_178
  refine k_lor hq dX12_joinsSet_178 ?_
  refine k_let (mk := fun z => .long z :: []) fun v1 _ => ?_
  refine k_lstore hq dX12_joinsSet_179 (by decide) (ls' := [(8, .long v1), (0, .ref l0), (1, .int l1), (2, .int l2), (3, .int l3), (4, .int l4), (5, .int l5), (6, .int l6), (7, .int l7), (10, .int l10)]) rfl ?_
  refine k_iinc hq dX12_joinsSet_181 9 rfl (v := l10 + 1) rfl (by decide) (ls' := [(10, .int (l10 + 1)), (8, .long v1), (0, .ref l0), (1, .int l1), (2, .int l2), (3, .int l3), (4, .int l4), (5, .int l5), (6, .int l6), (7, .int l7)]) rfl ?_
  refine k_goto hq (tgt := 65) dX12_joinsSet_184 (by decide) ?_
  exact k_sub [2, 3, 4, 5, 6, 7, 8, 9, 1, 0] rfl (hk65 l0 l1 l2 l3 l4 l5 l6 l7 v1 (l10 + 1) h)
set_option maxRecDepth 100000 in
set_option maxHeartbeats 4000000 in
theorem P_X12_joinsSet_170 {q : eT} {r0 : Unit} {h0 : eH} (hq : e_B q yX12_joinsSet.cls cX12_joinsSet 13 1 22 none yX12_joinsSet.name) (N : Nat) (k12 : Nat → Int32 → Int32 → Int32 → Int32 → Int32 → eH → Option (Unit × eH)) (k65 : Nat → Int32 → Int32 → Int32 → Int32 → Int32 → Int32 → Int32 → Int64 → Int32 → eH → Option (Unit × eH)) (hk12 : ∀ (l0 : Nat) (l1 : Int32) (l2 : Int32) (l3 : Int32) (l4 : Int32) (l5 : Int32) h, e_K eV q r0 h0 12 [(0, .ref l0), (1, .int l1), (2, .int l2), (3, .int l3), (4, .int l4), (5, .int l5)] [] h (k12 l0 l1 l2 l3 l4 l5 h)) (hk65 : ∀ (l0 : Nat) (l1 : Int32) (l2 : Int32) (l3 : Int32) (l4 : Int32) (l5 : Int32) (l6 : Int32) (l7 : Int32) (l8 : Int64) (l10 : Int32) h, e_K eV q r0 h0 65 [(0, .ref l0), (1, .int l1), (2, .int l2), (3, .int l3), (4, .int l4), (5, .int l5), (6, .int l6), (7, .int l7), (8, .long l8), (10, .int l10)] [] h (k65 l0 l1 l2 l3 l4 l5 l6 l7 l8 l10 h)) (l0 : Nat) (l1 : Int32) (l2 : Int32) (l3 : Int32) (l4 : Int32) (l5 : Int32) (l6 : Int32) (l7 : Int32) (l10 : Int32) (s0 : Int64) (h : eH) : e_K eV q r0 h0 170 [(0, .ref l0), (1, .int l1), (2, .int l2), (3, .int l3), (4, .int l4), (5, .int l5), (6, .int l6), (7, .int l7), (10, .int l10)] [.long s0] h (F_X12_joinsSet_170 N k12 k65 l0 l1 l2 l3 l4 l5 l6 l7 l10 s0 h) := by
  unfold F_X12_joinsSet_170
  refine k_lconst hq dX12_joinsSet_170 (v := 1) rfl ?_
  refine k_iload hq dX12_joinsSet_171 8 rfl ?_
  refine k_lshl hq dX12_joinsSet_173 ?_
  refine k_goto hq (tgt := 178) dX12_joinsSet_174 (by decide) ?_
  exact k_sub [0, 1, 2, 3, 4, 5, 6, 7, 8] rfl (P_X12_joinsSet_178 hq N k12 k65 hk12 hk65 l0 l1 l2 l3 l4 l5 l6 l7 l10 s0 ((1 : Int64) <<< (l10.toInt64 &&& 63)) h)
set_option maxRecDepth 100000 in
set_option maxHeartbeats 4000000 in
theorem P_X12_joinsSet_177 {q : eT} {r0 : Unit} {h0 : eH} (hq : e_B q yX12_joinsSet.cls cX12_joinsSet 13 1 22 none yX12_joinsSet.name) (N : Nat) (k12 : Nat → Int32 → Int32 → Int32 → Int32 → Int32 → eH → Option (Unit × eH)) (k65 : Nat → Int32 → Int32 → Int32 → Int32 → Int32 → Int32 → Int32 → Int64 → Int32 → eH → Option (Unit × eH)) (hk12 : ∀ (l0 : Nat) (l1 : Int32) (l2 : Int32) (l3 : Int32) (l4 : Int32) (l5 : Int32) h, e_K eV q r0 h0 12 [(0, .ref l0), (1, .int l1), (2, .int l2), (3, .int l3), (4, .int l4), (5, .int l5)] [] h (k12 l0 l1 l2 l3 l4 l5 h)) (hk65 : ∀ (l0 : Nat) (l1 : Int32) (l2 : Int32) (l3 : Int32) (l4 : Int32) (l5 : Int32) (l6 : Int32) (l7 : Int32) (l8 : Int64) (l10 : Int32) h, e_K eV q r0 h0 65 [(0, .ref l0), (1, .int l1), (2, .int l2), (3, .int l3), (4, .int l4), (5, .int l5), (6, .int l6), (7, .int l7), (8, .long l8), (10, .int l10)] [] h (k65 l0 l1 l2 l3 l4 l5 l6 l7 l8 l10 h)) (l0 : Nat) (l1 : Int32) (l2 : Int32) (l3 : Int32) (l4 : Int32) (l5 : Int32) (l6 : Int32) (l7 : Int32) (l10 : Int32) (s0 : Int64) (h : eH) : e_K eV q r0 h0 177 [(0, .ref l0), (1, .int l1), (2, .int l2), (3, .int l3), (4, .int l4), (5, .int l5), (6, .int l6), (7, .int l7), (10, .int l10)] [.long s0] h (F_X12_joinsSet_177 N k12 k65 l0 l1 l2 l3 l4 l5 l6 l7 l10 s0 h) := by
  unfold F_X12_joinsSet_177
  refine k_lconst hq dX12_joinsSet_177 (v := 0) rfl ?_
  exact k_sub [0, 1, 2, 3, 4, 5, 6, 7, 8] rfl (P_X12_joinsSet_178 hq N k12 k65 hk12 hk65 l0 l1 l2 l3 l4 l5 l6 l7 l10 s0 0 h)
set_option maxRecDepth 100000 in
set_option maxHeartbeats 4000000 in
theorem P_X12_joinsSet_158 {q : eT} {r0 : Unit} {h0 : eH} (hq : e_B q yX12_joinsSet.cls cX12_joinsSet 13 1 22 none yX12_joinsSet.name) (N : Nat) (k12 : Nat → Int32 → Int32 → Int32 → Int32 → Int32 → eH → Option (Unit × eH)) (k65 : Nat → Int32 → Int32 → Int32 → Int32 → Int32 → Int32 → Int32 → Int64 → Int32 → eH → Option (Unit × eH)) (hk12 : ∀ (l0 : Nat) (l1 : Int32) (l2 : Int32) (l3 : Int32) (l4 : Int32) (l5 : Int32) h, e_K eV q r0 h0 12 [(0, .ref l0), (1, .int l1), (2, .int l2), (3, .int l3), (4, .int l4), (5, .int l5)] [] h (k12 l0 l1 l2 l3 l4 l5 h)) (hk65 : ∀ (l0 : Nat) (l1 : Int32) (l2 : Int32) (l3 : Int32) (l4 : Int32) (l5 : Int32) (l6 : Int32) (l7 : Int32) (l8 : Int64) (l10 : Int32) h, e_K eV q r0 h0 65 [(0, .ref l0), (1, .int l1), (2, .int l2), (3, .int l3), (4, .int l4), (5, .int l5), (6, .int l6), (7, .int l7), (8, .long l8), (10, .int l10)] [] h (k65 l0 l1 l2 l3 l4 l5 l6 l7 l8 l10 h)) (l0 : Nat) (l1 : Int32) (l2 : Int32) (l3 : Int32) (l4 : Int32) (l5 : Int32) (l6 : Int32) (l7 : Int32) (l10 : Int32) (l12 : Int32) (s0 : Int64) (h : eH) : e_K eV q r0 h0 158 [(0, .ref l0), (1, .int l1), (2, .int l2), (3, .int l3), (4, .int l4), (5, .int l5), (6, .int l6), (7, .int l7), (10, .int l10), (12, .int l12)] [.long s0] h (F_X12_joinsSet_158 N k12 k65 l0 l1 l2 l3 l4 l5 l6 l7 l10 l12 s0 h) := by
  unfold F_X12_joinsSet_158
  refine k_iload hq dX12_joinsSet_158 9 rfl ?_
  refine k_if_eq hq (tgt := 177) dX12_joinsSet_160 (by decide) (fun _ => ?_) (fun _ => ?_)
  · exact k_sub [0, 1, 2, 3, 4, 5, 6, 7, 8] rfl (P_X12_joinsSet_177 hq N k12 k65 hk12 hk65 l0 l1 l2 l3 l4 l5 l6 l7 l10 s0 h)
  · refine k_iload hq dX12_joinsSet_163 6 rfl ?_
    refine k_iload hq dX12_joinsSet_165 8 rfl ?_
    refine k_icmp_ge hq (tgt := 177) dX12_joinsSet_167 (by decide) (fun _ => ?_) (fun _ => ?_)
    · exact k_sub [0, 1, 2, 3, 4, 5, 6, 7, 8] rfl (P_X12_joinsSet_177 hq N k12 k65 hk12 hk65 l0 l1 l2 l3 l4 l5 l6 l7 l10 s0 h)
    · exact k_sub [0, 1, 2, 3, 4, 5, 6, 7, 8] rfl (P_X12_joinsSet_170 hq N k12 k65 hk12 hk65 l0 l1 l2 l3 l4 l5 l6 l7 l10 s0 h)
set_option maxRecDepth 100000 in
set_option maxHeartbeats 4000000 in
theorem P_X12_joinsSet_146 {q : eT} {r0 : Unit} {h0 : eH} (hq : e_B q yX12_joinsSet.cls cX12_joinsSet 13 1 22 none yX12_joinsSet.name) (N : Nat) (k12 : Nat → Int32 → Int32 → Int32 → Int32 → Int32 → eH → Option (Unit × eH)) (k65 : Nat → Int32 → Int32 → Int32 → Int32 → Int32 → Int32 → Int32 → Int64 → Int32 → eH → Option (Unit × eH)) (hk12 : ∀ (l0 : Nat) (l1 : Int32) (l2 : Int32) (l3 : Int32) (l4 : Int32) (l5 : Int32) h, e_K eV q r0 h0 12 [(0, .ref l0), (1, .int l1), (2, .int l2), (3, .int l3), (4, .int l4), (5, .int l5)] [] h (k12 l0 l1 l2 l3 l4 l5 h)) (hk65 : ∀ (l0 : Nat) (l1 : Int32) (l2 : Int32) (l3 : Int32) (l4 : Int32) (l5 : Int32) (l6 : Int32) (l7 : Int32) (l8 : Int64) (l10 : Int32) h, e_K eV q r0 h0 65 [(0, .ref l0), (1, .int l1), (2, .int l2), (3, .int l3), (4, .int l4), (5, .int l5), (6, .int l6), (7, .int l7), (8, .long l8), (10, .int l10)] [] h (k65 l0 l1 l2 l3 l4 l5 l6 l7 l8 l10 h)) (l0 : Nat) (l1 : Int32) (l2 : Int32) (l3 : Int32) (l4 : Int32) (l5 : Int32) (l6 : Int32) (l7 : Int32) (l10 : Int32) (l11 : Int32) (l12 : Int32) (s0 : Int64) (h : eH) : e_K eV q r0 h0 146 [(0, .ref l0), (1, .int l1), (2, .int l2), (3, .int l3), (4, .int l4), (5, .int l5), (6, .int l6), (7, .int l7), (10, .int l10), (11, .int l11), (12, .int l12)] [.long s0] h (F_X12_joinsSet_146 N k12 k65 l0 l1 l2 l3 l4 l5 l6 l7 l10 l11 l12 s0 h) := by
  unfold F_X12_joinsSet_146
  refine k_iload hq dX12_joinsSet_146 9 rfl ?_
  refine k_if_eq hq (tgt := 158) dX12_joinsSet_148 (by decide) (fun _ => ?_) (fun _ => ?_)
  · exact k_sub [0, 1, 2, 3, 4, 5, 6, 7, 8, 10] rfl (P_X12_joinsSet_158 hq N k12 k65 hk12 hk65 l0 l1 l2 l3 l4 l5 l6 l7 l10 l12 s0 h)
  · refine k_iload hq dX12_joinsSet_151 7 rfl ?_
    refine k_iload hq dX12_joinsSet_153 8 rfl ?_
    refine k_icmp_lt hq (tgt := 170) dX12_joinsSet_155 (by decide) (fun _ => ?_) (fun _ => ?_)
    · exact k_sub [0, 1, 2, 3, 4, 5, 6, 7, 8] rfl (P_X12_joinsSet_170 hq N k12 k65 hk12 hk65 l0 l1 l2 l3 l4 l5 l6 l7 l10 s0 h)
    · exact k_sub [0, 1, 2, 3, 4, 5, 6, 7, 8, 10] rfl (P_X12_joinsSet_158 hq N k12 k65 hk12 hk65 l0 l1 l2 l3 l4 l5 l6 l7 l10 l12 s0 h)
set_option maxRecDepth 100000 in
set_option maxHeartbeats 4000000 in
theorem P_X12_joinsSet_132 {q : eT} {r0 : Unit} {h0 : eH} (hq : e_B q yX12_joinsSet.cls cX12_joinsSet 13 1 22 none yX12_joinsSet.name) (N : Nat) (k12 : Nat → Int32 → Int32 → Int32 → Int32 → Int32 → eH → Option (Unit × eH)) (k65 : Nat → Int32 → Int32 → Int32 → Int32 → Int32 → Int32 → Int32 → Int64 → Int32 → eH → Option (Unit × eH)) (hk12 : ∀ (l0 : Nat) (l1 : Int32) (l2 : Int32) (l3 : Int32) (l4 : Int32) (l5 : Int32) h, e_K eV q r0 h0 12 [(0, .ref l0), (1, .int l1), (2, .int l2), (3, .int l3), (4, .int l4), (5, .int l5)] [] h (k12 l0 l1 l2 l3 l4 l5 h)) (hk65 : ∀ (l0 : Nat) (l1 : Int32) (l2 : Int32) (l3 : Int32) (l4 : Int32) (l5 : Int32) (l6 : Int32) (l7 : Int32) (l8 : Int64) (l10 : Int32) h, e_K eV q r0 h0 65 [(0, .ref l0), (1, .int l1), (2, .int l2), (3, .int l3), (4, .int l4), (5, .int l5), (6, .int l6), (7, .int l7), (8, .long l8), (10, .int l10)] [] h (k65 l0 l1 l2 l3 l4 l5 l6 l7 l8 l10 h)) (l0 : Nat) (l1 : Int32) (l2 : Int32) (l3 : Int32) (l4 : Int32) (l5 : Int32) (l6 : Int32) (l7 : Int32) (l8 : Int64) (l10 : Int32) (l11 : Int32) (s0 : Int32) (h : eH) : e_K eV q r0 h0 132 [(0, .ref l0), (1, .int l1), (2, .int l2), (3, .int l3), (4, .int l4), (5, .int l5), (6, .int l6), (7, .int l7), (8, .long l8), (10, .int l10), (11, .int l11)] [.int s0] h (F_X12_joinsSet_132 N k12 k65 l0 l1 l2 l3 l4 l5 l6 l7 l8 l10 l11 s0 h) := by
  unfold F_X12_joinsSet_132
  refine k_istore hq dX12_joinsSet_132 (by decide) (ls' := [(12, .int s0), (0, .ref l0), (1, .int l1), (2, .int l2), (3, .int l3), (4, .int l4), (5, .int l5), (6, .int l6), (7, .int l7), (8, .long l8), (10, .int l10), (11, .int l11)]) rfl ?_
  refine k_lload hq dX12_joinsSet_134 9 rfl ?_
  refine k_iload hq dX12_joinsSet_136 11 rfl ?_
  refine k_if_eq hq (tgt := 146) dX12_joinsSet_138 (by decide) (fun _ => ?_) (fun _ => ?_)
  · exact k_sub [1, 2, 3, 4, 5, 6, 7, 8, 10, 11, 0] rfl (P_X12_joinsSet_146 hq N k12 k65 hk12 hk65 l0 l1 l2 l3 l4 l5 l6 l7 l10 l11 s0 l8 h)
  · refine k_iload hq dX12_joinsSet_141 0 rfl ?_
    refine k_if_ne hq (tgt := 170) dX12_joinsSet_143 (by decide) (fun _ => ?_) (fun _ => ?_)
    · exact k_sub [1, 2, 3, 4, 5, 6, 7, 8, 10, 11, 0] rfl (P_X12_joinsSet_146 hq N k12 k65 hk12 hk65 l0 l1 l2 l3 l4 l5 l6 l7 l10 l11 s0 l8 h)
    · exact k_sub [1, 2, 3, 4, 5, 6, 7, 8, 10] rfl (P_X12_joinsSet_170 hq N k12 k65 hk12 hk65 l0 l1 l2 l3 l4 l5 l6 l7 l10 l8 h)
set_option maxRecDepth 100000 in
set_option maxHeartbeats 4000000 in
theorem P_X12_joinsSet_131 {q : eT} {r0 : Unit} {h0 : eH} (hq : e_B q yX12_joinsSet.cls cX12_joinsSet 13 1 22 none yX12_joinsSet.name) (N : Nat) (k12 : Nat → Int32 → Int32 → Int32 → Int32 → Int32 → eH → Option (Unit × eH)) (k65 : Nat → Int32 → Int32 → Int32 → Int32 → Int32 → Int32 → Int32 → Int64 → Int32 → eH → Option (Unit × eH)) (hk12 : ∀ (l0 : Nat) (l1 : Int32) (l2 : Int32) (l3 : Int32) (l4 : Int32) (l5 : Int32) h, e_K eV q r0 h0 12 [(0, .ref l0), (1, .int l1), (2, .int l2), (3, .int l3), (4, .int l4), (5, .int l5)] [] h (k12 l0 l1 l2 l3 l4 l5 h)) (hk65 : ∀ (l0 : Nat) (l1 : Int32) (l2 : Int32) (l3 : Int32) (l4 : Int32) (l5 : Int32) (l6 : Int32) (l7 : Int32) (l8 : Int64) (l10 : Int32) h, e_K eV q r0 h0 65 [(0, .ref l0), (1, .int l1), (2, .int l2), (3, .int l3), (4, .int l4), (5, .int l5), (6, .int l6), (7, .int l7), (8, .long l8), (10, .int l10)] [] h (k65 l0 l1 l2 l3 l4 l5 l6 l7 l8 l10 h)) (l0 : Nat) (l1 : Int32) (l2 : Int32) (l3 : Int32) (l4 : Int32) (l5 : Int32) (l6 : Int32) (l7 : Int32) (l8 : Int64) (l10 : Int32) (l11 : Int32) (h : eH) : e_K eV q r0 h0 131 [(0, .ref l0), (1, .int l1), (2, .int l2), (3, .int l3), (4, .int l4), (5, .int l5), (6, .int l6), (7, .int l7), (8, .long l8), (10, .int l10), (11, .int l11)] [] h (F_X12_joinsSet_131 N k12 k65 l0 l1 l2 l3 l4 l5 l6 l7 l8 l10 l11 h) := by
  unfold F_X12_joinsSet_131
  refine k_iconst hq dX12_joinsSet_131 (v := 0) rfl ?_
  exact k_sub [0, 1, 2, 3, 4, 5, 6, 7, 8, 9, 10] rfl (P_X12_joinsSet_132 hq N k12 k65 hk12 hk65 l0 l1 l2 l3 l4 l5 l6 l7 l8 l10 l11 0 h)
set_option maxRecDepth 100000 in
set_option maxHeartbeats 4000000 in
theorem P_X12_joinsSet_224 {q : eT} {r0 : Unit} {h0 : eH} (hq : e_B q yX12_joinsSet.cls cX12_joinsSet 13 1 22 none yX12_joinsSet.name) (N : Nat) (k12 : Nat → Int32 → Int32 → Int32 → Int32 → Int32 → eH → Option (Unit × eH)) (hk12 : ∀ (l0 : Nat) (l1 : Int32) (l2 : Int32) (l3 : Int32) (l4 : Int32) (l5 : Int32) h, e_K eV q r0 h0 12 [(0, .ref l0), (1, .int l1), (2, .int l2), (3, .int l3), (4, .int l4), (5, .int l5)] [] h (k12 l0 l1 l2 l3 l4 l5 h)) (l0 : Nat) (l1 : Int32) (l2 : Int32) (l3 : Int32) (l4 : Int32) (l5 : Int32) (s0 : Nat) (s1 : Int32) (s2 : Int32) (h : eH) : e_K eV q r0 h0 224 [(0, .ref l0), (1, .int l1), (2, .int l2), (3, .int l3), (4, .int l4), (5, .int l5)] [.int s2, .int s1, .ref s0] h (F_X12_joinsSet_224 N k12 l0 l1 l2 l3 l4 l5 s0 s1 s2 h) := by
  unfold F_X12_joinsSet_224
  refine k_iast hq dX12_joinsSet_224 fun h1 => ?_
  refine k_iinc hq dX12_joinsSet_225 5 rfl (v := l5 + 1) rfl (by decide) (ls' := [(5, .int (l5 + 1)), (0, .ref l0), (1, .int l1), (2, .int l2), (3, .int l3), (4, .int l4)]) rfl ?_
  refine k_goto hq (tgt := 12) dX12_joinsSet_228 (by decide) ?_
  exact k_sub [1, 2, 3, 4, 5, 0] rfl (hk12 l0 l1 l2 l3 l4 (l5 + 1) h1)
set_option maxRecDepth 100000 in
set_option maxHeartbeats 4000000 in
theorem P_X12_joinsSet_65b {q : eT} {r0 : Unit} {h0 : eH} (hq : e_B q yX12_joinsSet.cls cX12_joinsSet 13 1 22 none yX12_joinsSet.name) (N : Nat) (k12 : Nat → Int32 → Int32 → Int32 → Int32 → Int32 → eH → Option (Unit × eH)) (k65 : Nat → Int32 → Int32 → Int32 → Int32 → Int32 → Int32 → Int32 → Int64 → Int32 → eH → Option (Unit × eH)) (hk12 : ∀ (l0 : Nat) (l1 : Int32) (l2 : Int32) (l3 : Int32) (l4 : Int32) (l5 : Int32) h, e_K eV q r0 h0 12 [(0, .ref l0), (1, .int l1), (2, .int l2), (3, .int l3), (4, .int l4), (5, .int l5)] [] h (k12 l0 l1 l2 l3 l4 l5 h)) (hk65 : ∀ (l0 : Nat) (l1 : Int32) (l2 : Int32) (l3 : Int32) (l4 : Int32) (l5 : Int32) (l6 : Int32) (l7 : Int32) (l8 : Int64) (l10 : Int32) h, e_K eV q r0 h0 65 [(0, .ref l0), (1, .int l1), (2, .int l2), (3, .int l3), (4, .int l4), (5, .int l5), (6, .int l6), (7, .int l7), (8, .long l8), (10, .int l10)] [] h (k65 l0 l1 l2 l3 l4 l5 l6 l7 l8 l10 h)) (l0 : Nat) (l1 : Int32) (l2 : Int32) (l3 : Int32) (l4 : Int32) (l5 : Int32) (l6 : Int32) (l7 : Int32) (l8 : Int64) (l10 : Int32) (h : eH) : e_K eV q r0 h0 65 [(0, .ref l0), (1, .int l1), (2, .int l2), (3, .int l3), (4, .int l4), (5, .int l5), (6, .int l6), (7, .int l7), (8, .long l8), (10, .int l10)] [] h (F_X12_joinsSet_65b N k12 k65 l0 l1 l2 l3 l4 l5 l6 l7 l8 l10 h) := by
  unfold F_X12_joinsSet_65b
  refine k_iload hq dX12_joinsSet_65 9 rfl ?_
  refine k_aload_n hq dX12_joinsSet_67 0 rfl ?_
  refine k_gr hq (C := RX12) (T := TX12) 11 15 rfl (by decide) (lay_X12 15 (by decide)) tw_942 dX12_joinsSet_68 fun v1 => ?_
  refine k_iconst hq dX12_joinsSet_71 (v := 4) rfl ?_
  refine k_iload_n hq dX12_joinsSet_72 1 rfl ?_
  refine k_imul hq dX12_joinsSet_73 ?_
  refine k_iload hq dX12_joinsSet_74 5 rfl ?_
  refine k_iadd hq dX12_joinsSet_76 ?_
  refine k_iald hq dX12_joinsSet_77 fun v2 => ?_
  refine k_icmp_gt hq (tgt := 187) dX12_joinsSet_78 (by decide) (fun _ => ?_) (fun _ => ?_)
  · refine k_aload_n hq dX12_joinsSet_187 0 rfl ?_
    refine k_gr hq (C := RX12) (T := TX12) 11 37 rfl (by decide) (lay_X12 37 (by decide)) tw_964 dX12_joinsSet_188 fun v3 => ?_
    refine k_iconst hq dX12_joinsSet_191 (v := 4) rfl ?_
    refine k_iload_n hq dX12_joinsSet_192 2 rfl ?_
    refine k_imul hq dX12_joinsSet_193 ?_
    refine k_iload hq dX12_joinsSet_194 5 rfl ?_
    refine k_iadd hq dX12_joinsSet_196 ?_
    refine k_lload hq dX12_joinsSet_197 8 rfl ?_
    refine k_last hq dX12_joinsSet_199 fun h4 => ?_
    refine k_aload_n hq dX12_joinsSet_200 0 rfl ?_
    refine k_gr hq (C := RX12) (T := TX12) 11 36 rfl (by decide) (lay_X12 36 (by decide)) tw_963 dX12_joinsSet_201 fun v5 => ?_
    refine k_iconst hq dX12_joinsSet_204 (v := 4) rfl ?_
    refine k_iload_n hq dX12_joinsSet_205 2 rfl ?_
    refine k_imul hq dX12_joinsSet_206 ?_
    refine k_iload hq dX12_joinsSet_207 5 rfl ?_
    refine k_iadd hq dX12_joinsSet_209 ?_
    refine k_iload hq dX12_joinsSet_210 6 rfl ?_
    refine k_iload hq dX12_joinsSet_212 7 rfl ?_
    refine k_icmp_le hq (tgt := 222) dX12_joinsSet_214 (by decide) (fun _ => ?_) (fun _ => ?_)
    · refine k_iload hq dX12_joinsSet_222 7 rfl ?_
      exact k_sub [0, 1, 2, 3, 4, 5] rfl (P_X12_joinsSet_224 hq N k12 hk12 l0 l1 l2 l3 l4 l5 v5 ((4 * l2) + l5) l7 h4)
    · refine k_iload hq dX12_joinsSet_217 6 rfl ?_
      refine k_goto hq (tgt := 224) dX12_joinsSet_219 (by decide) ?_
      exact k_sub [0, 1, 2, 3, 4, 5] rfl (P_X12_joinsSet_224 hq N k12 hk12 l0 l1 l2 l3 l4 l5 v5 ((4 * l2) + l5) l6 h4)
  · refine k_aload_n hq dX12_joinsSet_81 0 rfl ?_
    refine k_gr hq (C := RX12) (T := TX12) 11 14 rfl (by decide) (lay_X12 14 (by decide)) tw_941 dX12_joinsSet_82 fun v6 => ?_
    refine k_iload_n hq dX12_joinsSet_85 1 rfl ?_
    refine k_iload hq dX12_joinsSet_86 5 rfl ?_
    refine k_iload hq dX12_joinsSet_88 9 rfl ?_
    refine k_callS hq (na := 3) (As := [.int l1, .int l5, .int l10]) (st := [.ref v6]) (con_X12_at _ _ _ _ l1 l5 l10) tw_1115 tw_59 tw_1113 tw_1114 ⟨by decide, by decide, by decide +kernel⟩ rfl (by decide) rfl (Nat.le_of_ble_eq_true rfl) dX12_joinsSet_90 fun v7 h8 => ?_
    refine k_iald hq dX12_joinsSet_93 fun v9 => ?_
    refine k_iload_n hq dX12_joinsSet_94 3 rfl ?_
    refine k_callS hq (na := 2) (As := [.int v9, .int l3]) (st := []) (con_X12_has _ _ _ _ v9 l3) tw_1118 tw_59 tw_1116 tw_1117 ⟨by decide, by decide, by decide +kernel⟩ rfl (by decide) rfl (Nat.le_of_ble_eq_true rfl) dX12_joinsSet_95 fun v10 h11 => ?_
    refine k_istore hq dX12_joinsSet_98 (by decide) (ls' := [(11, .int v10), (0, .ref l0), (1, .int l1), (2, .int l2), (3, .int l3), (4, .int l4), (5, .int l5), (6, .int l6), (7, .int l7), (8, .long l8), (10, .int l10)]) rfl ?_
    refine k_iload hq dX12_joinsSet_100 5 rfl ?_
    refine k_if_eq hq (tgt := 131) dX12_joinsSet_102 (by decide) (fun _ => ?_) (fun _ => ?_)
    · exact k_sub [1, 2, 3, 4, 5, 6, 7, 8, 9, 10, 0] rfl (P_X12_joinsSet_131 hq N k12 k65 hk12 hk65 l0 l1 l2 l3 l4 l5 l6 l7 l8 l10 v10 h11)
    · refine k_aload_n hq dX12_joinsSet_105 1 rfl ?_
      refine k_gr hq (C := RX12) (T := TX12) 11 37 rfl (by decide) (lay_X12 37 (by decide)) tw_964 dX12_joinsSet_106 fun v12 => ?_
      refine k_iconst hq dX12_joinsSet_109 (v := 4) rfl ?_
      refine k_iload hq dX12_joinsSet_110 5 rfl ?_
      refine k_imul hq dX12_joinsSet_112 ?_
      refine k_iload hq dX12_joinsSet_113 6 rfl ?_
      refine k_iadd hq dX12_joinsSet_115 ?_
      refine k_lald hq dX12_joinsSet_116 fun v13 => ?_
      refine k_iload hq dX12_joinsSet_117 10 rfl ?_
      refine k_lshr hq dX12_joinsSet_119 ?_
      refine k_lconst hq dX12_joinsSet_120 (v := 1) rfl ?_
      refine k_land hq dX12_joinsSet_121 ?_
      refine k_lconst hq dX12_joinsSet_122 (v := 1) rfl ?_
      refine k_lcmp hq dX12_joinsSet_123 ?_
      refine k_if_ne hq (tgt := 131) dX12_joinsSet_124 (by decide) (fun _ => ?_) (fun _ => ?_)
      · refine k_iconst hq dX12_joinsSet_127 (v := 1) rfl ?_
        refine k_goto hq (tgt := 132) dX12_joinsSet_128 (by decide) ?_
        exact k_sub [1, 2, 3, 4, 5, 6, 7, 8, 9, 10, 0] rfl (P_X12_joinsSet_132 hq N k12 k65 hk12 hk65 l0 l1 l2 l3 l4 l5 l6 l7 l8 l10 v10 1 h11)
      · exact k_sub [1, 2, 3, 4, 5, 6, 7, 8, 9, 10, 0] rfl (P_X12_joinsSet_131 hq N k12 k65 hk12 hk65 l0 l1 l2 l3 l4 l5 l6 l7 l8 l10 v10 h11)
theorem Q_X12_joinsSet_65 {q : eT} {r0 : Unit} {h0 : eH} (hq : e_B q yX12_joinsSet.cls cX12_joinsSet 13 1 22 none yX12_joinsSet.name) (N : Nat) (k12 : Nat → Int32 → Int32 → Int32 → Int32 → Int32 → eH → Option (Unit × eH)) (hk12 : ∀ (l0 : Nat) (l1 : Int32) (l2 : Int32) (l3 : Int32) (l4 : Int32) (l5 : Int32) h, e_K eV q r0 h0 12 [(0, .ref l0), (1, .int l1), (2, .int l2), (3, .int l3), (4, .int l4), (5, .int l5)] [] h (k12 l0 l1 l2 l3 l4 l5 h)) (l0 : Nat) (l1 : Int32) (l2 : Int32) (l3 : Int32) (l4 : Int32) (l5 : Int32) (l6 : Int32) (l7 : Int32) (l8 : Int64) (l10 : Int32) (h : eH) : e_K eV q r0 h0 65 [(0, .ref l0), (1, .int l1), (2, .int l2), (3, .int l3), (4, .int l4), (5, .int l5), (6, .int l6), (7, .int l7), (8, .long l8), (10, .int l10)] [] h (L_X12_joinsSet_65 N k12 l0 l1 l2 l3 l4 l5 l6 l7 l8 l10 h) :=
  k_loop (mk := (fun s => [(0, .ref s.1), (1, .int s.2.1), (2, .int s.2.2.1), (3, .int s.2.2.2.1), (4, .int s.2.2.2.2.1), (5, .int s.2.2.2.2.2.1), (6, .int s.2.2.2.2.2.2.1), (7, .int s.2.2.2.2.2.2.2.1), (8, .long s.2.2.2.2.2.2.2.2.1), (10, .int s.2.2.2.2.2.2.2.2.2.1)])) (hp := fun s => s.2.2.2.2.2.2.2.2.2.2) (fun k hk s => P_X12_joinsSet_65b hq N k12 (fun l0 l1 l2 l3 l4 l5 l6 l7 l8 l10 h => k (l0, l1, l2, l3, l4, l5, l6, l7, l8, l10, h)) hk12 (fun l0 l1 l2 l3 l4 l5 l6 l7 l8 l10 h => hk (l0, l1, l2, l3, l4, l5, l6, l7, l8, l10, h)) s.1 s.2.1 s.2.2.1 s.2.2.2.1 s.2.2.2.2.1 s.2.2.2.2.2.1 s.2.2.2.2.2.2.1 s.2.2.2.2.2.2.2.1 s.2.2.2.2.2.2.2.2.1 s.2.2.2.2.2.2.2.2.2.1 s.2.2.2.2.2.2.2.2.2.2) N (l0, l1, l2, l3, l4, l5, l6, l7, l8, l10, h)
set_option maxRecDepth 100000 in
set_option maxHeartbeats 4000000 in
theorem P_X12_joinsSet_57 {q : eT} {r0 : Unit} {h0 : eH} (hq : e_B q yX12_joinsSet.cls cX12_joinsSet 13 1 22 none yX12_joinsSet.name) (N : Nat) (k12 : Nat → Int32 → Int32 → Int32 → Int32 → Int32 → eH → Option (Unit × eH)) (hk12 : ∀ (l0 : Nat) (l1 : Int32) (l2 : Int32) (l3 : Int32) (l4 : Int32) (l5 : Int32) h, e_K eV q r0 h0 12 [(0, .ref l0), (1, .int l1), (2, .int l2), (3, .int l3), (4, .int l4), (5, .int l5)] [] h (k12 l0 l1 l2 l3 l4 l5 h)) (l0 : Nat) (l1 : Int32) (l2 : Int32) (l3 : Int32) (l4 : Int32) (l5 : Int32) (l6 : Int32) (s0 : Int32) (h : eH) : e_K eV q r0 h0 57 [(0, .ref l0), (1, .int l1), (2, .int l2), (3, .int l3), (4, .int l4), (5, .int l5), (6, .int l6)] [.int s0] h (F_X12_joinsSet_57 N k12 l0 l1 l2 l3 l4 l5 l6 s0 h) := by
  unfold F_X12_joinsSet_57
  refine k_istore hq dX12_joinsSet_57 (by decide) (ls' := [(7, .int s0), (0, .ref l0), (1, .int l1), (2, .int l2), (3, .int l3), (4, .int l4), (5, .int l5), (6, .int l6)]) rfl ?_
  refine k_lconst hq dX12_joinsSet_59 (v := 0) rfl ?_
  refine k_lstore hq dX12_joinsSet_60 (by decide) (ls' := [(8, .long 0), (7, .int s0), (0, .ref l0), (1, .int l1), (2, .int l2), (3, .int l3), (4, .int l4), (5, .int l5), (6, .int l6)]) rfl ?_
  refine k_iconst hq dX12_joinsSet_62 (v := 1) rfl ?_
  refine k_istore hq dX12_joinsSet_63 (by decide) (ls' := [(10, .int 1), (8, .long 0), (7, .int s0), (0, .ref l0), (1, .int l1), (2, .int l2), (3, .int l3), (4, .int l4), (5, .int l5), (6, .int l6)]) rfl ?_
  exact k_sub [3, 4, 5, 6, 7, 8, 9, 2, 1, 0] rfl (Q_X12_joinsSet_65 hq N k12 hk12 l0 l1 l2 l3 l4 l5 l6 s0 0 1 h)
set_option maxRecDepth 100000 in
set_option maxHeartbeats 4000000 in
theorem P_X12_joinsSet_12b {q : eT} {r0 : Unit} {h0 : eH} (hq : e_B q yX12_joinsSet.cls cX12_joinsSet 13 1 22 none yX12_joinsSet.name) (N : Nat) (k12 : Nat → Int32 → Int32 → Int32 → Int32 → Int32 → eH → Option (Unit × eH)) (hk12 : ∀ (l0 : Nat) (l1 : Int32) (l2 : Int32) (l3 : Int32) (l4 : Int32) (l5 : Int32) h, e_K eV q r0 h0 12 [(0, .ref l0), (1, .int l1), (2, .int l2), (3, .int l3), (4, .int l4), (5, .int l5)] [] h (k12 l0 l1 l2 l3 l4 l5 h)) (l0 : Nat) (l1 : Int32) (l2 : Int32) (l3 : Int32) (l4 : Int32) (l5 : Int32) (h : eH) : e_K eV q r0 h0 12 [(0, .ref l0), (1, .int l1), (2, .int l2), (3, .int l3), (4, .int l4), (5, .int l5)] [] h (F_X12_joinsSet_12b N k12 l0 l1 l2 l3 l4 l5 h) := by
  unfold F_X12_joinsSet_12b
  refine k_iload hq dX12_joinsSet_12 5 rfl ?_
  refine k_aload_n hq dX12_joinsSet_14 0 rfl ?_
  refine k_gi hq (C := RX12) (T := TX12) 11 0 rfl (by decide) (lay_X12 0 (by decide)) tw_927 dX12_joinsSet_15 fun v1 => ?_
  refine k_icmp_ge hq (tgt := 231) dX12_joinsSet_18 (by decide) (fun _ => ?_) (fun _ => ?_)
  · exact k_vret hq dX12_joinsSet_231
  · refine k_aload_n hq dX12_joinsSet_21 0 rfl ?_
    refine k_gr hq (C := RX12) (T := TX12) 11 16 rfl (by decide) (lay_X12 16 (by decide)) tw_943 dX12_joinsSet_22 fun v2 => ?_
    refine k_iload_n hq dX12_joinsSet_25 1 rfl ?_
    refine k_iload_n hq dX12_joinsSet_26 3 rfl ?_
    refine k_callS hq (na := 2) (As := [.int l1, .int l3]) (st := [.ref v2]) (con_X12_rowAt _ _ _ _ l1 l3) tw_1112 tw_59 tw_1110 tw_1111 ⟨by decide, by decide, by decide +kernel⟩ rfl (by decide) rfl (Nat.le_of_ble_eq_true rfl) dX12_joinsSet_27 fun v3 h4 => ?_
    refine k_iload hq dX12_joinsSet_30 5 rfl ?_
    refine k_iadd hq dX12_joinsSet_32 ?_
    refine k_iald hq dX12_joinsSet_33 fun v5 => ?_
    refine k_istore hq dX12_joinsSet_34 (by decide) (ls' := [(6, .int v5), (0, .ref l0), (1, .int l1), (2, .int l2), (3, .int l3), (4, .int l4), (5, .int l5)]) rfl ?_
    refine k_iload hq dX12_joinsSet_36 5 rfl ?_
    refine k_if_ne hq (tgt := 45) dX12_joinsSet_38 (by decide) (fun _ => ?_) (fun _ => ?_)
    · refine k_iconst hq dX12_joinsSet_41 (v := 0) rfl ?_
      refine k_goto hq (tgt := 57) dX12_joinsSet_42 (by decide) ?_
      exact k_sub [1, 2, 3, 4, 5, 6, 0] rfl (P_X12_joinsSet_57 hq N k12 hk12 l0 l1 l2 l3 l4 l5 v5 0 h4)
    · refine k_aload_n hq dX12_joinsSet_45 1 rfl ?_
      refine k_gr hq (C := RX12) (T := TX12) 11 36 rfl (by decide) (lay_X12 36 (by decide)) tw_963 dX12_joinsSet_46 fun v6 => ?_
      refine k_iconst hq dX12_joinsSet_49 (v := 4) rfl ?_
      refine k_iload hq dX12_joinsSet_50 5 rfl ?_
      refine k_imul hq dX12_joinsSet_52 ?_
      refine k_iload hq dX12_joinsSet_53 6 rfl ?_
      refine k_iadd hq dX12_joinsSet_55 ?_
      refine k_iald hq dX12_joinsSet_56 fun v7 => ?_
      exact k_sub [1, 2, 3, 4, 5, 6, 0] rfl (P_X12_joinsSet_57 hq N k12 hk12 l0 l1 l2 l3 l4 l5 v5 v7 h4)
theorem Q_X12_joinsSet_12 {q : eT} {r0 : Unit} {h0 : eH} (hq : e_B q yX12_joinsSet.cls cX12_joinsSet 13 1 22 none yX12_joinsSet.name) (N : Nat) (l0 : Nat) (l1 : Int32) (l2 : Int32) (l3 : Int32) (l4 : Int32) (l5 : Int32) (h : eH) : e_K eV q r0 h0 12 [(0, .ref l0), (1, .int l1), (2, .int l2), (3, .int l3), (4, .int l4), (5, .int l5)] [] h (L_X12_joinsSet_12 N l0 l1 l2 l3 l4 l5 h) :=
  k_loop (mk := (fun s => [(0, .ref s.1), (1, .int s.2.1), (2, .int s.2.2.1), (3, .int s.2.2.2.1), (4, .int s.2.2.2.2.1), (5, .int s.2.2.2.2.2.1)])) (hp := fun s => s.2.2.2.2.2.2) (fun k hk s => P_X12_joinsSet_12b hq N (fun l0 l1 l2 l3 l4 l5 h => k (l0, l1, l2, l3, l4, l5, h)) (fun l0 l1 l2 l3 l4 l5 h => hk (l0, l1, l2, l3, l4, l5, h)) s.1 s.2.1 s.2.2.1 s.2.2.2.1 s.2.2.2.2.1 s.2.2.2.2.2.1 s.2.2.2.2.2.2) N (l0, l1, l2, l3, l4, l5, h)
set_option maxRecDepth 100000 in
set_option maxHeartbeats 4000000 in
theorem P_X12_joinsSet_0 {q : eT} {r0 : Unit} {h0 : eH} (hq : e_B q yX12_joinsSet.cls cX12_joinsSet 13 1 22 none yX12_joinsSet.name) (N : Nat) (l0 : Nat) (l1 : Int32) (l2 : Int32) (l3 : Int32) (h : eH) : e_K eV q r0 h0 0 [(0, .ref l0), (1, .int l1), (2, .int l2), (3, .int l3)] [] h (F_X12_joinsSet N l0 l1 l2 l3 h) := by
  unfold F_X12_joinsSet
  refine k_iload_n hq dX12_joinsSet_0 2 rfl ?_
  refine k_iconst hq dX12_joinsSet_1 (v := 1) rfl ?_
  refine k_iload_n hq dX12_joinsSet_2 3 rfl ?_
  refine k_ishl hq dX12_joinsSet_3 ?_
  refine k_iconst hq dX12_joinsSet_4 (v := (-1)) rfl ?_
  refine k_ixor hq dX12_joinsSet_5 ?_
  refine k_iand hq dX12_joinsSet_6 ?_
  refine k_let (mk := fun z => .int z :: []) fun v1 _ => ?_
  refine k_istore hq dX12_joinsSet_7 (by decide) (ls' := [(4, .int v1), (0, .ref l0), (1, .int l1), (2, .int l2), (3, .int l3)]) rfl ?_
  refine k_iconst hq dX12_joinsSet_9 (v := 0) rfl ?_
  refine k_istore hq dX12_joinsSet_10 (by decide) (ls' := [(5, .int 0), (4, .int v1), (0, .ref l0), (1, .int l1), (2, .int l2), (3, .int l3)]) rfl ?_
  exact k_sub [2, 3, 4, 5, 1, 0] rfl (Q_X12_joinsSet_12 hq N l0 l1 l2 l3 v1 0 h)
theorem con_X12_joinsSet (l : Launch) (G : eG) (B0 n : Nat) (N : Nat) (l0 : Nat) (l1 : Int32) (l2 : Int32) (l3 : Int32) : e_C eV l G B0 n yX12_joinsSet cX12_joinsSet 13 none 1 22 [.ref l0, .int l1, .int l2, .int l3] (F_X12_joinsSet N l0 l1 l2 l3) := by
  refine e_mk (by decide) (Nat.le_of_ble_eq_true rfl) fun q r0 h0 h hq e1 e2 e3 e4 => ?_
  subst e1; subst e2; subst e3; subst e4
  exact P_X12_joinsSet_0 hq N l0 l1 l2 l3 h
set_option maxRecDepth 100000 in
set_option maxHeartbeats 4000000 in
theorem P_X12_areLike_74 {q : eT} {r0 : Int32} {h0 : eH} (hq : e_B q yX12_areLike.cls cX12_areLike 5 0 0 (some .boolean) yX12_areLike.name) (N : Nat) (k5 : Nat → Int32 → Int32 → Int32 → Int32 → eH → Option (Int32 × eH)) (hk5 : ∀ (l0 : Nat) (l1 : Int32) (l2 : Int32) (l3 : Int32) (l4 : Int32) h, e_K eI q r0 h0 5 [(0, .ref l0), (1, .int l1), (2, .int l2), (3, .int l3), (4, .int l4)] [] h (k5 l0 l1 l2 l3 l4 h)) (l0 : Nat) (l1 : Int32) (l2 : Int32) (l4 : Int32) (s0 : Int32) (h : eH) : e_K eI q r0 h0 74 [(0, .ref l0), (1, .int l1), (2, .int l2), (4, .int l4)] [.int s0] h (F_X12_areLike_74 N k5 l0 l1 l2 l4 s0 h) := by
  unfold F_X12_areLike_74
  refine k_istore_n hq dX12_areLike_74 rfl (by decide) (ls' := [(3, .int s0), (0, .ref l0), (1, .int l1), (2, .int l2), (4, .int l4)]) rfl ?_
  refine k_iinc hq dX12_areLike_75 4 rfl (v := l4 + 1) rfl (by decide) (ls' := [(4, .int (l4 + 1)), (3, .int s0), (0, .ref l0), (1, .int l1), (2, .int l2)]) rfl ?_
  refine k_goto hq (tgt := 5) dX12_areLike_78 (by decide) ?_
  exact k_sub [2, 3, 4, 1, 0] rfl (hk5 l0 l1 l2 s0 (l4 + 1) h)
set_option maxRecDepth 100000 in
set_option maxHeartbeats 4000000 in
theorem P_X12_areLike_73 {q : eT} {r0 : Int32} {h0 : eH} (hq : e_B q yX12_areLike.cls cX12_areLike 5 0 0 (some .boolean) yX12_areLike.name) (N : Nat) (k5 : Nat → Int32 → Int32 → Int32 → Int32 → eH → Option (Int32 × eH)) (hk5 : ∀ (l0 : Nat) (l1 : Int32) (l2 : Int32) (l3 : Int32) (l4 : Int32) h, e_K eI q r0 h0 5 [(0, .ref l0), (1, .int l1), (2, .int l2), (3, .int l3), (4, .int l4)] [] h (k5 l0 l1 l2 l3 l4 h)) (l0 : Nat) (l1 : Int32) (l2 : Int32) (l4 : Int32) (h : eH) : e_K eI q r0 h0 73 [(0, .ref l0), (1, .int l1), (2, .int l2), (4, .int l4)] [] h (F_X12_areLike_73 N k5 l0 l1 l2 l4 h) := by
  unfold F_X12_areLike_73
  refine k_iconst hq dX12_areLike_73 (v := 0) rfl ?_
  exact k_sub [0, 1, 2, 3] rfl (P_X12_areLike_74 hq N k5 hk5 l0 l1 l2 l4 0 h)
set_option maxRecDepth 100000 in
set_option maxHeartbeats 4000000 in
theorem P_X12_areLike_5b {q : eT} {r0 : Int32} {h0 : eH} (hq : e_B q yX12_areLike.cls cX12_areLike 5 0 0 (some .boolean) yX12_areLike.name) (N : Nat) (k5 : Nat → Int32 → Int32 → Int32 → Int32 → eH → Option (Int32 × eH)) (hk5 : ∀ (l0 : Nat) (l1 : Int32) (l2 : Int32) (l3 : Int32) (l4 : Int32) h, e_K eI q r0 h0 5 [(0, .ref l0), (1, .int l1), (2, .int l2), (3, .int l3), (4, .int l4)] [] h (k5 l0 l1 l2 l3 l4 h)) (l0 : Nat) (l1 : Int32) (l2 : Int32) (l3 : Int32) (l4 : Int32) (h : eH) : e_K eI q r0 h0 5 [(0, .ref l0), (1, .int l1), (2, .int l2), (3, .int l3), (4, .int l4)] [] h (F_X12_areLike_5b N k5 l0 l1 l2 l3 l4 h) := by
  unfold F_X12_areLike_5b
  refine k_iload hq dX12_areLike_5 4 rfl ?_
  refine k_aload_n hq dX12_areLike_7 0 rfl ?_
  refine k_gi hq (C := RX12) (T := TX12) 11 0 rfl (by decide) (lay_X12 0 (by decide)) tw_927 dX12_areLike_8 fun v1 => ?_
  refine k_icmp_ge hq (tgt := 81) dX12_areLike_11 (by decide) (fun _ => ?_) (fun _ => ?_)
  · refine k_iload_n hq dX12_areLike_81 3 rfl ?_
    exact k_zret hq dX12_areLike_82
  · refine k_iload_n hq dX12_areLike_14 3 rfl ?_
    refine k_if_eq hq (tgt := 73) dX12_areLike_15 (by decide) (fun _ => ?_) (fun _ => ?_)
    · exact k_sub [0, 1, 2, 4] rfl (P_X12_areLike_73 hq N k5 hk5 l0 l1 l2 l4 h)
    · refine k_aload_n hq dX12_areLike_18 0 rfl ?_
      refine k_gr hq (C := RX12) (T := TX12) 11 36 rfl (by decide) (lay_X12 36 (by decide)) tw_963 dX12_areLike_19 fun v2 => ?_
      refine k_iconst hq dX12_areLike_22 (v := 4) rfl ?_
      refine k_iload_n hq dX12_areLike_23 1 rfl ?_
      refine k_imul hq dX12_areLike_24 ?_
      refine k_iload hq dX12_areLike_25 4 rfl ?_
      refine k_iadd hq dX12_areLike_27 ?_
      refine k_iald hq dX12_areLike_28 fun v3 => ?_
      refine k_aload_n hq dX12_areLike_29 0 rfl ?_
      refine k_gr hq (C := RX12) (T := TX12) 11 36 rfl (by decide) (lay_X12 36 (by decide)) tw_963 dX12_areLike_30 fun v4 => ?_
      refine k_iconst hq dX12_areLike_33 (v := 4) rfl ?_
      refine k_iload_n hq dX12_areLike_34 2 rfl ?_
      refine k_imul hq dX12_areLike_35 ?_
      refine k_iload hq dX12_areLike_36 4 rfl ?_
      refine k_iadd hq dX12_areLike_38 ?_
      refine k_iald hq dX12_areLike_39 fun v5 => ?_
      refine k_icmp_ne hq (tgt := 73) dX12_areLike_40 (by decide) (fun _ => ?_) (fun _ => ?_)
      · refine k_aload_n hq dX12_areLike_43 0 rfl ?_
        refine k_gr hq (C := RX12) (T := TX12) 11 37 rfl (by decide) (lay_X12 37 (by decide)) tw_964 dX12_areLike_44 fun v6 => ?_
        refine k_iconst hq dX12_areLike_47 (v := 4) rfl ?_
        refine k_iload_n hq dX12_areLike_48 1 rfl ?_
        refine k_imul hq dX12_areLike_49 ?_
        refine k_iload hq dX12_areLike_50 4 rfl ?_
        refine k_iadd hq dX12_areLike_52 ?_
        refine k_lald hq dX12_areLike_53 fun v7 => ?_
        refine k_aload_n hq dX12_areLike_54 0 rfl ?_
        refine k_gr hq (C := RX12) (T := TX12) 11 37 rfl (by decide) (lay_X12 37 (by decide)) tw_964 dX12_areLike_55 fun v8 => ?_
        refine k_iconst hq dX12_areLike_58 (v := 4) rfl ?_
        refine k_iload_n hq dX12_areLike_59 2 rfl ?_
        refine k_imul hq dX12_areLike_60 ?_
        refine k_iload hq dX12_areLike_61 4 rfl ?_
        refine k_iadd hq dX12_areLike_63 ?_
        refine k_lald hq dX12_areLike_64 fun v9 => ?_
        refine k_lcmp hq dX12_areLike_65 ?_
        refine k_if_ne hq (tgt := 73) dX12_areLike_66 (by decide) (fun _ => ?_) (fun _ => ?_)
        · refine k_iconst hq dX12_areLike_69 (v := 1) rfl ?_
          refine k_goto hq (tgt := 74) dX12_areLike_70 (by decide) ?_
          exact k_sub [0, 1, 2, 4] rfl (P_X12_areLike_74 hq N k5 hk5 l0 l1 l2 l4 1 h)
        · exact k_sub [0, 1, 2, 4] rfl (P_X12_areLike_73 hq N k5 hk5 l0 l1 l2 l4 h)
      · exact k_sub [0, 1, 2, 4] rfl (P_X12_areLike_73 hq N k5 hk5 l0 l1 l2 l4 h)
theorem Q_X12_areLike_5 {q : eT} {r0 : Int32} {h0 : eH} (hq : e_B q yX12_areLike.cls cX12_areLike 5 0 0 (some .boolean) yX12_areLike.name) (N : Nat) (l0 : Nat) (l1 : Int32) (l2 : Int32) (l3 : Int32) (l4 : Int32) (h : eH) : e_K eI q r0 h0 5 [(0, .ref l0), (1, .int l1), (2, .int l2), (3, .int l3), (4, .int l4)] [] h (L_X12_areLike_5 N l0 l1 l2 l3 l4 h) :=
  k_loop (mk := (fun s => [(0, .ref s.1), (1, .int s.2.1), (2, .int s.2.2.1), (3, .int s.2.2.2.1), (4, .int s.2.2.2.2.1)])) (hp := fun s => s.2.2.2.2.2) (fun k hk s => P_X12_areLike_5b hq N (fun l0 l1 l2 l3 l4 h => k (l0, l1, l2, l3, l4, h)) (fun l0 l1 l2 l3 l4 h => hk (l0, l1, l2, l3, l4, h)) s.1 s.2.1 s.2.2.1 s.2.2.2.1 s.2.2.2.2.1 s.2.2.2.2.2) N (l0, l1, l2, l3, l4, h)
set_option maxRecDepth 100000 in
set_option maxHeartbeats 4000000 in
theorem P_X12_areLike_0 {q : eT} {r0 : Int32} {h0 : eH} (hq : e_B q yX12_areLike.cls cX12_areLike 5 0 0 (some .boolean) yX12_areLike.name) (N : Nat) (l0 : Nat) (l1 : Int32) (l2 : Int32) (h : eH) : e_K eI q r0 h0 0 [(0, .ref l0), (1, .int l1), (2, .int l2)] [] h (F_X12_areLike N l0 l1 l2 h) := by
  unfold F_X12_areLike
  refine k_iconst hq dX12_areLike_0 (v := 1) rfl ?_
  refine k_istore_n hq dX12_areLike_1 rfl (by decide) (ls' := [(3, .int 1), (0, .ref l0), (1, .int l1), (2, .int l2)]) rfl ?_
  refine k_iconst hq dX12_areLike_2 (v := 0) rfl ?_
  refine k_istore hq dX12_areLike_3 (by decide) (ls' := [(4, .int 0), (3, .int 1), (0, .ref l0), (1, .int l1), (2, .int l2)]) rfl ?_
  exact k_sub [2, 3, 4, 1, 0] rfl (Q_X12_areLike_5 hq N l0 l1 l2 1 0 h)
theorem con_X12_areLike (l : Launch) (G : eG) (B0 n : Nat) (N : Nat) (l0 : Nat) (l1 : Int32) (l2 : Int32) : e_C eI l G B0 n yX12_areLike cX12_areLike 5 (some .boolean) 0 0 [.ref l0, .int l1, .int l2] (F_X12_areLike N l0 l1 l2) := by
  refine e_mk (by decide) (Nat.le_of_ble_eq_true rfl) fun q r0 h0 h hq e1 e2 e3 e4 => ?_
  subst e1; subst e2; subst e3; subst e4
  exact P_X12_areLike_0 hq N l0 l1 l2 h
set_option maxRecDepth 100000 in
set_option maxHeartbeats 4000000 in
theorem P_X12_laysSets_83 {q : eT} {r0 : Unit} {h0 : eH} (hq : e_B q yX12_laysSets.cls cX12_laysSets 5 2 54 none yX12_laysSets.name) (N : Nat) (k2 : Nat → Int32 → Int32 → eH → Option (Unit × eH)) (k52 : Nat → Int32 → Int32 → Int32 → eH → Option (Unit × eH)) (hk2 : ∀ (l0 : Nat) (l1 : Int32) (l2 : Int32) h, e_K eV q r0 h0 2 [(0, .ref l0), (1, .int l1), (2, .int l2)] [] h (k2 l0 l1 l2 h)) (hk52 : ∀ (l0 : Nat) (l1 : Int32) (l2 : Int32) (l4 : Int32) h, e_K eV q r0 h0 52 [(0, .ref l0), (1, .int l1), (2, .int l2), (4, .int l4)] [] h (k52 l0 l1 l2 l4 h)) (l0 : Nat) (l1 : Int32) (l2 : Int32) (l4 : Int32) (s0 : Nat) (s1 : Int32) (s2 : Int32) (h : eH) : e_K eV q r0 h0 83 [(0, .ref l0), (1, .int l1), (2, .int l2), (4, .int l4)] [.int s2, .int s1, .ref s0] h (F_X12_laysSets_83 N k2 k52 l0 l1 l2 l4 s0 s1 s2 h) := by
  unfold F_X12_laysSets_83
  refine k_iast hq dX12_laysSets_83 fun h1 => ?_
  refine k_iinc hq dX12_laysSets_84 3 rfl (v := l4 + (-1)) rfl (by decide) (ls' := [(4, .int (l4 + (-1))), (0, .ref l0), (1, .int l1), (2, .int l2)]) rfl ?_
  refine k_goto hq (tgt := 52) dX12_laysSets_87 (by decide) ?_
  exact k_sub [1, 2, 3, 0] rfl (hk52 l0 l1 l2 (l4 + (-1)) h1)
set_option maxRecDepth 100000 in
set_option maxHeartbeats 4000000 in
theorem P_X12_laysSets_52b {q : eT} {r0 : Unit} {h0 : eH} (hq : e_B q yX12_laysSets.cls cX12_laysSets 5 2 54 none yX12_laysSets.name) (N : Nat) (k2 : Nat → Int32 → Int32 → eH → Option (Unit × eH)) (k52 : Nat → Int32 → Int32 → Int32 → eH → Option (Unit × eH)) (hk2 : ∀ (l0 : Nat) (l1 : Int32) (l2 : Int32) h, e_K eV q r0 h0 2 [(0, .ref l0), (1, .int l1), (2, .int l2)] [] h (k2 l0 l1 l2 h)) (hk52 : ∀ (l0 : Nat) (l1 : Int32) (l2 : Int32) (l4 : Int32) h, e_K eV q r0 h0 52 [(0, .ref l0), (1, .int l1), (2, .int l2), (4, .int l4)] [] h (k52 l0 l1 l2 l4 h)) (l0 : Nat) (l1 : Int32) (l2 : Int32) (l4 : Int32) (h : eH) : e_K eV q r0 h0 52 [(0, .ref l0), (1, .int l1), (2, .int l2), (4, .int l4)] [] h (F_X12_laysSets_52b N k2 k52 l0 l1 l2 l4 h) := by
  unfold F_X12_laysSets_52b
  refine k_iload hq dX12_laysSets_52 3 rfl ?_
  refine k_if_le hq (tgt := 90) dX12_laysSets_54 (by decide) (fun _ => ?_) (fun _ => ?_)
  · refine k_iinc hq dX12_laysSets_90 2 rfl (v := l2 + 1) rfl (by decide) (ls' := [(2, .int (l2 + 1)), (0, .ref l0), (1, .int l1), (4, .int l4)]) rfl ?_
    refine k_goto hq (tgt := 2) dX12_laysSets_93 (by decide) ?_
    exact k_sub [1, 2, 0] rfl (hk2 l0 l1 (l2 + 1) h)
  · refine k_aload_n hq dX12_laysSets_57 0 rfl ?_
    refine k_gr hq (C := RX12) (T := TX12) 11 38 rfl (by decide) (lay_X12 38 (by decide)) tw_965 dX12_laysSets_58 fun v1 => ?_
    refine k_iload_n hq dX12_laysSets_61 2 rfl ?_
    refine k_aload_n hq dX12_laysSets_62 0 rfl ?_
    refine k_iload hq dX12_laysSets_63 3 rfl ?_
    refine k_iload_n hq dX12_laysSets_65 2 rfl ?_
    refine k_callV hq (na := 2) (As := [.int l4, .int l2]) (st := [.int l2, .ref v1]) 11 (C := RX12) (T := TX12) rfl (con_X12_areLike _ _ _ _ N l0 l4 l2) tw_1236 tw_59 tw_1233 tw_1235 tw_43 ⟨by decide, by decide, by decide +kernel⟩ rfl (by decide) rfl (Nat.le_of_ble_eq_true rfl) dX12_laysSets_66 fun v2 h3 => ?_
    refine k_if_eq hq (tgt := 77) dX12_laysSets_69 (by decide) (fun _ => ?_) (fun _ => ?_)
    · refine k_aload_n hq dX12_laysSets_77 0 rfl ?_
      refine k_gr hq (C := RX12) (T := TX12) 11 38 rfl (by decide) (lay_X12 38 (by decide)) tw_965 dX12_laysSets_78 fun v4 => ?_
      refine k_iload_n hq dX12_laysSets_81 2 rfl ?_
      refine k_iald hq dX12_laysSets_82 fun v5 => ?_
      exact k_sub [0, 1, 2, 3] rfl (P_X12_laysSets_83 hq N k2 k52 hk2 hk52 l0 l1 l2 l4 v1 l2 v5 h3)
    · refine k_iload hq dX12_laysSets_72 3 rfl ?_
      refine k_goto hq (tgt := 83) dX12_laysSets_74 (by decide) ?_
      exact k_sub [0, 1, 2, 3] rfl (P_X12_laysSets_83 hq N k2 k52 hk2 hk52 l0 l1 l2 l4 v1 l2 l4 h3)
theorem Q_X12_laysSets_52 {q : eT} {r0 : Unit} {h0 : eH} (hq : e_B q yX12_laysSets.cls cX12_laysSets 5 2 54 none yX12_laysSets.name) (N : Nat) (k2 : Nat → Int32 → Int32 → eH → Option (Unit × eH)) (hk2 : ∀ (l0 : Nat) (l1 : Int32) (l2 : Int32) h, e_K eV q r0 h0 2 [(0, .ref l0), (1, .int l1), (2, .int l2)] [] h (k2 l0 l1 l2 h)) (l0 : Nat) (l1 : Int32) (l2 : Int32) (l4 : Int32) (h : eH) : e_K eV q r0 h0 52 [(0, .ref l0), (1, .int l1), (2, .int l2), (4, .int l4)] [] h (L_X12_laysSets_52 N k2 l0 l1 l2 l4 h) :=
  k_loop (mk := (fun s => [(0, .ref s.1), (1, .int s.2.1), (2, .int s.2.2.1), (4, .int s.2.2.2.1)])) (hp := fun s => s.2.2.2.2) (fun k hk s => P_X12_laysSets_52b hq N k2 (fun l0 l1 l2 l4 h => k (l0, l1, l2, l4, h)) hk2 (fun l0 l1 l2 l4 h => hk (l0, l1, l2, l4, h)) s.1 s.2.1 s.2.2.1 s.2.2.2.1 s.2.2.2.2) N (l0, l1, l2, l4, h)
set_option maxRecDepth 100000 in
set_option maxHeartbeats 4000000 in
theorem P_X12_laysSets_19b {q : eT} {r0 : Unit} {h0 : eH} (hq : e_B q yX12_laysSets.cls cX12_laysSets 5 2 54 none yX12_laysSets.name) (N : Nat) (k2 : Nat → Int32 → Int32 → eH → Option (Unit × eH)) (k19 : Nat → Int32 → Int32 → Int32 → eH → Option (Unit × eH)) (hk2 : ∀ (l0 : Nat) (l1 : Int32) (l2 : Int32) h, e_K eV q r0 h0 2 [(0, .ref l0), (1, .int l1), (2, .int l2)] [] h (k2 l0 l1 l2 h)) (hk19 : ∀ (l0 : Nat) (l1 : Int32) (l2 : Int32) (l3 : Int32) h, e_K eV q r0 h0 19 [(0, .ref l0), (1, .int l1), (2, .int l2), (3, .int l3)] [] h (k19 l0 l1 l2 l3 h)) (l0 : Nat) (l1 : Int32) (l2 : Int32) (l3 : Int32) (h : eH) : e_K eV q r0 h0 19 [(0, .ref l0), (1, .int l1), (2, .int l2), (3, .int l3)] [] h (F_X12_laysSets_19b N k2 k19 l0 l1 l2 l3 h) := by
  unfold F_X12_laysSets_19b
  refine k_iload_n hq dX12_laysSets_19 2 rfl ?_
  refine k_iload_n hq dX12_laysSets_20 3 rfl ?_
  refine k_callS hq (na := 2) (As := [.int l2, .int l3]) (st := []) (con_X12_has _ _ _ _ l2 l3) tw_1118 tw_59 tw_1116 tw_1117 ⟨by decide, by decide, by decide +kernel⟩ rfl (by decide) rfl (Nat.le_of_ble_eq_true rfl) dX12_laysSets_21 fun v1 h2 => ?_
  refine k_if_ne hq (tgt := 33) dX12_laysSets_24 (by decide) (fun _ => ?_) (fun _ => ?_)
  · refine k_iinc hq dX12_laysSets_27 3 rfl (v := l3 + (-1)) rfl (by decide) (ls' := [(3, .int (l3 + (-1))), (0, .ref l0), (1, .int l1), (2, .int l2)]) rfl ?_
    refine k_goto hq (tgt := 19) dX12_laysSets_30 (by decide) ?_
    exact k_sub [1, 2, 3, 0] rfl (hk19 l0 l1 l2 (l3 + (-1)) h2)
  · refine k_aload_n hq dX12_laysSets_33 0 rfl ?_
    refine k_iload_n hq dX12_laysSets_34 1 rfl ?_
    refine k_iload_n hq dX12_laysSets_35 2 rfl ?_
    refine k_iload_n hq dX12_laysSets_36 3 rfl ?_
    refine k_callV hq (na := 3) (As := [.int l1, .int l2, .int l3]) (st := []) 11 (C := RX12) (T := TX12) rfl (con_X12_joinsSet _ _ _ _ N l0 l1 l2 l3) tw_1232 tw_59 tw_1229 tw_1231 tw_42 ⟨by decide, by decide, by decide +kernel⟩ rfl (by decide) rfl (Nat.le_of_ble_eq_true rfl) dX12_laysSets_37 fun v3 h4 => ?_
    refine k_aload_n hq dX12_laysSets_40 0 rfl ?_
    refine k_gr hq (C := RX12) (T := TX12) 11 38 rfl (by decide) (lay_X12 38 (by decide)) tw_965 dX12_laysSets_41 fun v5 => ?_
    refine k_iload_n hq dX12_laysSets_44 2 rfl ?_
    refine k_iload_n hq dX12_laysSets_45 2 rfl ?_
    refine k_iast hq dX12_laysSets_46 fun h6 => ?_
    refine k_iload_n hq dX12_laysSets_47 2 rfl ?_
    refine k_iconst hq dX12_laysSets_48 (v := 1) rfl ?_
    refine k_isub hq dX12_laysSets_49 ?_
    refine k_let (mk := fun z => .int z :: []) fun v7 _ => ?_
    refine k_istore hq dX12_laysSets_50 (by decide) (ls' := [(4, .int v7), (0, .ref l0), (1, .int l1), (2, .int l2), (3, .int l3)]) rfl ?_
    exact k_sub [1, 2, 3, 0] rfl (Q_X12_laysSets_52 hq N k2 hk2 l0 l1 l2 v7 h6)
theorem Q_X12_laysSets_19 {q : eT} {r0 : Unit} {h0 : eH} (hq : e_B q yX12_laysSets.cls cX12_laysSets 5 2 54 none yX12_laysSets.name) (N : Nat) (k2 : Nat → Int32 → Int32 → eH → Option (Unit × eH)) (hk2 : ∀ (l0 : Nat) (l1 : Int32) (l2 : Int32) h, e_K eV q r0 h0 2 [(0, .ref l0), (1, .int l1), (2, .int l2)] [] h (k2 l0 l1 l2 h)) (l0 : Nat) (l1 : Int32) (l2 : Int32) (l3 : Int32) (h : eH) : e_K eV q r0 h0 19 [(0, .ref l0), (1, .int l1), (2, .int l2), (3, .int l3)] [] h (L_X12_laysSets_19 N k2 l0 l1 l2 l3 h) :=
  k_loop (mk := (fun s => [(0, .ref s.1), (1, .int s.2.1), (2, .int s.2.2.1), (3, .int s.2.2.2.1)])) (hp := fun s => s.2.2.2.2) (fun k hk s => P_X12_laysSets_19b hq N k2 (fun l0 l1 l2 l3 h => k (l0, l1, l2, l3, h)) hk2 (fun l0 l1 l2 l3 h => hk (l0, l1, l2, l3, h)) s.1 s.2.1 s.2.2.1 s.2.2.2.1 s.2.2.2.2) N (l0, l1, l2, l3, h)
set_option maxRecDepth 100000 in
set_option maxHeartbeats 4000000 in
theorem P_X12_laysSets_2b {q : eT} {r0 : Unit} {h0 : eH} (hq : e_B q yX12_laysSets.cls cX12_laysSets 5 2 54 none yX12_laysSets.name) (N : Nat) (k2 : Nat → Int32 → Int32 → eH → Option (Unit × eH)) (hk2 : ∀ (l0 : Nat) (l1 : Int32) (l2 : Int32) h, e_K eV q r0 h0 2 [(0, .ref l0), (1, .int l1), (2, .int l2)] [] h (k2 l0 l1 l2 h)) (l0 : Nat) (l1 : Int32) (l2 : Int32) (h : eH) : e_K eV q r0 h0 2 [(0, .ref l0), (1, .int l1), (2, .int l2)] [] h (F_X12_laysSets_2b N k2 l0 l1 l2 h) := by
  unfold F_X12_laysSets_2b
  refine k_iload_n hq dX12_laysSets_2 2 rfl ?_
  refine k_iconst hq dX12_laysSets_3 (v := 1) rfl ?_
  refine k_aload_n hq dX12_laysSets_4 0 rfl ?_
  refine k_gi hq (C := RX12) (T := TX12) 11 0 rfl (by decide) (lay_X12 0 (by decide)) tw_927 dX12_laysSets_5 fun v1 => ?_
  refine k_ishl hq dX12_laysSets_8 ?_
  refine k_icmp_ge hq (tgt := 96) dX12_laysSets_9 (by decide) (fun _ => ?_) (fun _ => ?_)
  · exact k_vret hq dX12_laysSets_96
  · refine k_aload_n hq dX12_laysSets_12 0 rfl ?_
    refine k_gi hq (C := RX12) (T := TX12) 11 0 rfl (by decide) (lay_X12 0 (by decide)) tw_927 dX12_laysSets_13 fun v2 => ?_
    refine k_iconst hq dX12_laysSets_16 (v := 1) rfl ?_
    refine k_isub hq dX12_laysSets_17 ?_
    refine k_let (mk := fun z => .int z :: []) fun v3 _ => ?_
    refine k_istore_n hq dX12_laysSets_18 rfl (by decide) (ls' := [(3, .int v3), (0, .ref l0), (1, .int l1), (2, .int l2)]) rfl ?_
    exact k_sub [1, 2, 3, 0] rfl (Q_X12_laysSets_19 hq N k2 hk2 l0 l1 l2 v3 h)
theorem Q_X12_laysSets_2 {q : eT} {r0 : Unit} {h0 : eH} (hq : e_B q yX12_laysSets.cls cX12_laysSets 5 2 54 none yX12_laysSets.name) (N : Nat) (l0 : Nat) (l1 : Int32) (l2 : Int32) (h : eH) : e_K eV q r0 h0 2 [(0, .ref l0), (1, .int l1), (2, .int l2)] [] h (L_X12_laysSets_2 N l0 l1 l2 h) :=
  k_loop (mk := (fun s => [(0, .ref s.1), (1, .int s.2.1), (2, .int s.2.2.1)])) (hp := fun s => s.2.2.2) (fun k hk s => P_X12_laysSets_2b hq N (fun l0 l1 l2 h => k (l0, l1, l2, h)) (fun l0 l1 l2 h => hk (l0, l1, l2, h)) s.1 s.2.1 s.2.2.1 s.2.2.2) N (l0, l1, l2, h)
set_option maxRecDepth 100000 in
set_option maxHeartbeats 4000000 in
theorem P_X12_laysSets_0 {q : eT} {r0 : Unit} {h0 : eH} (hq : e_B q yX12_laysSets.cls cX12_laysSets 5 2 54 none yX12_laysSets.name) (N : Nat) (l0 : Nat) (l1 : Int32) (h : eH) : e_K eV q r0 h0 0 [(0, .ref l0), (1, .int l1)] [] h (F_X12_laysSets N l0 l1 h) := by
  unfold F_X12_laysSets
  refine k_iconst hq dX12_laysSets_0 (v := 1) rfl ?_
  refine k_istore_n hq dX12_laysSets_1 rfl (by decide) (ls' := [(2, .int 1), (0, .ref l0), (1, .int l1)]) rfl ?_
  exact k_sub [1, 2, 0] rfl (Q_X12_laysSets_2 hq N l0 l1 1 h)
theorem con_X12_laysSets (l : Launch) (G : eG) (B0 n : Nat) (N : Nat) (l0 : Nat) (l1 : Int32) : e_C eV l G B0 n yX12_laysSets cX12_laysSets 5 none 2 54 [.ref l0, .int l1] (F_X12_laysSets N l0 l1) := by
  refine e_mk (by decide) (Nat.le_of_ble_eq_true rfl) fun q r0 h0 h hq e1 e2 e3 e4 => ?_
  subst e1; subst e2; subst e3; subst e4
  exact P_X12_laysSets_0 hq N l0 l1 h
set_option maxRecDepth 100000 in
set_option maxHeartbeats 4000000 in
theorem P_X12_setOf_0 {q : eT} {r0 : Int32} {h0 : eH} (hq : e_B q yX12_setOf.cls cX12_setOf 2 0 0 (some .int) yX12_setOf.name) (l0 : Int32) (l1 : Int32) (h : eH) : e_K eI q r0 h0 0 [(0, .int l0), (1, .int l1)] [] h (F_X12_setOf l0 l1 h) := by
  unfold F_X12_setOf
  refine k_iload_n hq dX12_setOf_0 0 rfl ?_
  refine k_iconst hq dX12_setOf_1 (v := 4) rfl ?_
  refine k_iload_n hq dX12_setOf_2 1 rfl ?_
  refine k_imul hq dX12_setOf_3 ?_
  refine k_ishr hq dX12_setOf_4 ?_
  refine k_bipush hq dX12_setOf_5 (v := 15) rfl ?_
  refine k_iand hq dX12_setOf_7 ?_
  exact k_iret hq dX12_setOf_8
theorem con_X12_setOf (l : Launch) (G : eG) (B0 n : Nat) (l0 : Int32) (l1 : Int32) : e_C eI l G B0 n yX12_setOf cX12_setOf 2 (some .int) 0 0 [.int l0, .int l1] (F_X12_setOf l0 l1) := by
  refine e_mk (by decide) (Nat.le_of_ble_eq_true rfl) fun q r0 h0 h hq e1 e2 e3 e4 => ?_
  subst e1; subst e2; subst e3; subst e4
  exact P_X12_setOf_0 hq l0 l1 h
set_option maxRecDepth 100000 in
set_option maxHeartbeats 4000000 in
theorem P_X12_isAll_44 {q : eT} {r0 : Int32} {h0 : eH} (hq : e_B q yX12_isAll.cls cX12_isAll 4 1 21 (some .boolean) yX12_isAll.name) (N : Nat) (k4 : Nat → Int32 → Int32 → Int32 → eH → Option (Int32 × eH)) (hk4 : ∀ (l0 : Nat) (l1 : Int32) (l2 : Int32) (l3 : Int32) h, e_K eI q r0 h0 4 [(0, .ref l0), (1, .int l1), (2, .int l2), (3, .int l3)] [] h (k4 l0 l1 l2 l3 h)) (l0 : Nat) (l1 : Int32) (l3 : Int32) (s0 : Int32) (h : eH) : e_K eI q r0 h0 44 [(0, .ref l0), (1, .int l1), (3, .int l3)] [.int s0] h (F_X12_isAll_44 N k4 l0 l1 l3 s0 h) := by
  unfold F_X12_isAll_44
  refine k_istore_n hq dX12_isAll_44 rfl (by decide) (ls' := [(2, .int s0), (0, .ref l0), (1, .int l1), (3, .int l3)]) rfl ?_
  refine k_iinc hq dX12_isAll_45 3 rfl (v := l3 + 1) rfl (by decide) (ls' := [(3, .int (l3 + 1)), (2, .int s0), (0, .ref l0), (1, .int l1)]) rfl ?_
  refine k_goto hq (tgt := 4) dX12_isAll_48 (by decide) ?_
  exact k_sub [2, 3, 1, 0] rfl (hk4 l0 l1 s0 (l3 + 1) h)
set_option maxRecDepth 100000 in
set_option maxHeartbeats 4000000 in
theorem P_X12_isAll_43 {q : eT} {r0 : Int32} {h0 : eH} (hq : e_B q yX12_isAll.cls cX12_isAll 4 1 21 (some .boolean) yX12_isAll.name) (N : Nat) (k4 : Nat → Int32 → Int32 → Int32 → eH → Option (Int32 × eH)) (hk4 : ∀ (l0 : Nat) (l1 : Int32) (l2 : Int32) (l3 : Int32) h, e_K eI q r0 h0 4 [(0, .ref l0), (1, .int l1), (2, .int l2), (3, .int l3)] [] h (k4 l0 l1 l2 l3 h)) (l0 : Nat) (l1 : Int32) (l3 : Int32) (h : eH) : e_K eI q r0 h0 43 [(0, .ref l0), (1, .int l1), (3, .int l3)] [] h (F_X12_isAll_43 N k4 l0 l1 l3 h) := by
  unfold F_X12_isAll_43
  refine k_iconst hq dX12_isAll_43 (v := 0) rfl ?_
  exact k_sub [0, 1, 2] rfl (P_X12_isAll_44 hq N k4 hk4 l0 l1 l3 0 h)
set_option maxRecDepth 100000 in
set_option maxHeartbeats 4000000 in
theorem P_X12_isAll_4b {q : eT} {r0 : Int32} {h0 : eH} (hq : e_B q yX12_isAll.cls cX12_isAll 4 1 21 (some .boolean) yX12_isAll.name) (N : Nat) (k4 : Nat → Int32 → Int32 → Int32 → eH → Option (Int32 × eH)) (hk4 : ∀ (l0 : Nat) (l1 : Int32) (l2 : Int32) (l3 : Int32) h, e_K eI q r0 h0 4 [(0, .ref l0), (1, .int l1), (2, .int l2), (3, .int l3)] [] h (k4 l0 l1 l2 l3 h)) (l0 : Nat) (l1 : Int32) (l2 : Int32) (l3 : Int32) (h : eH) : e_K eI q r0 h0 4 [(0, .ref l0), (1, .int l1), (2, .int l2), (3, .int l3)] [] h (F_X12_isAll_4b N k4 l0 l1 l2 l3 h) := by
  unfold F_X12_isAll_4b
  refine k_iload_n hq dX12_isAll_4 3 rfl ?_
  refine k_aload_n hq dX12_isAll_5 0 rfl ?_
  refine k_gi hq (C := RX12) (T := TX12) 11 0 rfl (by decide) (lay_X12 0 (by decide)) tw_927 dX12_isAll_6 fun v1 => ?_
  refine k_icmp_ge hq (tgt := 51) dX12_isAll_9 (by decide) (fun _ => ?_) (fun _ => ?_)
  · refine k_iload_n hq dX12_isAll_51 2 rfl ?_
    exact k_zret hq dX12_isAll_52
  · refine k_iload_n hq dX12_isAll_12 2 rfl ?_
    refine k_if_eq hq (tgt := 43) dX12_isAll_13 (by decide) (fun _ => ?_) (fun _ => ?_)
    · exact k_sub [0, 1, 3] rfl (P_X12_isAll_43 hq N k4 hk4 l0 l1 l3 h)
    · refine k_aload_n hq dX12_isAll_16 0 rfl ?_
      refine k_gr hq (C := RX12) (T := TX12) 11 38 rfl (by decide) (lay_X12 38 (by decide)) tw_965 dX12_isAll_17 fun v2 => ?_
      refine k_iload_n hq dX12_isAll_20 1 rfl ?_
      refine k_iload_n hq dX12_isAll_21 3 rfl ?_
      refine k_callS hq (na := 2) (As := [.int l1, .int l3]) (st := [.ref v2]) (con_X12_setOf _ _ _ _ l1 l3) tw_1247 tw_59 tw_1245 tw_1246 ⟨by decide, by decide, by decide +kernel⟩ rfl (by decide) rfl (Nat.le_of_ble_eq_true rfl) dX12_isAll_22 fun v3 h4 => ?_
      refine k_iald hq dX12_isAll_25 fun v5 => ?_
      refine k_aload_n hq dX12_isAll_26 0 rfl ?_
      refine k_gr hq (C := RX12) (T := TX12) 11 38 rfl (by decide) (lay_X12 38 (by decide)) tw_965 dX12_isAll_27 fun v6 => ?_
      refine k_iload_n hq dX12_isAll_30 1 rfl ?_
      refine k_iconst hq dX12_isAll_31 (v := 0) rfl ?_
      refine k_callS hq (na := 2) (As := [.int l1, .int 0]) (st := [.ref v6, .int v5]) (con_X12_setOf _ _ _ _ l1 0) tw_1247 tw_59 tw_1245 tw_1246 ⟨by decide, by decide, by decide +kernel⟩ rfl (by decide) rfl (Nat.le_of_ble_eq_true rfl) dX12_isAll_32 fun v7 h8 => ?_
      refine k_iald hq dX12_isAll_35 fun v9 => ?_
      refine k_icmp_ne hq (tgt := 43) dX12_isAll_36 (by decide) (fun _ => ?_) (fun _ => ?_)
      · refine k_iconst hq dX12_isAll_39 (v := 1) rfl ?_
        refine k_goto hq (tgt := 44) dX12_isAll_40 (by decide) ?_
        exact k_sub [0, 1, 3] rfl (P_X12_isAll_44 hq N k4 hk4 l0 l1 l3 1 h8)
      · exact k_sub [0, 1, 3] rfl (P_X12_isAll_43 hq N k4 hk4 l0 l1 l3 h8)
theorem Q_X12_isAll_4 {q : eT} {r0 : Int32} {h0 : eH} (hq : e_B q yX12_isAll.cls cX12_isAll 4 1 21 (some .boolean) yX12_isAll.name) (N : Nat) (l0 : Nat) (l1 : Int32) (l2 : Int32) (l3 : Int32) (h : eH) : e_K eI q r0 h0 4 [(0, .ref l0), (1, .int l1), (2, .int l2), (3, .int l3)] [] h (L_X12_isAll_4 N l0 l1 l2 l3 h) :=
  k_loop (mk := (fun s => [(0, .ref s.1), (1, .int s.2.1), (2, .int s.2.2.1), (3, .int s.2.2.2.1)])) (hp := fun s => s.2.2.2.2) (fun k hk s => P_X12_isAll_4b hq N (fun l0 l1 l2 l3 h => k (l0, l1, l2, l3, h)) (fun l0 l1 l2 l3 h => hk (l0, l1, l2, l3, h)) s.1 s.2.1 s.2.2.1 s.2.2.2.1 s.2.2.2.2) N (l0, l1, l2, l3, h)
set_option maxRecDepth 100000 in
set_option maxHeartbeats 4000000 in
theorem P_X12_isAll_0 {q : eT} {r0 : Int32} {h0 : eH} (hq : e_B q yX12_isAll.cls cX12_isAll 4 1 21 (some .boolean) yX12_isAll.name) (N : Nat) (l0 : Nat) (l1 : Int32) (h : eH) : e_K eI q r0 h0 0 [(0, .ref l0), (1, .int l1)] [] h (F_X12_isAll N l0 l1 h) := by
  unfold F_X12_isAll
  refine k_iconst hq dX12_isAll_0 (v := 1) rfl ?_
  refine k_istore_n hq dX12_isAll_1 rfl (by decide) (ls' := [(2, .int 1), (0, .ref l0), (1, .int l1)]) rfl ?_
  refine k_iconst hq dX12_isAll_2 (v := 1) rfl ?_
  refine k_istore_n hq dX12_isAll_3 rfl (by decide) (ls' := [(3, .int 1), (2, .int 1), (0, .ref l0), (1, .int l1)]) rfl ?_
  exact k_sub [2, 3, 1, 0] rfl (Q_X12_isAll_4 hq N l0 l1 1 1 h)
theorem con_X12_isAll (l : Launch) (G : eG) (B0 n : Nat) (N : Nat) (l0 : Nat) (l1 : Int32) : e_C eI l G B0 n yX12_isAll cX12_isAll 4 (some .boolean) 1 21 [.ref l0, .int l1] (F_X12_isAll N l0 l1) := by
  refine e_mk (by decide) (Nat.le_of_ble_eq_true rfl) fun q r0 h0 h hq e1 e2 e3 e4 => ?_
  subst e1; subst e2; subst e3; subst e4
  exact P_X12_isAll_0 hq N l0 l1 h
set_option maxRecDepth 100000 in
set_option maxHeartbeats 4000000 in
theorem P_X12_sent_0 {q : eT} {r0 : Int32} {h0 : eH} (hq : e_B q yX12_sent.cls cX12_sent 3 1 21 (some .int) yX12_sent.name) (l0 : Int32) (l1 : Int32) (l2 : Int32) (h : eH) : e_K eI q r0 h0 0 [(0, .int l0), (1, .int l1), (2, .int l2)] [] h (F_X12_sent l0 l1 l2 h) := by
  unfold F_X12_sent
  refine k_iload_n hq dX12_sent_0 0 rfl ?_
  refine k_iload_n hq dX12_sent_1 0 rfl ?_
  refine k_iload_n hq dX12_sent_2 1 rfl ?_
  refine k_callS hq (na := 2) (As := [.int l0, .int l1]) (st := [.int l0]) (con_X12_setOf _ _ _ _ l0 l1) tw_1247 tw_59 tw_1245 tw_1246 ⟨by decide, by decide, by decide +kernel⟩ rfl (by decide) rfl (Nat.le_of_ble_eq_true rfl) dX12_sent_3 fun v1 h2 => ?_
  refine k_iconst hq dX12_sent_6 (v := 4) rfl ?_
  refine k_iload_n hq dX12_sent_7 2 rfl ?_
  refine k_imul hq dX12_sent_8 ?_
  refine k_ishl hq dX12_sent_9 ?_
  refine k_ior hq dX12_sent_10 ?_
  exact k_iret hq dX12_sent_11
theorem con_X12_sent (l : Launch) (G : eG) (B0 n : Nat) (l0 : Int32) (l1 : Int32) (l2 : Int32) : e_C eI l G B0 n yX12_sent cX12_sent 3 (some .int) 1 21 [.int l0, .int l1, .int l2] (F_X12_sent l0 l1 l2) := by
  refine e_mk (by decide) (Nat.le_of_ble_eq_true rfl) fun q r0 h0 h hq e1 e2 e3 e4 => ?_
  subst e1; subst e2; subst e3; subst e4
  exact P_X12_sent_0 hq l0 l1 l2 h
set_option maxRecDepth 100000 in
set_option maxHeartbeats 4000000 in
theorem P_X12_fewest_144 {q : eT} {r0 : Int32} {h0 : eH} (hq : e_B q yX12_fewest.cls cX12_fewest 7 2 44 (some .int) yX12_fewest.name) (N : Nat) (k39 : Nat → Int32 → Int32 → eH → Option (Int32 × eH)) (k72 : Nat → Int32 → Int32 → Int32 → Int32 → eH → Option (Int32 × eH)) (hk39 : ∀ (l0 : Nat) (l2 : Int32) (l3 : Int32) h, e_K eI q r0 h0 39 [(0, .ref l0), (2, .int l2), (3, .int l3)] [] h (k39 l0 l2 l3 h)) (hk72 : ∀ (l0 : Nat) (l2 : Int32) (l3 : Int32) (l4 : Int32) (l5 : Int32) h, e_K eI q r0 h0 72 [(0, .ref l0), (2, .int l2), (3, .int l3), (4, .int l4), (5, .int l5)] [] h (k72 l0 l2 l3 l4 l5 h)) (l0 : Nat) (l2 : Int32) (l3 : Int32) (l4 : Int32) (l5 : Int32) (h : eH) : e_K eI q r0 h0 144 [(0, .ref l0), (2, .int l2), (3, .int l3), (4, .int l4), (5, .int l5)] [] h (F_X12_fewest_144 N k39 k72 l0 l2 l3 l4 l5 h) := by
  unfold F_X12_fewest_144
  refine k_iinc hq dX12_fewest_144 4 rfl (v := l5 + 1) rfl (by decide) (ls' := [(5, .int (l5 + 1)), (0, .ref l0), (2, .int l2), (3, .int l3), (4, .int l4)]) rfl ?_
  refine k_goto hq (tgt := 72) dX12_fewest_147 (by decide) ?_
  exact k_sub [1, 2, 3, 4, 0] rfl (hk72 l0 l2 l3 l4 (l5 + 1) h)
set_option maxRecDepth 100000 in
set_option maxHeartbeats 4000000 in
theorem P_X12_fewest_72b {q : eT} {r0 : Int32} {h0 : eH} (hq : e_B q yX12_fewest.cls cX12_fewest 7 2 44 (some .int) yX12_fewest.name) (N : Nat) (k39 : Nat → Int32 → Int32 → eH → Option (Int32 × eH)) (k72 : Nat → Int32 → Int32 → Int32 → Int32 → eH → Option (Int32 × eH)) (hk39 : ∀ (l0 : Nat) (l2 : Int32) (l3 : Int32) h, e_K eI q r0 h0 39 [(0, .ref l0), (2, .int l2), (3, .int l3)] [] h (k39 l0 l2 l3 h)) (hk72 : ∀ (l0 : Nat) (l2 : Int32) (l3 : Int32) (l4 : Int32) (l5 : Int32) h, e_K eI q r0 h0 72 [(0, .ref l0), (2, .int l2), (3, .int l3), (4, .int l4), (5, .int l5)] [] h (k72 l0 l2 l3 l4 l5 h)) (l0 : Nat) (l2 : Int32) (l3 : Int32) (l4 : Int32) (l5 : Int32) (h : eH) : e_K eI q r0 h0 72 [(0, .ref l0), (2, .int l2), (3, .int l3), (4, .int l4), (5, .int l5)] [] h (F_X12_fewest_72b N k39 k72 l0 l2 l3 l4 l5 h) := by
  unfold F_X12_fewest_72b
  refine k_iload hq dX12_fewest_72 4 rfl ?_
  refine k_aload_n hq dX12_fewest_74 0 rfl ?_
  refine k_gi hq (C := RX12) (T := TX12) 11 0 rfl (by decide) (lay_X12 0 (by decide)) tw_927 dX12_fewest_75 fun v1 => ?_
  refine k_aload_n hq dX12_fewest_78 0 rfl ?_
  refine k_gi hq (C := RX12) (T := TX12) 11 0 rfl (by decide) (lay_X12 0 (by decide)) tw_927 dX12_fewest_79 fun v2 => ?_
  refine k_imul hq dX12_fewest_82 ?_
  refine k_icmp_ge hq (tgt := 150) dX12_fewest_83 (by decide) (fun _ => ?_) (fun _ => ?_)
  · refine k_iinc hq dX12_fewest_150 2 rfl (v := l3 + 1) rfl (by decide) (ls' := [(3, .int (l3 + 1)), (0, .ref l0), (2, .int l2), (4, .int l4), (5, .int l5)]) rfl ?_
    refine k_goto hq (tgt := 39) dX12_fewest_153 (by decide) ?_
    exact k_sub [1, 2, 0] rfl (hk39 l0 l2 (l3 + 1) h)
  · refine k_iload hq dX12_fewest_86 3 rfl ?_
    refine k_iload hq dX12_fewest_88 4 rfl ?_
    refine k_aload_n hq dX12_fewest_90 0 rfl ?_
    refine k_gi hq (C := RX12) (T := TX12) 11 0 rfl (by decide) (lay_X12 0 (by decide)) tw_927 dX12_fewest_91 fun v3 => ?_
    refine k_idiv hq dX12_fewest_94 fun _ => ?_
    refine k_iload hq dX12_fewest_95 4 rfl ?_
    refine k_aload_n hq dX12_fewest_97 0 rfl ?_
    refine k_gi hq (C := RX12) (T := TX12) 11 0 rfl (by decide) (lay_X12 0 (by decide)) tw_927 dX12_fewest_98 fun v4 => ?_
    refine k_irem hq dX12_fewest_101 fun _ => ?_
    refine k_callS hq (na := 3) (As := [.int l4, .int (l5 / v3), .int (l5 - l5 / v4 * v4)]) (st := []) (con_X12_sent _ _ _ _ l4 (l5 / v3) (l5 - l5 / v4 * v4)) tw_1250 tw_59 tw_1248 tw_1249 ⟨by decide, by decide, by decide +kernel⟩ rfl (by decide) rfl (Nat.le_of_ble_eq_true rfl) dX12_fewest_102 fun v5 h6 => ?_
    refine k_istore hq dX12_fewest_105 (by decide) (ls' := [(6, .int v5), (0, .ref l0), (2, .int l2), (3, .int l3), (4, .int l4), (5, .int l5)]) rfl ?_
    refine k_aload_n hq dX12_fewest_107 1 rfl ?_
    refine k_gr hq (C := RX12) (T := TX12) 11 39 rfl (by decide) (lay_X12 39 (by decide)) tw_966 dX12_fewest_108 fun v7 => ?_
    refine k_iload hq dX12_fewest_111 0 rfl ?_
    refine k_iald hq dX12_fewest_113 fun v8 => ?_
    refine k_if_ge hq (tgt := 144) dX12_fewest_114 (by decide) (fun _ => ?_) (fun _ => ?_)
    · exact k_sub [1, 2, 3, 4, 5] rfl (P_X12_fewest_144 hq N k39 k72 hk39 hk72 l0 l2 l3 l4 l5 h6)
    · refine k_aload_n hq dX12_fewest_117 1 rfl ?_
      refine k_gr hq (C := RX12) (T := TX12) 11 39 rfl (by decide) (lay_X12 39 (by decide)) tw_966 dX12_fewest_118 fun v9 => ?_
      refine k_iload hq dX12_fewest_121 0 rfl ?_
      refine k_aload_n hq dX12_fewest_123 1 rfl ?_
      refine k_gr hq (C := RX12) (T := TX12) 11 39 rfl (by decide) (lay_X12 39 (by decide)) tw_966 dX12_fewest_124 fun v10 => ?_
      refine k_iload hq dX12_fewest_127 4 rfl ?_
      refine k_iald hq dX12_fewest_129 fun v11 => ?_
      refine k_iconst hq dX12_fewest_130 (v := 1) rfl ?_
      refine k_iadd hq dX12_fewest_131 ?_
      refine k_iast hq dX12_fewest_132 fun h12 => ?_
      refine k_aload_n hq dX12_fewest_133 1 rfl ?_
      refine k_gr hq (C := RX12) (T := TX12) 11 40 rfl (by decide) (lay_X12 40 (by decide)) tw_967 dX12_fewest_134 fun v13 => ?_
      refine k_iload_n hq dX12_fewest_137 2 rfl ?_
      refine k_iload hq dX12_fewest_138 0 rfl ?_
      refine k_iast hq dX12_fewest_140 fun h14 => ?_
      refine k_iinc hq dX12_fewest_141 2 rfl (v := l2 + 1) rfl (by decide) (ls' := [(2, .int (l2 + 1)), (6, .int v5), (0, .ref l0), (3, .int l3), (4, .int l4), (5, .int l5)]) rfl ?_
      exact k_sub [2, 0, 3, 4, 5] rfl (P_X12_fewest_144 hq N k39 k72 hk39 hk72 l0 (l2 + 1) l3 l4 l5 h14)
theorem Q_X12_fewest_72 {q : eT} {r0 : Int32} {h0 : eH} (hq : e_B q yX12_fewest.cls cX12_fewest 7 2 44 (some .int) yX12_fewest.name) (N : Nat) (k39 : Nat → Int32 → Int32 → eH → Option (Int32 × eH)) (hk39 : ∀ (l0 : Nat) (l2 : Int32) (l3 : Int32) h, e_K eI q r0 h0 39 [(0, .ref l0), (2, .int l2), (3, .int l3)] [] h (k39 l0 l2 l3 h)) (l0 : Nat) (l2 : Int32) (l3 : Int32) (l4 : Int32) (l5 : Int32) (h : eH) : e_K eI q r0 h0 72 [(0, .ref l0), (2, .int l2), (3, .int l3), (4, .int l4), (5, .int l5)] [] h (L_X12_fewest_72 N k39 l0 l2 l3 l4 l5 h) :=
  k_loop (mk := (fun s => [(0, .ref s.1), (2, .int s.2.1), (3, .int s.2.2.1), (4, .int s.2.2.2.1), (5, .int s.2.2.2.2.1)])) (hp := fun s => s.2.2.2.2.2) (fun k hk s => P_X12_fewest_72b hq N k39 (fun l0 l2 l3 l4 l5 h => k (l0, l2, l3, l4, l5, h)) hk39 (fun l0 l2 l3 l4 l5 h => hk (l0, l2, l3, l4, l5, h)) s.1 s.2.1 s.2.2.1 s.2.2.2.1 s.2.2.2.2.1 s.2.2.2.2.2) N (l0, l2, l3, l4, l5, h)
set_option maxRecDepth 100000 in
set_option maxHeartbeats 4000000 in
theorem P_X12_fewest_39b {q : eT} {r0 : Int32} {h0 : eH} (hq : e_B q yX12_fewest.cls cX12_fewest 7 2 44 (some .int) yX12_fewest.name) (N : Nat) (k39 : Nat → Int32 → Int32 → eH → Option (Int32 × eH)) (hk39 : ∀ (l0 : Nat) (l2 : Int32) (l3 : Int32) h, e_K eI q r0 h0 39 [(0, .ref l0), (2, .int l2), (3, .int l3)] [] h (k39 l0 l2 l3 h)) (l0 : Nat) (l2 : Int32) (l3 : Int32) (h : eH) : e_K eI q r0 h0 39 [(0, .ref l0), (2, .int l2), (3, .int l3)] [] h (F_X12_fewest_39b N k39 l0 l2 l3 h) := by
  unfold F_X12_fewest_39b
  refine k_iload_n hq dX12_fewest_39 2 rfl ?_
  refine k_iload_n hq dX12_fewest_40 1 rfl ?_
  refine k_icmp_ge hq (tgt := 156) dX12_fewest_41 (by decide) (fun _ => ?_) (fun _ => ?_)
  · refine k_bipush hq dX12_fewest_156 (v := (-9)) rfl ?_
    exact k_iret hq dX12_fewest_158
  · refine k_aload_n hq dX12_fewest_44 0 rfl ?_
    refine k_gr hq (C := RX12) (T := TX12) 11 40 rfl (by decide) (lay_X12 40 (by decide)) tw_967 dX12_fewest_45 fun v1 => ?_
    refine k_iload_n hq dX12_fewest_48 2 rfl ?_
    refine k_iald hq dX12_fewest_49 fun v2 => ?_
    refine k_istore hq dX12_fewest_50 (by decide) (ls' := [(4, .int v2), (0, .ref l0), (2, .int l2), (3, .int l3)]) rfl ?_
    refine k_aload_n hq dX12_fewest_52 1 rfl ?_
    refine k_iload hq dX12_fewest_53 0 rfl ?_
    refine k_callV hq (na := 1) (As := [.int v2]) (st := []) 11 (C := RX12) (T := TX12) rfl (con_X12_isAll _ _ _ _ N l0 v2) tw_1244 tw_59 tw_1241 tw_1243 tw_45 ⟨by decide, by decide, by decide +kernel⟩ rfl (by decide) rfl (Nat.le_of_ble_eq_true rfl) dX12_fewest_55 fun v3 h4 => ?_
    refine k_if_eq hq (tgt := 69) dX12_fewest_58 (by decide) (fun _ => ?_) (fun _ => ?_)
    · refine k_iconst hq dX12_fewest_69 (v := 0) rfl ?_
      refine k_istore hq dX12_fewest_70 (by decide) (ls' := [(5, .int 0), (4, .int v2), (0, .ref l0), (2, .int l2), (3, .int l3)]) rfl ?_
      exact k_sub [2, 3, 4, 1, 0] rfl (Q_X12_fewest_72 hq N k39 hk39 l0 l2 l3 v2 0 h4)
    · refine k_aload_n hq dX12_fewest_61 1 rfl ?_
      refine k_gr hq (C := RX12) (T := TX12) 11 39 rfl (by decide) (lay_X12 39 (by decide)) tw_966 dX12_fewest_62 fun v5 => ?_
      refine k_iload hq dX12_fewest_65 0 rfl ?_
      refine k_iald hq dX12_fewest_67 fun v6 => ?_
      exact k_iret hq dX12_fewest_68
theorem Q_X12_fewest_39 {q : eT} {r0 : Int32} {h0 : eH} (hq : e_B q yX12_fewest.cls cX12_fewest 7 2 44 (some .int) yX12_fewest.name) (N : Nat) (l0 : Nat) (l2 : Int32) (l3 : Int32) (h : eH) : e_K eI q r0 h0 39 [(0, .ref l0), (2, .int l2), (3, .int l3)] [] h (L_X12_fewest_39 N l0 l2 l3 h) :=
  k_loop (mk := (fun s => [(0, .ref s.1), (2, .int s.2.1), (3, .int s.2.2.1)])) (hp := fun s => s.2.2.2) (fun k hk s => P_X12_fewest_39b hq N (fun l0 l2 l3 h => k (l0, l2, l3, h)) (fun l0 l2 l3 h => hk (l0, l2, l3, h)) s.1 s.2.1 s.2.2.1 s.2.2.2) N (l0, l2, l3, h)
set_option maxRecDepth 100000 in
set_option maxHeartbeats 4000000 in
theorem P_X12_fewest_2b {q : eT} {r0 : Int32} {h0 : eH} (hq : e_B q yX12_fewest.cls cX12_fewest 7 2 44 (some .int) yX12_fewest.name) (N : Nat) (k2 : Nat → Int32 → Int32 → eH → Option (Int32 × eH)) (hk2 : ∀ (l0 : Nat) (l1 : Int32) (l2 : Int32) h, e_K eI q r0 h0 2 [(0, .ref l0), (1, .int l1), (2, .int l2)] [] h (k2 l0 l1 l2 h)) (l0 : Nat) (l1 : Int32) (l2 : Int32) (h : eH) : e_K eI q r0 h0 2 [(0, .ref l0), (1, .int l1), (2, .int l2)] [] h (F_X12_fewest_2b N k2 l0 l1 l2 h) := by
  unfold F_X12_fewest_2b
  refine k_iload_n hq dX12_fewest_2 2 rfl ?_
  refine k_ldc hq (v := 65536) tw_918 dX12_fewest_3 ?_
  refine k_icmp_ge hq (tgt := 21) dX12_fewest_5 (by decide) (fun _ => ?_) (fun _ => ?_)
  · refine k_aload_n hq dX12_fewest_21 0 rfl ?_
    refine k_gr hq (C := RX12) (T := TX12) 11 39 rfl (by decide) (lay_X12 39 (by decide)) tw_966 dX12_fewest_22 fun v1 => ?_
    refine k_iload_n hq dX12_fewest_25 1 rfl ?_
    refine k_iconst hq dX12_fewest_26 (v := 0) rfl ?_
    refine k_iast hq dX12_fewest_27 fun h2 => ?_
    refine k_aload_n hq dX12_fewest_28 0 rfl ?_
    refine k_gr hq (C := RX12) (T := TX12) 11 40 rfl (by decide) (lay_X12 40 (by decide)) tw_967 dX12_fewest_29 fun v3 => ?_
    refine k_iconst hq dX12_fewest_32 (v := 0) rfl ?_
    refine k_iload_n hq dX12_fewest_33 1 rfl ?_
    refine k_iast hq dX12_fewest_34 fun h4 => ?_
    refine k_iconst hq dX12_fewest_35 (v := 1) rfl ?_
    refine k_istore_n hq dX12_fewest_36 rfl (by decide) (ls' := [(2, .int 1), (0, .ref l0), (1, .int l1)]) rfl ?_
    refine k_iconst hq dX12_fewest_37 (v := 0) rfl ?_
    refine k_istore_n hq dX12_fewest_38 rfl (by decide) (ls' := [(3, .int 0), (2, .int 1), (0, .ref l0), (1, .int l1)]) rfl ?_
    exact k_sub [2, 1, 0] rfl (Q_X12_fewest_39 hq N l0 1 0 h4)
  · refine k_aload_n hq dX12_fewest_8 0 rfl ?_
    refine k_gr hq (C := RX12) (T := TX12) 11 39 rfl (by decide) (lay_X12 39 (by decide)) tw_966 dX12_fewest_9 fun v5 => ?_
    refine k_iload_n hq dX12_fewest_12 2 rfl ?_
    refine k_iconst hq dX12_fewest_13 (v := (-1)) rfl ?_
    refine k_iast hq dX12_fewest_14 fun h6 => ?_
    refine k_iinc hq dX12_fewest_15 2 rfl (v := l2 + 1) rfl (by decide) (ls' := [(2, .int (l2 + 1)), (0, .ref l0), (1, .int l1)]) rfl ?_
    refine k_goto hq (tgt := 2) dX12_fewest_18 (by decide) ?_
    exact k_sub [1, 2, 0] rfl (hk2 l0 l1 (l2 + 1) h6)
theorem Q_X12_fewest_2 {q : eT} {r0 : Int32} {h0 : eH} (hq : e_B q yX12_fewest.cls cX12_fewest 7 2 44 (some .int) yX12_fewest.name) (N : Nat) (l0 : Nat) (l1 : Int32) (l2 : Int32) (h : eH) : e_K eI q r0 h0 2 [(0, .ref l0), (1, .int l1), (2, .int l2)] [] h (L_X12_fewest_2 N l0 l1 l2 h) :=
  k_loop (mk := (fun s => [(0, .ref s.1), (1, .int s.2.1), (2, .int s.2.2.1)])) (hp := fun s => s.2.2.2) (fun k hk s => P_X12_fewest_2b hq N (fun l0 l1 l2 h => k (l0, l1, l2, h)) (fun l0 l1 l2 h => hk (l0, l1, l2, h)) s.1 s.2.1 s.2.2.1 s.2.2.2) N (l0, l1, l2, h)
set_option maxRecDepth 100000 in
set_option maxHeartbeats 4000000 in
theorem P_X12_fewest_0 {q : eT} {r0 : Int32} {h0 : eH} (hq : e_B q yX12_fewest.cls cX12_fewest 7 2 44 (some .int) yX12_fewest.name) (N : Nat) (l0 : Nat) (l1 : Int32) (h : eH) : e_K eI q r0 h0 0 [(0, .ref l0), (1, .int l1)] [] h (F_X12_fewest N l0 l1 h) := by
  unfold F_X12_fewest
  refine k_iconst hq dX12_fewest_0 (v := 0) rfl ?_
  refine k_istore_n hq dX12_fewest_1 rfl (by decide) (ls' := [(2, .int 0), (0, .ref l0), (1, .int l1)]) rfl ?_
  exact k_sub [1, 2, 0] rfl (Q_X12_fewest_2 hq N l0 l1 0 h)
theorem con_X12_fewest (l : Launch) (G : eG) (B0 n : Nat) (N : Nat) (l0 : Nat) (l1 : Int32) : e_C eI l G B0 n yX12_fewest cX12_fewest 7 (some .int) 2 44 [.ref l0, .int l1] (F_X12_fewest N l0 l1) := by
  refine e_mk (by decide) (Nat.le_of_ble_eq_true rfl) fun q r0 h0 h hq e1 e2 e3 e4 => ?_
  subst e1; subst e2; subst e3; subst e4
  exact P_X12_fewest_0 hq N l0 l1 h
set_option maxRecDepth 100000 in
set_option maxHeartbeats 4000000 in
theorem P_X12_spread_146 {q : eT} {r0 : Int32} {h0 : eH} (hq : e_B q yX12_spread.cls cX12_spread 8 3 78 (some .int) yX12_spread.name) (N : Nat) (k74 : Nat → Int32 → Int32 → Int32 → eH → Option (Int32 × eH)) (hk74 : ∀ (l0 : Nat) (l3 : Int32) (l4 : Int32) (l5 : Int32) h, e_K eI q r0 h0 74 [(0, .ref l0), (3, .int l3), (4, .int l4), (5, .int l5)] [] h (k74 l0 l3 l4 l5 h)) (l0 : Nat) (l3 : Int32) (l4 : Int32) (l5 : Int32) (h : eH) : e_K eI q r0 h0 146 [(0, .ref l0), (3, .int l3), (4, .int l4), (5, .int l5)] [] h (F_X12_spread_146 N k74 l0 l3 l4 l5 h) := by
  unfold F_X12_spread_146
  refine k_iinc hq dX12_spread_146 3 rfl (v := l5 + 1) rfl (by decide) (ls' := [(5, .int (l5 + 1)), (0, .ref l0), (3, .int l3), (4, .int l4)]) rfl ?_
  refine k_goto hq (tgt := 74) dX12_spread_149 (by decide) ?_
  exact k_sub [1, 2, 3, 0] rfl (hk74 l0 l3 l4 (l5 + 1) h)
set_option maxRecDepth 100000 in
set_option maxHeartbeats 4000000 in
theorem P_X12_spread_74b {q : eT} {r0 : Int32} {h0 : eH} (hq : e_B q yX12_spread.cls cX12_spread 8 3 78 (some .int) yX12_spread.name) (N : Nat) (k74 : Nat → Int32 → Int32 → Int32 → eH → Option (Int32 × eH)) (hk74 : ∀ (l0 : Nat) (l3 : Int32) (l4 : Int32) (l5 : Int32) h, e_K eI q r0 h0 74 [(0, .ref l0), (3, .int l3), (4, .int l4), (5, .int l5)] [] h (k74 l0 l3 l4 l5 h)) (l0 : Nat) (l3 : Int32) (l4 : Int32) (l5 : Int32) (h : eH) : e_K eI q r0 h0 74 [(0, .ref l0), (3, .int l3), (4, .int l4), (5, .int l5)] [] h (F_X12_spread_74b N k74 l0 l3 l4 l5 h) := by
  unfold F_X12_spread_74b
  refine k_iload hq dX12_spread_74 3 rfl ?_
  refine k_aload_n hq dX12_spread_76 0 rfl ?_
  refine k_gi hq (C := RX12) (T := TX12) 11 0 rfl (by decide) (lay_X12 0 (by decide)) tw_927 dX12_spread_77 fun v1 => ?_
  refine k_aload_n hq dX12_spread_80 0 rfl ?_
  refine k_gi hq (C := RX12) (T := TX12) 11 0 rfl (by decide) (lay_X12 0 (by decide)) tw_927 dX12_spread_81 fun v2 => ?_
  refine k_imul hq dX12_spread_84 ?_
  refine k_icmp_ge hq (tgt := 152) dX12_spread_85 (by decide) (fun _ => ?_) (fun _ => ?_)
  · refine k_bipush hq dX12_spread_152 (v := (-9)) rfl ?_
    exact k_iret hq dX12_spread_154
  · refine k_iload hq dX12_spread_88 2 rfl ?_
    refine k_if_le hq (tgt := 152) dX12_spread_90 (by decide) (fun _ => ?_) (fun _ => ?_)
    · refine k_bipush hq dX12_spread_152 (v := (-9)) rfl ?_
      exact k_iret hq dX12_spread_154
    · refine k_iload hq dX12_spread_93 3 rfl ?_
      refine k_aload_n hq dX12_spread_95 0 rfl ?_
      refine k_gi hq (C := RX12) (T := TX12) 11 0 rfl (by decide) (lay_X12 0 (by decide)) tw_927 dX12_spread_96 fun v3 => ?_
      refine k_idiv hq dX12_spread_99 fun _ => ?_
      refine k_let (mk := fun z => .int z :: []) fun v4 _ => ?_
      refine k_istore hq dX12_spread_100 (by decide) (ls' := [(6, .int v4), (0, .ref l0), (3, .int l3), (4, .int l4), (5, .int l5)]) rfl ?_
      refine k_iload hq dX12_spread_102 4 rfl ?_
      refine k_aload_n hq dX12_spread_104 1 rfl ?_
      refine k_gi hq (C := RX12) (T := TX12) 11 0 rfl (by decide) (lay_X12 0 (by decide)) tw_927 dX12_spread_105 fun v5 => ?_
      refine k_irem hq dX12_spread_108 fun _ => ?_
      refine k_let (mk := fun z => .int z :: []) fun v6 _ => ?_
      refine k_istore hq dX12_spread_109 (by decide) (ls' := [(7, .int v6), (6, .int v4), (0, .ref l0), (3, .int l3), (4, .int l4), (5, .int l5)]) rfl ?_
      refine k_iload hq dX12_spread_111 1 rfl ?_
      refine k_iload hq dX12_spread_113 0 rfl ?_
      refine k_icmp_eq hq (tgt := 146) dX12_spread_115 (by decide) (fun _ => ?_) (fun _ => ?_)
      · exact k_sub [2, 3, 4, 5] rfl (P_X12_spread_146 hq N k74 hk74 l0 l3 l4 l5 h)
      · refine k_aload_n hq dX12_spread_118 2 rfl ?_
        refine k_iload_n hq dX12_spread_119 3 rfl ?_
        refine k_iload hq dX12_spread_120 1 rfl ?_
        refine k_iload hq dX12_spread_122 0 rfl ?_
        refine k_callS hq (na := 3) (As := [.int l3, .int v4, .int v6]) (st := [.ref l0]) (con_X12_sent _ _ _ _ l3 v4 v6) tw_1250 tw_59 tw_1248 tw_1249 ⟨by decide, by decide, by decide +kernel⟩ rfl (by decide) rfl (Nat.le_of_ble_eq_true rfl) dX12_spread_124 fun v7 h8 => ?_
        refine k_callV hq (na := 1) (As := [.int v7]) (st := []) 11 (C := RX12) (T := TX12) rfl (con_X12_fewest _ _ _ _ N l0 v7) tw_1240 tw_59 tw_1237 tw_1239 tw_44 ⟨by decide, by decide, by decide +kernel⟩ rfl (by decide) rfl (Nat.le_of_ble_eq_true rfl) dX12_spread_127 fun v9 h10 => ?_
        refine k_iload hq dX12_spread_130 4 rfl ?_
        refine k_iconst hq dX12_spread_132 (v := 1) rfl ?_
        refine k_isub hq dX12_spread_133 ?_
        refine k_icmp_ne hq (tgt := 146) dX12_spread_134 (by decide) (fun _ => ?_) (fun _ => ?_)
        · refine k_bipush hq dX12_spread_137 (v := 10) rfl ?_
          refine k_iload hq dX12_spread_139 1 rfl ?_
          refine k_imul hq dX12_spread_141 ?_
          refine k_iload hq dX12_spread_142 0 rfl ?_
          refine k_iadd hq dX12_spread_144 ?_
          exact k_iret hq dX12_spread_145
        · exact k_sub [2, 3, 4, 5] rfl (P_X12_spread_146 hq N k74 hk74 l0 l3 l4 l5 h10)
theorem Q_X12_spread_74 {q : eT} {r0 : Int32} {h0 : eH} (hq : e_B q yX12_spread.cls cX12_spread 8 3 78 (some .int) yX12_spread.name) (N : Nat) (l0 : Nat) (l3 : Int32) (l4 : Int32) (l5 : Int32) (h : eH) : e_K eI q r0 h0 74 [(0, .ref l0), (3, .int l3), (4, .int l4), (5, .int l5)] [] h (L_X12_spread_74 N l0 l3 l4 l5 h) :=
  k_loop (mk := (fun s => [(0, .ref s.1), (3, .int s.2.1), (4, .int s.2.2.1), (5, .int s.2.2.2.1)])) (hp := fun s => s.2.2.2.2) (fun k hk s => P_X12_spread_74b hq N (fun l0 l3 l4 l5 h => k (l0, l3, l4, l5, h)) (fun l0 l3 l4 l5 h => hk (l0, l3, l4, l5, h)) s.1 s.2.1 s.2.2.1 s.2.2.2.1 s.2.2.2.2) N (l0, l3, l4, l5, h)
set_option maxRecDepth 100000 in
set_option maxHeartbeats 4000000 in
theorem P_X12_spread_30b {q : eT} {r0 : Int32} {h0 : eH} (hq : e_B q yX12_spread.cls cX12_spread 8 3 78 (some .int) yX12_spread.name) (N : Nat) (k30 : Nat → Int32 → Int32 → Int32 → eH → Option (Int32 × eH)) (hk30 : ∀ (l0 : Nat) (l2 : Int32) (l3 : Int32) (l4 : Int32) h, e_K eI q r0 h0 30 [(0, .ref l0), (2, .int l2), (3, .int l3), (4, .int l4)] [] h (k30 l0 l2 l3 l4 h)) (l0 : Nat) (l2 : Int32) (l3 : Int32) (l4 : Int32) (h : eH) : e_K eI q r0 h0 30 [(0, .ref l0), (2, .int l2), (3, .int l3), (4, .int l4)] [] h (F_X12_spread_30b N k30 l0 l2 l3 l4 h) := by
  unfold F_X12_spread_30b
  refine k_iload hq dX12_spread_30 3 rfl ?_
  refine k_aload_n hq dX12_spread_32 0 rfl ?_
  refine k_gi hq (C := RX12) (T := TX12) 11 0 rfl (by decide) (lay_X12 0 (by decide)) tw_927 dX12_spread_33 fun v1 => ?_
  refine k_icmp_ge hq (tgt := 57) dX12_spread_36 (by decide) (fun _ => ?_) (fun _ => ?_)
  · refine k_aload_n hq dX12_spread_57 0 rfl ?_
    refine k_iload_n hq dX12_spread_58 2 rfl ?_
    refine k_callV hq (na := 1) (As := [.int l3]) (st := []) 11 (C := RX12) (T := TX12) rfl (con_X12_fewest _ _ _ _ N l0 l3) tw_1240 tw_59 tw_1237 tw_1239 tw_44 ⟨by decide, by decide, by decide +kernel⟩ rfl (by decide) rfl (Nat.le_of_ble_eq_true rfl) dX12_spread_59 fun v2 h3 => ?_
    refine k_istore hq dX12_spread_62 (by decide) (ls' := [(4, .int v2), (0, .ref l0), (2, .int l2), (3, .int l3)]) rfl ?_
    refine k_iload_n hq dX12_spread_64 2 rfl ?_
    refine k_if_ne hq (tgt := 71) dX12_spread_65 (by decide) (fun _ => ?_) (fun _ => ?_)
    · refine k_iload hq dX12_spread_68 0 rfl ?_
      exact k_iret hq dX12_spread_70
    · refine k_iconst hq dX12_spread_71 (v := 0) rfl ?_
      refine k_istore hq dX12_spread_72 (by decide) (ls' := [(5, .int 0), (4, .int v2), (0, .ref l0), (2, .int l2), (3, .int l3)]) rfl ?_
      exact k_sub [2, 4, 1, 0] rfl (Q_X12_spread_74 hq N l0 l3 v2 0 h3)
  · refine k_iload_n hq dX12_spread_39 2 rfl ?_
    refine k_iconst hq dX12_spread_40 (v := 1) rfl ?_
    refine k_iload hq dX12_spread_41 3 rfl ?_
    refine k_ishl hq dX12_spread_43 ?_
    refine k_iconst hq dX12_spread_44 (v := 4) rfl ?_
    refine k_iload hq dX12_spread_45 3 rfl ?_
    refine k_imul hq dX12_spread_47 ?_
    refine k_ishl hq dX12_spread_48 ?_
    refine k_ior hq dX12_spread_49 ?_
    refine k_let (mk := fun z => .int z :: []) fun v4 _ => ?_
    refine k_istore_n hq dX12_spread_50 rfl (by decide) (ls' := [(3, .int v4), (0, .ref l0), (2, .int l2), (4, .int l4)]) rfl ?_
    refine k_iinc hq dX12_spread_51 3 rfl (v := l4 + 1) rfl (by decide) (ls' := [(4, .int (l4 + 1)), (3, .int v4), (0, .ref l0), (2, .int l2)]) rfl ?_
    refine k_goto hq (tgt := 30) dX12_spread_54 (by decide) ?_
    exact k_sub [2, 3, 1, 0] rfl (hk30 l0 l2 v4 (l4 + 1) h)
theorem Q_X12_spread_30 {q : eT} {r0 : Int32} {h0 : eH} (hq : e_B q yX12_spread.cls cX12_spread 8 3 78 (some .int) yX12_spread.name) (N : Nat) (l0 : Nat) (l2 : Int32) (l3 : Int32) (l4 : Int32) (h : eH) : e_K eI q r0 h0 30 [(0, .ref l0), (2, .int l2), (3, .int l3), (4, .int l4)] [] h (L_X12_spread_30 N l0 l2 l3 l4 h) :=
  k_loop (mk := (fun s => [(0, .ref s.1), (2, .int s.2.1), (3, .int s.2.2.1), (4, .int s.2.2.2.1)])) (hp := fun s => s.2.2.2.2) (fun k hk s => P_X12_spread_30b hq N (fun l0 l2 l3 l4 h => k (l0, l2, l3, l4, h)) (fun l0 l2 l3 l4 h => hk (l0, l2, l3, l4, h)) s.1 s.2.1 s.2.2.1 s.2.2.2.1 s.2.2.2.2) N (l0, l2, l3, l4, h)
set_option maxRecDepth 100000 in
set_option maxHeartbeats 4000000 in
theorem P_X12_spread_0 {q : eT} {r0 : Int32} {h0 : eH} (hq : e_B q yX12_spread.cls cX12_spread 8 3 78 (some .int) yX12_spread.name) (N : Nat) (l0 : Nat) (l1 : Int32) (l2 : Int32) (h : eH) : e_K eI q r0 h0 0 [(0, .ref l0), (1, .int l1), (2, .int l2)] [] h (F_X12_spread N l0 l1 l2 h) := by
  unfold F_X12_spread
  refine k_aload_n hq dX12_spread_0 0 rfl ?_
  refine k_iload_n hq dX12_spread_1 1 rfl ?_
  refine k_callV hq (na := 1) (As := [.int l1]) (st := []) 11 (C := RX12) (T := TX12) rfl (con_X12_isKey _ _ _ _ l0 l1) tw_1109 tw_59 tw_1106 tw_1108 tw_29 ⟨by decide, by decide, by decide +kernel⟩ rfl (by decide) rfl (Nat.le_of_ble_eq_true rfl) dX12_spread_2 fun v1 h2 => ?_
  refine k_if_eq hq (tgt := 18) dX12_spread_5 (by decide) (fun _ => ?_) (fun _ => ?_)
  · refine k_iconst hq dX12_spread_18 (v := (-1)) rfl ?_
    exact k_iret hq dX12_spread_19
  · refine k_iload_n hq dX12_spread_8 2 rfl ?_
    refine k_i2l hq dX12_spread_9 ?_
    refine k_lconst hq dX12_spread_10 (v := 0) rfl ?_
    refine k_lconst hq dX12_spread_11 (v := 1) rfl ?_
    refine k_callS hq (na := 3) (As := [.long (l2.toInt64), .long 0, .long 1]) (st := []) (con_X12_in _ _ _ _ (l2.toInt64) 0 1) tw_1059 tw_59 tw_1057 tw_1058 ⟨by decide, by decide, by decide +kernel⟩ rfl (by decide) rfl (Nat.le_of_ble_eq_true rfl) dX12_spread_12 fun v3 h4 => ?_
    refine k_if_ne hq (tgt := 20) dX12_spread_15 (by decide) (fun _ => ?_) (fun _ => ?_)
    · refine k_iconst hq dX12_spread_18 (v := (-1)) rfl ?_
      exact k_iret hq dX12_spread_19
    · refine k_aload_n hq dX12_spread_20 0 rfl ?_
      refine k_iload_n hq dX12_spread_21 1 rfl ?_
      refine k_callV hq (na := 1) (As := [.int l1]) (st := []) 11 (C := RX12) (T := TX12) rfl (con_X12_laysSets _ _ _ _ N l0 l1) tw_1228 tw_59 tw_1225 tw_1227 tw_41 ⟨by decide, by decide, by decide +kernel⟩ rfl (by decide) rfl (Nat.le_of_ble_eq_true rfl) dX12_spread_22 fun v5 h6 => ?_
      refine k_iconst hq dX12_spread_25 (v := 0) rfl ?_
      refine k_istore_n hq dX12_spread_26 rfl (by decide) (ls' := [(3, .int 0), (0, .ref l0), (1, .int l1), (2, .int l2)]) rfl ?_
      refine k_iconst hq dX12_spread_27 (v := 0) rfl ?_
      refine k_istore hq dX12_spread_28 (by decide) (ls' := [(4, .int 0), (3, .int 0), (0, .ref l0), (1, .int l1), (2, .int l2)]) rfl ?_
      exact k_sub [2, 4, 1, 0] rfl (Q_X12_spread_30 hq N l0 l2 0 0 h6)
theorem con_X12_spread (l : Launch) (G : eG) (B0 n : Nat) (N : Nat) (l0 : Nat) (l1 : Int32) (l2 : Int32) : e_C eI l G B0 n yX12_spread cX12_spread 8 (some .int) 3 78 [.ref l0, .int l1, .int l2] (F_X12_spread N l0 l1 l2) := by
  refine e_mk (by decide) (Nat.le_of_ble_eq_true rfl) fun q r0 h0 h hq e1 e2 e3 e4 => ?_
  subst e1; subst e2; subst e3; subst e4
  exact P_X12_spread_0 hq N l0 l1 l2 h
set_option maxRecDepth 100000 in
set_option maxHeartbeats 4000000 in
theorem P_X12_rule_0 {q : eT} {r0 : Int32} {h0 : eH} (hq : e_B q yX12_rule.cls cX12_rule 3 1 25 (some .int) yX12_rule.name) (l0 : Nat) (l1 : Int32) (l2 : Int32) (h : eH) : e_K eI q r0 h0 0 [(0, .ref l0), (1, .int l1), (2, .int l2)] [] h (F_X12_rule l0 l1 l2 h) := by
  unfold F_X12_rule
  refine k_iload_n hq dX12_rule_0 1 rfl ?_
  refine k_if_lt hq (tgt := 14) dX12_rule_1 (by decide) (fun _ => ?_) (fun _ => ?_)
  · refine k_iconst hq dX12_rule_14 (v := (-1)) rfl ?_
    exact k_iret hq dX12_rule_15
  · refine k_iload_n hq dX12_rule_4 2 rfl ?_
    refine k_i2l hq dX12_rule_5 ?_
    refine k_lconst hq dX12_rule_6 (v := 0) rfl ?_
    refine k_lconst hq dX12_rule_7 (v := 1) rfl ?_
    refine k_callS hq (na := 3) (As := [.long (l2.toInt64), .long 0, .long 1]) (st := []) (con_X12_in _ _ _ _ (l2.toInt64) 0 1) tw_1059 tw_59 tw_1057 tw_1058 ⟨by decide, by decide, by decide +kernel⟩ rfl (by decide) rfl (Nat.le_of_ble_eq_true rfl) dX12_rule_8 fun v1 h2 => ?_
    refine k_if_ne hq (tgt := 16) dX12_rule_11 (by decide) (fun _ => ?_) (fun _ => ?_)
    · refine k_iconst hq dX12_rule_14 (v := (-1)) rfl ?_
      exact k_iret hq dX12_rule_15
    · refine k_iload_n hq dX12_rule_16 1 rfl ?_
      refine k_aload_n hq dX12_rule_17 0 rfl ?_
      refine k_gi hq (C := RX12) (T := TX12) 11 21 rfl (by decide) (lay_X12 21 (by decide)) tw_948 dX12_rule_18 fun v3 => ?_
      refine k_icmp_lt hq (tgt := 29) dX12_rule_21 (by decide) (fun _ => ?_) (fun _ => ?_)
      · refine k_iload_n hq dX12_rule_29 2 rfl ?_
        refine k_if_ne hq (tgt := 42) dX12_rule_30 (by decide) (fun _ => ?_) (fun _ => ?_)
        · refine k_aload_n hq dX12_rule_33 0 rfl ?_
          refine k_gr hq (C := RX12) (T := TX12) 11 22 rfl (by decide) (lay_X12 22 (by decide)) tw_949 dX12_rule_34 fun v6 => ?_
          refine k_iload_n hq dX12_rule_37 1 rfl ?_
          refine k_iald hq dX12_rule_38 fun v7 => ?_
          refine k_goto hq (tgt := 48) dX12_rule_39 (by decide) ?_
          exact k_iret hq dX12_rule_48
        · refine k_aload_n hq dX12_rule_42 0 rfl ?_
          refine k_gr hq (C := RX12) (T := TX12) 11 23 rfl (by decide) (lay_X12 23 (by decide)) tw_950 dX12_rule_43 fun v4 => ?_
          refine k_iload_n hq dX12_rule_46 1 rfl ?_
          refine k_iald hq dX12_rule_47 fun v5 => ?_
          exact k_iret hq dX12_rule_48
      · refine k_bipush hq dX12_rule_24 (v := (-9)) rfl ?_
        refine k_goto hq (tgt := 48) dX12_rule_26 (by decide) ?_
        exact k_iret hq dX12_rule_48
theorem con_X12_rule (l : Launch) (G : eG) (B0 n : Nat) (l0 : Nat) (l1 : Int32) (l2 : Int32) : e_C eI l G B0 n yX12_rule cX12_rule 3 (some .int) 1 25 [.ref l0, .int l1, .int l2] (F_X12_rule l0 l1 l2) := by
  refine e_mk (by decide) (Nat.le_of_ble_eq_true rfl) fun q r0 h0 h hq e1 e2 e3 e4 => ?_
  subst e1; subst e2; subst e3; subst e4
  exact P_X12_rule_0 hq l0 l1 l2 h
set_option maxRecDepth 100000 in
set_option maxHeartbeats 4000000 in
theorem P_X12_counted_112 {q : eT} {r0 : Int32} {h0 : eH} (hq : e_B q yX12_counted.cls cX12_counted 8 1 22 (some .int) yX12_counted.name) (N : Nat) (k5 : Nat → Int32 → Int32 → Int32 → Int32 → eH → Option (Int32 × eH)) (k17 : Nat → Int32 → Int32 → Int32 → Int32 → Int32 → eH → Option (Int32 × eH)) (hk5 : ∀ (l0 : Nat) (l1 : Int32) (l2 : Int32) (l3 : Int32) (l4 : Int32) h, e_K eI q r0 h0 5 [(0, .ref l0), (1, .int l1), (2, .int l2), (3, .int l3), (4, .int l4)] [] h (k5 l0 l1 l2 l3 l4 h)) (hk17 : ∀ (l0 : Nat) (l1 : Int32) (l2 : Int32) (l3 : Int32) (l4 : Int32) (l5 : Int32) h, e_K eI q r0 h0 17 [(0, .ref l0), (1, .int l1), (2, .int l2), (3, .int l3), (4, .int l4), (5, .int l5)] [] h (k17 l0 l1 l2 l3 l4 l5 h)) (l0 : Nat) (l1 : Int32) (l2 : Int32) (l3 : Int32) (l4 : Int32) (l5 : Int32) (s0 : Int32) (h : eH) : e_K eI q r0 h0 112 [(0, .ref l0), (1, .int l1), (2, .int l2), (3, .int l3), (4, .int l4), (5, .int l5)] [.int s0] h (F_X12_counted_112 N k5 k17 l0 l1 l2 l3 l4 l5 s0 h) := by
  unfold F_X12_counted_112
  refine k_istore hq dX12_counted_112 (by decide) (ls' := [(7, .int s0), (0, .ref l0), (1, .int l1), (2, .int l2), (3, .int l3), (4, .int l4), (5, .int l5)]) rfl ?_
  refine k_iload_n hq dX12_counted_114 4 rfl ?_
  refine k_iload hq dX12_counted_115 0 rfl ?_
  refine k_callS hq (na := 1) (As := [.int s0]) (st := [.int l3]) (con_X12_bit _ _ _ _ s0) tw_1200 tw_59 tw_1198 tw_1199 ⟨by decide, by decide, by decide +kernel⟩ rfl (by decide) rfl (Nat.le_of_ble_eq_true rfl) dX12_counted_117 fun v1 h2 => ?_
  refine k_iadd hq dX12_counted_120 ?_
  refine k_let (mk := fun z => .int z :: []) fun v3 _ => ?_
  refine k_istore_n hq dX12_counted_121 rfl (by decide) (ls' := [(3, .int v3), (7, .int s0), (0, .ref l0), (1, .int l1), (2, .int l2), (4, .int l4), (5, .int l5)]) rfl ?_
  refine k_iinc hq dX12_counted_122 6 rfl (v := l5 + 1) rfl (by decide) (ls' := [(5, .int (l5 + 1)), (3, .int v3), (7, .int s0), (0, .ref l0), (1, .int l1), (2, .int l2), (4, .int l4)]) rfl ?_
  refine k_goto hq (tgt := 17) dX12_counted_125 (by decide) ?_
  exact k_sub [3, 4, 5, 1, 6, 0] rfl (hk17 l0 l1 l2 v3 l4 (l5 + 1) h2)
set_option maxRecDepth 100000 in
set_option maxHeartbeats 4000000 in
theorem P_X12_counted_107 {q : eT} {r0 : Int32} {h0 : eH} (hq : e_B q yX12_counted.cls cX12_counted 8 1 22 (some .int) yX12_counted.name) (N : Nat) (k5 : Nat → Int32 → Int32 → Int32 → Int32 → eH → Option (Int32 × eH)) (k17 : Nat → Int32 → Int32 → Int32 → Int32 → Int32 → eH → Option (Int32 × eH)) (hk5 : ∀ (l0 : Nat) (l1 : Int32) (l2 : Int32) (l3 : Int32) (l4 : Int32) h, e_K eI q r0 h0 5 [(0, .ref l0), (1, .int l1), (2, .int l2), (3, .int l3), (4, .int l4)] [] h (k5 l0 l1 l2 l3 l4 h)) (hk17 : ∀ (l0 : Nat) (l1 : Int32) (l2 : Int32) (l3 : Int32) (l4 : Int32) (l5 : Int32) h, e_K eI q r0 h0 17 [(0, .ref l0), (1, .int l1), (2, .int l2), (3, .int l3), (4, .int l4), (5, .int l5)] [] h (k17 l0 l1 l2 l3 l4 l5 h)) (l0 : Nat) (l1 : Int32) (l2 : Int32) (l3 : Int32) (l4 : Int32) (l5 : Int32) (h : eH) : e_K eI q r0 h0 107 [(0, .ref l0), (1, .int l1), (2, .int l2), (3, .int l3), (4, .int l4), (5, .int l5)] [] h (F_X12_counted_107 N k5 k17 l0 l1 l2 l3 l4 l5 h) := by
  unfold F_X12_counted_107
  refine k_iconst hq dX12_counted_107 (v := 1) rfl ?_
  refine k_goto hq (tgt := 112) dX12_counted_108 (by decide) ?_
  exact k_sub [0, 1, 2, 3, 4, 5] rfl (P_X12_counted_112 hq N k5 k17 hk5 hk17 l0 l1 l2 l3 l4 l5 1 h)
set_option maxRecDepth 100000 in
set_option maxHeartbeats 4000000 in
theorem P_X12_counted_111 {q : eT} {r0 : Int32} {h0 : eH} (hq : e_B q yX12_counted.cls cX12_counted 8 1 22 (some .int) yX12_counted.name) (N : Nat) (k5 : Nat → Int32 → Int32 → Int32 → Int32 → eH → Option (Int32 × eH)) (k17 : Nat → Int32 → Int32 → Int32 → Int32 → Int32 → eH → Option (Int32 × eH)) (hk5 : ∀ (l0 : Nat) (l1 : Int32) (l2 : Int32) (l3 : Int32) (l4 : Int32) h, e_K eI q r0 h0 5 [(0, .ref l0), (1, .int l1), (2, .int l2), (3, .int l3), (4, .int l4)] [] h (k5 l0 l1 l2 l3 l4 h)) (hk17 : ∀ (l0 : Nat) (l1 : Int32) (l2 : Int32) (l3 : Int32) (l4 : Int32) (l5 : Int32) h, e_K eI q r0 h0 17 [(0, .ref l0), (1, .int l1), (2, .int l2), (3, .int l3), (4, .int l4), (5, .int l5)] [] h (k17 l0 l1 l2 l3 l4 l5 h)) (l0 : Nat) (l1 : Int32) (l2 : Int32) (l3 : Int32) (l4 : Int32) (l5 : Int32) (h : eH) : e_K eI q r0 h0 111 [(0, .ref l0), (1, .int l1), (2, .int l2), (3, .int l3), (4, .int l4), (5, .int l5)] [] h (F_X12_counted_111 N k5 k17 l0 l1 l2 l3 l4 l5 h) := by
  unfold F_X12_counted_111
  refine k_iconst hq dX12_counted_111 (v := 0) rfl ?_
  exact k_sub [0, 1, 2, 3, 4, 5] rfl (P_X12_counted_112 hq N k5 k17 hk5 hk17 l0 l1 l2 l3 l4 l5 0 h)
set_option maxRecDepth 100000 in
set_option maxHeartbeats 4000000 in
theorem P_X12_counted_93 {q : eT} {r0 : Int32} {h0 : eH} (hq : e_B q yX12_counted.cls cX12_counted 8 1 22 (some .int) yX12_counted.name) (N : Nat) (k5 : Nat → Int32 → Int32 → Int32 → Int32 → eH → Option (Int32 × eH)) (k17 : Nat → Int32 → Int32 → Int32 → Int32 → Int32 → eH → Option (Int32 × eH)) (hk5 : ∀ (l0 : Nat) (l1 : Int32) (l2 : Int32) (l3 : Int32) (l4 : Int32) h, e_K eI q r0 h0 5 [(0, .ref l0), (1, .int l1), (2, .int l2), (3, .int l3), (4, .int l4)] [] h (k5 l0 l1 l2 l3 l4 h)) (hk17 : ∀ (l0 : Nat) (l1 : Int32) (l2 : Int32) (l3 : Int32) (l4 : Int32) (l5 : Int32) h, e_K eI q r0 h0 17 [(0, .ref l0), (1, .int l1), (2, .int l2), (3, .int l3), (4, .int l4), (5, .int l5)] [] h (k17 l0 l1 l2 l3 l4 l5 h)) (l0 : Nat) (l1 : Int32) (l2 : Int32) (l3 : Int32) (l4 : Int32) (l5 : Int32) (l6 : Int32) (h : eH) : e_K eI q r0 h0 93 [(0, .ref l0), (1, .int l1), (2, .int l2), (3, .int l3), (4, .int l4), (5, .int l5), (6, .int l6)] [] h (F_X12_counted_93 N k5 k17 l0 l1 l2 l3 l4 l5 l6 h) := by
  unfold F_X12_counted_93
  refine k_iload_n hq dX12_counted_93 2 rfl ?_
  refine k_iconst hq dX12_counted_94 (v := 5) rfl ?_
  refine k_icmp_ne hq (tgt := 111) dX12_counted_95 (by decide) (fun _ => ?_) (fun _ => ?_)
  · refine k_aload_n hq dX12_counted_98 0 rfl ?_
    refine k_iload hq dX12_counted_99 6 rfl ?_
    refine k_callV hq (na := 1) (As := [.int l6]) (st := []) 11 (C := RX12) (T := TX12) rfl (con_X12_isLost _ _ _ _ l0 l6) tw_1204 tw_59 tw_1201 tw_1203 tw_39 ⟨by decide, by decide, by decide +kernel⟩ rfl (by decide) rfl (Nat.le_of_ble_eq_true rfl) dX12_counted_101 fun v1 h2 => ?_
    refine k_if_eq hq (tgt := 111) dX12_counted_104 (by decide) (fun _ => ?_) (fun _ => ?_)
    · exact k_sub [0, 1, 2, 3, 4, 5] rfl (P_X12_counted_111 hq N k5 k17 hk5 hk17 l0 l1 l2 l3 l4 l5 h2)
    · exact k_sub [0, 1, 2, 3, 4, 5] rfl (P_X12_counted_107 hq N k5 k17 hk5 hk17 l0 l1 l2 l3 l4 l5 h2)
  · exact k_sub [0, 1, 2, 3, 4, 5] rfl (P_X12_counted_111 hq N k5 k17 hk5 hk17 l0 l1 l2 l3 l4 l5 h)
set_option maxRecDepth 100000 in
set_option maxHeartbeats 4000000 in
theorem P_X12_counted_78 {q : eT} {r0 : Int32} {h0 : eH} (hq : e_B q yX12_counted.cls cX12_counted 8 1 22 (some .int) yX12_counted.name) (N : Nat) (k5 : Nat → Int32 → Int32 → Int32 → Int32 → eH → Option (Int32 × eH)) (k17 : Nat → Int32 → Int32 → Int32 → Int32 → Int32 → eH → Option (Int32 × eH)) (hk5 : ∀ (l0 : Nat) (l1 : Int32) (l2 : Int32) (l3 : Int32) (l4 : Int32) h, e_K eI q r0 h0 5 [(0, .ref l0), (1, .int l1), (2, .int l2), (3, .int l3), (4, .int l4)] [] h (k5 l0 l1 l2 l3 l4 h)) (hk17 : ∀ (l0 : Nat) (l1 : Int32) (l2 : Int32) (l3 : Int32) (l4 : Int32) (l5 : Int32) h, e_K eI q r0 h0 17 [(0, .ref l0), (1, .int l1), (2, .int l2), (3, .int l3), (4, .int l4), (5, .int l5)] [] h (k17 l0 l1 l2 l3 l4 l5 h)) (l0 : Nat) (l1 : Int32) (l2 : Int32) (l3 : Int32) (l4 : Int32) (l5 : Int32) (l6 : Int32) (h : eH) : e_K eI q r0 h0 78 [(0, .ref l0), (1, .int l1), (2, .int l2), (3, .int l3), (4, .int l4), (5, .int l5), (6, .int l6)] [] h (F_X12_counted_78 N k5 k17 l0 l1 l2 l3 l4 l5 l6 h) := by
  unfold F_X12_counted_78
  refine k_iload_n hq dX12_counted_78 2 rfl ?_
  refine k_iconst hq dX12_counted_79 (v := 4) rfl ?_
  refine k_icmp_ne hq (tgt := 93) dX12_counted_80 (by decide) (fun _ => ?_) (fun _ => ?_)
  · refine k_aload_n hq dX12_counted_83 0 rfl ?_
    refine k_gr hq (C := RX12) (T := TX12) 11 11 rfl (by decide) (lay_X12 11 (by decide)) tw_938 dX12_counted_84 fun v1 => ?_
    refine k_iload hq dX12_counted_87 6 rfl ?_
    refine k_zald hq dX12_counted_89 fun v2 => ?_
    refine k_if_ne hq (tgt := 107) dX12_counted_90 (by decide) (fun _ => ?_) (fun _ => ?_)
    · exact k_sub [0, 1, 2, 3, 4, 5, 6] rfl (P_X12_counted_93 hq N k5 k17 hk5 hk17 l0 l1 l2 l3 l4 l5 l6 h)
    · exact k_sub [0, 1, 2, 3, 4, 5] rfl (P_X12_counted_107 hq N k5 k17 hk5 hk17 l0 l1 l2 l3 l4 l5 h)
  · exact k_sub [0, 1, 2, 3, 4, 5, 6] rfl (P_X12_counted_93 hq N k5 k17 hk5 hk17 l0 l1 l2 l3 l4 l5 l6 h)
set_option maxRecDepth 100000 in
set_option maxHeartbeats 4000000 in
theorem P_X12_counted_63 {q : eT} {r0 : Int32} {h0 : eH} (hq : e_B q yX12_counted.cls cX12_counted 8 1 22 (some .int) yX12_counted.name) (N : Nat) (k5 : Nat → Int32 → Int32 → Int32 → Int32 → eH → Option (Int32 × eH)) (k17 : Nat → Int32 → Int32 → Int32 → Int32 → Int32 → eH → Option (Int32 × eH)) (hk5 : ∀ (l0 : Nat) (l1 : Int32) (l2 : Int32) (l3 : Int32) (l4 : Int32) h, e_K eI q r0 h0 5 [(0, .ref l0), (1, .int l1), (2, .int l2), (3, .int l3), (4, .int l4)] [] h (k5 l0 l1 l2 l3 l4 h)) (hk17 : ∀ (l0 : Nat) (l1 : Int32) (l2 : Int32) (l3 : Int32) (l4 : Int32) (l5 : Int32) h, e_K eI q r0 h0 17 [(0, .ref l0), (1, .int l1), (2, .int l2), (3, .int l3), (4, .int l4), (5, .int l5)] [] h (k17 l0 l1 l2 l3 l4 l5 h)) (l0 : Nat) (l1 : Int32) (l2 : Int32) (l3 : Int32) (l4 : Int32) (l5 : Int32) (l6 : Int32) (h : eH) : e_K eI q r0 h0 63 [(0, .ref l0), (1, .int l1), (2, .int l2), (3, .int l3), (4, .int l4), (5, .int l5), (6, .int l6)] [] h (F_X12_counted_63 N k5 k17 l0 l1 l2 l3 l4 l5 l6 h) := by
  unfold F_X12_counted_63
  refine k_iload_n hq dX12_counted_63 2 rfl ?_
  refine k_iconst hq dX12_counted_64 (v := 3) rfl ?_
  refine k_icmp_ne hq (tgt := 78) dX12_counted_65 (by decide) (fun _ => ?_) (fun _ => ?_)
  · refine k_aload_n hq dX12_counted_68 0 rfl ?_
    refine k_gr hq (C := RX12) (T := TX12) 11 13 rfl (by decide) (lay_X12 13 (by decide)) tw_940 dX12_counted_69 fun v1 => ?_
    refine k_iload hq dX12_counted_72 6 rfl ?_
    refine k_zald hq dX12_counted_74 fun v2 => ?_
    refine k_if_ne hq (tgt := 107) dX12_counted_75 (by decide) (fun _ => ?_) (fun _ => ?_)
    · exact k_sub [0, 1, 2, 3, 4, 5, 6] rfl (P_X12_counted_78 hq N k5 k17 hk5 hk17 l0 l1 l2 l3 l4 l5 l6 h)
    · exact k_sub [0, 1, 2, 3, 4, 5] rfl (P_X12_counted_107 hq N k5 k17 hk5 hk17 l0 l1 l2 l3 l4 l5 h)
  · exact k_sub [0, 1, 2, 3, 4, 5, 6] rfl (P_X12_counted_78 hq N k5 k17 hk5 hk17 l0 l1 l2 l3 l4 l5 l6 h)
set_option maxRecDepth 100000 in
set_option maxHeartbeats 4000000 in
theorem P_X12_counted_17b {q : eT} {r0 : Int32} {h0 : eH} (hq : e_B q yX12_counted.cls cX12_counted 8 1 22 (some .int) yX12_counted.name) (N : Nat) (k5 : Nat → Int32 → Int32 → Int32 → Int32 → eH → Option (Int32 × eH)) (k17 : Nat → Int32 → Int32 → Int32 → Int32 → Int32 → eH → Option (Int32 × eH)) (hk5 : ∀ (l0 : Nat) (l1 : Int32) (l2 : Int32) (l3 : Int32) (l4 : Int32) h, e_K eI q r0 h0 5 [(0, .ref l0), (1, .int l1), (2, .int l2), (3, .int l3), (4, .int l4)] [] h (k5 l0 l1 l2 l3 l4 h)) (hk17 : ∀ (l0 : Nat) (l1 : Int32) (l2 : Int32) (l3 : Int32) (l4 : Int32) (l5 : Int32) h, e_K eI q r0 h0 17 [(0, .ref l0), (1, .int l1), (2, .int l2), (3, .int l3), (4, .int l4), (5, .int l5)] [] h (k17 l0 l1 l2 l3 l4 l5 h)) (l0 : Nat) (l1 : Int32) (l2 : Int32) (l3 : Int32) (l4 : Int32) (l5 : Int32) (h : eH) : e_K eI q r0 h0 17 [(0, .ref l0), (1, .int l1), (2, .int l2), (3, .int l3), (4, .int l4), (5, .int l5)] [] h (F_X12_counted_17b N k5 k17 l0 l1 l2 l3 l4 l5 h) := by
  unfold F_X12_counted_17b
  refine k_iload hq dX12_counted_17 5 rfl ?_
  refine k_aload_n hq dX12_counted_19 0 rfl ?_
  refine k_gr hq (C := RX12) (T := TX12) 11 15 rfl (by decide) (lay_X12 15 (by decide)) tw_942 dX12_counted_20 fun v1 => ?_
  refine k_iconst hq dX12_counted_23 (v := 4) rfl ?_
  refine k_iload_n hq dX12_counted_24 1 rfl ?_
  refine k_imul hq dX12_counted_25 ?_
  refine k_iload hq dX12_counted_26 4 rfl ?_
  refine k_iadd hq dX12_counted_28 ?_
  refine k_iald hq dX12_counted_29 fun v2 => ?_
  refine k_icmp_gt hq (tgt := 128) dX12_counted_30 (by decide) (fun _ => ?_) (fun _ => ?_)
  · refine k_iinc hq dX12_counted_128 4 rfl (v := l4 + 1) rfl (by decide) (ls' := [(4, .int (l4 + 1)), (0, .ref l0), (1, .int l1), (2, .int l2), (3, .int l3), (5, .int l5)]) rfl ?_
    refine k_goto hq (tgt := 5) dX12_counted_131 (by decide) ?_
    exact k_sub [1, 2, 3, 4, 0] rfl (hk5 l0 l1 l2 l3 (l4 + 1) h)
  · refine k_iload_n hq dX12_counted_33 1 rfl ?_
    refine k_iload hq dX12_counted_34 4 rfl ?_
    refine k_iload hq dX12_counted_36 5 rfl ?_
    refine k_callS hq (na := 3) (As := [.int l1, .int l4, .int l5]) (st := []) (con_X12_at _ _ _ _ l1 l4 l5) tw_1115 tw_59 tw_1113 tw_1114 ⟨by decide, by decide, by decide +kernel⟩ rfl (by decide) rfl (Nat.le_of_ble_eq_true rfl) dX12_counted_38 fun v3 h4 => ?_
    refine k_istore hq dX12_counted_41 (by decide) (ls' := [(6, .int v3), (0, .ref l0), (1, .int l1), (2, .int l2), (3, .int l3), (4, .int l4), (5, .int l5)]) rfl ?_
    refine k_iload_n hq dX12_counted_43 3 rfl ?_
    refine k_iconst hq dX12_counted_44 (v := 1) rfl ?_
    refine k_icmp_eq hq (tgt := 107) dX12_counted_45 (by decide) (fun _ => ?_) (fun _ => ?_)
    · exact k_sub [1, 2, 3, 4, 5, 6] rfl (P_X12_counted_107 hq N k5 k17 hk5 hk17 l0 l1 l2 l3 l4 l5 h4)
    · refine k_iload_n hq dX12_counted_48 3 rfl ?_
      refine k_iconst hq dX12_counted_49 (v := 2) rfl ?_
      refine k_icmp_ne hq (tgt := 63) dX12_counted_50 (by decide) (fun _ => ?_) (fun _ => ?_)
      · refine k_aload_n hq dX12_counted_53 1 rfl ?_
        refine k_gr hq (C := RX12) (T := TX12) 11 12 rfl (by decide) (lay_X12 12 (by decide)) tw_939 dX12_counted_54 fun v5 => ?_
        refine k_iload hq dX12_counted_57 0 rfl ?_
        refine k_zald hq dX12_counted_59 fun v6 => ?_
        refine k_if_ne hq (tgt := 107) dX12_counted_60 (by decide) (fun _ => ?_) (fun _ => ?_)
        · exact k_sub [1, 2, 3, 4, 5, 6, 0] rfl (P_X12_counted_63 hq N k5 k17 hk5 hk17 l0 l1 l2 l3 l4 l5 v3 h4)
        · exact k_sub [1, 2, 3, 4, 5, 6] rfl (P_X12_counted_107 hq N k5 k17 hk5 hk17 l0 l1 l2 l3 l4 l5 h4)
      · exact k_sub [1, 2, 3, 4, 5, 6, 0] rfl (P_X12_counted_63 hq N k5 k17 hk5 hk17 l0 l1 l2 l3 l4 l5 v3 h4)
theorem Q_X12_counted_17 {q : eT} {r0 : Int32} {h0 : eH} (hq : e_B q yX12_counted.cls cX12_counted 8 1 22 (some .int) yX12_counted.name) (N : Nat) (k5 : Nat → Int32 → Int32 → Int32 → Int32 → eH → Option (Int32 × eH)) (hk5 : ∀ (l0 : Nat) (l1 : Int32) (l2 : Int32) (l3 : Int32) (l4 : Int32) h, e_K eI q r0 h0 5 [(0, .ref l0), (1, .int l1), (2, .int l2), (3, .int l3), (4, .int l4)] [] h (k5 l0 l1 l2 l3 l4 h)) (l0 : Nat) (l1 : Int32) (l2 : Int32) (l3 : Int32) (l4 : Int32) (l5 : Int32) (h : eH) : e_K eI q r0 h0 17 [(0, .ref l0), (1, .int l1), (2, .int l2), (3, .int l3), (4, .int l4), (5, .int l5)] [] h (L_X12_counted_17 N k5 l0 l1 l2 l3 l4 l5 h) :=
  k_loop (mk := (fun s => [(0, .ref s.1), (1, .int s.2.1), (2, .int s.2.2.1), (3, .int s.2.2.2.1), (4, .int s.2.2.2.2.1), (5, .int s.2.2.2.2.2.1)])) (hp := fun s => s.2.2.2.2.2.2) (fun k hk s => P_X12_counted_17b hq N k5 (fun l0 l1 l2 l3 l4 l5 h => k (l0, l1, l2, l3, l4, l5, h)) hk5 (fun l0 l1 l2 l3 l4 l5 h => hk (l0, l1, l2, l3, l4, l5, h)) s.1 s.2.1 s.2.2.1 s.2.2.2.1 s.2.2.2.2.1 s.2.2.2.2.2.1 s.2.2.2.2.2.2) N (l0, l1, l2, l3, l4, l5, h)
set_option maxRecDepth 100000 in
set_option maxHeartbeats 4000000 in
theorem P_X12_counted_5b {q : eT} {r0 : Int32} {h0 : eH} (hq : e_B q yX12_counted.cls cX12_counted 8 1 22 (some .int) yX12_counted.name) (N : Nat) (k5 : Nat → Int32 → Int32 → Int32 → Int32 → eH → Option (Int32 × eH)) (hk5 : ∀ (l0 : Nat) (l1 : Int32) (l2 : Int32) (l3 : Int32) (l4 : Int32) h, e_K eI q r0 h0 5 [(0, .ref l0), (1, .int l1), (2, .int l2), (3, .int l3), (4, .int l4)] [] h (k5 l0 l1 l2 l3 l4 h)) (l0 : Nat) (l1 : Int32) (l2 : Int32) (l3 : Int32) (l4 : Int32) (h : eH) : e_K eI q r0 h0 5 [(0, .ref l0), (1, .int l1), (2, .int l2), (3, .int l3), (4, .int l4)] [] h (F_X12_counted_5b N k5 l0 l1 l2 l3 l4 h) := by
  unfold F_X12_counted_5b
  refine k_iload hq dX12_counted_5 4 rfl ?_
  refine k_aload_n hq dX12_counted_7 0 rfl ?_
  refine k_gi hq (C := RX12) (T := TX12) 11 0 rfl (by decide) (lay_X12 0 (by decide)) tw_927 dX12_counted_8 fun v1 => ?_
  refine k_icmp_ge hq (tgt := 134) dX12_counted_11 (by decide) (fun _ => ?_) (fun _ => ?_)
  · refine k_iload_n hq dX12_counted_134 3 rfl ?_
    exact k_iret hq dX12_counted_135
  · refine k_iconst hq dX12_counted_14 (v := 1) rfl ?_
    refine k_istore hq dX12_counted_15 (by decide) (ls' := [(5, .int 1), (0, .ref l0), (1, .int l1), (2, .int l2), (3, .int l3), (4, .int l4)]) rfl ?_
    exact k_sub [1, 2, 3, 4, 5, 0] rfl (Q_X12_counted_17 hq N k5 hk5 l0 l1 l2 l3 l4 1 h)
theorem Q_X12_counted_5 {q : eT} {r0 : Int32} {h0 : eH} (hq : e_B q yX12_counted.cls cX12_counted 8 1 22 (some .int) yX12_counted.name) (N : Nat) (l0 : Nat) (l1 : Int32) (l2 : Int32) (l3 : Int32) (l4 : Int32) (h : eH) : e_K eI q r0 h0 5 [(0, .ref l0), (1, .int l1), (2, .int l2), (3, .int l3), (4, .int l4)] [] h (L_X12_counted_5 N l0 l1 l2 l3 l4 h) :=
  k_loop (mk := (fun s => [(0, .ref s.1), (1, .int s.2.1), (2, .int s.2.2.1), (3, .int s.2.2.2.1), (4, .int s.2.2.2.2.1)])) (hp := fun s => s.2.2.2.2.2) (fun k hk s => P_X12_counted_5b hq N (fun l0 l1 l2 l3 l4 h => k (l0, l1, l2, l3, l4, h)) (fun l0 l1 l2 l3 l4 h => hk (l0, l1, l2, l3, l4, h)) s.1 s.2.1 s.2.2.1 s.2.2.2.1 s.2.2.2.2.1 s.2.2.2.2.2) N (l0, l1, l2, l3, l4, h)
set_option maxRecDepth 100000 in
set_option maxHeartbeats 4000000 in
theorem P_X12_counted_0 {q : eT} {r0 : Int32} {h0 : eH} (hq : e_B q yX12_counted.cls cX12_counted 8 1 22 (some .int) yX12_counted.name) (N : Nat) (l0 : Nat) (l1 : Int32) (l2 : Int32) (h : eH) : e_K eI q r0 h0 0 [(0, .ref l0), (1, .int l1), (2, .int l2)] [] h (F_X12_counted N l0 l1 l2 h) := by
  unfold F_X12_counted
  refine k_iconst hq dX12_counted_0 (v := 0) rfl ?_
  refine k_istore_n hq dX12_counted_1 rfl (by decide) (ls' := [(3, .int 0), (0, .ref l0), (1, .int l1), (2, .int l2)]) rfl ?_
  refine k_iconst hq dX12_counted_2 (v := 0) rfl ?_
  refine k_istore hq dX12_counted_3 (by decide) (ls' := [(4, .int 0), (3, .int 0), (0, .ref l0), (1, .int l1), (2, .int l2)]) rfl ?_
  exact k_sub [2, 3, 4, 1, 0] rfl (Q_X12_counted_5 hq N l0 l1 l2 0 0 h)
theorem con_X12_counted (l : Launch) (G : eG) (B0 n : Nat) (N : Nat) (l0 : Nat) (l1 : Int32) (l2 : Int32) : e_C eI l G B0 n yX12_counted cX12_counted 8 (some .int) 1 22 [.ref l0, .int l1, .int l2] (F_X12_counted N l0 l1 l2) := by
  refine e_mk (by decide) (Nat.le_of_ble_eq_true rfl) fun q r0 h0 h hq e1 e2 e3 e4 => ?_
  subst e1; subst e2; subst e3; subst e4
  exact P_X12_counted_0 hq N l0 l1 l2 h
set_option maxRecDepth 100000 in
set_option maxHeartbeats 4000000 in
theorem P_X12_tally_0 {q : eT} {r0 : Int32} {h0 : eH} (hq : e_B q yX12_tally.cls cX12_tally 3 2 49 (some .int) yX12_tally.name) (N : Nat) (l0 : Nat) (l1 : Int32) (l2 : Int32) (h : eH) : e_K eI q r0 h0 0 [(0, .ref l0), (1, .int l1), (2, .int l2)] [] h (F_X12_tally N l0 l1 l2 h) := by
  unfold F_X12_tally
  refine k_aload_n hq dX12_tally_0 0 rfl ?_
  refine k_iload_n hq dX12_tally_1 1 rfl ?_
  refine k_callV hq (na := 1) (As := [.int l1]) (st := []) 11 (C := RX12) (T := TX12) rfl (con_X12_isKey _ _ _ _ l0 l1) tw_1109 tw_59 tw_1106 tw_1108 tw_29 ⟨by decide, by decide, by decide +kernel⟩ rfl (by decide) rfl (Nat.le_of_ble_eq_true rfl) dX12_tally_2 fun v1 h2 => ?_
  refine k_if_eq hq (tgt := 20) dX12_tally_5 (by decide) (fun _ => ?_) (fun _ => ?_)
  · refine k_iconst hq dX12_tally_20 (v := (-1)) rfl ?_
    exact k_iret hq dX12_tally_21
  · refine k_iload_n hq dX12_tally_8 2 rfl ?_
    refine k_i2l hq dX12_tally_9 ?_
    refine k_lconst hq dX12_tally_10 (v := 0) rfl ?_
    refine k_ldc2 hq (v := 6) tw_1259 dX12_tally_11 ?_
    refine k_callS hq (na := 3) (As := [.long (l2.toInt64), .long 0, .long 6]) (st := []) (con_X12_in _ _ _ _ (l2.toInt64) 0 6) tw_1059 tw_59 tw_1057 tw_1058 ⟨by decide, by decide, by decide +kernel⟩ rfl (by decide) rfl (Nat.le_of_ble_eq_true rfl) dX12_tally_14 fun v3 h4 => ?_
    refine k_if_ne hq (tgt := 22) dX12_tally_17 (by decide) (fun _ => ?_) (fun _ => ?_)
    · refine k_iconst hq dX12_tally_20 (v := (-1)) rfl ?_
      exact k_iret hq dX12_tally_21
    · refine k_iload_n hq dX12_tally_22 2 rfl ?_
      refine k_if_ne hq (tgt := 35) dX12_tally_23 (by decide) (fun _ => ?_) (fun _ => ?_)
      · refine k_aload_n hq dX12_tally_26 0 rfl ?_
        refine k_gr hq (C := RX12) (T := TX12) 11 4 rfl (by decide) (lay_X12 4 (by decide)) tw_931 dX12_tally_27 fun v9 => ?_
        refine k_iload_n hq dX12_tally_30 1 rfl ?_
        refine k_iald hq dX12_tally_31 fun v10 => ?_
        refine k_goto hq (tgt := 56) dX12_tally_32 (by decide) ?_
        exact k_iret hq dX12_tally_56
      · refine k_iload_n hq dX12_tally_35 2 rfl ?_
        refine k_bipush hq dX12_tally_36 (v := 6) rfl ?_
        refine k_icmp_ne hq (tgt := 50) dX12_tally_38 (by decide) (fun _ => ?_) (fun _ => ?_)
        · refine k_aload_n hq dX12_tally_41 0 rfl ?_
          refine k_gr hq (C := RX12) (T := TX12) 11 17 rfl (by decide) (lay_X12 17 (by decide)) tw_944 dX12_tally_42 fun v7 => ?_
          refine k_iload_n hq dX12_tally_45 1 rfl ?_
          refine k_iald hq dX12_tally_46 fun v8 => ?_
          refine k_goto hq (tgt := 56) dX12_tally_47 (by decide) ?_
          exact k_iret hq dX12_tally_56
        · refine k_aload_n hq dX12_tally_50 0 rfl ?_
          refine k_iload_n hq dX12_tally_51 1 rfl ?_
          refine k_iload_n hq dX12_tally_52 2 rfl ?_
          refine k_callV hq (na := 2) (As := [.int l1, .int l2]) (st := []) 11 (C := RX12) (T := TX12) rfl (con_X12_counted _ _ _ _ N l0 l1 l2) tw_1263 tw_59 tw_1260 tw_1262 tw_46 ⟨by decide, by decide, by decide +kernel⟩ rfl (by decide) rfl (Nat.le_of_ble_eq_true rfl) dX12_tally_53 fun v5 h6 => ?_
          exact k_iret hq dX12_tally_56
theorem con_X12_tally (l : Launch) (G : eG) (B0 n : Nat) (N : Nat) (l0 : Nat) (l1 : Int32) (l2 : Int32) : e_C eI l G B0 n yX12_tally cX12_tally 3 (some .int) 2 49 [.ref l0, .int l1, .int l2] (F_X12_tally N l0 l1 l2) := by
  refine e_mk (by decide) (Nat.le_of_ble_eq_true rfl) fun q r0 h0 h hq e1 e2 e3 e4 => ?_
  subst e1; subst e2; subst e3; subst e4
  exact P_X12_tally_0 hq N l0 l1 l2 h
set_option maxRecDepth 100000 in
set_option maxHeartbeats 4000000 in
theorem P_X12_count_0 {q : eT} {r0 : Int32} {h0 : eH} (hq : e_B q yX12_count.cls cX12_count 2 0 0 (some .int) yX12_count.name) (l0 : Nat) (l1 : Int32) (h : eH) : e_K eI q r0 h0 0 [(0, .ref l0), (1, .int l1)] [] h (F_X12_count l0 l1 h) := by
  unfold F_X12_count
  refine k_iload_n hq dX12_count_0 1 rfl ?_
  refine k_ite (fun e0 => ?_) (fun n0 => ?_)
  · refine k_tableIn hq (tgt := 40) dX12_count_1 (by rw [e0]; decide) (by rw [e0]; decide) (off := 39) (by rw [e0]; rfl) (by decide) ?_
    refine k_aload_n hq dX12_count_40 0 rfl ?_
    refine k_gi hq (C := RX12) (T := TX12) 11 0 rfl (by decide) (lay_X12 0 (by decide)) tw_927 dX12_count_41 fun v1 => ?_
    exact k_iret hq dX12_count_44
  refine k_ite (fun e0 => ?_) (fun n1 => ?_)
  · refine k_tableIn hq (tgt := 45) dX12_count_1 (by rw [e0]; decide) (by rw [e0]; decide) (off := 44) (by rw [e0]; rfl) (by decide) ?_
    refine k_aload_n hq dX12_count_45 0 rfl ?_
    refine k_gi hq (C := RX12) (T := TX12) 11 3 rfl (by decide) (lay_X12 3 (by decide)) tw_930 dX12_count_46 fun v2 => ?_
    exact k_iret hq dX12_count_49
  refine k_ite (fun e0 => ?_) (fun n2 => ?_)
  · refine k_tableIn hq (tgt := 50) dX12_count_1 (by rw [e0]; decide) (by rw [e0]; decide) (off := 49) (by rw [e0]; rfl) (by decide) ?_
    refine k_aload_n hq dX12_count_50 0 rfl ?_
    refine k_gi hq (C := RX12) (T := TX12) 11 1 rfl (by decide) (lay_X12 1 (by decide)) tw_928 dX12_count_51 fun v3 => ?_
    exact k_iret hq dX12_count_54
  refine k_ite (fun e0 => ?_) (fun n3 => ?_)
  · refine k_tableIn hq (tgt := 55) dX12_count_1 (by rw [e0]; decide) (by rw [e0]; decide) (off := 54) (by rw [e0]; rfl) (by decide) ?_
    refine k_aload_n hq dX12_count_55 0 rfl ?_
    refine k_gi hq (C := RX12) (T := TX12) 11 2 rfl (by decide) (lay_X12 2 (by decide)) tw_929 dX12_count_56 fun v4 => ?_
    exact k_iret hq dX12_count_59
  refine k_ite (fun e0 => ?_) (fun n4 => ?_)
  · refine k_tableIn hq (tgt := 60) dX12_count_1 (by rw [e0]; decide) (by rw [e0]; decide) (off := 59) (by rw [e0]; rfl) (by decide) ?_
    refine k_aload_n hq dX12_count_60 0 rfl ?_
    refine k_gi hq (C := RX12) (T := TX12) 11 5 rfl (by decide) (lay_X12 5 (by decide)) tw_932 dX12_count_61 fun v5 => ?_
    exact k_iret hq dX12_count_64
  refine k_ite (fun e0 => ?_) (fun n5 => ?_)
  · refine k_tableIn hq (tgt := 65) dX12_count_1 (by rw [e0]; decide) (by rw [e0]; decide) (off := 64) (by rw [e0]; rfl) (by decide) ?_
    refine k_aload_n hq dX12_count_65 0 rfl ?_
    refine k_gi hq (C := RX12) (T := TX12) 11 24 rfl (by decide) (lay_X12 24 (by decide)) tw_951 dX12_count_66 fun v6 => ?_
    exact k_iret hq dX12_count_69
  refine k_tableOut hq (tgt := 70) dX12_count_1 (by have m0 := e_ne n0 (show (0 : Int32).toInt = 0 from rfl); have m1 := e_ne n1 (show (1 : Int32).toInt = 1 from rfl); have m2 := e_ne n2 (show (2 : Int32).toInt = 2 from rfl); have m3 := e_ne n3 (show (3 : Int32).toInt = 3 from rfl); have m4 := e_ne n4 (show (4 : Int32).toInt = 4 from rfl); have m5 := e_ne n5 (show (5 : Int32).toInt = 5 from rfl); omega) (by decide) ?_
  refine k_iconst hq dX12_count_70 (v := (-1)) rfl ?_
  exact k_iret hq dX12_count_71
theorem con_X12_count (l : Launch) (G : eG) (B0 n : Nat) (l0 : Nat) (l1 : Int32) : e_C eI l G B0 n yX12_count cX12_count 2 (some .int) 0 0 [.ref l0, .int l1] (F_X12_count l0 l1) := by
  refine e_mk (by decide) (Nat.le_of_ble_eq_true rfl) fun q r0 h0 h hq e1 e2 e3 e4 => ?_
  subst e1; subst e2; subst e3; subst e4
  exact P_X12_count_0 hq l0 l1 h
