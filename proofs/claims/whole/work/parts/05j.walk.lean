set_option maxRecDepth 100000 in
set_option maxHeartbeats 4000000 in
theorem P_X12_areAlike_54 {q : eT} {r0 : Int32} {h0 : eH} (hq : e_B q yX12_areAlike.cls cX12_areAlike 6 1 21 (some .boolean) yX12_areAlike.name) (he : e_E q) (N : Nat) (k6 : Nat → Int32 → Int32 → Int32 → Int32 → Int32 → eH → Option (Int32 × eH)) (hk6 : ∀ (l0 : Nat) (l1 : Int32) (l2 : Int32) (l3 : Int32) (l4 : Int32) (l5 : Int32) h, e_K eI q r0 h0 6 [(0, .ref l0), (1, .int l1), (2, .int l2), (3, .int l3), (4, .int l4), (5, .int l5)] [] h (k6 l0 l1 l2 l3 l4 l5 h)) (l0 : Nat) (l1 : Int32) (l2 : Int32) (l3 : Int32) (l5 : Int32) (s0 : Int32) (h : eH) : e_K eI q r0 h0 54 [(0, .ref l0), (1, .int l1), (2, .int l2), (3, .int l3), (5, .int l5)] [.int s0] h (F_X12_areAlike_54 N k6 l0 l1 l2 l3 l5 s0 h) := by
  unfold F_X12_areAlike_54
  refine k_istore hq dX12_areAlike_54 (by decide) (ls' := [(4, .int s0), (0, .ref l0), (1, .int l1), (2, .int l2), (3, .int l3), (5, .int l5)]) rfl ?_
  refine k_iinc hq dX12_areAlike_56 5 rfl (v := l5 + 1) rfl (by decide) (ls' := [(5, .int (l5 + 1)), (4, .int s0), (0, .ref l0), (1, .int l1), (2, .int l2), (3, .int l3)]) rfl ?_
  refine k_goto hq (tgt := 6) dX12_areAlike_59 (by decide) ?_
  exact k_sub [2, 3, 4, 5, 1, 0] rfl (hk6 l0 l1 l2 l3 s0 (l5 + 1) h)
set_option maxRecDepth 100000 in
set_option maxHeartbeats 4000000 in
theorem P_X12_areAlike_53 {q : eT} {r0 : Int32} {h0 : eH} (hq : e_B q yX12_areAlike.cls cX12_areAlike 6 1 21 (some .boolean) yX12_areAlike.name) (he : e_E q) (N : Nat) (k6 : Nat → Int32 → Int32 → Int32 → Int32 → Int32 → eH → Option (Int32 × eH)) (hk6 : ∀ (l0 : Nat) (l1 : Int32) (l2 : Int32) (l3 : Int32) (l4 : Int32) (l5 : Int32) h, e_K eI q r0 h0 6 [(0, .ref l0), (1, .int l1), (2, .int l2), (3, .int l3), (4, .int l4), (5, .int l5)] [] h (k6 l0 l1 l2 l3 l4 l5 h)) (l0 : Nat) (l1 : Int32) (l2 : Int32) (l3 : Int32) (l5 : Int32) (h : eH) : e_K eI q r0 h0 53 [(0, .ref l0), (1, .int l1), (2, .int l2), (3, .int l3), (5, .int l5)] [] h (F_X12_areAlike_53 N k6 l0 l1 l2 l3 l5 h) := by
  unfold F_X12_areAlike_53
  refine k_iconst hq dX12_areAlike_53 (v := 0) rfl ?_
  exact k_sub [0, 1, 2, 3, 4] rfl (P_X12_areAlike_54 hq he N k6 hk6 l0 l1 l2 l3 l5 0 h)
set_option maxRecDepth 100000 in
set_option maxHeartbeats 4000000 in
theorem P_X12_areAlike_118 {q : eT} {r0 : Int32} {h0 : eH} (hq : e_B q yX12_areAlike.cls cX12_areAlike 6 1 21 (some .boolean) yX12_areAlike.name) (he : e_E q) (N : Nat) (k69 : Nat → Int32 → Int32 → Int32 → Int32 → Int32 → eH → Option (Int32 × eH)) (hk69 : ∀ (l0 : Nat) (l1 : Int32) (l2 : Int32) (l3 : Int32) (l4 : Int32) (l5 : Int32) h, e_K eI q r0 h0 69 [(0, .ref l0), (1, .int l1), (2, .int l2), (3, .int l3), (4, .int l4), (5, .int l5)] [] h (k69 l0 l1 l2 l3 l4 l5 h)) (l0 : Nat) (l1 : Int32) (l2 : Int32) (l3 : Int32) (l5 : Int32) (s0 : Int32) (h : eH) : e_K eI q r0 h0 118 [(0, .ref l0), (1, .int l1), (2, .int l2), (3, .int l3), (5, .int l5)] [.int s0] h (F_X12_areAlike_118 N k69 l0 l1 l2 l3 l5 s0 h) := by
  unfold F_X12_areAlike_118
  refine k_istore hq dX12_areAlike_118 (by decide) (ls' := [(4, .int s0), (0, .ref l0), (1, .int l1), (2, .int l2), (3, .int l3), (5, .int l5)]) rfl ?_
  refine k_iinc hq dX12_areAlike_120 5 rfl (v := l5 + 1) rfl (by decide) (ls' := [(5, .int (l5 + 1)), (4, .int s0), (0, .ref l0), (1, .int l1), (2, .int l2), (3, .int l3)]) rfl ?_
  refine k_goto hq (tgt := 69) dX12_areAlike_123 (by decide) ?_
  exact k_sub [2, 3, 4, 5, 1, 0] rfl (hk69 l0 l1 l2 l3 s0 (l5 + 1) h)
set_option maxRecDepth 100000 in
set_option maxHeartbeats 4000000 in
theorem P_X12_areAlike_117 {q : eT} {r0 : Int32} {h0 : eH} (hq : e_B q yX12_areAlike.cls cX12_areAlike 6 1 21 (some .boolean) yX12_areAlike.name) (he : e_E q) (N : Nat) (k69 : Nat → Int32 → Int32 → Int32 → Int32 → Int32 → eH → Option (Int32 × eH)) (hk69 : ∀ (l0 : Nat) (l1 : Int32) (l2 : Int32) (l3 : Int32) (l4 : Int32) (l5 : Int32) h, e_K eI q r0 h0 69 [(0, .ref l0), (1, .int l1), (2, .int l2), (3, .int l3), (4, .int l4), (5, .int l5)] [] h (k69 l0 l1 l2 l3 l4 l5 h)) (l0 : Nat) (l1 : Int32) (l2 : Int32) (l3 : Int32) (l5 : Int32) (h : eH) : e_K eI q r0 h0 117 [(0, .ref l0), (1, .int l1), (2, .int l2), (3, .int l3), (5, .int l5)] [] h (F_X12_areAlike_117 N k69 l0 l1 l2 l3 l5 h) := by
  unfold F_X12_areAlike_117
  refine k_iconst hq dX12_areAlike_117 (v := 0) rfl ?_
  exact k_sub [0, 1, 2, 3, 4] rfl (P_X12_areAlike_118 hq he N k69 hk69 l0 l1 l2 l3 l5 0 h)
set_option maxRecDepth 100000 in
set_option maxHeartbeats 4000000 in
theorem P_X12_areAlike_69b {q : eT} {r0 : Int32} {h0 : eH} (hq : e_B q yX12_areAlike.cls cX12_areAlike 6 1 21 (some .boolean) yX12_areAlike.name) (he : e_E q) (N : Nat) (k69 : Nat → Int32 → Int32 → Int32 → Int32 → Int32 → eH → Option (Int32 × eH)) (hk69 : ∀ (l0 : Nat) (l1 : Int32) (l2 : Int32) (l3 : Int32) (l4 : Int32) (l5 : Int32) h, e_K eI q r0 h0 69 [(0, .ref l0), (1, .int l1), (2, .int l2), (3, .int l3), (4, .int l4), (5, .int l5)] [] h (k69 l0 l1 l2 l3 l4 l5 h)) (l0 : Nat) (l1 : Int32) (l2 : Int32) (l3 : Int32) (l4 : Int32) (l5 : Int32) (h : eH) : e_K eI q r0 h0 69 [(0, .ref l0), (1, .int l1), (2, .int l2), (3, .int l3), (4, .int l4), (5, .int l5)] [] h (F_X12_areAlike_69b N k69 l0 l1 l2 l3 l4 l5 h) := by
  unfold F_X12_areAlike_69b
  refine k_iload hq dX12_areAlike_69 5 rfl ?_
  refine k_sipush hq dX12_areAlike_71 (v := 164) rfl ?_
  refine k_iload_n hq dX12_areAlike_74 3 rfl ?_
  refine k_imul hq dX12_areAlike_75 ?_
  refine k_sipush hq dX12_areAlike_76 (v := 164) rfl ?_
  refine k_iadd hq dX12_areAlike_79 ?_
  refine k_icmp_ge hq (tgt := 126) dX12_areAlike_80 (by decide) (fun _ => ?_) (fun _ => ?_)
  · refine k_iload hq dX12_areAlike_126 4 rfl ?_
    exact k_zret hq dX12_areAlike_128 he
  · refine k_iload hq dX12_areAlike_83 4 rfl ?_
    refine k_if_eq hq (tgt := 117) dX12_areAlike_85 (by decide) (fun _ => ?_) (fun _ => ?_)
    · exact k_sub [0, 1, 2, 3, 5] rfl (P_X12_areAlike_117 hq he N k69 hk69 l0 l1 l2 l3 l5 h)
    · refine k_aload_n hq dX12_areAlike_88 0 rfl ?_
      refine k_gr hq (C := RX12) (T := TX12) 11 14 rfl (by decide) (lay_X12 14 (by decide)) tw_941 dX12_areAlike_89 fun v1 => ?_
      refine k_iload hq dX12_areAlike_92 5 rfl ?_
      refine k_iald hq dX12_areAlike_94 fun v2 => ?_
      refine k_iload_n hq dX12_areAlike_95 1 rfl ?_
      refine k_callS hq (na := 2) (As := [.int v2, .int l1]) (st := []) (con_X12_has _ _ _ _ v2 l1) tw_1118 tw_59 tw_1116 tw_1117 ⟨by decide, by decide, by decide +kernel⟩ rfl (by decide) rfl (Nat.le_of_ble_eq_true rfl) dX12_areAlike_96 fun v3 h4 => ?_
      refine k_aload_n hq dX12_areAlike_99 0 rfl ?_
      refine k_gr hq (C := RX12) (T := TX12) 11 14 rfl (by decide) (lay_X12 14 (by decide)) tw_941 dX12_areAlike_100 fun v5 => ?_
      refine k_iload hq dX12_areAlike_103 5 rfl ?_
      refine k_iald hq dX12_areAlike_105 fun v6 => ?_
      refine k_iload_n hq dX12_areAlike_106 2 rfl ?_
      refine k_callS hq (na := 2) (As := [.int v6, .int l2]) (st := [.int v3]) (con_X12_has _ _ _ _ v6 l2) tw_1118 tw_59 tw_1116 tw_1117 ⟨by decide, by decide, by decide +kernel⟩ rfl (by decide) rfl (Nat.le_of_ble_eq_true rfl) dX12_areAlike_107 fun v7 h8 => ?_
      refine k_icmp_ne hq (tgt := 117) dX12_areAlike_110 (by decide) (fun _ => ?_) (fun _ => ?_)
      · refine k_iconst hq dX12_areAlike_113 (v := 1) rfl ?_
        refine k_goto hq (tgt := 118) dX12_areAlike_114 (by decide) ?_
        exact k_sub [0, 1, 2, 3, 5] rfl (P_X12_areAlike_118 hq he N k69 hk69 l0 l1 l2 l3 l5 1 h8)
      · exact k_sub [0, 1, 2, 3, 5] rfl (P_X12_areAlike_117 hq he N k69 hk69 l0 l1 l2 l3 l5 h8)
theorem Q_X12_areAlike_69 {q : eT} {r0 : Int32} {h0 : eH} (hq : e_B q yX12_areAlike.cls cX12_areAlike 6 1 21 (some .boolean) yX12_areAlike.name) (he : e_E q) (N : Nat) (l0 : Nat) (l1 : Int32) (l2 : Int32) (l3 : Int32) (l4 : Int32) (l5 : Int32) (h : eH) : e_K eI q r0 h0 69 [(0, .ref l0), (1, .int l1), (2, .int l2), (3, .int l3), (4, .int l4), (5, .int l5)] [] h (L_X12_areAlike_69 N l0 l1 l2 l3 l4 l5 h) :=
  k_loop (mk := (fun s => [(0, .ref s.1), (1, .int s.2.1), (2, .int s.2.2.1), (3, .int s.2.2.2.1), (4, .int s.2.2.2.2.1), (5, .int s.2.2.2.2.2.1)])) (hp := fun s => s.2.2.2.2.2.2) (fun k hk s => P_X12_areAlike_69b hq he N (fun l0 l1 l2 l3 l4 l5 h => k (l0, l1, l2, l3, l4, l5, h)) (fun l0 l1 l2 l3 l4 l5 h => hk (l0, l1, l2, l3, l4, l5, h)) s.1 s.2.1 s.2.2.1 s.2.2.2.1 s.2.2.2.2.1 s.2.2.2.2.2.1 s.2.2.2.2.2.2) N (l0, l1, l2, l3, l4, l5, h)
set_option maxRecDepth 100000 in
set_option maxHeartbeats 4000000 in
theorem P_X12_areAlike_6b {q : eT} {r0 : Int32} {h0 : eH} (hq : e_B q yX12_areAlike.cls cX12_areAlike 6 1 21 (some .boolean) yX12_areAlike.name) (he : e_E q) (N : Nat) (k6 : Nat → Int32 → Int32 → Int32 → Int32 → Int32 → eH → Option (Int32 × eH)) (hk6 : ∀ (l0 : Nat) (l1 : Int32) (l2 : Int32) (l3 : Int32) (l4 : Int32) (l5 : Int32) h, e_K eI q r0 h0 6 [(0, .ref l0), (1, .int l1), (2, .int l2), (3, .int l3), (4, .int l4), (5, .int l5)] [] h (k6 l0 l1 l2 l3 l4 l5 h)) (l0 : Nat) (l1 : Int32) (l2 : Int32) (l3 : Int32) (l4 : Int32) (l5 : Int32) (h : eH) : e_K eI q r0 h0 6 [(0, .ref l0), (1, .int l1), (2, .int l2), (3, .int l3), (4, .int l4), (5, .int l5)] [] h (F_X12_areAlike_6b N k6 l0 l1 l2 l3 l4 l5 h) := by
  unfold F_X12_areAlike_6b
  refine k_iload hq dX12_areAlike_6 5 rfl ?_
  refine k_aload_n hq dX12_areAlike_8 0 rfl ?_
  refine k_gi hq (C := RX12) (T := TX12) 11 0 rfl (by decide) (lay_X12 0 (by decide)) tw_927 dX12_areAlike_9 fun v1 => ?_
  refine k_icmp_ge hq (tgt := 62) dX12_areAlike_12 (by decide) (fun _ => ?_) (fun _ => ?_)
  · refine k_sipush hq dX12_areAlike_62 (v := 164) rfl ?_
    refine k_iload_n hq dX12_areAlike_65 3 rfl ?_
    refine k_imul hq dX12_areAlike_66 ?_
    refine k_let (mk := fun z => .int z :: []) fun v2 _ => ?_
    refine k_istore hq dX12_areAlike_67 (by decide) (ls' := [(5, .int v2), (0, .ref l0), (1, .int l1), (2, .int l2), (3, .int l3), (4, .int l4)]) rfl ?_
    exact k_sub [1, 2, 3, 4, 5, 0] rfl (Q_X12_areAlike_69 hq he N l0 l1 l2 l3 l4 v2 h)
  · refine k_iload hq dX12_areAlike_15 4 rfl ?_
    refine k_if_eq hq (tgt := 53) dX12_areAlike_17 (by decide) (fun _ => ?_) (fun _ => ?_)
    · exact k_sub [0, 1, 2, 3, 5] rfl (P_X12_areAlike_53 hq he N k6 hk6 l0 l1 l2 l3 l5 h)
    · refine k_aload_n hq dX12_areAlike_20 0 rfl ?_
      refine k_gr hq (C := RX12) (T := TX12) 11 16 rfl (by decide) (lay_X12 16 (by decide)) tw_943 dX12_areAlike_21 fun v3 => ?_
      refine k_iload_n hq dX12_areAlike_24 3 rfl ?_
      refine k_iload_n hq dX12_areAlike_25 1 rfl ?_
      refine k_callS hq (na := 2) (As := [.int l3, .int l1]) (st := [.ref v3]) (con_X12_rowAt _ _ _ _ l3 l1) tw_1112 tw_59 tw_1110 tw_1111 ⟨by decide, by decide, by decide +kernel⟩ rfl (by decide) rfl (Nat.le_of_ble_eq_true rfl) dX12_areAlike_26 fun v4 h5 => ?_
      refine k_iload hq dX12_areAlike_29 5 rfl ?_
      refine k_iadd hq dX12_areAlike_31 ?_
      refine k_iald hq dX12_areAlike_32 fun v6 => ?_
      refine k_aload_n hq dX12_areAlike_33 0 rfl ?_
      refine k_gr hq (C := RX12) (T := TX12) 11 16 rfl (by decide) (lay_X12 16 (by decide)) tw_943 dX12_areAlike_34 fun v7 => ?_
      refine k_iload_n hq dX12_areAlike_37 3 rfl ?_
      refine k_iload_n hq dX12_areAlike_38 2 rfl ?_
      refine k_callS hq (na := 2) (As := [.int l3, .int l2]) (st := [.ref v7, .int v6]) (con_X12_rowAt _ _ _ _ l3 l2) tw_1112 tw_59 tw_1110 tw_1111 ⟨by decide, by decide, by decide +kernel⟩ rfl (by decide) rfl (Nat.le_of_ble_eq_true rfl) dX12_areAlike_39 fun v8 h9 => ?_
      refine k_iload hq dX12_areAlike_42 5 rfl ?_
      refine k_iadd hq dX12_areAlike_44 ?_
      refine k_iald hq dX12_areAlike_45 fun v10 => ?_
      refine k_icmp_ne hq (tgt := 53) dX12_areAlike_46 (by decide) (fun _ => ?_) (fun _ => ?_)
      · refine k_iconst hq dX12_areAlike_49 (v := 1) rfl ?_
        refine k_goto hq (tgt := 54) dX12_areAlike_50 (by decide) ?_
        exact k_sub [0, 1, 2, 3, 5] rfl (P_X12_areAlike_54 hq he N k6 hk6 l0 l1 l2 l3 l5 1 h9)
      · exact k_sub [0, 1, 2, 3, 5] rfl (P_X12_areAlike_53 hq he N k6 hk6 l0 l1 l2 l3 l5 h9)
theorem Q_X12_areAlike_6 {q : eT} {r0 : Int32} {h0 : eH} (hq : e_B q yX12_areAlike.cls cX12_areAlike 6 1 21 (some .boolean) yX12_areAlike.name) (he : e_E q) (N : Nat) (l0 : Nat) (l1 : Int32) (l2 : Int32) (l3 : Int32) (l4 : Int32) (l5 : Int32) (h : eH) : e_K eI q r0 h0 6 [(0, .ref l0), (1, .int l1), (2, .int l2), (3, .int l3), (4, .int l4), (5, .int l5)] [] h (L_X12_areAlike_6 N l0 l1 l2 l3 l4 l5 h) :=
  k_loop (mk := (fun s => [(0, .ref s.1), (1, .int s.2.1), (2, .int s.2.2.1), (3, .int s.2.2.2.1), (4, .int s.2.2.2.2.1), (5, .int s.2.2.2.2.2.1)])) (hp := fun s => s.2.2.2.2.2.2) (fun k hk s => P_X12_areAlike_6b hq he N (fun l0 l1 l2 l3 l4 l5 h => k (l0, l1, l2, l3, l4, l5, h)) (fun l0 l1 l2 l3 l4 l5 h => hk (l0, l1, l2, l3, l4, l5, h)) s.1 s.2.1 s.2.2.1 s.2.2.2.1 s.2.2.2.2.1 s.2.2.2.2.2.1 s.2.2.2.2.2.2) N (l0, l1, l2, l3, l4, l5, h)
set_option maxRecDepth 100000 in
set_option maxHeartbeats 4000000 in
theorem P_X12_areAlike_0 {q : eT} {r0 : Int32} {h0 : eH} (hq : e_B q yX12_areAlike.cls cX12_areAlike 6 1 21 (some .boolean) yX12_areAlike.name) (he : e_E q) (N : Nat) (l0 : Nat) (l1 : Int32) (l2 : Int32) (l3 : Int32) (h : eH) : e_K eI q r0 h0 0 [(0, .ref l0), (1, .int l1), (2, .int l2), (3, .int l3)] [] h (F_X12_areAlike N l0 l1 l2 l3 h) := by
  unfold F_X12_areAlike
  refine k_iconst hq dX12_areAlike_0 (v := 1) rfl ?_
  refine k_istore hq dX12_areAlike_1 (by decide) (ls' := [(4, .int 1), (0, .ref l0), (1, .int l1), (2, .int l2), (3, .int l3)]) rfl ?_
  refine k_iconst hq dX12_areAlike_3 (v := 0) rfl ?_
  refine k_istore hq dX12_areAlike_4 (by decide) (ls' := [(5, .int 0), (4, .int 1), (0, .ref l0), (1, .int l1), (2, .int l2), (3, .int l3)]) rfl ?_
  exact k_sub [2, 3, 4, 5, 1, 0] rfl (Q_X12_areAlike_6 hq he N l0 l1 l2 l3 1 0 h)
theorem con_X12_areAlike (l : Launch) (G : eG) (B0 n : Nat) (N : Nat) (l0 : Nat) (l1 : Int32) (l2 : Int32) (l3 : Int32) : e_C eI l G B0 n yX12_areAlike cX12_areAlike 6 (some .boolean) 1 21 [.ref l0, .int l1, .int l2, .int l3] (F_X12_areAlike N l0 l1 l2 l3) := by
  refine e_mk (by decide) (Nat.le_of_ble_eq_true rfl) fun q r0 h0 h hq he e1 e2 e3 e4 => ?_
  subst e1; subst e2; subst e3; subst e4
  exact P_X12_areAlike_0 hq he N l0 l1 l2 l3 h
set_option maxRecDepth 100000 in
set_option maxHeartbeats 4000000 in
theorem P_X12_alike_0 {q : eT} {r0 : Int32} {h0 : eH} (hq : e_B q yX12_alike.cls cX12_alike 4 2 46 (some .int) yX12_alike.name) (he : e_E q) (N : Nat) (l0 : Nat) (l1 : Int32) (l2 : Int32) (l3 : Int32) (h : eH) : e_K eI q r0 h0 0 [(0, .ref l0), (1, .int l1), (2, .int l2), (3, .int l3)] [] h (F_X12_alike N l0 l1 l2 l3 h) := by
  unfold F_X12_alike
  refine k_aload_n hq dX12_alike_0 0 rfl ?_
  refine k_iload_n hq dX12_alike_1 1 rfl ?_
  refine k_callV hq (na := 1) (As := [.int l1]) (st := []) 11 (C := RX12) (T := TX12) rfl (con_X12_isSite _ _ _ _ l0 l1) tw_1105 tw_59 tw_1102 tw_1104 tw_28 ⟨by decide, by decide, by decide +kernel⟩ rfl (by decide) rfl (Nat.le_of_ble_eq_true rfl) dX12_alike_2 fun v1 h2 => ?_
  refine k_if_eq hq (tgt := 37) dX12_alike_5 (by decide) (fun _ => ?_) (fun _ => ?_)
  · refine k_iconst hq dX12_alike_37 (v := (-1)) rfl ?_
    exact k_iret hq dX12_alike_38 he
  · refine k_aload_n hq dX12_alike_8 0 rfl ?_
    refine k_iload_n hq dX12_alike_9 2 rfl ?_
    refine k_callV hq (na := 1) (As := [.int l2]) (st := []) 11 (C := RX12) (T := TX12) rfl (con_X12_isSite _ _ _ _ l0 l2) tw_1105 tw_59 tw_1102 tw_1104 tw_28 ⟨by decide, by decide, by decide +kernel⟩ rfl (by decide) rfl (Nat.le_of_ble_eq_true rfl) dX12_alike_10 fun v3 h4 => ?_
    refine k_if_eq hq (tgt := 37) dX12_alike_13 (by decide) (fun _ => ?_) (fun _ => ?_)
    · refine k_iconst hq dX12_alike_37 (v := (-1)) rfl ?_
      exact k_iret hq dX12_alike_38 he
    · refine k_aload_n hq dX12_alike_16 0 rfl ?_
      refine k_iload_n hq dX12_alike_17 3 rfl ?_
      refine k_callV hq (na := 1) (As := [.int l3]) (st := []) 11 (C := RX12) (T := TX12) rfl (con_X12_isKey _ _ _ _ l0 l3) tw_1109 tw_59 tw_1106 tw_1108 tw_29 ⟨by decide, by decide, by decide +kernel⟩ rfl (by decide) rfl (Nat.le_of_ble_eq_true rfl) dX12_alike_18 fun v5 h6 => ?_
      refine k_if_eq hq (tgt := 37) dX12_alike_21 (by decide) (fun _ => ?_) (fun _ => ?_)
      · refine k_iconst hq dX12_alike_37 (v := (-1)) rfl ?_
        exact k_iret hq dX12_alike_38 he
      · refine k_aload_n hq dX12_alike_24 0 rfl ?_
        refine k_iload_n hq dX12_alike_25 1 rfl ?_
        refine k_iload_n hq dX12_alike_26 2 rfl ?_
        refine k_iload_n hq dX12_alike_27 3 rfl ?_
        refine k_callV hq (na := 3) (As := [.int l1, .int l2, .int l3]) (st := []) 11 (C := RX12) (T := TX12) rfl (con_X12_areAlike _ _ _ _ N l0 l1 l2 l3) tw_1216 tw_59 tw_1213 tw_1215 tw_40 ⟨by decide, by decide, by decide +kernel⟩ rfl (by decide) rfl (Nat.le_of_ble_eq_true rfl) dX12_alike_28 fun v7 h8 => ?_
        refine k_callS hq (na := 1) (As := [.int v7]) (st := []) (con_X12_bit _ _ _ _ v7) tw_1200 tw_59 tw_1198 tw_1199 ⟨by decide, by decide, by decide +kernel⟩ rfl (by decide) rfl (Nat.le_of_ble_eq_true rfl) dX12_alike_31 fun v9 h10 => ?_
        refine k_goto hq (tgt := 38) dX12_alike_34 (by decide) ?_
        exact k_iret hq dX12_alike_38 he
theorem con_X12_alike (l : Launch) (G : eG) (B0 n : Nat) (N : Nat) (l0 : Nat) (l1 : Int32) (l2 : Int32) (l3 : Int32) : e_C eI l G B0 n yX12_alike cX12_alike 4 (some .int) 2 46 [.ref l0, .int l1, .int l2, .int l3] (F_X12_alike N l0 l1 l2 l3) := by
  refine e_mk (by decide) (Nat.le_of_ble_eq_true rfl) fun q r0 h0 h hq he e1 e2 e3 e4 => ?_
  subst e1; subst e2; subst e3; subst e4
  exact P_X12_alike_0 hq he N l0 l1 l2 l3 h
set_option maxRecDepth 100000 in
set_option maxHeartbeats 4000000 in
theorem P_X12_behind_77 {q : eT} {r0 : Int32} {h0 : eH} (hq : e_B q yX12_behind.cls cX12_behind 8 2 46 (some .int) yX12_behind.name) (he : e_E q) (N : Nat) (k23 : Nat → Int32 → Int32 → Int32 → Int32 → eH → Option (Int32 × eH)) (k38 : Nat → Int32 → Int32 → Int32 → Int32 → Int32 → Int32 → eH → Option (Int32 × eH)) (hk23 : ∀ (l0 : Nat) (l1 : Int32) (l2 : Int32) (l3 : Int32) (l4 : Int32) h, e_K eI q r0 h0 23 [(0, .ref l0), (1, .int l1), (2, .int l2), (3, .int l3), (4, .int l4)] [] h (k23 l0 l1 l2 l3 l4 h)) (hk38 : ∀ (l0 : Nat) (l1 : Int32) (l2 : Int32) (l3 : Int32) (l4 : Int32) (l5 : Int32) (l6 : Int32) h, e_K eI q r0 h0 38 [(0, .ref l0), (1, .int l1), (2, .int l2), (3, .int l3), (4, .int l4), (5, .int l5), (6, .int l6)] [] h (k38 l0 l1 l2 l3 l4 l5 l6 h)) (l0 : Nat) (l1 : Int32) (l2 : Int32) (l3 : Int32) (l4 : Int32) (l6 : Int32) (s0 : Int32) (h : eH) : e_K eI q r0 h0 77 [(0, .ref l0), (1, .int l1), (2, .int l2), (3, .int l3), (4, .int l4), (6, .int l6)] [.int s0] h (F_X12_behind_77 N k23 k38 l0 l1 l2 l3 l4 l6 s0 h) := by
  unfold F_X12_behind_77
  refine k_istore hq dX12_behind_77 (by decide) (ls' := [(5, .int s0), (0, .ref l0), (1, .int l1), (2, .int l2), (3, .int l3), (4, .int l4), (6, .int l6)]) rfl ?_
  refine k_iinc hq dX12_behind_79 6 rfl (v := l6 + 1) rfl (by decide) (ls' := [(6, .int (l6 + 1)), (5, .int s0), (0, .ref l0), (1, .int l1), (2, .int l2), (3, .int l3), (4, .int l4)]) rfl ?_
  refine k_goto hq (tgt := 38) dX12_behind_82 (by decide) ?_
  exact k_sub [2, 3, 4, 5, 6, 1, 0] rfl (hk38 l0 l1 l2 l3 l4 s0 (l6 + 1) h)
set_option maxRecDepth 100000 in
set_option maxHeartbeats 4000000 in
theorem P_X12_behind_38b {q : eT} {r0 : Int32} {h0 : eH} (hq : e_B q yX12_behind.cls cX12_behind 8 2 46 (some .int) yX12_behind.name) (he : e_E q) (N : Nat) (k23 : Nat → Int32 → Int32 → Int32 → Int32 → eH → Option (Int32 × eH)) (k38 : Nat → Int32 → Int32 → Int32 → Int32 → Int32 → Int32 → eH → Option (Int32 × eH)) (hk23 : ∀ (l0 : Nat) (l1 : Int32) (l2 : Int32) (l3 : Int32) (l4 : Int32) h, e_K eI q r0 h0 23 [(0, .ref l0), (1, .int l1), (2, .int l2), (3, .int l3), (4, .int l4)] [] h (k23 l0 l1 l2 l3 l4 h)) (hk38 : ∀ (l0 : Nat) (l1 : Int32) (l2 : Int32) (l3 : Int32) (l4 : Int32) (l5 : Int32) (l6 : Int32) h, e_K eI q r0 h0 38 [(0, .ref l0), (1, .int l1), (2, .int l2), (3, .int l3), (4, .int l4), (5, .int l5), (6, .int l6)] [] h (k38 l0 l1 l2 l3 l4 l5 l6 h)) (l0 : Nat) (l1 : Int32) (l2 : Int32) (l3 : Int32) (l4 : Int32) (l5 : Int32) (l6 : Int32) (h : eH) : e_K eI q r0 h0 38 [(0, .ref l0), (1, .int l1), (2, .int l2), (3, .int l3), (4, .int l4), (5, .int l5), (6, .int l6)] [] h (F_X12_behind_38b N k23 k38 l0 l1 l2 l3 l4 l5 l6 h) := by
  unfold F_X12_behind_38b
  refine k_iload hq dX12_behind_38 6 rfl ?_
  refine k_aload_n hq dX12_behind_40 0 rfl ?_
  refine k_gi hq (C := RX12) (T := TX12) 11 0 rfl (by decide) (lay_X12 0 (by decide)) tw_927 dX12_behind_41 fun v1 => ?_
  refine k_icmp_ge hq (tgt := 85) dX12_behind_44 (by decide) (fun _ => ?_) (fun _ => ?_)
  · refine k_iload_n hq dX12_behind_85 3 rfl ?_
    refine k_iload hq dX12_behind_86 5 rfl ?_
    refine k_aload_n hq dX12_behind_88 0 rfl ?_
    refine k_gr hq (C := RX12) (T := TX12) 11 16 rfl (by decide) (lay_X12 16 (by decide)) tw_943 dX12_behind_89 fun v2 => ?_
    refine k_iload_n hq dX12_behind_92 2 rfl ?_
    refine k_iload_n hq dX12_behind_93 1 rfl ?_
    refine k_callS hq (na := 2) (As := [.int l2, .int l1]) (st := [.ref v2, .int l5, .int l3]) (con_X12_rowAt _ _ _ _ l2 l1) tw_1112 tw_59 tw_1110 tw_1111 ⟨by decide, by decide, by decide +kernel⟩ rfl (by decide) rfl (Nat.le_of_ble_eq_true rfl) dX12_behind_94 fun v3 h4 => ?_
    refine k_iload hq dX12_behind_97 4 rfl ?_
    refine k_iadd hq dX12_behind_99 ?_
    refine k_iald hq dX12_behind_100 fun v5 => ?_
    refine k_isub hq dX12_behind_101 ?_
    refine k_iadd hq dX12_behind_102 ?_
    refine k_let (mk := fun z => .int z :: []) fun v6 _ => ?_
    refine k_istore_n hq dX12_behind_103 rfl (by decide) (ls' := [(3, .int v6), (0, .ref l0), (1, .int l1), (2, .int l2), (4, .int l4), (5, .int l5), (6, .int l6)]) rfl ?_
    refine k_iinc hq dX12_behind_104 4 rfl (v := l4 + 1) rfl (by decide) (ls' := [(4, .int (l4 + 1)), (3, .int v6), (0, .ref l0), (1, .int l1), (2, .int l2), (5, .int l5), (6, .int l6)]) rfl ?_
    refine k_goto hq (tgt := 23) dX12_behind_107 (by decide) ?_
    exact k_sub [2, 3, 4, 1, 0] rfl (hk23 l0 l1 l2 v6 (l4 + 1) h4)
  · refine k_aload_n hq dX12_behind_47 0 rfl ?_
    refine k_gr hq (C := RX12) (T := TX12) 11 16 rfl (by decide) (lay_X12 16 (by decide)) tw_943 dX12_behind_48 fun v7 => ?_
    refine k_iload_n hq dX12_behind_51 2 rfl ?_
    refine k_iload hq dX12_behind_52 6 rfl ?_
    refine k_callS hq (na := 2) (As := [.int l2, .int l6]) (st := [.ref v7]) (con_X12_rowAt _ _ _ _ l2 l6) tw_1112 tw_59 tw_1110 tw_1111 ⟨by decide, by decide, by decide +kernel⟩ rfl (by decide) rfl (Nat.le_of_ble_eq_true rfl) dX12_behind_54 fun v8 h9 => ?_
    refine k_iload hq dX12_behind_57 4 rfl ?_
    refine k_iadd hq dX12_behind_59 ?_
    refine k_iald hq dX12_behind_60 fun v10 => ?_
    refine k_istore hq dX12_behind_61 (by decide) (ls' := [(7, .int v10), (0, .ref l0), (1, .int l1), (2, .int l2), (3, .int l3), (4, .int l4), (5, .int l5), (6, .int l6)]) rfl ?_
    refine k_iload hq dX12_behind_63 0 rfl ?_
    refine k_iload hq dX12_behind_65 6 rfl ?_
    refine k_icmp_le hq (tgt := 75) dX12_behind_67 (by decide) (fun _ => ?_) (fun _ => ?_)
    · refine k_iload hq dX12_behind_75 6 rfl ?_
      exact k_sub [1, 2, 3, 4, 5, 7] rfl (P_X12_behind_77 hq he N k23 k38 hk23 hk38 l0 l1 l2 l3 l4 l6 l5 h9)
    · refine k_iload hq dX12_behind_70 0 rfl ?_
      refine k_goto hq (tgt := 77) dX12_behind_72 (by decide) ?_
      exact k_sub [1, 2, 3, 4, 5, 7] rfl (P_X12_behind_77 hq he N k23 k38 hk23 hk38 l0 l1 l2 l3 l4 l6 v10 h9)
theorem Q_X12_behind_38 {q : eT} {r0 : Int32} {h0 : eH} (hq : e_B q yX12_behind.cls cX12_behind 8 2 46 (some .int) yX12_behind.name) (he : e_E q) (N : Nat) (k23 : Nat → Int32 → Int32 → Int32 → Int32 → eH → Option (Int32 × eH)) (hk23 : ∀ (l0 : Nat) (l1 : Int32) (l2 : Int32) (l3 : Int32) (l4 : Int32) h, e_K eI q r0 h0 23 [(0, .ref l0), (1, .int l1), (2, .int l2), (3, .int l3), (4, .int l4)] [] h (k23 l0 l1 l2 l3 l4 h)) (l0 : Nat) (l1 : Int32) (l2 : Int32) (l3 : Int32) (l4 : Int32) (l5 : Int32) (l6 : Int32) (h : eH) : e_K eI q r0 h0 38 [(0, .ref l0), (1, .int l1), (2, .int l2), (3, .int l3), (4, .int l4), (5, .int l5), (6, .int l6)] [] h (L_X12_behind_38 N k23 l0 l1 l2 l3 l4 l5 l6 h) :=
  k_loop (mk := (fun s => [(0, .ref s.1), (1, .int s.2.1), (2, .int s.2.2.1), (3, .int s.2.2.2.1), (4, .int s.2.2.2.2.1), (5, .int s.2.2.2.2.2.1), (6, .int s.2.2.2.2.2.2.1)])) (hp := fun s => s.2.2.2.2.2.2.2) (fun k hk s => P_X12_behind_38b hq he N k23 (fun l0 l1 l2 l3 l4 l5 l6 h => k (l0, l1, l2, l3, l4, l5, l6, h)) hk23 (fun l0 l1 l2 l3 l4 l5 l6 h => hk (l0, l1, l2, l3, l4, l5, l6, h)) s.1 s.2.1 s.2.2.1 s.2.2.2.1 s.2.2.2.2.1 s.2.2.2.2.2.1 s.2.2.2.2.2.2.1 s.2.2.2.2.2.2.2) N (l0, l1, l2, l3, l4, l5, l6, h)
set_option maxRecDepth 100000 in
set_option maxHeartbeats 4000000 in
theorem P_X12_behind_23b {q : eT} {r0 : Int32} {h0 : eH} (hq : e_B q yX12_behind.cls cX12_behind 8 2 46 (some .int) yX12_behind.name) (he : e_E q) (N : Nat) (k23 : Nat → Int32 → Int32 → Int32 → Int32 → eH → Option (Int32 × eH)) (hk23 : ∀ (l0 : Nat) (l1 : Int32) (l2 : Int32) (l3 : Int32) (l4 : Int32) h, e_K eI q r0 h0 23 [(0, .ref l0), (1, .int l1), (2, .int l2), (3, .int l3), (4, .int l4)] [] h (k23 l0 l1 l2 l3 l4 h)) (l0 : Nat) (l1 : Int32) (l2 : Int32) (l3 : Int32) (l4 : Int32) (h : eH) : e_K eI q r0 h0 23 [(0, .ref l0), (1, .int l1), (2, .int l2), (3, .int l3), (4, .int l4)] [] h (F_X12_behind_23b N k23 l0 l1 l2 l3 l4 h) := by
  unfold F_X12_behind_23b
  refine k_iload hq dX12_behind_23 4 rfl ?_
  refine k_aload_n hq dX12_behind_25 0 rfl ?_
  refine k_gi hq (C := RX12) (T := TX12) 11 0 rfl (by decide) (lay_X12 0 (by decide)) tw_927 dX12_behind_26 fun v1 => ?_
  refine k_icmp_ge hq (tgt := 110) dX12_behind_29 (by decide) (fun _ => ?_) (fun _ => ?_)
  · refine k_iload_n hq dX12_behind_110 3 rfl ?_
    exact k_iret hq dX12_behind_111 he
  · refine k_iconst hq dX12_behind_32 (v := 0) rfl ?_
    refine k_istore hq dX12_behind_33 (by decide) (ls' := [(5, .int 0), (0, .ref l0), (1, .int l1), (2, .int l2), (3, .int l3), (4, .int l4)]) rfl ?_
    refine k_iconst hq dX12_behind_35 (v := 0) rfl ?_
    refine k_istore hq dX12_behind_36 (by decide) (ls' := [(6, .int 0), (5, .int 0), (0, .ref l0), (1, .int l1), (2, .int l2), (3, .int l3), (4, .int l4)]) rfl ?_
    exact k_sub [2, 3, 4, 5, 6, 1, 0] rfl (Q_X12_behind_38 hq he N k23 hk23 l0 l1 l2 l3 l4 0 0 h)
theorem Q_X12_behind_23 {q : eT} {r0 : Int32} {h0 : eH} (hq : e_B q yX12_behind.cls cX12_behind 8 2 46 (some .int) yX12_behind.name) (he : e_E q) (N : Nat) (l0 : Nat) (l1 : Int32) (l2 : Int32) (l3 : Int32) (l4 : Int32) (h : eH) : e_K eI q r0 h0 23 [(0, .ref l0), (1, .int l1), (2, .int l2), (3, .int l3), (4, .int l4)] [] h (L_X12_behind_23 N l0 l1 l2 l3 l4 h) :=
  k_loop (mk := (fun s => [(0, .ref s.1), (1, .int s.2.1), (2, .int s.2.2.1), (3, .int s.2.2.2.1), (4, .int s.2.2.2.2.1)])) (hp := fun s => s.2.2.2.2.2) (fun k hk s => P_X12_behind_23b hq he N (fun l0 l1 l2 l3 l4 h => k (l0, l1, l2, l3, l4, h)) (fun l0 l1 l2 l3 l4 h => hk (l0, l1, l2, l3, l4, h)) s.1 s.2.1 s.2.2.1 s.2.2.2.1 s.2.2.2.2.1 s.2.2.2.2.2) N (l0, l1, l2, l3, l4, h)
set_option maxRecDepth 100000 in
set_option maxHeartbeats 4000000 in
theorem P_X12_behind_0 {q : eT} {r0 : Int32} {h0 : eH} (hq : e_B q yX12_behind.cls cX12_behind 8 2 46 (some .int) yX12_behind.name) (he : e_E q) (N : Nat) (l0 : Nat) (l1 : Int32) (l2 : Int32) (h : eH) : e_K eI q r0 h0 0 [(0, .ref l0), (1, .int l1), (2, .int l2)] [] h (F_X12_behind N l0 l1 l2 h) := by
  unfold F_X12_behind
  refine k_aload_n hq dX12_behind_0 0 rfl ?_
  refine k_iload_n hq dX12_behind_1 1 rfl ?_
  refine k_callV hq (na := 1) (As := [.int l1]) (st := []) 11 (C := RX12) (T := TX12) rfl (con_X12_isSite _ _ _ _ l0 l1) tw_1105 tw_59 tw_1102 tw_1104 tw_28 ⟨by decide, by decide, by decide +kernel⟩ rfl (by decide) rfl (Nat.le_of_ble_eq_true rfl) dX12_behind_2 fun v1 h2 => ?_
  refine k_if_eq hq (tgt := 16) dX12_behind_5 (by decide) (fun _ => ?_) (fun _ => ?_)
  · refine k_iconst hq dX12_behind_16 (v := (-1)) rfl ?_
    exact k_iret hq dX12_behind_17 he
  · refine k_aload_n hq dX12_behind_8 0 rfl ?_
    refine k_iload_n hq dX12_behind_9 2 rfl ?_
    refine k_callV hq (na := 1) (As := [.int l2]) (st := []) 11 (C := RX12) (T := TX12) rfl (con_X12_isKey _ _ _ _ l0 l2) tw_1109 tw_59 tw_1106 tw_1108 tw_29 ⟨by decide, by decide, by decide +kernel⟩ rfl (by decide) rfl (Nat.le_of_ble_eq_true rfl) dX12_behind_10 fun v3 h4 => ?_
    refine k_if_ne hq (tgt := 18) dX12_behind_13 (by decide) (fun _ => ?_) (fun _ => ?_)
    · refine k_iconst hq dX12_behind_16 (v := (-1)) rfl ?_
      exact k_iret hq dX12_behind_17 he
    · refine k_iconst hq dX12_behind_18 (v := 0) rfl ?_
      refine k_istore_n hq dX12_behind_19 rfl (by decide) (ls' := [(3, .int 0), (0, .ref l0), (1, .int l1), (2, .int l2)]) rfl ?_
      refine k_iconst hq dX12_behind_20 (v := 0) rfl ?_
      refine k_istore hq dX12_behind_21 (by decide) (ls' := [(4, .int 0), (3, .int 0), (0, .ref l0), (1, .int l1), (2, .int l2)]) rfl ?_
      exact k_sub [2, 3, 4, 1, 0] rfl (Q_X12_behind_23 hq he N l0 l1 l2 0 0 h4)
theorem con_X12_behind (l : Launch) (G : eG) (B0 n : Nat) (N : Nat) (l0 : Nat) (l1 : Int32) (l2 : Int32) : e_C eI l G B0 n yX12_behind cX12_behind 8 (some .int) 2 46 [.ref l0, .int l1, .int l2] (F_X12_behind N l0 l1 l2) := by
  refine e_mk (by decide) (Nat.le_of_ble_eq_true rfl) fun q r0 h0 h hq he e1 e2 e3 e4 => ?_
  subst e1; subst e2; subst e3; subst e4
  exact P_X12_behind_0 hq he N l0 l1 l2 h
set_option maxRecDepth 100000 in
set_option maxHeartbeats 4000000 in
theorem P_X12_joinsSet_178 {q : eT} {r0 : Unit} {h0 : eH} (hq : e_B q yX12_joinsSet.cls cX12_joinsSet 13 1 22 none yX12_joinsSet.name) (he : e_E q) (N : Nat) (k12 : Nat → Int32 → Int32 → Int32 → Int32 → Int32 → eH → Option (Unit × eH)) (k65 : Nat → Int32 → Int32 → Int32 → Int32 → Int32 → Int32 → Int32 → Int64 → Int32 → eH → Option (Unit × eH)) (hk12 : ∀ (l0 : Nat) (l1 : Int32) (l2 : Int32) (l3 : Int32) (l4 : Int32) (l5 : Int32) h, e_K eV q r0 h0 12 [(0, .ref l0), (1, .int l1), (2, .int l2), (3, .int l3), (4, .int l4), (5, .int l5)] [] h (k12 l0 l1 l2 l3 l4 l5 h)) (hk65 : ∀ (l0 : Nat) (l1 : Int32) (l2 : Int32) (l3 : Int32) (l4 : Int32) (l5 : Int32) (l6 : Int32) (l7 : Int32) (l8 : Int64) (l10 : Int32) h, e_K eV q r0 h0 65 [(0, .ref l0), (1, .int l1), (2, .int l2), (3, .int l3), (4, .int l4), (5, .int l5), (6, .int l6), (7, .int l7), (8, .long l8), (10, .int l10)] [] h (k65 l0 l1 l2 l3 l4 l5 l6 l7 l8 l10 h)) (l0 : Nat) (l1 : Int32) (l2 : Int32) (l3 : Int32) (l4 : Int32) (l5 : Int32) (l6 : Int32) (l7 : Int32) (l10 : Int32) (s0 : Int64) (s1 : Int64) (h : eH) : e_K eV q r0 h0 178 [(0, .ref l0), (1, .int l1), (2, .int l2), (3, .int l3), (4, .int l4), (5, .int l5), (6, .int l6), (7, .int l7), (10, .int l10)] [.long s1, .long s0] h (F_X12_joinsSet_178 N k12 k65 l0 l1 l2 l3 l4 l5 l6 l7 l10 s0 s1 h) := by
  unfold F_X12_joinsSet_178
  refine k_lor hq dX12_joinsSet_178 ?_
  refine k_let (mk := fun z => .long z :: []) fun v1 _ => ?_
  refine k_lstore hq dX12_joinsSet_179 (by decide) (ls' := [(8, .long v1), (0, .ref l0), (1, .int l1), (2, .int l2), (3, .int l3), (4, .int l4), (5, .int l5), (6, .int l6), (7, .int l7), (10, .int l10)]) rfl ?_
  refine k_iinc hq dX12_joinsSet_181 9 rfl (v := l10 + 1) rfl (by decide) (ls' := [(10, .int (l10 + 1)), (8, .long v1), (0, .ref l0), (1, .int l1), (2, .int l2), (3, .int l3), (4, .int l4), (5, .int l5), (6, .int l6), (7, .int l7)]) rfl ?_
  refine k_goto hq (tgt := 65) dX12_joinsSet_184 (by decide) ?_
  exact k_sub [2, 3, 4, 5, 6, 7, 8, 9, 1, 0] rfl (hk65 l0 l1 l2 l3 l4 l5 l6 l7 v1 (l10 + 1) h)
set_option maxRecDepth 100000 in
set_option maxHeartbeats 4000000 in
theorem P_X12_joinsSet_170 {q : eT} {r0 : Unit} {h0 : eH} (hq : e_B q yX12_joinsSet.cls cX12_joinsSet 13 1 22 none yX12_joinsSet.name) (he : e_E q) (N : Nat) (k12 : Nat → Int32 → Int32 → Int32 → Int32 → Int32 → eH → Option (Unit × eH)) (k65 : Nat → Int32 → Int32 → Int32 → Int32 → Int32 → Int32 → Int32 → Int64 → Int32 → eH → Option (Unit × eH)) (hk12 : ∀ (l0 : Nat) (l1 : Int32) (l2 : Int32) (l3 : Int32) (l4 : Int32) (l5 : Int32) h, e_K eV q r0 h0 12 [(0, .ref l0), (1, .int l1), (2, .int l2), (3, .int l3), (4, .int l4), (5, .int l5)] [] h (k12 l0 l1 l2 l3 l4 l5 h)) (hk65 : ∀ (l0 : Nat) (l1 : Int32) (l2 : Int32) (l3 : Int32) (l4 : Int32) (l5 : Int32) (l6 : Int32) (l7 : Int32) (l8 : Int64) (l10 : Int32) h, e_K eV q r0 h0 65 [(0, .ref l0), (1, .int l1), (2, .int l2), (3, .int l3), (4, .int l4), (5, .int l5), (6, .int l6), (7, .int l7), (8, .long l8), (10, .int l10)] [] h (k65 l0 l1 l2 l3 l4 l5 l6 l7 l8 l10 h)) (l0 : Nat) (l1 : Int32) (l2 : Int32) (l3 : Int32) (l4 : Int32) (l5 : Int32) (l6 : Int32) (l7 : Int32) (l10 : Int32) (s0 : Int64) (h : eH) : e_K eV q r0 h0 170 [(0, .ref l0), (1, .int l1), (2, .int l2), (3, .int l3), (4, .int l4), (5, .int l5), (6, .int l6), (7, .int l7), (10, .int l10)] [.long s0] h (F_X12_joinsSet_170 N k12 k65 l0 l1 l2 l3 l4 l5 l6 l7 l10 s0 h) := by
  unfold F_X12_joinsSet_170
  refine k_lconst hq dX12_joinsSet_170 (v := 1) rfl ?_
  refine k_iload hq dX12_joinsSet_171 8 rfl ?_
  refine k_lshl hq dX12_joinsSet_173 ?_
  refine k_goto hq (tgt := 178) dX12_joinsSet_174 (by decide) ?_
  exact k_sub [0, 1, 2, 3, 4, 5, 6, 7, 8] rfl (P_X12_joinsSet_178 hq he N k12 k65 hk12 hk65 l0 l1 l2 l3 l4 l5 l6 l7 l10 s0 ((1 : Int64) <<< (l10.toInt64 &&& 63)) h)
set_option maxRecDepth 100000 in
set_option maxHeartbeats 4000000 in
theorem P_X12_joinsSet_177 {q : eT} {r0 : Unit} {h0 : eH} (hq : e_B q yX12_joinsSet.cls cX12_joinsSet 13 1 22 none yX12_joinsSet.name) (he : e_E q) (N : Nat) (k12 : Nat → Int32 → Int32 → Int32 → Int32 → Int32 → eH → Option (Unit × eH)) (k65 : Nat → Int32 → Int32 → Int32 → Int32 → Int32 → Int32 → Int32 → Int64 → Int32 → eH → Option (Unit × eH)) (hk12 : ∀ (l0 : Nat) (l1 : Int32) (l2 : Int32) (l3 : Int32) (l4 : Int32) (l5 : Int32) h, e_K eV q r0 h0 12 [(0, .ref l0), (1, .int l1), (2, .int l2), (3, .int l3), (4, .int l4), (5, .int l5)] [] h (k12 l0 l1 l2 l3 l4 l5 h)) (hk65 : ∀ (l0 : Nat) (l1 : Int32) (l2 : Int32) (l3 : Int32) (l4 : Int32) (l5 : Int32) (l6 : Int32) (l7 : Int32) (l8 : Int64) (l10 : Int32) h, e_K eV q r0 h0 65 [(0, .ref l0), (1, .int l1), (2, .int l2), (3, .int l3), (4, .int l4), (5, .int l5), (6, .int l6), (7, .int l7), (8, .long l8), (10, .int l10)] [] h (k65 l0 l1 l2 l3 l4 l5 l6 l7 l8 l10 h)) (l0 : Nat) (l1 : Int32) (l2 : Int32) (l3 : Int32) (l4 : Int32) (l5 : Int32) (l6 : Int32) (l7 : Int32) (l10 : Int32) (s0 : Int64) (h : eH) : e_K eV q r0 h0 177 [(0, .ref l0), (1, .int l1), (2, .int l2), (3, .int l3), (4, .int l4), (5, .int l5), (6, .int l6), (7, .int l7), (10, .int l10)] [.long s0] h (F_X12_joinsSet_177 N k12 k65 l0 l1 l2 l3 l4 l5 l6 l7 l10 s0 h) := by
  unfold F_X12_joinsSet_177
  refine k_lconst hq dX12_joinsSet_177 (v := 0) rfl ?_
  exact k_sub [0, 1, 2, 3, 4, 5, 6, 7, 8] rfl (P_X12_joinsSet_178 hq he N k12 k65 hk12 hk65 l0 l1 l2 l3 l4 l5 l6 l7 l10 s0 0 h)
set_option maxRecDepth 100000 in
set_option maxHeartbeats 4000000 in
theorem P_X12_joinsSet_158 {q : eT} {r0 : Unit} {h0 : eH} (hq : e_B q yX12_joinsSet.cls cX12_joinsSet 13 1 22 none yX12_joinsSet.name) (he : e_E q) (N : Nat) (k12 : Nat → Int32 → Int32 → Int32 → Int32 → Int32 → eH → Option (Unit × eH)) (k65 : Nat → Int32 → Int32 → Int32 → Int32 → Int32 → Int32 → Int32 → Int64 → Int32 → eH → Option (Unit × eH)) (hk12 : ∀ (l0 : Nat) (l1 : Int32) (l2 : Int32) (l3 : Int32) (l4 : Int32) (l5 : Int32) h, e_K eV q r0 h0 12 [(0, .ref l0), (1, .int l1), (2, .int l2), (3, .int l3), (4, .int l4), (5, .int l5)] [] h (k12 l0 l1 l2 l3 l4 l5 h)) (hk65 : ∀ (l0 : Nat) (l1 : Int32) (l2 : Int32) (l3 : Int32) (l4 : Int32) (l5 : Int32) (l6 : Int32) (l7 : Int32) (l8 : Int64) (l10 : Int32) h, e_K eV q r0 h0 65 [(0, .ref l0), (1, .int l1), (2, .int l2), (3, .int l3), (4, .int l4), (5, .int l5), (6, .int l6), (7, .int l7), (8, .long l8), (10, .int l10)] [] h (k65 l0 l1 l2 l3 l4 l5 l6 l7 l8 l10 h)) (l0 : Nat) (l1 : Int32) (l2 : Int32) (l3 : Int32) (l4 : Int32) (l5 : Int32) (l6 : Int32) (l7 : Int32) (l10 : Int32) (l12 : Int32) (s0 : Int64) (h : eH) : e_K eV q r0 h0 158 [(0, .ref l0), (1, .int l1), (2, .int l2), (3, .int l3), (4, .int l4), (5, .int l5), (6, .int l6), (7, .int l7), (10, .int l10), (12, .int l12)] [.long s0] h (F_X12_joinsSet_158 N k12 k65 l0 l1 l2 l3 l4 l5 l6 l7 l10 l12 s0 h) := by
  unfold F_X12_joinsSet_158
  refine k_iload hq dX12_joinsSet_158 9 rfl ?_
  refine k_if_eq hq (tgt := 177) dX12_joinsSet_160 (by decide) (fun _ => ?_) (fun _ => ?_)
  · exact k_sub [0, 1, 2, 3, 4, 5, 6, 7, 8] rfl (P_X12_joinsSet_177 hq he N k12 k65 hk12 hk65 l0 l1 l2 l3 l4 l5 l6 l7 l10 s0 h)
  · refine k_iload hq dX12_joinsSet_163 6 rfl ?_
    refine k_iload hq dX12_joinsSet_165 8 rfl ?_
    refine k_icmp_ge hq (tgt := 177) dX12_joinsSet_167 (by decide) (fun _ => ?_) (fun _ => ?_)
    · exact k_sub [0, 1, 2, 3, 4, 5, 6, 7, 8] rfl (P_X12_joinsSet_177 hq he N k12 k65 hk12 hk65 l0 l1 l2 l3 l4 l5 l6 l7 l10 s0 h)
    · exact k_sub [0, 1, 2, 3, 4, 5, 6, 7, 8] rfl (P_X12_joinsSet_170 hq he N k12 k65 hk12 hk65 l0 l1 l2 l3 l4 l5 l6 l7 l10 s0 h)
set_option maxRecDepth 100000 in
set_option maxHeartbeats 4000000 in
theorem P_X12_joinsSet_146 {q : eT} {r0 : Unit} {h0 : eH} (hq : e_B q yX12_joinsSet.cls cX12_joinsSet 13 1 22 none yX12_joinsSet.name) (he : e_E q) (N : Nat) (k12 : Nat → Int32 → Int32 → Int32 → Int32 → Int32 → eH → Option (Unit × eH)) (k65 : Nat → Int32 → Int32 → Int32 → Int32 → Int32 → Int32 → Int32 → Int64 → Int32 → eH → Option (Unit × eH)) (hk12 : ∀ (l0 : Nat) (l1 : Int32) (l2 : Int32) (l3 : Int32) (l4 : Int32) (l5 : Int32) h, e_K eV q r0 h0 12 [(0, .ref l0), (1, .int l1), (2, .int l2), (3, .int l3), (4, .int l4), (5, .int l5)] [] h (k12 l0 l1 l2 l3 l4 l5 h)) (hk65 : ∀ (l0 : Nat) (l1 : Int32) (l2 : Int32) (l3 : Int32) (l4 : Int32) (l5 : Int32) (l6 : Int32) (l7 : Int32) (l8 : Int64) (l10 : Int32) h, e_K eV q r0 h0 65 [(0, .ref l0), (1, .int l1), (2, .int l2), (3, .int l3), (4, .int l4), (5, .int l5), (6, .int l6), (7, .int l7), (8, .long l8), (10, .int l10)] [] h (k65 l0 l1 l2 l3 l4 l5 l6 l7 l8 l10 h)) (l0 : Nat) (l1 : Int32) (l2 : Int32) (l3 : Int32) (l4 : Int32) (l5 : Int32) (l6 : Int32) (l7 : Int32) (l10 : Int32) (l11 : Int32) (l12 : Int32) (s0 : Int64) (h : eH) : e_K eV q r0 h0 146 [(0, .ref l0), (1, .int l1), (2, .int l2), (3, .int l3), (4, .int l4), (5, .int l5), (6, .int l6), (7, .int l7), (10, .int l10), (11, .int l11), (12, .int l12)] [.long s0] h (F_X12_joinsSet_146 N k12 k65 l0 l1 l2 l3 l4 l5 l6 l7 l10 l11 l12 s0 h) := by
  unfold F_X12_joinsSet_146
  refine k_iload hq dX12_joinsSet_146 9 rfl ?_
  refine k_if_eq hq (tgt := 158) dX12_joinsSet_148 (by decide) (fun _ => ?_) (fun _ => ?_)
  · exact k_sub [0, 1, 2, 3, 4, 5, 6, 7, 8, 10] rfl (P_X12_joinsSet_158 hq he N k12 k65 hk12 hk65 l0 l1 l2 l3 l4 l5 l6 l7 l10 l12 s0 h)
  · refine k_iload hq dX12_joinsSet_151 7 rfl ?_
    refine k_iload hq dX12_joinsSet_153 8 rfl ?_
    refine k_icmp_lt hq (tgt := 170) dX12_joinsSet_155 (by decide) (fun _ => ?_) (fun _ => ?_)
    · exact k_sub [0, 1, 2, 3, 4, 5, 6, 7, 8] rfl (P_X12_joinsSet_170 hq he N k12 k65 hk12 hk65 l0 l1 l2 l3 l4 l5 l6 l7 l10 s0 h)
    · exact k_sub [0, 1, 2, 3, 4, 5, 6, 7, 8, 10] rfl (P_X12_joinsSet_158 hq he N k12 k65 hk12 hk65 l0 l1 l2 l3 l4 l5 l6 l7 l10 l12 s0 h)
set_option maxRecDepth 100000 in
set_option maxHeartbeats 4000000 in
theorem P_X12_joinsSet_132 {q : eT} {r0 : Unit} {h0 : eH} (hq : e_B q yX12_joinsSet.cls cX12_joinsSet 13 1 22 none yX12_joinsSet.name) (he : e_E q) (N : Nat) (k12 : Nat → Int32 → Int32 → Int32 → Int32 → Int32 → eH → Option (Unit × eH)) (k65 : Nat → Int32 → Int32 → Int32 → Int32 → Int32 → Int32 → Int32 → Int64 → Int32 → eH → Option (Unit × eH)) (hk12 : ∀ (l0 : Nat) (l1 : Int32) (l2 : Int32) (l3 : Int32) (l4 : Int32) (l5 : Int32) h, e_K eV q r0 h0 12 [(0, .ref l0), (1, .int l1), (2, .int l2), (3, .int l3), (4, .int l4), (5, .int l5)] [] h (k12 l0 l1 l2 l3 l4 l5 h)) (hk65 : ∀ (l0 : Nat) (l1 : Int32) (l2 : Int32) (l3 : Int32) (l4 : Int32) (l5 : Int32) (l6 : Int32) (l7 : Int32) (l8 : Int64) (l10 : Int32) h, e_K eV q r0 h0 65 [(0, .ref l0), (1, .int l1), (2, .int l2), (3, .int l3), (4, .int l4), (5, .int l5), (6, .int l6), (7, .int l7), (8, .long l8), (10, .int l10)] [] h (k65 l0 l1 l2 l3 l4 l5 l6 l7 l8 l10 h)) (l0 : Nat) (l1 : Int32) (l2 : Int32) (l3 : Int32) (l4 : Int32) (l5 : Int32) (l6 : Int32) (l7 : Int32) (l8 : Int64) (l10 : Int32) (l11 : Int32) (s0 : Int32) (h : eH) : e_K eV q r0 h0 132 [(0, .ref l0), (1, .int l1), (2, .int l2), (3, .int l3), (4, .int l4), (5, .int l5), (6, .int l6), (7, .int l7), (8, .long l8), (10, .int l10), (11, .int l11)] [.int s0] h (F_X12_joinsSet_132 N k12 k65 l0 l1 l2 l3 l4 l5 l6 l7 l8 l10 l11 s0 h) := by
  unfold F_X12_joinsSet_132
  refine k_istore hq dX12_joinsSet_132 (by decide) (ls' := [(12, .int s0), (0, .ref l0), (1, .int l1), (2, .int l2), (3, .int l3), (4, .int l4), (5, .int l5), (6, .int l6), (7, .int l7), (8, .long l8), (10, .int l10), (11, .int l11)]) rfl ?_
  refine k_lload hq dX12_joinsSet_134 9 rfl ?_
  refine k_iload hq dX12_joinsSet_136 11 rfl ?_
  refine k_if_eq hq (tgt := 146) dX12_joinsSet_138 (by decide) (fun _ => ?_) (fun _ => ?_)
  · exact k_sub [1, 2, 3, 4, 5, 6, 7, 8, 10, 11, 0] rfl (P_X12_joinsSet_146 hq he N k12 k65 hk12 hk65 l0 l1 l2 l3 l4 l5 l6 l7 l10 l11 s0 l8 h)
  · refine k_iload hq dX12_joinsSet_141 0 rfl ?_
    refine k_if_ne hq (tgt := 170) dX12_joinsSet_143 (by decide) (fun _ => ?_) (fun _ => ?_)
    · exact k_sub [1, 2, 3, 4, 5, 6, 7, 8, 10, 11, 0] rfl (P_X12_joinsSet_146 hq he N k12 k65 hk12 hk65 l0 l1 l2 l3 l4 l5 l6 l7 l10 l11 s0 l8 h)
    · exact k_sub [1, 2, 3, 4, 5, 6, 7, 8, 10] rfl (P_X12_joinsSet_170 hq he N k12 k65 hk12 hk65 l0 l1 l2 l3 l4 l5 l6 l7 l10 l8 h)
set_option maxRecDepth 100000 in
set_option maxHeartbeats 4000000 in
theorem P_X12_joinsSet_131 {q : eT} {r0 : Unit} {h0 : eH} (hq : e_B q yX12_joinsSet.cls cX12_joinsSet 13 1 22 none yX12_joinsSet.name) (he : e_E q) (N : Nat) (k12 : Nat → Int32 → Int32 → Int32 → Int32 → Int32 → eH → Option (Unit × eH)) (k65 : Nat → Int32 → Int32 → Int32 → Int32 → Int32 → Int32 → Int32 → Int64 → Int32 → eH → Option (Unit × eH)) (hk12 : ∀ (l0 : Nat) (l1 : Int32) (l2 : Int32) (l3 : Int32) (l4 : Int32) (l5 : Int32) h, e_K eV q r0 h0 12 [(0, .ref l0), (1, .int l1), (2, .int l2), (3, .int l3), (4, .int l4), (5, .int l5)] [] h (k12 l0 l1 l2 l3 l4 l5 h)) (hk65 : ∀ (l0 : Nat) (l1 : Int32) (l2 : Int32) (l3 : Int32) (l4 : Int32) (l5 : Int32) (l6 : Int32) (l7 : Int32) (l8 : Int64) (l10 : Int32) h, e_K eV q r0 h0 65 [(0, .ref l0), (1, .int l1), (2, .int l2), (3, .int l3), (4, .int l4), (5, .int l5), (6, .int l6), (7, .int l7), (8, .long l8), (10, .int l10)] [] h (k65 l0 l1 l2 l3 l4 l5 l6 l7 l8 l10 h)) (l0 : Nat) (l1 : Int32) (l2 : Int32) (l3 : Int32) (l4 : Int32) (l5 : Int32) (l6 : Int32) (l7 : Int32) (l8 : Int64) (l10 : Int32) (l11 : Int32) (h : eH) : e_K eV q r0 h0 131 [(0, .ref l0), (1, .int l1), (2, .int l2), (3, .int l3), (4, .int l4), (5, .int l5), (6, .int l6), (7, .int l7), (8, .long l8), (10, .int l10), (11, .int l11)] [] h (F_X12_joinsSet_131 N k12 k65 l0 l1 l2 l3 l4 l5 l6 l7 l8 l10 l11 h) := by
  unfold F_X12_joinsSet_131
  refine k_iconst hq dX12_joinsSet_131 (v := 0) rfl ?_
  exact k_sub [0, 1, 2, 3, 4, 5, 6, 7, 8, 9, 10] rfl (P_X12_joinsSet_132 hq he N k12 k65 hk12 hk65 l0 l1 l2 l3 l4 l5 l6 l7 l8 l10 l11 0 h)
set_option maxRecDepth 100000 in
set_option maxHeartbeats 4000000 in
theorem P_X12_joinsSet_224 {q : eT} {r0 : Unit} {h0 : eH} (hq : e_B q yX12_joinsSet.cls cX12_joinsSet 13 1 22 none yX12_joinsSet.name) (he : e_E q) (N : Nat) (k12 : Nat → Int32 → Int32 → Int32 → Int32 → Int32 → eH → Option (Unit × eH)) (hk12 : ∀ (l0 : Nat) (l1 : Int32) (l2 : Int32) (l3 : Int32) (l4 : Int32) (l5 : Int32) h, e_K eV q r0 h0 12 [(0, .ref l0), (1, .int l1), (2, .int l2), (3, .int l3), (4, .int l4), (5, .int l5)] [] h (k12 l0 l1 l2 l3 l4 l5 h)) (l0 : Nat) (l1 : Int32) (l2 : Int32) (l3 : Int32) (l4 : Int32) (l5 : Int32) (s0 : Nat) (s1 : Int32) (s2 : Int32) (h : eH) : e_K eV q r0 h0 224 [(0, .ref l0), (1, .int l1), (2, .int l2), (3, .int l3), (4, .int l4), (5, .int l5)] [.int s2, .int s1, .ref s0] h (F_X12_joinsSet_224 N k12 l0 l1 l2 l3 l4 l5 s0 s1 s2 h) := by
  unfold F_X12_joinsSet_224
  refine k_iast hq dX12_joinsSet_224 fun h1 => ?_
  refine k_iinc hq dX12_joinsSet_225 5 rfl (v := l5 + 1) rfl (by decide) (ls' := [(5, .int (l5 + 1)), (0, .ref l0), (1, .int l1), (2, .int l2), (3, .int l3), (4, .int l4)]) rfl ?_
  refine k_goto hq (tgt := 12) dX12_joinsSet_228 (by decide) ?_
  exact k_sub [1, 2, 3, 4, 5, 0] rfl (hk12 l0 l1 l2 l3 l4 (l5 + 1) h1)
set_option maxRecDepth 100000 in
set_option maxHeartbeats 4000000 in
theorem P_X12_joinsSet_65b {q : eT} {r0 : Unit} {h0 : eH} (hq : e_B q yX12_joinsSet.cls cX12_joinsSet 13 1 22 none yX12_joinsSet.name) (he : e_E q) (N : Nat) (k12 : Nat → Int32 → Int32 → Int32 → Int32 → Int32 → eH → Option (Unit × eH)) (k65 : Nat → Int32 → Int32 → Int32 → Int32 → Int32 → Int32 → Int32 → Int64 → Int32 → eH → Option (Unit × eH)) (hk12 : ∀ (l0 : Nat) (l1 : Int32) (l2 : Int32) (l3 : Int32) (l4 : Int32) (l5 : Int32) h, e_K eV q r0 h0 12 [(0, .ref l0), (1, .int l1), (2, .int l2), (3, .int l3), (4, .int l4), (5, .int l5)] [] h (k12 l0 l1 l2 l3 l4 l5 h)) (hk65 : ∀ (l0 : Nat) (l1 : Int32) (l2 : Int32) (l3 : Int32) (l4 : Int32) (l5 : Int32) (l6 : Int32) (l7 : Int32) (l8 : Int64) (l10 : Int32) h, e_K eV q r0 h0 65 [(0, .ref l0), (1, .int l1), (2, .int l2), (3, .int l3), (4, .int l4), (5, .int l5), (6, .int l6), (7, .int l7), (8, .long l8), (10, .int l10)] [] h (k65 l0 l1 l2 l3 l4 l5 l6 l7 l8 l10 h)) (l0 : Nat) (l1 : Int32) (l2 : Int32) (l3 : Int32) (l4 : Int32) (l5 : Int32) (l6 : Int32) (l7 : Int32) (l8 : Int64) (l10 : Int32) (h : eH) : e_K eV q r0 h0 65 [(0, .ref l0), (1, .int l1), (2, .int l2), (3, .int l3), (4, .int l4), (5, .int l5), (6, .int l6), (7, .int l7), (8, .long l8), (10, .int l10)] [] h (F_X12_joinsSet_65b N k12 k65 l0 l1 l2 l3 l4 l5 l6 l7 l8 l10 h) := by
  unfold F_X12_joinsSet_65b
  refine k_iload hq dX12_joinsSet_65 9 rfl ?_
  refine k_aload_n hq dX12_joinsSet_67 0 rfl ?_
  refine k_gr hq (C := RX12) (T := TX12) 11 15 rfl (by decide) (lay_X12 15 (by decide)) tw_942 dX12_joinsSet_68 fun v1 => ?_
  refine k_iconst hq dX12_joinsSet_71 (v := 4) rfl ?_
  refine k_iload_n hq dX12_joinsSet_72 1 rfl ?_
  refine k_imul hq dX12_joinsSet_73 ?_
  refine k_iload hq dX12_joinsSet_74 5 rfl ?_
  refine k_iadd hq dX12_joinsSet_76 ?_
  refine k_iald hq dX12_joinsSet_77 fun v2 => ?_
  refine k_icmp_gt hq (tgt := 187) dX12_joinsSet_78 (by decide) (fun _ => ?_) (fun _ => ?_)
  · refine k_aload_n hq dX12_joinsSet_187 0 rfl ?_
    refine k_gr hq (C := RX12) (T := TX12) 11 37 rfl (by decide) (lay_X12 37 (by decide)) tw_964 dX12_joinsSet_188 fun v3 => ?_
    refine k_iconst hq dX12_joinsSet_191 (v := 4) rfl ?_
    refine k_iload_n hq dX12_joinsSet_192 2 rfl ?_
    refine k_imul hq dX12_joinsSet_193 ?_
    refine k_iload hq dX12_joinsSet_194 5 rfl ?_
    refine k_iadd hq dX12_joinsSet_196 ?_
    refine k_lload hq dX12_joinsSet_197 8 rfl ?_
    refine k_last hq dX12_joinsSet_199 fun h4 => ?_
    refine k_aload_n hq dX12_joinsSet_200 0 rfl ?_
    refine k_gr hq (C := RX12) (T := TX12) 11 36 rfl (by decide) (lay_X12 36 (by decide)) tw_963 dX12_joinsSet_201 fun v5 => ?_
    refine k_iconst hq dX12_joinsSet_204 (v := 4) rfl ?_
    refine k_iload_n hq dX12_joinsSet_205 2 rfl ?_
    refine k_imul hq dX12_joinsSet_206 ?_
    refine k_iload hq dX12_joinsSet_207 5 rfl ?_
    refine k_iadd hq dX12_joinsSet_209 ?_
    refine k_iload hq dX12_joinsSet_210 6 rfl ?_
    refine k_iload hq dX12_joinsSet_212 7 rfl ?_
    refine k_icmp_le hq (tgt := 222) dX12_joinsSet_214 (by decide) (fun _ => ?_) (fun _ => ?_)
    · refine k_iload hq dX12_joinsSet_222 7 rfl ?_
      exact k_sub [0, 1, 2, 3, 4, 5] rfl (P_X12_joinsSet_224 hq he N k12 hk12 l0 l1 l2 l3 l4 l5 v5 ((4 * l2) + l5) l7 h4)
    · refine k_iload hq dX12_joinsSet_217 6 rfl ?_
      refine k_goto hq (tgt := 224) dX12_joinsSet_219 (by decide) ?_
      exact k_sub [0, 1, 2, 3, 4, 5] rfl (P_X12_joinsSet_224 hq he N k12 hk12 l0 l1 l2 l3 l4 l5 v5 ((4 * l2) + l5) l6 h4)
  · refine k_aload_n hq dX12_joinsSet_81 0 rfl ?_
    refine k_gr hq (C := RX12) (T := TX12) 11 14 rfl (by decide) (lay_X12 14 (by decide)) tw_941 dX12_joinsSet_82 fun v6 => ?_
    refine k_iload_n hq dX12_joinsSet_85 1 rfl ?_
    refine k_iload hq dX12_joinsSet_86 5 rfl ?_
    refine k_iload hq dX12_joinsSet_88 9 rfl ?_
    refine k_callS hq (na := 3) (As := [.int l1, .int l5, .int l10]) (st := [.ref v6]) (con_X12_at _ _ _ _ l1 l5 l10) tw_1115 tw_59 tw_1113 tw_1114 ⟨by decide, by decide, by decide +kernel⟩ rfl (by decide) rfl (Nat.le_of_ble_eq_true rfl) dX12_joinsSet_90 fun v7 h8 => ?_
    refine k_iald hq dX12_joinsSet_93 fun v9 => ?_
    refine k_iload_n hq dX12_joinsSet_94 3 rfl ?_
    refine k_callS hq (na := 2) (As := [.int v9, .int l3]) (st := []) (con_X12_has _ _ _ _ v9 l3) tw_1118 tw_59 tw_1116 tw_1117 ⟨by decide, by decide, by decide +kernel⟩ rfl (by decide) rfl (Nat.le_of_ble_eq_true rfl) dX12_joinsSet_95 fun v10 h11 => ?_
    refine k_istore hq dX12_joinsSet_98 (by decide) (ls' := [(11, .int v10), (0, .ref l0), (1, .int l1), (2, .int l2), (3, .int l3), (4, .int l4), (5, .int l5), (6, .int l6), (7, .int l7), (8, .long l8), (10, .int l10)]) rfl ?_
    refine k_iload hq dX12_joinsSet_100 5 rfl ?_
    refine k_if_eq hq (tgt := 131) dX12_joinsSet_102 (by decide) (fun _ => ?_) (fun _ => ?_)
    · exact k_sub [1, 2, 3, 4, 5, 6, 7, 8, 9, 10, 0] rfl (P_X12_joinsSet_131 hq he N k12 k65 hk12 hk65 l0 l1 l2 l3 l4 l5 l6 l7 l8 l10 v10 h11)
    · refine k_aload_n hq dX12_joinsSet_105 1 rfl ?_
      refine k_gr hq (C := RX12) (T := TX12) 11 37 rfl (by decide) (lay_X12 37 (by decide)) tw_964 dX12_joinsSet_106 fun v12 => ?_
      refine k_iconst hq dX12_joinsSet_109 (v := 4) rfl ?_
      refine k_iload hq dX12_joinsSet_110 5 rfl ?_
      refine k_imul hq dX12_joinsSet_112 ?_
      refine k_iload hq dX12_joinsSet_113 6 rfl ?_
      refine k_iadd hq dX12_joinsSet_115 ?_
      refine k_lald hq dX12_joinsSet_116 fun v13 => ?_
      refine k_iload hq dX12_joinsSet_117 10 rfl ?_
      refine k_lshr hq dX12_joinsSet_119 ?_
      refine k_lconst hq dX12_joinsSet_120 (v := 1) rfl ?_
      refine k_land hq dX12_joinsSet_121 ?_
      refine k_lconst hq dX12_joinsSet_122 (v := 1) rfl ?_
      refine k_lcmp hq dX12_joinsSet_123 ?_
      refine k_if_ne hq (tgt := 131) dX12_joinsSet_124 (by decide) (fun _ => ?_) (fun _ => ?_)
      · refine k_iconst hq dX12_joinsSet_127 (v := 1) rfl ?_
        refine k_goto hq (tgt := 132) dX12_joinsSet_128 (by decide) ?_
        exact k_sub [1, 2, 3, 4, 5, 6, 7, 8, 9, 10, 0] rfl (P_X12_joinsSet_132 hq he N k12 k65 hk12 hk65 l0 l1 l2 l3 l4 l5 l6 l7 l8 l10 v10 1 h11)
      · exact k_sub [1, 2, 3, 4, 5, 6, 7, 8, 9, 10, 0] rfl (P_X12_joinsSet_131 hq he N k12 k65 hk12 hk65 l0 l1 l2 l3 l4 l5 l6 l7 l8 l10 v10 h11)
theorem Q_X12_joinsSet_65 {q : eT} {r0 : Unit} {h0 : eH} (hq : e_B q yX12_joinsSet.cls cX12_joinsSet 13 1 22 none yX12_joinsSet.name) (he : e_E q) (N : Nat) (k12 : Nat → Int32 → Int32 → Int32 → Int32 → Int32 → eH → Option (Unit × eH)) (hk12 : ∀ (l0 : Nat) (l1 : Int32) (l2 : Int32) (l3 : Int32) (l4 : Int32) (l5 : Int32) h, e_K eV q r0 h0 12 [(0, .ref l0), (1, .int l1), (2, .int l2), (3, .int l3), (4, .int l4), (5, .int l5)] [] h (k12 l0 l1 l2 l3 l4 l5 h)) (l0 : Nat) (l1 : Int32) (l2 : Int32) (l3 : Int32) (l4 : Int32) (l5 : Int32) (l6 : Int32) (l7 : Int32) (l8 : Int64) (l10 : Int32) (h : eH) : e_K eV q r0 h0 65 [(0, .ref l0), (1, .int l1), (2, .int l2), (3, .int l3), (4, .int l4), (5, .int l5), (6, .int l6), (7, .int l7), (8, .long l8), (10, .int l10)] [] h (L_X12_joinsSet_65 N k12 l0 l1 l2 l3 l4 l5 l6 l7 l8 l10 h) :=
  k_loop (mk := (fun s => [(0, .ref s.1), (1, .int s.2.1), (2, .int s.2.2.1), (3, .int s.2.2.2.1), (4, .int s.2.2.2.2.1), (5, .int s.2.2.2.2.2.1), (6, .int s.2.2.2.2.2.2.1), (7, .int s.2.2.2.2.2.2.2.1), (8, .long s.2.2.2.2.2.2.2.2.1), (10, .int s.2.2.2.2.2.2.2.2.2.1)])) (hp := fun s => s.2.2.2.2.2.2.2.2.2.2) (fun k hk s => P_X12_joinsSet_65b hq he N k12 (fun l0 l1 l2 l3 l4 l5 l6 l7 l8 l10 h => k (l0, l1, l2, l3, l4, l5, l6, l7, l8, l10, h)) hk12 (fun l0 l1 l2 l3 l4 l5 l6 l7 l8 l10 h => hk (l0, l1, l2, l3, l4, l5, l6, l7, l8, l10, h)) s.1 s.2.1 s.2.2.1 s.2.2.2.1 s.2.2.2.2.1 s.2.2.2.2.2.1 s.2.2.2.2.2.2.1 s.2.2.2.2.2.2.2.1 s.2.2.2.2.2.2.2.2.1 s.2.2.2.2.2.2.2.2.2.1 s.2.2.2.2.2.2.2.2.2.2) N (l0, l1, l2, l3, l4, l5, l6, l7, l8, l10, h)
set_option maxRecDepth 100000 in
set_option maxHeartbeats 4000000 in
theorem P_X12_joinsSet_57 {q : eT} {r0 : Unit} {h0 : eH} (hq : e_B q yX12_joinsSet.cls cX12_joinsSet 13 1 22 none yX12_joinsSet.name) (he : e_E q) (N : Nat) (k12 : Nat → Int32 → Int32 → Int32 → Int32 → Int32 → eH → Option (Unit × eH)) (hk12 : ∀ (l0 : Nat) (l1 : Int32) (l2 : Int32) (l3 : Int32) (l4 : Int32) (l5 : Int32) h, e_K eV q r0 h0 12 [(0, .ref l0), (1, .int l1), (2, .int l2), (3, .int l3), (4, .int l4), (5, .int l5)] [] h (k12 l0 l1 l2 l3 l4 l5 h)) (l0 : Nat) (l1 : Int32) (l2 : Int32) (l3 : Int32) (l4 : Int32) (l5 : Int32) (l6 : Int32) (s0 : Int32) (h : eH) : e_K eV q r0 h0 57 [(0, .ref l0), (1, .int l1), (2, .int l2), (3, .int l3), (4, .int l4), (5, .int l5), (6, .int l6)] [.int s0] h (F_X12_joinsSet_57 N k12 l0 l1 l2 l3 l4 l5 l6 s0 h) := by
  unfold F_X12_joinsSet_57
  refine k_istore hq dX12_joinsSet_57 (by decide) (ls' := [(7, .int s0), (0, .ref l0), (1, .int l1), (2, .int l2), (3, .int l3), (4, .int l4), (5, .int l5), (6, .int l6)]) rfl ?_
  refine k_lconst hq dX12_joinsSet_59 (v := 0) rfl ?_
  refine k_lstore hq dX12_joinsSet_60 (by decide) (ls' := [(8, .long 0), (7, .int s0), (0, .ref l0), (1, .int l1), (2, .int l2), (3, .int l3), (4, .int l4), (5, .int l5), (6, .int l6)]) rfl ?_
  refine k_iconst hq dX12_joinsSet_62 (v := 1) rfl ?_
  refine k_istore hq dX12_joinsSet_63 (by decide) (ls' := [(10, .int 1), (8, .long 0), (7, .int s0), (0, .ref l0), (1, .int l1), (2, .int l2), (3, .int l3), (4, .int l4), (5, .int l5), (6, .int l6)]) rfl ?_
  exact k_sub [3, 4, 5, 6, 7, 8, 9, 2, 1, 0] rfl (Q_X12_joinsSet_65 hq he N k12 hk12 l0 l1 l2 l3 l4 l5 l6 s0 0 1 h)
set_option maxRecDepth 100000 in
set_option maxHeartbeats 4000000 in
theorem P_X12_joinsSet_12b {q : eT} {r0 : Unit} {h0 : eH} (hq : e_B q yX12_joinsSet.cls cX12_joinsSet 13 1 22 none yX12_joinsSet.name) (he : e_E q) (N : Nat) (k12 : Nat → Int32 → Int32 → Int32 → Int32 → Int32 → eH → Option (Unit × eH)) (hk12 : ∀ (l0 : Nat) (l1 : Int32) (l2 : Int32) (l3 : Int32) (l4 : Int32) (l5 : Int32) h, e_K eV q r0 h0 12 [(0, .ref l0), (1, .int l1), (2, .int l2), (3, .int l3), (4, .int l4), (5, .int l5)] [] h (k12 l0 l1 l2 l3 l4 l5 h)) (l0 : Nat) (l1 : Int32) (l2 : Int32) (l3 : Int32) (l4 : Int32) (l5 : Int32) (h : eH) : e_K eV q r0 h0 12 [(0, .ref l0), (1, .int l1), (2, .int l2), (3, .int l3), (4, .int l4), (5, .int l5)] [] h (F_X12_joinsSet_12b N k12 l0 l1 l2 l3 l4 l5 h) := by
  unfold F_X12_joinsSet_12b
  refine k_iload hq dX12_joinsSet_12 5 rfl ?_
  refine k_aload_n hq dX12_joinsSet_14 0 rfl ?_
  refine k_gi hq (C := RX12) (T := TX12) 11 0 rfl (by decide) (lay_X12 0 (by decide)) tw_927 dX12_joinsSet_15 fun v1 => ?_
  refine k_icmp_ge hq (tgt := 231) dX12_joinsSet_18 (by decide) (fun _ => ?_) (fun _ => ?_)
  · exact k_vret hq dX12_joinsSet_231 he
  · refine k_aload_n hq dX12_joinsSet_21 0 rfl ?_
    refine k_gr hq (C := RX12) (T := TX12) 11 16 rfl (by decide) (lay_X12 16 (by decide)) tw_943 dX12_joinsSet_22 fun v2 => ?_
    refine k_iload_n hq dX12_joinsSet_25 1 rfl ?_
    refine k_iload_n hq dX12_joinsSet_26 3 rfl ?_
    refine k_callS hq (na := 2) (As := [.int l1, .int l3]) (st := [.ref v2]) (con_X12_rowAt _ _ _ _ l1 l3) tw_1112 tw_59 tw_1110 tw_1111 ⟨by decide, by decide, by decide +kernel⟩ rfl (by decide) rfl (Nat.le_of_ble_eq_true rfl) dX12_joinsSet_27 fun v3 h4 => ?_
    refine k_iload hq dX12_joinsSet_30 5 rfl ?_
    refine k_iadd hq dX12_joinsSet_32 ?_
    refine k_iald hq dX12_joinsSet_33 fun v5 => ?_
    refine k_istore hq dX12_joinsSet_34 (by decide) (ls' := [(6, .int v5), (0, .ref l0), (1, .int l1), (2, .int l2), (3, .int l3), (4, .int l4), (5, .int l5)]) rfl ?_
    refine k_iload hq dX12_joinsSet_36 5 rfl ?_
    refine k_if_ne hq (tgt := 45) dX12_joinsSet_38 (by decide) (fun _ => ?_) (fun _ => ?_)
    · refine k_iconst hq dX12_joinsSet_41 (v := 0) rfl ?_
      refine k_goto hq (tgt := 57) dX12_joinsSet_42 (by decide) ?_
      exact k_sub [1, 2, 3, 4, 5, 6, 0] rfl (P_X12_joinsSet_57 hq he N k12 hk12 l0 l1 l2 l3 l4 l5 v5 0 h4)
    · refine k_aload_n hq dX12_joinsSet_45 1 rfl ?_
      refine k_gr hq (C := RX12) (T := TX12) 11 36 rfl (by decide) (lay_X12 36 (by decide)) tw_963 dX12_joinsSet_46 fun v6 => ?_
      refine k_iconst hq dX12_joinsSet_49 (v := 4) rfl ?_
      refine k_iload hq dX12_joinsSet_50 5 rfl ?_
      refine k_imul hq dX12_joinsSet_52 ?_
      refine k_iload hq dX12_joinsSet_53 6 rfl ?_
      refine k_iadd hq dX12_joinsSet_55 ?_
      refine k_iald hq dX12_joinsSet_56 fun v7 => ?_
      exact k_sub [1, 2, 3, 4, 5, 6, 0] rfl (P_X12_joinsSet_57 hq he N k12 hk12 l0 l1 l2 l3 l4 l5 v5 v7 h4)
theorem Q_X12_joinsSet_12 {q : eT} {r0 : Unit} {h0 : eH} (hq : e_B q yX12_joinsSet.cls cX12_joinsSet 13 1 22 none yX12_joinsSet.name) (he : e_E q) (N : Nat) (l0 : Nat) (l1 : Int32) (l2 : Int32) (l3 : Int32) (l4 : Int32) (l5 : Int32) (h : eH) : e_K eV q r0 h0 12 [(0, .ref l0), (1, .int l1), (2, .int l2), (3, .int l3), (4, .int l4), (5, .int l5)] [] h (L_X12_joinsSet_12 N l0 l1 l2 l3 l4 l5 h) :=
  k_loop (mk := (fun s => [(0, .ref s.1), (1, .int s.2.1), (2, .int s.2.2.1), (3, .int s.2.2.2.1), (4, .int s.2.2.2.2.1), (5, .int s.2.2.2.2.2.1)])) (hp := fun s => s.2.2.2.2.2.2) (fun k hk s => P_X12_joinsSet_12b hq he N (fun l0 l1 l2 l3 l4 l5 h => k (l0, l1, l2, l3, l4, l5, h)) (fun l0 l1 l2 l3 l4 l5 h => hk (l0, l1, l2, l3, l4, l5, h)) s.1 s.2.1 s.2.2.1 s.2.2.2.1 s.2.2.2.2.1 s.2.2.2.2.2.1 s.2.2.2.2.2.2) N (l0, l1, l2, l3, l4, l5, h)
set_option maxRecDepth 100000 in
set_option maxHeartbeats 4000000 in
theorem P_X12_joinsSet_0 {q : eT} {r0 : Unit} {h0 : eH} (hq : e_B q yX12_joinsSet.cls cX12_joinsSet 13 1 22 none yX12_joinsSet.name) (he : e_E q) (N : Nat) (l0 : Nat) (l1 : Int32) (l2 : Int32) (l3 : Int32) (h : eH) : e_K eV q r0 h0 0 [(0, .ref l0), (1, .int l1), (2, .int l2), (3, .int l3)] [] h (F_X12_joinsSet N l0 l1 l2 l3 h) := by
  unfold F_X12_joinsSet
  refine k_iload_n hq dX12_joinsSet_0 2 rfl ?_
  refine k_iconst hq dX12_joinsSet_1 (v := 1) rfl ?_
  refine k_iload_n hq dX12_joinsSet_2 3 rfl ?_
  refine k_ishl hq dX12_joinsSet_3 ?_
  refine k_iconst hq dX12_joinsSet_4 (v := (-1)) rfl ?_
  refine k_ixor hq dX12_joinsSet_5 ?_
  refine k_iand hq dX12_joinsSet_6 ?_
  refine k_let (mk := fun z => .int z :: []) fun v1 _ => ?_
  refine k_istore hq dX12_joinsSet_7 (by decide) (ls' := [(4, .int v1), (0, .ref l0), (1, .int l1), (2, .int l2), (3, .int l3)]) rfl ?_
  refine k_iconst hq dX12_joinsSet_9 (v := 0) rfl ?_
  refine k_istore hq dX12_joinsSet_10 (by decide) (ls' := [(5, .int 0), (4, .int v1), (0, .ref l0), (1, .int l1), (2, .int l2), (3, .int l3)]) rfl ?_
  exact k_sub [2, 3, 4, 5, 1, 0] rfl (Q_X12_joinsSet_12 hq he N l0 l1 l2 l3 v1 0 h)
theorem con_X12_joinsSet (l : Launch) (G : eG) (B0 n : Nat) (N : Nat) (l0 : Nat) (l1 : Int32) (l2 : Int32) (l3 : Int32) : e_C eV l G B0 n yX12_joinsSet cX12_joinsSet 13 none 1 22 [.ref l0, .int l1, .int l2, .int l3] (F_X12_joinsSet N l0 l1 l2 l3) := by
  refine e_mk (by decide) (Nat.le_of_ble_eq_true rfl) fun q r0 h0 h hq he e1 e2 e3 e4 => ?_
  subst e1; subst e2; subst e3; subst e4
  exact P_X12_joinsSet_0 hq he N l0 l1 l2 l3 h
set_option maxRecDepth 100000 in
set_option maxHeartbeats 4000000 in
theorem P_X12_areLike_74 {q : eT} {r0 : Int32} {h0 : eH} (hq : e_B q yX12_areLike.cls cX12_areLike 5 0 0 (some .boolean) yX12_areLike.name) (he : e_E q) (N : Nat) (k5 : Nat → Int32 → Int32 → Int32 → Int32 → eH → Option (Int32 × eH)) (hk5 : ∀ (l0 : Nat) (l1 : Int32) (l2 : Int32) (l3 : Int32) (l4 : Int32) h, e_K eI q r0 h0 5 [(0, .ref l0), (1, .int l1), (2, .int l2), (3, .int l3), (4, .int l4)] [] h (k5 l0 l1 l2 l3 l4 h)) (l0 : Nat) (l1 : Int32) (l2 : Int32) (l4 : Int32) (s0 : Int32) (h : eH) : e_K eI q r0 h0 74 [(0, .ref l0), (1, .int l1), (2, .int l2), (4, .int l4)] [.int s0] h (F_X12_areLike_74 N k5 l0 l1 l2 l4 s0 h) := by
  unfold F_X12_areLike_74
  refine k_istore_n hq dX12_areLike_74 rfl (by decide) (ls' := [(3, .int s0), (0, .ref l0), (1, .int l1), (2, .int l2), (4, .int l4)]) rfl ?_
  refine k_iinc hq dX12_areLike_75 4 rfl (v := l4 + 1) rfl (by decide) (ls' := [(4, .int (l4 + 1)), (3, .int s0), (0, .ref l0), (1, .int l1), (2, .int l2)]) rfl ?_
  refine k_goto hq (tgt := 5) dX12_areLike_78 (by decide) ?_
  exact k_sub [2, 3, 4, 1, 0] rfl (hk5 l0 l1 l2 s0 (l4 + 1) h)
set_option maxRecDepth 100000 in
set_option maxHeartbeats 4000000 in
theorem P_X12_areLike_73 {q : eT} {r0 : Int32} {h0 : eH} (hq : e_B q yX12_areLike.cls cX12_areLike 5 0 0 (some .boolean) yX12_areLike.name) (he : e_E q) (N : Nat) (k5 : Nat → Int32 → Int32 → Int32 → Int32 → eH → Option (Int32 × eH)) (hk5 : ∀ (l0 : Nat) (l1 : Int32) (l2 : Int32) (l3 : Int32) (l4 : Int32) h, e_K eI q r0 h0 5 [(0, .ref l0), (1, .int l1), (2, .int l2), (3, .int l3), (4, .int l4)] [] h (k5 l0 l1 l2 l3 l4 h)) (l0 : Nat) (l1 : Int32) (l2 : Int32) (l4 : Int32) (h : eH) : e_K eI q r0 h0 73 [(0, .ref l0), (1, .int l1), (2, .int l2), (4, .int l4)] [] h (F_X12_areLike_73 N k5 l0 l1 l2 l4 h) := by
  unfold F_X12_areLike_73
  refine k_iconst hq dX12_areLike_73 (v := 0) rfl ?_
  exact k_sub [0, 1, 2, 3] rfl (P_X12_areLike_74 hq he N k5 hk5 l0 l1 l2 l4 0 h)
set_option maxRecDepth 100000 in
set_option maxHeartbeats 4000000 in
theorem P_X12_areLike_5b {q : eT} {r0 : Int32} {h0 : eH} (hq : e_B q yX12_areLike.cls cX12_areLike 5 0 0 (some .boolean) yX12_areLike.name) (he : e_E q) (N : Nat) (k5 : Nat → Int32 → Int32 → Int32 → Int32 → eH → Option (Int32 × eH)) (hk5 : ∀ (l0 : Nat) (l1 : Int32) (l2 : Int32) (l3 : Int32) (l4 : Int32) h, e_K eI q r0 h0 5 [(0, .ref l0), (1, .int l1), (2, .int l2), (3, .int l3), (4, .int l4)] [] h (k5 l0 l1 l2 l3 l4 h)) (l0 : Nat) (l1 : Int32) (l2 : Int32) (l3 : Int32) (l4 : Int32) (h : eH) : e_K eI q r0 h0 5 [(0, .ref l0), (1, .int l1), (2, .int l2), (3, .int l3), (4, .int l4)] [] h (F_X12_areLike_5b N k5 l0 l1 l2 l3 l4 h) := by
  unfold F_X12_areLike_5b
  refine k_iload hq dX12_areLike_5 4 rfl ?_
  refine k_aload_n hq dX12_areLike_7 0 rfl ?_
  refine k_gi hq (C := RX12) (T := TX12) 11 0 rfl (by decide) (lay_X12 0 (by decide)) tw_927 dX12_areLike_8 fun v1 => ?_
  refine k_icmp_ge hq (tgt := 81) dX12_areLike_11 (by decide) (fun _ => ?_) (fun _ => ?_)
  · refine k_iload_n hq dX12_areLike_81 3 rfl ?_
    exact k_zret hq dX12_areLike_82 he
  · refine k_iload_n hq dX12_areLike_14 3 rfl ?_
    refine k_if_eq hq (tgt := 73) dX12_areLike_15 (by decide) (fun _ => ?_) (fun _ => ?_)
    · exact k_sub [0, 1, 2, 4] rfl (P_X12_areLike_73 hq he N k5 hk5 l0 l1 l2 l4 h)
    · refine k_aload_n hq dX12_areLike_18 0 rfl ?_
      refine k_gr hq (C := RX12) (T := TX12) 11 36 rfl (by decide) (lay_X12 36 (by decide)) tw_963 dX12_areLike_19 fun v2 => ?_
      refine k_iconst hq dX12_areLike_22 (v := 4) rfl ?_
      refine k_iload_n hq dX12_areLike_23 1 rfl ?_
      refine k_imul hq dX12_areLike_24 ?_
      refine k_iload hq dX12_areLike_25 4 rfl ?_
      refine k_iadd hq dX12_areLike_27 ?_
      refine k_iald hq dX12_areLike_28 fun v3 => ?_
      refine k_aload_n hq dX12_areLike_29 0 rfl ?_
      refine k_gr hq (C := RX12) (T := TX12) 11 36 rfl (by decide) (lay_X12 36 (by decide)) tw_963 dX12_areLike_30 fun v4 => ?_
      refine k_iconst hq dX12_areLike_33 (v := 4) rfl ?_
      refine k_iload_n hq dX12_areLike_34 2 rfl ?_
      refine k_imul hq dX12_areLike_35 ?_
      refine k_iload hq dX12_areLike_36 4 rfl ?_
      refine k_iadd hq dX12_areLike_38 ?_
      refine k_iald hq dX12_areLike_39 fun v5 => ?_
      refine k_icmp_ne hq (tgt := 73) dX12_areLike_40 (by decide) (fun _ => ?_) (fun _ => ?_)
      · refine k_aload_n hq dX12_areLike_43 0 rfl ?_
        refine k_gr hq (C := RX12) (T := TX12) 11 37 rfl (by decide) (lay_X12 37 (by decide)) tw_964 dX12_areLike_44 fun v6 => ?_
        refine k_iconst hq dX12_areLike_47 (v := 4) rfl ?_
        refine k_iload_n hq dX12_areLike_48 1 rfl ?_
        refine k_imul hq dX12_areLike_49 ?_
        refine k_iload hq dX12_areLike_50 4 rfl ?_
        refine k_iadd hq dX12_areLike_52 ?_
        refine k_lald hq dX12_areLike_53 fun v7 => ?_
        refine k_aload_n hq dX12_areLike_54 0 rfl ?_
        refine k_gr hq (C := RX12) (T := TX12) 11 37 rfl (by decide) (lay_X12 37 (by decide)) tw_964 dX12_areLike_55 fun v8 => ?_
        refine k_iconst hq dX12_areLike_58 (v := 4) rfl ?_
        refine k_iload_n hq dX12_areLike_59 2 rfl ?_
        refine k_imul hq dX12_areLike_60 ?_
        refine k_iload hq dX12_areLike_61 4 rfl ?_
        refine k_iadd hq dX12_areLike_63 ?_
        refine k_lald hq dX12_areLike_64 fun v9 => ?_
        refine k_lcmp hq dX12_areLike_65 ?_
        refine k_if_ne hq (tgt := 73) dX12_areLike_66 (by decide) (fun _ => ?_) (fun _ => ?_)
        · refine k_iconst hq dX12_areLike_69 (v := 1) rfl ?_
          refine k_goto hq (tgt := 74) dX12_areLike_70 (by decide) ?_
          exact k_sub [0, 1, 2, 4] rfl (P_X12_areLike_74 hq he N k5 hk5 l0 l1 l2 l4 1 h)
        · exact k_sub [0, 1, 2, 4] rfl (P_X12_areLike_73 hq he N k5 hk5 l0 l1 l2 l4 h)
      · exact k_sub [0, 1, 2, 4] rfl (P_X12_areLike_73 hq he N k5 hk5 l0 l1 l2 l4 h)
theorem Q_X12_areLike_5 {q : eT} {r0 : Int32} {h0 : eH} (hq : e_B q yX12_areLike.cls cX12_areLike 5 0 0 (some .boolean) yX12_areLike.name) (he : e_E q) (N : Nat) (l0 : Nat) (l1 : Int32) (l2 : Int32) (l3 : Int32) (l4 : Int32) (h : eH) : e_K eI q r0 h0 5 [(0, .ref l0), (1, .int l1), (2, .int l2), (3, .int l3), (4, .int l4)] [] h (L_X12_areLike_5 N l0 l1 l2 l3 l4 h) :=
  k_loop (mk := (fun s => [(0, .ref s.1), (1, .int s.2.1), (2, .int s.2.2.1), (3, .int s.2.2.2.1), (4, .int s.2.2.2.2.1)])) (hp := fun s => s.2.2.2.2.2) (fun k hk s => P_X12_areLike_5b hq he N (fun l0 l1 l2 l3 l4 h => k (l0, l1, l2, l3, l4, h)) (fun l0 l1 l2 l3 l4 h => hk (l0, l1, l2, l3, l4, h)) s.1 s.2.1 s.2.2.1 s.2.2.2.1 s.2.2.2.2.1 s.2.2.2.2.2) N (l0, l1, l2, l3, l4, h)
set_option maxRecDepth 100000 in
set_option maxHeartbeats 4000000 in
theorem P_X12_areLike_0 {q : eT} {r0 : Int32} {h0 : eH} (hq : e_B q yX12_areLike.cls cX12_areLike 5 0 0 (some .boolean) yX12_areLike.name) (he : e_E q) (N : Nat) (l0 : Nat) (l1 : Int32) (l2 : Int32) (h : eH) : e_K eI q r0 h0 0 [(0, .ref l0), (1, .int l1), (2, .int l2)] [] h (F_X12_areLike N l0 l1 l2 h) := by
  unfold F_X12_areLike
  refine k_iconst hq dX12_areLike_0 (v := 1) rfl ?_
  refine k_istore_n hq dX12_areLike_1 rfl (by decide) (ls' := [(3, .int 1), (0, .ref l0), (1, .int l1), (2, .int l2)]) rfl ?_
  refine k_iconst hq dX12_areLike_2 (v := 0) rfl ?_
  refine k_istore hq dX12_areLike_3 (by decide) (ls' := [(4, .int 0), (3, .int 1), (0, .ref l0), (1, .int l1), (2, .int l2)]) rfl ?_
  exact k_sub [2, 3, 4, 1, 0] rfl (Q_X12_areLike_5 hq he N l0 l1 l2 1 0 h)
theorem con_X12_areLike (l : Launch) (G : eG) (B0 n : Nat) (N : Nat) (l0 : Nat) (l1 : Int32) (l2 : Int32) : e_C eI l G B0 n yX12_areLike cX12_areLike 5 (some .boolean) 0 0 [.ref l0, .int l1, .int l2] (F_X12_areLike N l0 l1 l2) := by
  refine e_mk (by decide) (Nat.le_of_ble_eq_true rfl) fun q r0 h0 h hq he e1 e2 e3 e4 => ?_
  subst e1; subst e2; subst e3; subst e4
  exact P_X12_areLike_0 hq he N l0 l1 l2 h
set_option maxRecDepth 100000 in
set_option maxHeartbeats 4000000 in
theorem P_X12_laysSets_83 {q : eT} {r0 : Unit} {h0 : eH} (hq : e_B q yX12_laysSets.cls cX12_laysSets 5 2 54 none yX12_laysSets.name) (he : e_E q) (N : Nat) (k2 : Nat → Int32 → Int32 → eH → Option (Unit × eH)) (k52 : Nat → Int32 → Int32 → Int32 → eH → Option (Unit × eH)) (hk2 : ∀ (l0 : Nat) (l1 : Int32) (l2 : Int32) h, e_K eV q r0 h0 2 [(0, .ref l0), (1, .int l1), (2, .int l2)] [] h (k2 l0 l1 l2 h)) (hk52 : ∀ (l0 : Nat) (l1 : Int32) (l2 : Int32) (l4 : Int32) h, e_K eV q r0 h0 52 [(0, .ref l0), (1, .int l1), (2, .int l2), (4, .int l4)] [] h (k52 l0 l1 l2 l4 h)) (l0 : Nat) (l1 : Int32) (l2 : Int32) (l4 : Int32) (s0 : Nat) (s1 : Int32) (s2 : Int32) (h : eH) : e_K eV q r0 h0 83 [(0, .ref l0), (1, .int l1), (2, .int l2), (4, .int l4)] [.int s2, .int s1, .ref s0] h (F_X12_laysSets_83 N k2 k52 l0 l1 l2 l4 s0 s1 s2 h) := by
  unfold F_X12_laysSets_83
  refine k_iast hq dX12_laysSets_83 fun h1 => ?_
  refine k_iinc hq dX12_laysSets_84 3 rfl (v := l4 + (-1)) rfl (by decide) (ls' := [(4, .int (l4 + (-1))), (0, .ref l0), (1, .int l1), (2, .int l2)]) rfl ?_
  refine k_goto hq (tgt := 52) dX12_laysSets_87 (by decide) ?_
  exact k_sub [1, 2, 3, 0] rfl (hk52 l0 l1 l2 (l4 + (-1)) h1)
set_option maxRecDepth 100000 in
set_option maxHeartbeats 4000000 in
theorem P_X12_laysSets_52b {q : eT} {r0 : Unit} {h0 : eH} (hq : e_B q yX12_laysSets.cls cX12_laysSets 5 2 54 none yX12_laysSets.name) (he : e_E q) (N : Nat) (k2 : Nat → Int32 → Int32 → eH → Option (Unit × eH)) (k52 : Nat → Int32 → Int32 → Int32 → eH → Option (Unit × eH)) (hk2 : ∀ (l0 : Nat) (l1 : Int32) (l2 : Int32) h, e_K eV q r0 h0 2 [(0, .ref l0), (1, .int l1), (2, .int l2)] [] h (k2 l0 l1 l2 h)) (hk52 : ∀ (l0 : Nat) (l1 : Int32) (l2 : Int32) (l4 : Int32) h, e_K eV q r0 h0 52 [(0, .ref l0), (1, .int l1), (2, .int l2), (4, .int l4)] [] h (k52 l0 l1 l2 l4 h)) (l0 : Nat) (l1 : Int32) (l2 : Int32) (l4 : Int32) (h : eH) : e_K eV q r0 h0 52 [(0, .ref l0), (1, .int l1), (2, .int l2), (4, .int l4)] [] h (F_X12_laysSets_52b N k2 k52 l0 l1 l2 l4 h) := by
  unfold F_X12_laysSets_52b
  refine k_iload hq dX12_laysSets_52 3 rfl ?_
  refine k_if_le hq (tgt := 90) dX12_laysSets_54 (by decide) (fun _ => ?_) (fun _ => ?_)
  · refine k_iinc hq dX12_laysSets_90 2 rfl (v := l2 + 1) rfl (by decide) (ls' := [(2, .int (l2 + 1)), (0, .ref l0), (1, .int l1), (4, .int l4)]) rfl ?_
    refine k_goto hq (tgt := 2) dX12_laysSets_93 (by decide) ?_
    exact k_sub [1, 2, 0] rfl (hk2 l0 l1 (l2 + 1) h)
  · refine k_aload_n hq dX12_laysSets_57 0 rfl ?_
    refine k_gr hq (C := RX12) (T := TX12) 11 38 rfl (by decide) (lay_X12 38 (by decide)) tw_965 dX12_laysSets_58 fun v1 => ?_
    refine k_iload_n hq dX12_laysSets_61 2 rfl ?_
    refine k_aload_n hq dX12_laysSets_62 0 rfl ?_
    refine k_iload hq dX12_laysSets_63 3 rfl ?_
    refine k_iload_n hq dX12_laysSets_65 2 rfl ?_
    refine k_callV hq (na := 2) (As := [.int l4, .int l2]) (st := [.int l2, .ref v1]) 11 (C := RX12) (T := TX12) rfl (con_X12_areLike _ _ _ _ N l0 l4 l2) tw_1236 tw_59 tw_1233 tw_1235 tw_43 ⟨by decide, by decide, by decide +kernel⟩ rfl (by decide) rfl (Nat.le_of_ble_eq_true rfl) dX12_laysSets_66 fun v2 h3 => ?_
    refine k_if_eq hq (tgt := 77) dX12_laysSets_69 (by decide) (fun _ => ?_) (fun _ => ?_)
    · refine k_aload_n hq dX12_laysSets_77 0 rfl ?_
      refine k_gr hq (C := RX12) (T := TX12) 11 38 rfl (by decide) (lay_X12 38 (by decide)) tw_965 dX12_laysSets_78 fun v4 => ?_
      refine k_iload_n hq dX12_laysSets_81 2 rfl ?_
      refine k_iald hq dX12_laysSets_82 fun v5 => ?_
      exact k_sub [0, 1, 2, 3] rfl (P_X12_laysSets_83 hq he N k2 k52 hk2 hk52 l0 l1 l2 l4 v1 l2 v5 h3)
    · refine k_iload hq dX12_laysSets_72 3 rfl ?_
      refine k_goto hq (tgt := 83) dX12_laysSets_74 (by decide) ?_
      exact k_sub [0, 1, 2, 3] rfl (P_X12_laysSets_83 hq he N k2 k52 hk2 hk52 l0 l1 l2 l4 v1 l2 l4 h3)
theorem Q_X12_laysSets_52 {q : eT} {r0 : Unit} {h0 : eH} (hq : e_B q yX12_laysSets.cls cX12_laysSets 5 2 54 none yX12_laysSets.name) (he : e_E q) (N : Nat) (k2 : Nat → Int32 → Int32 → eH → Option (Unit × eH)) (hk2 : ∀ (l0 : Nat) (l1 : Int32) (l2 : Int32) h, e_K eV q r0 h0 2 [(0, .ref l0), (1, .int l1), (2, .int l2)] [] h (k2 l0 l1 l2 h)) (l0 : Nat) (l1 : Int32) (l2 : Int32) (l4 : Int32) (h : eH) : e_K eV q r0 h0 52 [(0, .ref l0), (1, .int l1), (2, .int l2), (4, .int l4)] [] h (L_X12_laysSets_52 N k2 l0 l1 l2 l4 h) :=
  k_loop (mk := (fun s => [(0, .ref s.1), (1, .int s.2.1), (2, .int s.2.2.1), (4, .int s.2.2.2.1)])) (hp := fun s => s.2.2.2.2) (fun k hk s => P_X12_laysSets_52b hq he N k2 (fun l0 l1 l2 l4 h => k (l0, l1, l2, l4, h)) hk2 (fun l0 l1 l2 l4 h => hk (l0, l1, l2, l4, h)) s.1 s.2.1 s.2.2.1 s.2.2.2.1 s.2.2.2.2) N (l0, l1, l2, l4, h)
set_option maxRecDepth 100000 in
set_option maxHeartbeats 4000000 in
theorem P_X12_laysSets_19b {q : eT} {r0 : Unit} {h0 : eH} (hq : e_B q yX12_laysSets.cls cX12_laysSets 5 2 54 none yX12_laysSets.name) (he : e_E q) (N : Nat) (k2 : Nat → Int32 → Int32 → eH → Option (Unit × eH)) (k19 : Nat → Int32 → Int32 → Int32 → eH → Option (Unit × eH)) (hk2 : ∀ (l0 : Nat) (l1 : Int32) (l2 : Int32) h, e_K eV q r0 h0 2 [(0, .ref l0), (1, .int l1), (2, .int l2)] [] h (k2 l0 l1 l2 h)) (hk19 : ∀ (l0 : Nat) (l1 : Int32) (l2 : Int32) (l3 : Int32) h, e_K eV q r0 h0 19 [(0, .ref l0), (1, .int l1), (2, .int l2), (3, .int l3)] [] h (k19 l0 l1 l2 l3 h)) (l0 : Nat) (l1 : Int32) (l2 : Int32) (l3 : Int32) (h : eH) : e_K eV q r0 h0 19 [(0, .ref l0), (1, .int l1), (2, .int l2), (3, .int l3)] [] h (F_X12_laysSets_19b N k2 k19 l0 l1 l2 l3 h) := by
  unfold F_X12_laysSets_19b
  refine k_iload_n hq dX12_laysSets_19 2 rfl ?_
  refine k_iload_n hq dX12_laysSets_20 3 rfl ?_
  refine k_callS hq (na := 2) (As := [.int l2, .int l3]) (st := []) (con_X12_has _ _ _ _ l2 l3) tw_1118 tw_59 tw_1116 tw_1117 ⟨by decide, by decide, by decide +kernel⟩ rfl (by decide) rfl (Nat.le_of_ble_eq_true rfl) dX12_laysSets_21 fun v1 h2 => ?_
  refine k_if_ne hq (tgt := 33) dX12_laysSets_24 (by decide) (fun _ => ?_) (fun _ => ?_)
  · refine k_iinc hq dX12_laysSets_27 3 rfl (v := l3 + (-1)) rfl (by decide) (ls' := [(3, .int (l3 + (-1))), (0, .ref l0), (1, .int l1), (2, .int l2)]) rfl ?_
    refine k_goto hq (tgt := 19) dX12_laysSets_30 (by decide) ?_
    exact k_sub [1, 2, 3, 0] rfl (hk19 l0 l1 l2 (l3 + (-1)) h2)
  · refine k_aload_n hq dX12_laysSets_33 0 rfl ?_
    refine k_iload_n hq dX12_laysSets_34 1 rfl ?_
    refine k_iload_n hq dX12_laysSets_35 2 rfl ?_
    refine k_iload_n hq dX12_laysSets_36 3 rfl ?_
    refine k_callV hq (na := 3) (As := [.int l1, .int l2, .int l3]) (st := []) 11 (C := RX12) (T := TX12) rfl (con_X12_joinsSet _ _ _ _ N l0 l1 l2 l3) tw_1232 tw_59 tw_1229 tw_1231 tw_42 ⟨by decide, by decide, by decide +kernel⟩ rfl (by decide) rfl (Nat.le_of_ble_eq_true rfl) dX12_laysSets_37 fun v3 h4 => ?_
    refine k_aload_n hq dX12_laysSets_40 0 rfl ?_
    refine k_gr hq (C := RX12) (T := TX12) 11 38 rfl (by decide) (lay_X12 38 (by decide)) tw_965 dX12_laysSets_41 fun v5 => ?_
    refine k_iload_n hq dX12_laysSets_44 2 rfl ?_
    refine k_iload_n hq dX12_laysSets_45 2 rfl ?_
    refine k_iast hq dX12_laysSets_46 fun h6 => ?_
    refine k_iload_n hq dX12_laysSets_47 2 rfl ?_
    refine k_iconst hq dX12_laysSets_48 (v := 1) rfl ?_
    refine k_isub hq dX12_laysSets_49 ?_
    refine k_let (mk := fun z => .int z :: []) fun v7 _ => ?_
    refine k_istore hq dX12_laysSets_50 (by decide) (ls' := [(4, .int v7), (0, .ref l0), (1, .int l1), (2, .int l2), (3, .int l3)]) rfl ?_
    exact k_sub [1, 2, 3, 0] rfl (Q_X12_laysSets_52 hq he N k2 hk2 l0 l1 l2 v7 h6)
theorem Q_X12_laysSets_19 {q : eT} {r0 : Unit} {h0 : eH} (hq : e_B q yX12_laysSets.cls cX12_laysSets 5 2 54 none yX12_laysSets.name) (he : e_E q) (N : Nat) (k2 : Nat → Int32 → Int32 → eH → Option (Unit × eH)) (hk2 : ∀ (l0 : Nat) (l1 : Int32) (l2 : Int32) h, e_K eV q r0 h0 2 [(0, .ref l0), (1, .int l1), (2, .int l2)] [] h (k2 l0 l1 l2 h)) (l0 : Nat) (l1 : Int32) (l2 : Int32) (l3 : Int32) (h : eH) : e_K eV q r0 h0 19 [(0, .ref l0), (1, .int l1), (2, .int l2), (3, .int l3)] [] h (L_X12_laysSets_19 N k2 l0 l1 l2 l3 h) :=
  k_loop (mk := (fun s => [(0, .ref s.1), (1, .int s.2.1), (2, .int s.2.2.1), (3, .int s.2.2.2.1)])) (hp := fun s => s.2.2.2.2) (fun k hk s => P_X12_laysSets_19b hq he N k2 (fun l0 l1 l2 l3 h => k (l0, l1, l2, l3, h)) hk2 (fun l0 l1 l2 l3 h => hk (l0, l1, l2, l3, h)) s.1 s.2.1 s.2.2.1 s.2.2.2.1 s.2.2.2.2) N (l0, l1, l2, l3, h)
set_option maxRecDepth 100000 in
set_option maxHeartbeats 4000000 in
theorem P_X12_laysSets_2b {q : eT} {r0 : Unit} {h0 : eH} (hq : e_B q yX12_laysSets.cls cX12_laysSets 5 2 54 none yX12_laysSets.name) (he : e_E q) (N : Nat) (k2 : Nat → Int32 → Int32 → eH → Option (Unit × eH)) (hk2 : ∀ (l0 : Nat) (l1 : Int32) (l2 : Int32) h, e_K eV q r0 h0 2 [(0, .ref l0), (1, .int l1), (2, .int l2)] [] h (k2 l0 l1 l2 h)) (l0 : Nat) (l1 : Int32) (l2 : Int32) (h : eH) : e_K eV q r0 h0 2 [(0, .ref l0), (1, .int l1), (2, .int l2)] [] h (F_X12_laysSets_2b N k2 l0 l1 l2 h) := by
  unfold F_X12_laysSets_2b
  refine k_iload_n hq dX12_laysSets_2 2 rfl ?_
  refine k_iconst hq dX12_laysSets_3 (v := 1) rfl ?_
  refine k_aload_n hq dX12_laysSets_4 0 rfl ?_
  refine k_gi hq (C := RX12) (T := TX12) 11 0 rfl (by decide) (lay_X12 0 (by decide)) tw_927 dX12_laysSets_5 fun v1 => ?_
  refine k_ishl hq dX12_laysSets_8 ?_
  refine k_icmp_ge hq (tgt := 96) dX12_laysSets_9 (by decide) (fun _ => ?_) (fun _ => ?_)
  · exact k_vret hq dX12_laysSets_96 he
  · refine k_aload_n hq dX12_laysSets_12 0 rfl ?_
    refine k_gi hq (C := RX12) (T := TX12) 11 0 rfl (by decide) (lay_X12 0 (by decide)) tw_927 dX12_laysSets_13 fun v2 => ?_
    refine k_iconst hq dX12_laysSets_16 (v := 1) rfl ?_
    refine k_isub hq dX12_laysSets_17 ?_
    refine k_let (mk := fun z => .int z :: []) fun v3 _ => ?_
    refine k_istore_n hq dX12_laysSets_18 rfl (by decide) (ls' := [(3, .int v3), (0, .ref l0), (1, .int l1), (2, .int l2)]) rfl ?_
    exact k_sub [1, 2, 3, 0] rfl (Q_X12_laysSets_19 hq he N k2 hk2 l0 l1 l2 v3 h)
theorem Q_X12_laysSets_2 {q : eT} {r0 : Unit} {h0 : eH} (hq : e_B q yX12_laysSets.cls cX12_laysSets 5 2 54 none yX12_laysSets.name) (he : e_E q) (N : Nat) (l0 : Nat) (l1 : Int32) (l2 : Int32) (h : eH) : e_K eV q r0 h0 2 [(0, .ref l0), (1, .int l1), (2, .int l2)] [] h (L_X12_laysSets_2 N l0 l1 l2 h) :=
  k_loop (mk := (fun s => [(0, .ref s.1), (1, .int s.2.1), (2, .int s.2.2.1)])) (hp := fun s => s.2.2.2) (fun k hk s => P_X12_laysSets_2b hq he N (fun l0 l1 l2 h => k (l0, l1, l2, h)) (fun l0 l1 l2 h => hk (l0, l1, l2, h)) s.1 s.2.1 s.2.2.1 s.2.2.2) N (l0, l1, l2, h)
set_option maxRecDepth 100000 in
set_option maxHeartbeats 4000000 in
theorem P_X12_laysSets_0 {q : eT} {r0 : Unit} {h0 : eH} (hq : e_B q yX12_laysSets.cls cX12_laysSets 5 2 54 none yX12_laysSets.name) (he : e_E q) (N : Nat) (l0 : Nat) (l1 : Int32) (h : eH) : e_K eV q r0 h0 0 [(0, .ref l0), (1, .int l1)] [] h (F_X12_laysSets N l0 l1 h) := by
  unfold F_X12_laysSets
  refine k_iconst hq dX12_laysSets_0 (v := 1) rfl ?_
  refine k_istore_n hq dX12_laysSets_1 rfl (by decide) (ls' := [(2, .int 1), (0, .ref l0), (1, .int l1)]) rfl ?_
  exact k_sub [1, 2, 0] rfl (Q_X12_laysSets_2 hq he N l0 l1 1 h)
theorem con_X12_laysSets (l : Launch) (G : eG) (B0 n : Nat) (N : Nat) (l0 : Nat) (l1 : Int32) : e_C eV l G B0 n yX12_laysSets cX12_laysSets 5 none 2 54 [.ref l0, .int l1] (F_X12_laysSets N l0 l1) := by
  refine e_mk (by decide) (Nat.le_of_ble_eq_true rfl) fun q r0 h0 h hq he e1 e2 e3 e4 => ?_
  subst e1; subst e2; subst e3; subst e4
  exact P_X12_laysSets_0 hq he N l0 l1 h
set_option maxRecDepth 100000 in
set_option maxHeartbeats 4000000 in
theorem P_X12_setOf_0 {q : eT} {r0 : Int32} {h0 : eH} (hq : e_B q yX12_setOf.cls cX12_setOf 2 0 0 (some .int) yX12_setOf.name) (he : e_E q) (l0 : Int32) (l1 : Int32) (h : eH) : e_K eI q r0 h0 0 [(0, .int l0), (1, .int l1)] [] h (F_X12_setOf l0 l1 h) := by
  unfold F_X12_setOf
  refine k_iload_n hq dX12_setOf_0 0 rfl ?_
  refine k_iconst hq dX12_setOf_1 (v := 4) rfl ?_
  refine k_iload_n hq dX12_setOf_2 1 rfl ?_
  refine k_imul hq dX12_setOf_3 ?_
  refine k_ishr hq dX12_setOf_4 ?_
  refine k_bipush hq dX12_setOf_5 (v := 15) rfl ?_
  refine k_iand hq dX12_setOf_7 ?_
  exact k_iret hq dX12_setOf_8 he
theorem con_X12_setOf (l : Launch) (G : eG) (B0 n : Nat) (l0 : Int32) (l1 : Int32) : e_C eI l G B0 n yX12_setOf cX12_setOf 2 (some .int) 0 0 [.int l0, .int l1] (F_X12_setOf l0 l1) := by
  refine e_mk (by decide) (Nat.le_of_ble_eq_true rfl) fun q r0 h0 h hq he e1 e2 e3 e4 => ?_
  subst e1; subst e2; subst e3; subst e4
  exact P_X12_setOf_0 hq he l0 l1 h
set_option maxRecDepth 100000 in
set_option maxHeartbeats 4000000 in
theorem P_X12_isAll_44 {q : eT} {r0 : Int32} {h0 : eH} (hq : e_B q yX12_isAll.cls cX12_isAll 4 1 21 (some .boolean) yX12_isAll.name) (he : e_E q) (N : Nat) (k4 : Nat → Int32 → Int32 → Int32 → eH → Option (Int32 × eH)) (hk4 : ∀ (l0 : Nat) (l1 : Int32) (l2 : Int32) (l3 : Int32) h, e_K eI q r0 h0 4 [(0, .ref l0), (1, .int l1), (2, .int l2), (3, .int l3)] [] h (k4 l0 l1 l2 l3 h)) (l0 : Nat) (l1 : Int32) (l3 : Int32) (s0 : Int32) (h : eH) : e_K eI q r0 h0 44 [(0, .ref l0), (1, .int l1), (3, .int l3)] [.int s0] h (F_X12_isAll_44 N k4 l0 l1 l3 s0 h) := by
  unfold F_X12_isAll_44
  refine k_istore_n hq dX12_isAll_44 rfl (by decide) (ls' := [(2, .int s0), (0, .ref l0), (1, .int l1), (3, .int l3)]) rfl ?_
  refine k_iinc hq dX12_isAll_45 3 rfl (v := l3 + 1) rfl (by decide) (ls' := [(3, .int (l3 + 1)), (2, .int s0), (0, .ref l0), (1, .int l1)]) rfl ?_
  refine k_goto hq (tgt := 4) dX12_isAll_48 (by decide) ?_
  exact k_sub [2, 3, 1, 0] rfl (hk4 l0 l1 s0 (l3 + 1) h)
set_option maxRecDepth 100000 in
set_option maxHeartbeats 4000000 in
theorem P_X12_isAll_43 {q : eT} {r0 : Int32} {h0 : eH} (hq : e_B q yX12_isAll.cls cX12_isAll 4 1 21 (some .boolean) yX12_isAll.name) (he : e_E q) (N : Nat) (k4 : Nat → Int32 → Int32 → Int32 → eH → Option (Int32 × eH)) (hk4 : ∀ (l0 : Nat) (l1 : Int32) (l2 : Int32) (l3 : Int32) h, e_K eI q r0 h0 4 [(0, .ref l0), (1, .int l1), (2, .int l2), (3, .int l3)] [] h (k4 l0 l1 l2 l3 h)) (l0 : Nat) (l1 : Int32) (l3 : Int32) (h : eH) : e_K eI q r0 h0 43 [(0, .ref l0), (1, .int l1), (3, .int l3)] [] h (F_X12_isAll_43 N k4 l0 l1 l3 h) := by
  unfold F_X12_isAll_43
  refine k_iconst hq dX12_isAll_43 (v := 0) rfl ?_
  exact k_sub [0, 1, 2] rfl (P_X12_isAll_44 hq he N k4 hk4 l0 l1 l3 0 h)
set_option maxRecDepth 100000 in
set_option maxHeartbeats 4000000 in
theorem P_X12_isAll_4b {q : eT} {r0 : Int32} {h0 : eH} (hq : e_B q yX12_isAll.cls cX12_isAll 4 1 21 (some .boolean) yX12_isAll.name) (he : e_E q) (N : Nat) (k4 : Nat → Int32 → Int32 → Int32 → eH → Option (Int32 × eH)) (hk4 : ∀ (l0 : Nat) (l1 : Int32) (l2 : Int32) (l3 : Int32) h, e_K eI q r0 h0 4 [(0, .ref l0), (1, .int l1), (2, .int l2), (3, .int l3)] [] h (k4 l0 l1 l2 l3 h)) (l0 : Nat) (l1 : Int32) (l2 : Int32) (l3 : Int32) (h : eH) : e_K eI q r0 h0 4 [(0, .ref l0), (1, .int l1), (2, .int l2), (3, .int l3)] [] h (F_X12_isAll_4b N k4 l0 l1 l2 l3 h) := by
  unfold F_X12_isAll_4b
  refine k_iload_n hq dX12_isAll_4 3 rfl ?_
  refine k_aload_n hq dX12_isAll_5 0 rfl ?_
  refine k_gi hq (C := RX12) (T := TX12) 11 0 rfl (by decide) (lay_X12 0 (by decide)) tw_927 dX12_isAll_6 fun v1 => ?_
  refine k_icmp_ge hq (tgt := 51) dX12_isAll_9 (by decide) (fun _ => ?_) (fun _ => ?_)
  · refine k_iload_n hq dX12_isAll_51 2 rfl ?_
    exact k_zret hq dX12_isAll_52 he
  · refine k_iload_n hq dX12_isAll_12 2 rfl ?_
    refine k_if_eq hq (tgt := 43) dX12_isAll_13 (by decide) (fun _ => ?_) (fun _ => ?_)
    · exact k_sub [0, 1, 3] rfl (P_X12_isAll_43 hq he N k4 hk4 l0 l1 l3 h)
    · refine k_aload_n hq dX12_isAll_16 0 rfl ?_
      refine k_gr hq (C := RX12) (T := TX12) 11 38 rfl (by decide) (lay_X12 38 (by decide)) tw_965 dX12_isAll_17 fun v2 => ?_
      refine k_iload_n hq dX12_isAll_20 1 rfl ?_
      refine k_iload_n hq dX12_isAll_21 3 rfl ?_
      refine k_callS hq (na := 2) (As := [.int l1, .int l3]) (st := [.ref v2]) (con_X12_setOf _ _ _ _ l1 l3) tw_1247 tw_59 tw_1245 tw_1246 ⟨by decide, by decide, by decide +kernel⟩ rfl (by decide) rfl (Nat.le_of_ble_eq_true rfl) dX12_isAll_22 fun v3 h4 => ?_
      refine k_iald hq dX12_isAll_25 fun v5 => ?_
      refine k_aload_n hq dX12_isAll_26 0 rfl ?_
      refine k_gr hq (C := RX12) (T := TX12) 11 38 rfl (by decide) (lay_X12 38 (by decide)) tw_965 dX12_isAll_27 fun v6 => ?_
      refine k_iload_n hq dX12_isAll_30 1 rfl ?_
      refine k_iconst hq dX12_isAll_31 (v := 0) rfl ?_
      refine k_callS hq (na := 2) (As := [.int l1, .int 0]) (st := [.ref v6, .int v5]) (con_X12_setOf _ _ _ _ l1 0) tw_1247 tw_59 tw_1245 tw_1246 ⟨by decide, by decide, by decide +kernel⟩ rfl (by decide) rfl (Nat.le_of_ble_eq_true rfl) dX12_isAll_32 fun v7 h8 => ?_
      refine k_iald hq dX12_isAll_35 fun v9 => ?_
      refine k_icmp_ne hq (tgt := 43) dX12_isAll_36 (by decide) (fun _ => ?_) (fun _ => ?_)
      · refine k_iconst hq dX12_isAll_39 (v := 1) rfl ?_
        refine k_goto hq (tgt := 44) dX12_isAll_40 (by decide) ?_
        exact k_sub [0, 1, 3] rfl (P_X12_isAll_44 hq he N k4 hk4 l0 l1 l3 1 h8)
      · exact k_sub [0, 1, 3] rfl (P_X12_isAll_43 hq he N k4 hk4 l0 l1 l3 h8)
theorem Q_X12_isAll_4 {q : eT} {r0 : Int32} {h0 : eH} (hq : e_B q yX12_isAll.cls cX12_isAll 4 1 21 (some .boolean) yX12_isAll.name) (he : e_E q) (N : Nat) (l0 : Nat) (l1 : Int32) (l2 : Int32) (l3 : Int32) (h : eH) : e_K eI q r0 h0 4 [(0, .ref l0), (1, .int l1), (2, .int l2), (3, .int l3)] [] h (L_X12_isAll_4 N l0 l1 l2 l3 h) :=
  k_loop (mk := (fun s => [(0, .ref s.1), (1, .int s.2.1), (2, .int s.2.2.1), (3, .int s.2.2.2.1)])) (hp := fun s => s.2.2.2.2) (fun k hk s => P_X12_isAll_4b hq he N (fun l0 l1 l2 l3 h => k (l0, l1, l2, l3, h)) (fun l0 l1 l2 l3 h => hk (l0, l1, l2, l3, h)) s.1 s.2.1 s.2.2.1 s.2.2.2.1 s.2.2.2.2) N (l0, l1, l2, l3, h)
set_option maxRecDepth 100000 in
set_option maxHeartbeats 4000000 in
theorem P_X12_isAll_0 {q : eT} {r0 : Int32} {h0 : eH} (hq : e_B q yX12_isAll.cls cX12_isAll 4 1 21 (some .boolean) yX12_isAll.name) (he : e_E q) (N : Nat) (l0 : Nat) (l1 : Int32) (h : eH) : e_K eI q r0 h0 0 [(0, .ref l0), (1, .int l1)] [] h (F_X12_isAll N l0 l1 h) := by
  unfold F_X12_isAll
  refine k_iconst hq dX12_isAll_0 (v := 1) rfl ?_
  refine k_istore_n hq dX12_isAll_1 rfl (by decide) (ls' := [(2, .int 1), (0, .ref l0), (1, .int l1)]) rfl ?_
  refine k_iconst hq dX12_isAll_2 (v := 1) rfl ?_
  refine k_istore_n hq dX12_isAll_3 rfl (by decide) (ls' := [(3, .int 1), (2, .int 1), (0, .ref l0), (1, .int l1)]) rfl ?_
  exact k_sub [2, 3, 1, 0] rfl (Q_X12_isAll_4 hq he N l0 l1 1 1 h)
theorem con_X12_isAll (l : Launch) (G : eG) (B0 n : Nat) (N : Nat) (l0 : Nat) (l1 : Int32) : e_C eI l G B0 n yX12_isAll cX12_isAll 4 (some .boolean) 1 21 [.ref l0, .int l1] (F_X12_isAll N l0 l1) := by
  refine e_mk (by decide) (Nat.le_of_ble_eq_true rfl) fun q r0 h0 h hq he e1 e2 e3 e4 => ?_
  subst e1; subst e2; subst e3; subst e4
  exact P_X12_isAll_0 hq he N l0 l1 h
set_option maxRecDepth 100000 in
set_option maxHeartbeats 4000000 in
theorem P_X12_sent_0 {q : eT} {r0 : Int32} {h0 : eH} (hq : e_B q yX12_sent.cls cX12_sent 3 1 21 (some .int) yX12_sent.name) (he : e_E q) (l0 : Int32) (l1 : Int32) (l2 : Int32) (h : eH) : e_K eI q r0 h0 0 [(0, .int l0), (1, .int l1), (2, .int l2)] [] h (F_X12_sent l0 l1 l2 h) := by
  unfold F_X12_sent
  refine k_iload_n hq dX12_sent_0 0 rfl ?_
  refine k_iload_n hq dX12_sent_1 0 rfl ?_
  refine k_iload_n hq dX12_sent_2 1 rfl ?_
  refine k_callS hq (na := 2) (As := [.int l0, .int l1]) (st := [.int l0]) (con_X12_setOf _ _ _ _ l0 l1) tw_1247 tw_59 tw_1245 tw_1246 ⟨by decide, by decide, by decide +kernel⟩ rfl (by decide) rfl (Nat.le_of_ble_eq_true rfl) dX12_sent_3 fun v1 h2 => ?_
  refine k_iconst hq dX12_sent_6 (v := 4) rfl ?_
  refine k_iload_n hq dX12_sent_7 2 rfl ?_
  refine k_imul hq dX12_sent_8 ?_
  refine k_ishl hq dX12_sent_9 ?_
  refine k_ior hq dX12_sent_10 ?_
  exact k_iret hq dX12_sent_11 he
theorem con_X12_sent (l : Launch) (G : eG) (B0 n : Nat) (l0 : Int32) (l1 : Int32) (l2 : Int32) : e_C eI l G B0 n yX12_sent cX12_sent 3 (some .int) 1 21 [.int l0, .int l1, .int l2] (F_X12_sent l0 l1 l2) := by
  refine e_mk (by decide) (Nat.le_of_ble_eq_true rfl) fun q r0 h0 h hq he e1 e2 e3 e4 => ?_
  subst e1; subst e2; subst e3; subst e4
  exact P_X12_sent_0 hq he l0 l1 l2 h
set_option maxRecDepth 100000 in
set_option maxHeartbeats 4000000 in
theorem P_X12_fewest_144 {q : eT} {r0 : Int32} {h0 : eH} (hq : e_B q yX12_fewest.cls cX12_fewest 7 2 44 (some .int) yX12_fewest.name) (he : e_E q) (N : Nat) (k39 : Nat → Int32 → Int32 → eH → Option (Int32 × eH)) (k72 : Nat → Int32 → Int32 → Int32 → Int32 → eH → Option (Int32 × eH)) (hk39 : ∀ (l0 : Nat) (l2 : Int32) (l3 : Int32) h, e_K eI q r0 h0 39 [(0, .ref l0), (2, .int l2), (3, .int l3)] [] h (k39 l0 l2 l3 h)) (hk72 : ∀ (l0 : Nat) (l2 : Int32) (l3 : Int32) (l4 : Int32) (l5 : Int32) h, e_K eI q r0 h0 72 [(0, .ref l0), (2, .int l2), (3, .int l3), (4, .int l4), (5, .int l5)] [] h (k72 l0 l2 l3 l4 l5 h)) (l0 : Nat) (l2 : Int32) (l3 : Int32) (l4 : Int32) (l5 : Int32) (h : eH) : e_K eI q r0 h0 144 [(0, .ref l0), (2, .int l2), (3, .int l3), (4, .int l4), (5, .int l5)] [] h (F_X12_fewest_144 N k39 k72 l0 l2 l3 l4 l5 h) := by
  unfold F_X12_fewest_144
  refine k_iinc hq dX12_fewest_144 4 rfl (v := l5 + 1) rfl (by decide) (ls' := [(5, .int (l5 + 1)), (0, .ref l0), (2, .int l2), (3, .int l3), (4, .int l4)]) rfl ?_
  refine k_goto hq (tgt := 72) dX12_fewest_147 (by decide) ?_
  exact k_sub [1, 2, 3, 4, 0] rfl (hk72 l0 l2 l3 l4 (l5 + 1) h)
set_option maxRecDepth 100000 in
set_option maxHeartbeats 4000000 in
theorem P_X12_fewest_72b {q : eT} {r0 : Int32} {h0 : eH} (hq : e_B q yX12_fewest.cls cX12_fewest 7 2 44 (some .int) yX12_fewest.name) (he : e_E q) (N : Nat) (k39 : Nat → Int32 → Int32 → eH → Option (Int32 × eH)) (k72 : Nat → Int32 → Int32 → Int32 → Int32 → eH → Option (Int32 × eH)) (hk39 : ∀ (l0 : Nat) (l2 : Int32) (l3 : Int32) h, e_K eI q r0 h0 39 [(0, .ref l0), (2, .int l2), (3, .int l3)] [] h (k39 l0 l2 l3 h)) (hk72 : ∀ (l0 : Nat) (l2 : Int32) (l3 : Int32) (l4 : Int32) (l5 : Int32) h, e_K eI q r0 h0 72 [(0, .ref l0), (2, .int l2), (3, .int l3), (4, .int l4), (5, .int l5)] [] h (k72 l0 l2 l3 l4 l5 h)) (l0 : Nat) (l2 : Int32) (l3 : Int32) (l4 : Int32) (l5 : Int32) (h : eH) : e_K eI q r0 h0 72 [(0, .ref l0), (2, .int l2), (3, .int l3), (4, .int l4), (5, .int l5)] [] h (F_X12_fewest_72b N k39 k72 l0 l2 l3 l4 l5 h) := by
  unfold F_X12_fewest_72b
  refine k_iload hq dX12_fewest_72 4 rfl ?_
  refine k_aload_n hq dX12_fewest_74 0 rfl ?_
  refine k_gi hq (C := RX12) (T := TX12) 11 0 rfl (by decide) (lay_X12 0 (by decide)) tw_927 dX12_fewest_75 fun v1 => ?_
  refine k_aload_n hq dX12_fewest_78 0 rfl ?_
  refine k_gi hq (C := RX12) (T := TX12) 11 0 rfl (by decide) (lay_X12 0 (by decide)) tw_927 dX12_fewest_79 fun v2 => ?_
  refine k_imul hq dX12_fewest_82 ?_
  refine k_icmp_ge hq (tgt := 150) dX12_fewest_83 (by decide) (fun _ => ?_) (fun _ => ?_)
  · refine k_iinc hq dX12_fewest_150 2 rfl (v := l3 + 1) rfl (by decide) (ls' := [(3, .int (l3 + 1)), (0, .ref l0), (2, .int l2), (4, .int l4), (5, .int l5)]) rfl ?_
    refine k_goto hq (tgt := 39) dX12_fewest_153 (by decide) ?_
    exact k_sub [1, 2, 0] rfl (hk39 l0 l2 (l3 + 1) h)
  · refine k_iload hq dX12_fewest_86 3 rfl ?_
    refine k_iload hq dX12_fewest_88 4 rfl ?_
    refine k_aload_n hq dX12_fewest_90 0 rfl ?_
    refine k_gi hq (C := RX12) (T := TX12) 11 0 rfl (by decide) (lay_X12 0 (by decide)) tw_927 dX12_fewest_91 fun v3 => ?_
    refine k_idiv hq dX12_fewest_94 fun _ => ?_
    refine k_iload hq dX12_fewest_95 4 rfl ?_
    refine k_aload_n hq dX12_fewest_97 0 rfl ?_
    refine k_gi hq (C := RX12) (T := TX12) 11 0 rfl (by decide) (lay_X12 0 (by decide)) tw_927 dX12_fewest_98 fun v4 => ?_
    refine k_irem hq dX12_fewest_101 fun _ => ?_
    refine k_callS hq (na := 3) (As := [.int l4, .int (l5 / v3), .int (l5 - l5 / v4 * v4)]) (st := []) (con_X12_sent _ _ _ _ l4 (l5 / v3) (l5 - l5 / v4 * v4)) tw_1250 tw_59 tw_1248 tw_1249 ⟨by decide, by decide, by decide +kernel⟩ rfl (by decide) rfl (Nat.le_of_ble_eq_true rfl) dX12_fewest_102 fun v5 h6 => ?_
    refine k_istore hq dX12_fewest_105 (by decide) (ls' := [(6, .int v5), (0, .ref l0), (2, .int l2), (3, .int l3), (4, .int l4), (5, .int l5)]) rfl ?_
    refine k_aload_n hq dX12_fewest_107 1 rfl ?_
    refine k_gr hq (C := RX12) (T := TX12) 11 39 rfl (by decide) (lay_X12 39 (by decide)) tw_966 dX12_fewest_108 fun v7 => ?_
    refine k_iload hq dX12_fewest_111 0 rfl ?_
    refine k_iald hq dX12_fewest_113 fun v8 => ?_
    refine k_if_ge hq (tgt := 144) dX12_fewest_114 (by decide) (fun _ => ?_) (fun _ => ?_)
    · exact k_sub [1, 2, 3, 4, 5] rfl (P_X12_fewest_144 hq he N k39 k72 hk39 hk72 l0 l2 l3 l4 l5 h6)
    · refine k_aload_n hq dX12_fewest_117 1 rfl ?_
      refine k_gr hq (C := RX12) (T := TX12) 11 39 rfl (by decide) (lay_X12 39 (by decide)) tw_966 dX12_fewest_118 fun v9 => ?_
      refine k_iload hq dX12_fewest_121 0 rfl ?_
      refine k_aload_n hq dX12_fewest_123 1 rfl ?_
      refine k_gr hq (C := RX12) (T := TX12) 11 39 rfl (by decide) (lay_X12 39 (by decide)) tw_966 dX12_fewest_124 fun v10 => ?_
      refine k_iload hq dX12_fewest_127 4 rfl ?_
      refine k_iald hq dX12_fewest_129 fun v11 => ?_
      refine k_iconst hq dX12_fewest_130 (v := 1) rfl ?_
      refine k_iadd hq dX12_fewest_131 ?_
      refine k_iast hq dX12_fewest_132 fun h12 => ?_
      refine k_aload_n hq dX12_fewest_133 1 rfl ?_
      refine k_gr hq (C := RX12) (T := TX12) 11 40 rfl (by decide) (lay_X12 40 (by decide)) tw_967 dX12_fewest_134 fun v13 => ?_
      refine k_iload_n hq dX12_fewest_137 2 rfl ?_
      refine k_iload hq dX12_fewest_138 0 rfl ?_
      refine k_iast hq dX12_fewest_140 fun h14 => ?_
      refine k_iinc hq dX12_fewest_141 2 rfl (v := l2 + 1) rfl (by decide) (ls' := [(2, .int (l2 + 1)), (6, .int v5), (0, .ref l0), (3, .int l3), (4, .int l4), (5, .int l5)]) rfl ?_
      exact k_sub [2, 0, 3, 4, 5] rfl (P_X12_fewest_144 hq he N k39 k72 hk39 hk72 l0 (l2 + 1) l3 l4 l5 h14)
theorem Q_X12_fewest_72 {q : eT} {r0 : Int32} {h0 : eH} (hq : e_B q yX12_fewest.cls cX12_fewest 7 2 44 (some .int) yX12_fewest.name) (he : e_E q) (N : Nat) (k39 : Nat → Int32 → Int32 → eH → Option (Int32 × eH)) (hk39 : ∀ (l0 : Nat) (l2 : Int32) (l3 : Int32) h, e_K eI q r0 h0 39 [(0, .ref l0), (2, .int l2), (3, .int l3)] [] h (k39 l0 l2 l3 h)) (l0 : Nat) (l2 : Int32) (l3 : Int32) (l4 : Int32) (l5 : Int32) (h : eH) : e_K eI q r0 h0 72 [(0, .ref l0), (2, .int l2), (3, .int l3), (4, .int l4), (5, .int l5)] [] h (L_X12_fewest_72 N k39 l0 l2 l3 l4 l5 h) :=
  k_loop (mk := (fun s => [(0, .ref s.1), (2, .int s.2.1), (3, .int s.2.2.1), (4, .int s.2.2.2.1), (5, .int s.2.2.2.2.1)])) (hp := fun s => s.2.2.2.2.2) (fun k hk s => P_X12_fewest_72b hq he N k39 (fun l0 l2 l3 l4 l5 h => k (l0, l2, l3, l4, l5, h)) hk39 (fun l0 l2 l3 l4 l5 h => hk (l0, l2, l3, l4, l5, h)) s.1 s.2.1 s.2.2.1 s.2.2.2.1 s.2.2.2.2.1 s.2.2.2.2.2) N (l0, l2, l3, l4, l5, h)
set_option maxRecDepth 100000 in
set_option maxHeartbeats 4000000 in
theorem P_X12_fewest_39b {q : eT} {r0 : Int32} {h0 : eH} (hq : e_B q yX12_fewest.cls cX12_fewest 7 2 44 (some .int) yX12_fewest.name) (he : e_E q) (N : Nat) (k39 : Nat → Int32 → Int32 → eH → Option (Int32 × eH)) (hk39 : ∀ (l0 : Nat) (l2 : Int32) (l3 : Int32) h, e_K eI q r0 h0 39 [(0, .ref l0), (2, .int l2), (3, .int l3)] [] h (k39 l0 l2 l3 h)) (l0 : Nat) (l2 : Int32) (l3 : Int32) (h : eH) : e_K eI q r0 h0 39 [(0, .ref l0), (2, .int l2), (3, .int l3)] [] h (F_X12_fewest_39b N k39 l0 l2 l3 h) := by
  unfold F_X12_fewest_39b
  refine k_iload_n hq dX12_fewest_39 2 rfl ?_
  refine k_iload_n hq dX12_fewest_40 1 rfl ?_
  refine k_icmp_ge hq (tgt := 156) dX12_fewest_41 (by decide) (fun _ => ?_) (fun _ => ?_)
  · refine k_bipush hq dX12_fewest_156 (v := (-9)) rfl ?_
    exact k_iret hq dX12_fewest_158 he
  · refine k_aload_n hq dX12_fewest_44 0 rfl ?_
    refine k_gr hq (C := RX12) (T := TX12) 11 40 rfl (by decide) (lay_X12 40 (by decide)) tw_967 dX12_fewest_45 fun v1 => ?_
    refine k_iload_n hq dX12_fewest_48 2 rfl ?_
    refine k_iald hq dX12_fewest_49 fun v2 => ?_
    refine k_istore hq dX12_fewest_50 (by decide) (ls' := [(4, .int v2), (0, .ref l0), (2, .int l2), (3, .int l3)]) rfl ?_
    refine k_aload_n hq dX12_fewest_52 1 rfl ?_
    refine k_iload hq dX12_fewest_53 0 rfl ?_
    refine k_callV hq (na := 1) (As := [.int v2]) (st := []) 11 (C := RX12) (T := TX12) rfl (con_X12_isAll _ _ _ _ N l0 v2) tw_1244 tw_59 tw_1241 tw_1243 tw_45 ⟨by decide, by decide, by decide +kernel⟩ rfl (by decide) rfl (Nat.le_of_ble_eq_true rfl) dX12_fewest_55 fun v3 h4 => ?_
    refine k_if_eq hq (tgt := 69) dX12_fewest_58 (by decide) (fun _ => ?_) (fun _ => ?_)
    · refine k_iconst hq dX12_fewest_69 (v := 0) rfl ?_
      refine k_istore hq dX12_fewest_70 (by decide) (ls' := [(5, .int 0), (4, .int v2), (0, .ref l0), (2, .int l2), (3, .int l3)]) rfl ?_
      exact k_sub [2, 3, 4, 1, 0] rfl (Q_X12_fewest_72 hq he N k39 hk39 l0 l2 l3 v2 0 h4)
    · refine k_aload_n hq dX12_fewest_61 1 rfl ?_
      refine k_gr hq (C := RX12) (T := TX12) 11 39 rfl (by decide) (lay_X12 39 (by decide)) tw_966 dX12_fewest_62 fun v5 => ?_
      refine k_iload hq dX12_fewest_65 0 rfl ?_
      refine k_iald hq dX12_fewest_67 fun v6 => ?_
      exact k_iret hq dX12_fewest_68 he
theorem Q_X12_fewest_39 {q : eT} {r0 : Int32} {h0 : eH} (hq : e_B q yX12_fewest.cls cX12_fewest 7 2 44 (some .int) yX12_fewest.name) (he : e_E q) (N : Nat) (l0 : Nat) (l2 : Int32) (l3 : Int32) (h : eH) : e_K eI q r0 h0 39 [(0, .ref l0), (2, .int l2), (3, .int l3)] [] h (L_X12_fewest_39 N l0 l2 l3 h) :=
  k_loop (mk := (fun s => [(0, .ref s.1), (2, .int s.2.1), (3, .int s.2.2.1)])) (hp := fun s => s.2.2.2) (fun k hk s => P_X12_fewest_39b hq he N (fun l0 l2 l3 h => k (l0, l2, l3, h)) (fun l0 l2 l3 h => hk (l0, l2, l3, h)) s.1 s.2.1 s.2.2.1 s.2.2.2) N (l0, l2, l3, h)
set_option maxRecDepth 100000 in
set_option maxHeartbeats 4000000 in
theorem P_X12_fewest_2b {q : eT} {r0 : Int32} {h0 : eH} (hq : e_B q yX12_fewest.cls cX12_fewest 7 2 44 (some .int) yX12_fewest.name) (he : e_E q) (N : Nat) (k2 : Nat → Int32 → Int32 → eH → Option (Int32 × eH)) (hk2 : ∀ (l0 : Nat) (l1 : Int32) (l2 : Int32) h, e_K eI q r0 h0 2 [(0, .ref l0), (1, .int l1), (2, .int l2)] [] h (k2 l0 l1 l2 h)) (l0 : Nat) (l1 : Int32) (l2 : Int32) (h : eH) : e_K eI q r0 h0 2 [(0, .ref l0), (1, .int l1), (2, .int l2)] [] h (F_X12_fewest_2b N k2 l0 l1 l2 h) := by
  unfold F_X12_fewest_2b
  refine k_iload_n hq dX12_fewest_2 2 rfl ?_
  refine k_ldc hq (v := 65536) tw_918 dX12_fewest_3 ?_
  refine k_icmp_ge hq (tgt := 21) dX12_fewest_5 (by decide) (fun _ => ?_) (fun _ => ?_)
  · refine k_aload_n hq dX12_fewest_21 0 rfl ?_
    refine k_gr hq (C := RX12) (T := TX12) 11 39 rfl (by decide) (lay_X12 39 (by decide)) tw_966 dX12_fewest_22 fun v1 => ?_
    refine k_iload_n hq dX12_fewest_25 1 rfl ?_
    refine k_iconst hq dX12_fewest_26 (v := 0) rfl ?_
    refine k_iast hq dX12_fewest_27 fun h2 => ?_
    refine k_aload_n hq dX12_fewest_28 0 rfl ?_
    refine k_gr hq (C := RX12) (T := TX12) 11 40 rfl (by decide) (lay_X12 40 (by decide)) tw_967 dX12_fewest_29 fun v3 => ?_
    refine k_iconst hq dX12_fewest_32 (v := 0) rfl ?_
    refine k_iload_n hq dX12_fewest_33 1 rfl ?_
    refine k_iast hq dX12_fewest_34 fun h4 => ?_
    refine k_iconst hq dX12_fewest_35 (v := 1) rfl ?_
    refine k_istore_n hq dX12_fewest_36 rfl (by decide) (ls' := [(2, .int 1), (0, .ref l0), (1, .int l1)]) rfl ?_
    refine k_iconst hq dX12_fewest_37 (v := 0) rfl ?_
    refine k_istore_n hq dX12_fewest_38 rfl (by decide) (ls' := [(3, .int 0), (2, .int 1), (0, .ref l0), (1, .int l1)]) rfl ?_
    exact k_sub [2, 1, 0] rfl (Q_X12_fewest_39 hq he N l0 1 0 h4)
  · refine k_aload_n hq dX12_fewest_8 0 rfl ?_
    refine k_gr hq (C := RX12) (T := TX12) 11 39 rfl (by decide) (lay_X12 39 (by decide)) tw_966 dX12_fewest_9 fun v5 => ?_
    refine k_iload_n hq dX12_fewest_12 2 rfl ?_
    refine k_iconst hq dX12_fewest_13 (v := (-1)) rfl ?_
    refine k_iast hq dX12_fewest_14 fun h6 => ?_
    refine k_iinc hq dX12_fewest_15 2 rfl (v := l2 + 1) rfl (by decide) (ls' := [(2, .int (l2 + 1)), (0, .ref l0), (1, .int l1)]) rfl ?_
    refine k_goto hq (tgt := 2) dX12_fewest_18 (by decide) ?_
    exact k_sub [1, 2, 0] rfl (hk2 l0 l1 (l2 + 1) h6)
theorem Q_X12_fewest_2 {q : eT} {r0 : Int32} {h0 : eH} (hq : e_B q yX12_fewest.cls cX12_fewest 7 2 44 (some .int) yX12_fewest.name) (he : e_E q) (N : Nat) (l0 : Nat) (l1 : Int32) (l2 : Int32) (h : eH) : e_K eI q r0 h0 2 [(0, .ref l0), (1, .int l1), (2, .int l2)] [] h (L_X12_fewest_2 N l0 l1 l2 h) :=
  k_loop (mk := (fun s => [(0, .ref s.1), (1, .int s.2.1), (2, .int s.2.2.1)])) (hp := fun s => s.2.2.2) (fun k hk s => P_X12_fewest_2b hq he N (fun l0 l1 l2 h => k (l0, l1, l2, h)) (fun l0 l1 l2 h => hk (l0, l1, l2, h)) s.1 s.2.1 s.2.2.1 s.2.2.2) N (l0, l1, l2, h)
set_option maxRecDepth 100000 in
set_option maxHeartbeats 4000000 in
theorem P_X12_fewest_0 {q : eT} {r0 : Int32} {h0 : eH} (hq : e_B q yX12_fewest.cls cX12_fewest 7 2 44 (some .int) yX12_fewest.name) (he : e_E q) (N : Nat) (l0 : Nat) (l1 : Int32) (h : eH) : e_K eI q r0 h0 0 [(0, .ref l0), (1, .int l1)] [] h (F_X12_fewest N l0 l1 h) := by
  unfold F_X12_fewest
  refine k_iconst hq dX12_fewest_0 (v := 0) rfl ?_
  refine k_istore_n hq dX12_fewest_1 rfl (by decide) (ls' := [(2, .int 0), (0, .ref l0), (1, .int l1)]) rfl ?_
  exact k_sub [1, 2, 0] rfl (Q_X12_fewest_2 hq he N l0 l1 0 h)
theorem con_X12_fewest (l : Launch) (G : eG) (B0 n : Nat) (N : Nat) (l0 : Nat) (l1 : Int32) : e_C eI l G B0 n yX12_fewest cX12_fewest 7 (some .int) 2 44 [.ref l0, .int l1] (F_X12_fewest N l0 l1) := by
  refine e_mk (by decide) (Nat.le_of_ble_eq_true rfl) fun q r0 h0 h hq he e1 e2 e3 e4 => ?_
  subst e1; subst e2; subst e3; subst e4
  exact P_X12_fewest_0 hq he N l0 l1 h
