set_option maxRecDepth 100000 in
set_option maxHeartbeats 4000000 in
theorem P_X12_joinedAll_123 {q : eT} {r0 : Int64} {h0 : eH} (hq : e_B q yX12_joinedAll.cls cX12_joinedAll 12 2 55 (some .long) yX12_joinedAll.name) (he : e_E q) (N : Nat) (k22 : Nat → Int32 → Int32 → Int32 → Int64 → Int32 → Int32 → Int32 → eH → Option (Int64 × eH)) (k40 : Nat → Int32 → Int32 → Int32 → Int64 → Int32 → Int32 → Int32 → Int32 → Int32 → eH → Option (Int64 × eH)) (hk22 : ∀ (l0 : Nat) (l1 : Int32) (l2 : Int32) (l3 : Int32) (l4 : Int64) (l6 : Int32) (l7 : Int32) (l8 : Int32) h, e_K eL q r0 h0 22 [(0, .ref l0), (1, .int l1), (2, .int l2), (3, .int l3), (4, .long l4), (6, .int l6), (7, .int l7), (8, .int l8)] [] h (k22 l0 l1 l2 l3 l4 l6 l7 l8 h)) (hk40 : ∀ (l0 : Nat) (l1 : Int32) (l2 : Int32) (l3 : Int32) (l4 : Int64) (l6 : Int32) (l7 : Int32) (l8 : Int32) (l9 : Int32) (l10 : Int32) h, e_K eL q r0 h0 40 [(0, .ref l0), (1, .int l1), (2, .int l2), (3, .int l3), (4, .long l4), (6, .int l6), (7, .int l7), (8, .int l8), (9, .int l9), (10, .int l10)] [] h (k40 l0 l1 l2 l3 l4 l6 l7 l8 l9 l10 h)) (l0 : Nat) (l1 : Int32) (l2 : Int32) (l3 : Int32) (l4 : Int64) (l6 : Int32) (l7 : Int32) (l8 : Int32) (l10 : Int32) (s0 : Int32) (h : eH) : e_K eL q r0 h0 123 [(0, .ref l0), (1, .int l1), (2, .int l2), (3, .int l3), (4, .long l4), (6, .int l6), (7, .int l7), (8, .int l8), (10, .int l10)] [.int s0] h (F_X12_joinedAll_123 N k22 k40 l0 l1 l2 l3 l4 l6 l7 l8 l10 s0 h) := by
  unfold F_X12_joinedAll_123
  refine k_istore hq dX12_joinedAll_123 (by decide) (ls' := [(9, .int s0), (0, .ref l0), (1, .int l1), (2, .int l2), (3, .int l3), (4, .long l4), (6, .int l6), (7, .int l7), (8, .int l8), (10, .int l10)]) rfl ?_
  refine k_iinc hq dX12_joinedAll_125 9 rfl (v := l10 + 1) rfl (by decide) (ls' := [(10, .int (l10 + 1)), (9, .int s0), (0, .ref l0), (1, .int l1), (2, .int l2), (3, .int l3), (4, .long l4), (6, .int l6), (7, .int l7), (8, .int l8)]) rfl ?_
  refine k_goto hq (tgt := 40) dX12_joinedAll_128 (by decide) ?_
  exact k_sub [2, 3, 4, 5, 6, 7, 8, 9, 1, 0] rfl (hk40 l0 l1 l2 l3 l4 l6 l7 l8 s0 (l10 + 1) h)
set_option maxRecDepth 100000 in
set_option maxHeartbeats 4000000 in
theorem P_X12_joinedAll_116 {q : eT} {r0 : Int64} {h0 : eH} (hq : e_B q yX12_joinedAll.cls cX12_joinedAll 12 2 55 (some .long) yX12_joinedAll.name) (he : e_E q) (N : Nat) (k22 : Nat → Int32 → Int32 → Int32 → Int64 → Int32 → Int32 → Int32 → eH → Option (Int64 × eH)) (k40 : Nat → Int32 → Int32 → Int32 → Int64 → Int32 → Int32 → Int32 → Int32 → Int32 → eH → Option (Int64 × eH)) (hk22 : ∀ (l0 : Nat) (l1 : Int32) (l2 : Int32) (l3 : Int32) (l4 : Int64) (l6 : Int32) (l7 : Int32) (l8 : Int32) h, e_K eL q r0 h0 22 [(0, .ref l0), (1, .int l1), (2, .int l2), (3, .int l3), (4, .long l4), (6, .int l6), (7, .int l7), (8, .int l8)] [] h (k22 l0 l1 l2 l3 l4 l6 l7 l8 h)) (hk40 : ∀ (l0 : Nat) (l1 : Int32) (l2 : Int32) (l3 : Int32) (l4 : Int64) (l6 : Int32) (l7 : Int32) (l8 : Int32) (l9 : Int32) (l10 : Int32) h, e_K eL q r0 h0 40 [(0, .ref l0), (1, .int l1), (2, .int l2), (3, .int l3), (4, .long l4), (6, .int l6), (7, .int l7), (8, .int l8), (9, .int l9), (10, .int l10)] [] h (k40 l0 l1 l2 l3 l4 l6 l7 l8 l9 l10 h)) (l0 : Nat) (l1 : Int32) (l2 : Int32) (l3 : Int32) (l4 : Int64) (l6 : Int32) (l7 : Int32) (l8 : Int32) (l10 : Int32) (h : eH) : e_K eL q r0 h0 116 [(0, .ref l0), (1, .int l1), (2, .int l2), (3, .int l3), (4, .long l4), (6, .int l6), (7, .int l7), (8, .int l8), (10, .int l10)] [] h (F_X12_joinedAll_116 N k22 k40 l0 l1 l2 l3 l4 l6 l7 l8 l10 h) := by
  unfold F_X12_joinedAll_116
  refine k_iload hq dX12_joinedAll_116 8 rfl ?_
  refine k_goto hq (tgt := 123) dX12_joinedAll_118 (by decide) ?_
  exact k_sub [0, 1, 2, 3, 4, 5, 6, 7, 8] rfl (P_X12_joinedAll_123 hq he N k22 k40 hk22 hk40 l0 l1 l2 l3 l4 l6 l7 l8 l10 l10 h)
set_option maxRecDepth 100000 in
set_option maxHeartbeats 4000000 in
theorem P_X12_joinedAll_121 {q : eT} {r0 : Int64} {h0 : eH} (hq : e_B q yX12_joinedAll.cls cX12_joinedAll 12 2 55 (some .long) yX12_joinedAll.name) (he : e_E q) (N : Nat) (k22 : Nat → Int32 → Int32 → Int32 → Int64 → Int32 → Int32 → Int32 → eH → Option (Int64 × eH)) (k40 : Nat → Int32 → Int32 → Int32 → Int64 → Int32 → Int32 → Int32 → Int32 → Int32 → eH → Option (Int64 × eH)) (hk22 : ∀ (l0 : Nat) (l1 : Int32) (l2 : Int32) (l3 : Int32) (l4 : Int64) (l6 : Int32) (l7 : Int32) (l8 : Int32) h, e_K eL q r0 h0 22 [(0, .ref l0), (1, .int l1), (2, .int l2), (3, .int l3), (4, .long l4), (6, .int l6), (7, .int l7), (8, .int l8)] [] h (k22 l0 l1 l2 l3 l4 l6 l7 l8 h)) (hk40 : ∀ (l0 : Nat) (l1 : Int32) (l2 : Int32) (l3 : Int32) (l4 : Int64) (l6 : Int32) (l7 : Int32) (l8 : Int32) (l9 : Int32) (l10 : Int32) h, e_K eL q r0 h0 40 [(0, .ref l0), (1, .int l1), (2, .int l2), (3, .int l3), (4, .long l4), (6, .int l6), (7, .int l7), (8, .int l8), (9, .int l9), (10, .int l10)] [] h (k40 l0 l1 l2 l3 l4 l6 l7 l8 l9 l10 h)) (l0 : Nat) (l1 : Int32) (l2 : Int32) (l3 : Int32) (l4 : Int64) (l6 : Int32) (l7 : Int32) (l8 : Int32) (l9 : Int32) (l10 : Int32) (h : eH) : e_K eL q r0 h0 121 [(0, .ref l0), (1, .int l1), (2, .int l2), (3, .int l3), (4, .long l4), (6, .int l6), (7, .int l7), (8, .int l8), (9, .int l9), (10, .int l10)] [] h (F_X12_joinedAll_121 N k22 k40 l0 l1 l2 l3 l4 l6 l7 l8 l9 l10 h) := by
  unfold F_X12_joinedAll_121
  refine k_iload hq dX12_joinedAll_121 8 rfl ?_
  exact k_sub [0, 1, 2, 3, 4, 5, 6, 7, 9] rfl (P_X12_joinedAll_123 hq he N k22 k40 hk22 hk40 l0 l1 l2 l3 l4 l6 l7 l8 l10 l9 h)
set_option maxRecDepth 100000 in
set_option maxHeartbeats 4000000 in
theorem P_X12_joinedAll_85 {q : eT} {r0 : Int64} {h0 : eH} (hq : e_B q yX12_joinedAll.cls cX12_joinedAll 12 2 55 (some .long) yX12_joinedAll.name) (he : e_E q) (N : Nat) (k22 : Nat → Int32 → Int32 → Int32 → Int64 → Int32 → Int32 → Int32 → eH → Option (Int64 × eH)) (k40 : Nat → Int32 → Int32 → Int32 → Int64 → Int32 → Int32 → Int32 → Int32 → Int32 → eH → Option (Int64 × eH)) (hk22 : ∀ (l0 : Nat) (l1 : Int32) (l2 : Int32) (l3 : Int32) (l4 : Int64) (l6 : Int32) (l7 : Int32) (l8 : Int32) h, e_K eL q r0 h0 22 [(0, .ref l0), (1, .int l1), (2, .int l2), (3, .int l3), (4, .long l4), (6, .int l6), (7, .int l7), (8, .int l8)] [] h (k22 l0 l1 l2 l3 l4 l6 l7 l8 h)) (hk40 : ∀ (l0 : Nat) (l1 : Int32) (l2 : Int32) (l3 : Int32) (l4 : Int64) (l6 : Int32) (l7 : Int32) (l8 : Int32) (l9 : Int32) (l10 : Int32) h, e_K eL q r0 h0 40 [(0, .ref l0), (1, .int l1), (2, .int l2), (3, .int l3), (4, .long l4), (6, .int l6), (7, .int l7), (8, .int l8), (9, .int l9), (10, .int l10)] [] h (k40 l0 l1 l2 l3 l4 l6 l7 l8 l9 l10 h)) (l0 : Nat) (l1 : Int32) (l2 : Int32) (l3 : Int32) (l4 : Int64) (l6 : Int32) (l7 : Int32) (l8 : Int32) (l9 : Int32) (l10 : Int32) (s0 : Int32) (h : eH) : e_K eL q r0 h0 85 [(0, .ref l0), (1, .int l1), (2, .int l2), (3, .int l3), (4, .long l4), (6, .int l6), (7, .int l7), (8, .int l8), (9, .int l9), (10, .int l10)] [.int s0] h (F_X12_joinedAll_85 N k22 k40 l0 l1 l2 l3 l4 l6 l7 l8 l9 l10 s0 h) := by
  unfold F_X12_joinedAll_85
  refine k_istore hq dX12_joinedAll_85 (by decide) (ls' := [(11, .int s0), (0, .ref l0), (1, .int l1), (2, .int l2), (3, .int l3), (4, .long l4), (6, .int l6), (7, .int l7), (8, .int l8), (9, .int l9), (10, .int l10)]) rfl ?_
  refine k_iload hq dX12_joinedAll_87 0 rfl ?_
  refine k_if_eq hq (tgt := 121) dX12_joinedAll_89 (by decide) (fun _ => ?_) (fun _ => ?_)
  · exact k_sub [1, 2, 3, 4, 5, 6, 7, 8, 9, 10] rfl (P_X12_joinedAll_121 hq he N k22 k40 hk22 hk40 l0 l1 l2 l3 l4 l6 l7 l8 l9 l10 h)
  · refine k_iload hq dX12_joinedAll_92 9 rfl ?_
    refine k_bipush hq dX12_joinedAll_94 (v := (-9)) rfl ?_
    refine k_icmp_eq hq (tgt := 116) dX12_joinedAll_96 (by decide) (fun _ => ?_) (fun _ => ?_)
    · exact k_sub [1, 2, 3, 4, 5, 6, 7, 8, 10] rfl (P_X12_joinedAll_116 hq he N k22 k40 hk22 hk40 l0 l1 l2 l3 l4 l6 l7 l8 l10 h)
    · refine k_aload_n hq dX12_joinedAll_99 1 rfl ?_
      refine k_gr hq (C := RX12) (T := TX12) 11 7 rfl (by decide) (lay_X12 7 (by decide)) tw_934 dX12_joinedAll_100 fun v1 => ?_
      refine k_iload hq dX12_joinedAll_103 10 rfl ?_
      refine k_iald hq dX12_joinedAll_105 fun v2 => ?_
      refine k_aload_n hq dX12_joinedAll_106 1 rfl ?_
      refine k_gr hq (C := RX12) (T := TX12) 11 7 rfl (by decide) (lay_X12 7 (by decide)) tw_934 dX12_joinedAll_107 fun v3 => ?_
      refine k_iload hq dX12_joinedAll_110 9 rfl ?_
      refine k_iald hq dX12_joinedAll_112 fun v4 => ?_
      refine k_icmp_ge hq (tgt := 121) dX12_joinedAll_113 (by decide) (fun _ => ?_) (fun _ => ?_)
      · exact k_sub [1, 2, 3, 4, 5, 6, 7, 8, 9, 10] rfl (P_X12_joinedAll_121 hq he N k22 k40 hk22 hk40 l0 l1 l2 l3 l4 l6 l7 l8 l9 l10 h)
      · exact k_sub [1, 2, 3, 4, 5, 6, 7, 8, 10] rfl (P_X12_joinedAll_116 hq he N k22 k40 hk22 hk40 l0 l1 l2 l3 l4 l6 l7 l8 l10 h)
set_option maxRecDepth 100000 in
set_option maxHeartbeats 4000000 in
theorem P_X12_joinedAll_84 {q : eT} {r0 : Int64} {h0 : eH} (hq : e_B q yX12_joinedAll.cls cX12_joinedAll 12 2 55 (some .long) yX12_joinedAll.name) (he : e_E q) (N : Nat) (k22 : Nat → Int32 → Int32 → Int32 → Int64 → Int32 → Int32 → Int32 → eH → Option (Int64 × eH)) (k40 : Nat → Int32 → Int32 → Int32 → Int64 → Int32 → Int32 → Int32 → Int32 → Int32 → eH → Option (Int64 × eH)) (hk22 : ∀ (l0 : Nat) (l1 : Int32) (l2 : Int32) (l3 : Int32) (l4 : Int64) (l6 : Int32) (l7 : Int32) (l8 : Int32) h, e_K eL q r0 h0 22 [(0, .ref l0), (1, .int l1), (2, .int l2), (3, .int l3), (4, .long l4), (6, .int l6), (7, .int l7), (8, .int l8)] [] h (k22 l0 l1 l2 l3 l4 l6 l7 l8 h)) (hk40 : ∀ (l0 : Nat) (l1 : Int32) (l2 : Int32) (l3 : Int32) (l4 : Int64) (l6 : Int32) (l7 : Int32) (l8 : Int32) (l9 : Int32) (l10 : Int32) h, e_K eL q r0 h0 40 [(0, .ref l0), (1, .int l1), (2, .int l2), (3, .int l3), (4, .long l4), (6, .int l6), (7, .int l7), (8, .int l8), (9, .int l9), (10, .int l10)] [] h (k40 l0 l1 l2 l3 l4 l6 l7 l8 l9 l10 h)) (l0 : Nat) (l1 : Int32) (l2 : Int32) (l3 : Int32) (l4 : Int64) (l6 : Int32) (l7 : Int32) (l8 : Int32) (l9 : Int32) (l10 : Int32) (h : eH) : e_K eL q r0 h0 84 [(0, .ref l0), (1, .int l1), (2, .int l2), (3, .int l3), (4, .long l4), (6, .int l6), (7, .int l7), (8, .int l8), (9, .int l9), (10, .int l10)] [] h (F_X12_joinedAll_84 N k22 k40 l0 l1 l2 l3 l4 l6 l7 l8 l9 l10 h) := by
  unfold F_X12_joinedAll_84
  refine k_iconst hq dX12_joinedAll_84 (v := 0) rfl ?_
  exact k_sub [0, 1, 2, 3, 4, 5, 6, 7, 8, 9] rfl (P_X12_joinedAll_85 hq he N k22 k40 hk22 hk40 l0 l1 l2 l3 l4 l6 l7 l8 l9 l10 0 h)
set_option maxRecDepth 100000 in
set_option maxHeartbeats 4000000 in
theorem P_X12_joinedAll_170 {q : eT} {r0 : Int64} {h0 : eH} (hq : e_B q yX12_joinedAll.cls cX12_joinedAll 12 2 55 (some .long) yX12_joinedAll.name) (he : e_E q) (N : Nat) (k22 : Nat → Int32 → Int32 → Int32 → Int64 → Int32 → Int32 → Int32 → eH → Option (Int64 × eH)) (hk22 : ∀ (l0 : Nat) (l1 : Int32) (l2 : Int32) (l3 : Int32) (l4 : Int64) (l6 : Int32) (l7 : Int32) (l8 : Int32) h, e_K eL q r0 h0 22 [(0, .ref l0), (1, .int l1), (2, .int l2), (3, .int l3), (4, .long l4), (6, .int l6), (7, .int l7), (8, .int l8)] [] h (k22 l0 l1 l2 l3 l4 l6 l7 l8 h)) (l0 : Nat) (l1 : Int32) (l2 : Int32) (l3 : Int32) (l6 : Int32) (l7 : Int32) (l8 : Int32) (s0 : Int64) (h : eH) : e_K eL q r0 h0 170 [(0, .ref l0), (1, .int l1), (2, .int l2), (3, .int l3), (6, .int l6), (7, .int l7), (8, .int l8)] [.long s0] h (F_X12_joinedAll_170 N k22 l0 l1 l2 l3 l6 l7 l8 s0 h) := by
  unfold F_X12_joinedAll_170
  refine k_lstore hq dX12_joinedAll_170 (by decide) (ls' := [(4, .long s0), (0, .ref l0), (1, .int l1), (2, .int l2), (3, .int l3), (6, .int l6), (7, .int l7), (8, .int l8)]) rfl ?_
  refine k_iinc hq dX12_joinedAll_172 7 rfl (v := l8 + 1) rfl (by decide) (ls' := [(8, .int (l8 + 1)), (4, .long s0), (0, .ref l0), (1, .int l1), (2, .int l2), (3, .int l3), (6, .int l6), (7, .int l7)]) rfl ?_
  refine k_goto hq (tgt := 22) dX12_joinedAll_175 (by decide) ?_
  exact k_sub [2, 3, 4, 5, 1, 6, 7, 0] rfl (hk22 l0 l1 l2 l3 s0 l6 l7 (l8 + 1) h)
set_option maxRecDepth 100000 in
set_option maxHeartbeats 4000000 in
theorem P_X12_joinedAll_40b {q : eT} {r0 : Int64} {h0 : eH} (hq : e_B q yX12_joinedAll.cls cX12_joinedAll 12 2 55 (some .long) yX12_joinedAll.name) (he : e_E q) (N : Nat) (k22 : Nat → Int32 → Int32 → Int32 → Int64 → Int32 → Int32 → Int32 → eH → Option (Int64 × eH)) (k40 : Nat → Int32 → Int32 → Int32 → Int64 → Int32 → Int32 → Int32 → Int32 → Int32 → eH → Option (Int64 × eH)) (hk22 : ∀ (l0 : Nat) (l1 : Int32) (l2 : Int32) (l3 : Int32) (l4 : Int64) (l6 : Int32) (l7 : Int32) (l8 : Int32) h, e_K eL q r0 h0 22 [(0, .ref l0), (1, .int l1), (2, .int l2), (3, .int l3), (4, .long l4), (6, .int l6), (7, .int l7), (8, .int l8)] [] h (k22 l0 l1 l2 l3 l4 l6 l7 l8 h)) (hk40 : ∀ (l0 : Nat) (l1 : Int32) (l2 : Int32) (l3 : Int32) (l4 : Int64) (l6 : Int32) (l7 : Int32) (l8 : Int32) (l9 : Int32) (l10 : Int32) h, e_K eL q r0 h0 40 [(0, .ref l0), (1, .int l1), (2, .int l2), (3, .int l3), (4, .long l4), (6, .int l6), (7, .int l7), (8, .int l8), (9, .int l9), (10, .int l10)] [] h (k40 l0 l1 l2 l3 l4 l6 l7 l8 l9 l10 h)) (l0 : Nat) (l1 : Int32) (l2 : Int32) (l3 : Int32) (l4 : Int64) (l6 : Int32) (l7 : Int32) (l8 : Int32) (l9 : Int32) (l10 : Int32) (h : eH) : e_K eL q r0 h0 40 [(0, .ref l0), (1, .int l1), (2, .int l2), (3, .int l3), (4, .long l4), (6, .int l6), (7, .int l7), (8, .int l8), (9, .int l9), (10, .int l10)] [] h (F_X12_joinedAll_40b N k22 k40 l0 l1 l2 l3 l4 l6 l7 l8 l9 l10 h) := by
  unfold F_X12_joinedAll_40b
  refine k_iload hq dX12_joinedAll_40 9 rfl ?_
  refine k_sipush hq dX12_joinedAll_42 (v := 164) rfl ?_
  refine k_iload_n hq dX12_joinedAll_45 2 rfl ?_
  refine k_imul hq dX12_joinedAll_46 ?_
  refine k_sipush hq dX12_joinedAll_47 (v := 164) rfl ?_
  refine k_iadd hq dX12_joinedAll_50 ?_
  refine k_icmp_ge hq (tgt := 131) dX12_joinedAll_51 (by decide) (fun _ => ?_) (fun _ => ?_)
  · refine k_aload_n hq dX12_joinedAll_131 0 rfl ?_
    refine k_gr hq (C := RX12) (T := TX12) 11 7 rfl (by decide) (lay_X12 7 (by decide)) tw_934 dX12_joinedAll_132 fun v1 => ?_
    refine k_iload hq dX12_joinedAll_135 8 rfl ?_
    refine k_iald hq dX12_joinedAll_137 fun v2 => ?_
    refine k_istore hq dX12_joinedAll_138 (by decide) (ls' := [(6, .int v2), (0, .ref l0), (1, .int l1), (2, .int l2), (3, .int l3), (4, .long l4), (7, .int l7), (8, .int l8), (9, .int l9), (10, .int l10)]) rfl ?_
    refine k_iload hq dX12_joinedAll_140 7 rfl ?_
    refine k_if_ne hq (tgt := 155) dX12_joinedAll_142 (by decide) (fun _ => ?_) (fun _ => ?_)
    · refine k_aload_n hq dX12_joinedAll_145 1 rfl ?_
      refine k_gr hq (C := RX12) (T := TX12) 11 6 rfl (by decide) (lay_X12 6 (by decide)) tw_933 dX12_joinedAll_146 fun v7 => ?_
      refine k_iload hq dX12_joinedAll_149 8 rfl ?_
      refine k_lald hq dX12_joinedAll_151 fun v8 => ?_
      refine k_goto hq (tgt := 170) dX12_joinedAll_152 (by decide) ?_
      exact k_sub [1, 2, 3, 4, 0, 6, 7] rfl (P_X12_joinedAll_170 hq he N k22 hk22 l0 l1 l2 l3 v2 l7 l8 v8 h)
    · refine k_aload_n hq dX12_joinedAll_155 1 rfl ?_
      refine k_iload_n hq dX12_joinedAll_156 3 rfl ?_
      refine k_iload_n hq dX12_joinedAll_157 4 rfl ?_
      refine k_lload hq dX12_joinedAll_158 5 rfl ?_
      refine k_aload_n hq dX12_joinedAll_160 1 rfl ?_
      refine k_gr hq (C := RX12) (T := TX12) 11 6 rfl (by decide) (lay_X12 6 (by decide)) tw_933 dX12_joinedAll_161 fun v3 => ?_
      refine k_iload hq dX12_joinedAll_164 8 rfl ?_
      refine k_lald hq dX12_joinedAll_166 fun v4 => ?_
      refine k_callV hq (na := 4) (As := [.int l2, .int l3, .long l4, .long v4]) (st := []) 11 (C := RX12) (T := TX12) rfl (con_X12_joined _ _ _ _ N l0 l2 l3 l4 v4) tw_1162 tw_59 tw_1159 tw_1161 tw_36 ⟨by decide, by decide, by decide +kernel⟩ rfl (by decide) rfl (Nat.le_of_ble_eq_true rfl) dX12_joinedAll_167 fun v5 h6 => ?_
      exact k_sub [1, 2, 3, 4, 0, 6, 7] rfl (P_X12_joinedAll_170 hq he N k22 hk22 l0 l1 l2 l3 v2 l7 l8 v5 h6)
  · refine k_aload_n hq dX12_joinedAll_54 0 rfl ?_
    refine k_gr hq (C := RX12) (T := TX12) 11 14 rfl (by decide) (lay_X12 14 (by decide)) tw_941 dX12_joinedAll_55 fun v9 => ?_
    refine k_iload hq dX12_joinedAll_58 9 rfl ?_
    refine k_iald hq dX12_joinedAll_60 fun v10 => ?_
    refine k_iload_n hq dX12_joinedAll_61 1 rfl ?_
    refine k_callS hq (na := 2) (As := [.int v10, .int l1]) (st := []) (con_X12_has _ _ _ _ v10 l1) tw_1118 tw_59 tw_1116 tw_1117 ⟨by decide, by decide, by decide +kernel⟩ rfl (by decide) rfl (Nat.le_of_ble_eq_true rfl) dX12_joinedAll_62 fun v11 h12 => ?_
    refine k_if_eq hq (tgt := 84) dX12_joinedAll_65 (by decide) (fun _ => ?_) (fun _ => ?_)
    · exact k_sub [0, 1, 2, 3, 4, 5, 6, 7, 8, 9] rfl (P_X12_joinedAll_84 hq he N k22 k40 hk22 hk40 l0 l1 l2 l3 l4 l6 l7 l8 l9 l10 h12)
    · refine k_aload_n hq dX12_joinedAll_68 0 rfl ?_
      refine k_gr hq (C := RX12) (T := TX12) 11 7 rfl (by decide) (lay_X12 7 (by decide)) tw_934 dX12_joinedAll_69 fun v13 => ?_
      refine k_iload hq dX12_joinedAll_72 9 rfl ?_
      refine k_iald hq dX12_joinedAll_74 fun v14 => ?_
      refine k_iload hq dX12_joinedAll_75 5 rfl ?_
      refine k_icmp_le hq (tgt := 84) dX12_joinedAll_77 (by decide) (fun _ => ?_) (fun _ => ?_)
      · exact k_sub [0, 1, 2, 3, 4, 5, 6, 7, 8, 9] rfl (P_X12_joinedAll_84 hq he N k22 k40 hk22 hk40 l0 l1 l2 l3 l4 l6 l7 l8 l9 l10 h12)
      · refine k_iconst hq dX12_joinedAll_80 (v := 1) rfl ?_
        refine k_goto hq (tgt := 85) dX12_joinedAll_81 (by decide) ?_
        exact k_sub [0, 1, 2, 3, 4, 5, 6, 7, 8, 9] rfl (P_X12_joinedAll_85 hq he N k22 k40 hk22 hk40 l0 l1 l2 l3 l4 l6 l7 l8 l9 l10 1 h12)
theorem Q_X12_joinedAll_40 {q : eT} {r0 : Int64} {h0 : eH} (hq : e_B q yX12_joinedAll.cls cX12_joinedAll 12 2 55 (some .long) yX12_joinedAll.name) (he : e_E q) (N : Nat) (k22 : Nat → Int32 → Int32 → Int32 → Int64 → Int32 → Int32 → Int32 → eH → Option (Int64 × eH)) (hk22 : ∀ (l0 : Nat) (l1 : Int32) (l2 : Int32) (l3 : Int32) (l4 : Int64) (l6 : Int32) (l7 : Int32) (l8 : Int32) h, e_K eL q r0 h0 22 [(0, .ref l0), (1, .int l1), (2, .int l2), (3, .int l3), (4, .long l4), (6, .int l6), (7, .int l7), (8, .int l8)] [] h (k22 l0 l1 l2 l3 l4 l6 l7 l8 h)) (l0 : Nat) (l1 : Int32) (l2 : Int32) (l3 : Int32) (l4 : Int64) (l6 : Int32) (l7 : Int32) (l8 : Int32) (l9 : Int32) (l10 : Int32) (h : eH) : e_K eL q r0 h0 40 [(0, .ref l0), (1, .int l1), (2, .int l2), (3, .int l3), (4, .long l4), (6, .int l6), (7, .int l7), (8, .int l8), (9, .int l9), (10, .int l10)] [] h (L_X12_joinedAll_40 N k22 l0 l1 l2 l3 l4 l6 l7 l8 l9 l10 h) :=
  k_loop (mk := (fun s => [(0, .ref s.1), (1, .int s.2.1), (2, .int s.2.2.1), (3, .int s.2.2.2.1), (4, .long s.2.2.2.2.1), (6, .int s.2.2.2.2.2.1), (7, .int s.2.2.2.2.2.2.1), (8, .int s.2.2.2.2.2.2.2.1), (9, .int s.2.2.2.2.2.2.2.2.1), (10, .int s.2.2.2.2.2.2.2.2.2.1)])) (hp := fun s => s.2.2.2.2.2.2.2.2.2.2) (fun k hk s => P_X12_joinedAll_40b hq he N k22 (fun l0 l1 l2 l3 l4 l6 l7 l8 l9 l10 h => k (l0, l1, l2, l3, l4, l6, l7, l8, l9, l10, h)) hk22 (fun l0 l1 l2 l3 l4 l6 l7 l8 l9 l10 h => hk (l0, l1, l2, l3, l4, l6, l7, l8, l9, l10, h)) s.1 s.2.1 s.2.2.1 s.2.2.2.1 s.2.2.2.2.1 s.2.2.2.2.2.1 s.2.2.2.2.2.2.1 s.2.2.2.2.2.2.2.1 s.2.2.2.2.2.2.2.2.1 s.2.2.2.2.2.2.2.2.2.1 s.2.2.2.2.2.2.2.2.2.2) N (l0, l1, l2, l3, l4, l6, l7, l8, l9, l10, h)
set_option maxRecDepth 100000 in
set_option maxHeartbeats 4000000 in
theorem P_X12_joinedAll_224 {q : eT} {r0 : Int64} {h0 : eH} (hq : e_B q yX12_joinedAll.cls cX12_joinedAll 12 2 55 (some .long) yX12_joinedAll.name) (he : e_E q) (N : Nat) (l4 : Int64) (s0 : Nat) (s1 : Int32) (h : eH) : e_K eL q r0 h0 224 [(4, .long l4)] [.int s1, .ref s0] h (F_X12_joinedAll_224 N l4 s0 s1 h) := by
  unfold F_X12_joinedAll_224
  refine k_pz hq (C := RX12) (T := TX12) 11 35 rfl (by decide) lay_X12 tyX12 tyX12_ok nmX12 tw_962 rfl rfl dX12_joinedAll_224 fun h1 => ?_
  refine k_lload hq dX12_joinedAll_227 0 rfl ?_
  refine k_lneg hq dX12_joinedAll_229 ?_
  refine k_let (mk := fun z => .long z :: []) fun v2 _ => ?_
  refine k_lstore hq dX12_joinedAll_230 (by decide) (ls' := [(4, .long v2)]) rfl ?_
  refine k_lload hq dX12_joinedAll_232 0 rfl ?_
  exact k_lret hq dX12_joinedAll_234 he
set_option maxRecDepth 100000 in
set_option maxHeartbeats 4000000 in
theorem P_X12_joinedAll_207 {q : eT} {r0 : Int64} {h0 : eH} (hq : e_B q yX12_joinedAll.cls cX12_joinedAll 12 2 55 (some .long) yX12_joinedAll.name) (he : e_E q) (N : Nat) (l0 : Nat) (s0 : Int64) (h : eH) : e_K eL q r0 h0 207 [(0, .ref l0)] [.long s0] h (F_X12_joinedAll_207 N l0 s0 h) := by
  unfold F_X12_joinedAll_207
  refine k_lstore hq dX12_joinedAll_207 (by decide) (ls' := [(4, .long s0), (0, .ref l0)]) rfl ?_
  refine k_aload_n hq dX12_joinedAll_209 1 rfl ?_
  refine k_lload hq dX12_joinedAll_210 0 rfl ?_
  refine k_ldc2 hq (v := (-9223372036854775808)) tw_1170 dX12_joinedAll_212 ?_
  refine k_lcmp hq dX12_joinedAll_215 ?_
  refine k_if_ne hq (tgt := 223) dX12_joinedAll_216 (by decide) (fun _ => ?_) (fun _ => ?_)
  · refine k_iconst hq dX12_joinedAll_219 (v := 1) rfl ?_
    refine k_goto hq (tgt := 224) dX12_joinedAll_220 (by decide) ?_
    exact k_sub [0] rfl (P_X12_joinedAll_224 hq he N s0 l0 1 h)
  · refine k_iconst hq dX12_joinedAll_223 (v := 0) rfl ?_
    exact k_sub [0] rfl (P_X12_joinedAll_224 hq he N s0 l0 0 h)
set_option maxRecDepth 100000 in
set_option maxHeartbeats 4000000 in
theorem P_X12_joinedAll_22b {q : eT} {r0 : Int64} {h0 : eH} (hq : e_B q yX12_joinedAll.cls cX12_joinedAll 12 2 55 (some .long) yX12_joinedAll.name) (he : e_E q) (N : Nat) (k22 : Nat → Int32 → Int32 → Int32 → Int64 → Int32 → Int32 → Int32 → eH → Option (Int64 × eH)) (hk22 : ∀ (l0 : Nat) (l1 : Int32) (l2 : Int32) (l3 : Int32) (l4 : Int64) (l6 : Int32) (l7 : Int32) (l8 : Int32) h, e_K eL q r0 h0 22 [(0, .ref l0), (1, .int l1), (2, .int l2), (3, .int l3), (4, .long l4), (6, .int l6), (7, .int l7), (8, .int l8)] [] h (k22 l0 l1 l2 l3 l4 l6 l7 l8 h)) (l0 : Nat) (l1 : Int32) (l2 : Int32) (l3 : Int32) (l4 : Int64) (l6 : Int32) (l7 : Int32) (l8 : Int32) (h : eH) : e_K eL q r0 h0 22 [(0, .ref l0), (1, .int l1), (2, .int l2), (3, .int l3), (4, .long l4), (6, .int l6), (7, .int l7), (8, .int l8)] [] h (F_X12_joinedAll_22b N k22 l0 l1 l2 l3 l4 l6 l7 l8 h) := by
  unfold F_X12_joinedAll_22b
  refine k_iload hq dX12_joinedAll_22 7 rfl ?_
  refine k_iload hq dX12_joinedAll_24 6 rfl ?_
  refine k_icmp_ge hq (tgt := 178) dX12_joinedAll_26 (by decide) (fun _ => ?_) (fun _ => ?_)
  · refine k_iload_n hq dX12_joinedAll_178 3 rfl ?_
    refine k_iconst hq dX12_joinedAll_179 (v := 3) rfl ?_
    refine k_icmp_ne hq (tgt := 232) dX12_joinedAll_180 (by decide) (fun _ => ?_) (fun _ => ?_)
    · refine k_aload_n hq dX12_joinedAll_183 0 rfl ?_
      refine k_gr hq (C := RX12) (T := TX12) 11 4 rfl (by decide) (lay_X12 4 (by decide)) tw_931 dX12_joinedAll_184 fun v1 => ?_
      refine k_iload_n hq dX12_joinedAll_187 2 rfl ?_
      refine k_iald hq dX12_joinedAll_188 fun v2 => ?_
      refine k_if_ne hq (tgt := 232) dX12_joinedAll_189 (by decide) (fun _ => ?_) (fun _ => ?_)
      · refine k_lload hq dX12_joinedAll_192 4 rfl ?_
        refine k_lconst hq dX12_joinedAll_194 (v := 0) rfl ?_
        refine k_lcmp hq dX12_joinedAll_195 ?_
        refine k_if_le hq (tgt := 205) dX12_joinedAll_196 (by decide) (fun _ => ?_) (fun _ => ?_)
        · refine k_lload hq dX12_joinedAll_205 4 rfl ?_
          exact k_sub [0] rfl (P_X12_joinedAll_207 hq he N l0 l4 h)
        · refine k_lload hq dX12_joinedAll_199 4 rfl ?_
          refine k_lneg hq dX12_joinedAll_201 ?_
          refine k_goto hq (tgt := 207) dX12_joinedAll_202 (by decide) ?_
          exact k_sub [0] rfl (P_X12_joinedAll_207 hq he N l0 (-l4) h)
      · refine k_lload hq dX12_joinedAll_232 4 rfl ?_
        exact k_lret hq dX12_joinedAll_234 he
    · refine k_lload hq dX12_joinedAll_232 4 rfl ?_
      exact k_lret hq dX12_joinedAll_234 he
  · refine k_bipush hq dX12_joinedAll_29 (v := (-9)) rfl ?_
    refine k_istore hq dX12_joinedAll_31 (by decide) (ls' := [(9, .int (-9)), (0, .ref l0), (1, .int l1), (2, .int l2), (3, .int l3), (4, .long l4), (6, .int l6), (7, .int l7), (8, .int l8)]) rfl ?_
    refine k_sipush hq dX12_joinedAll_33 (v := 164) rfl ?_
    refine k_iload_n hq dX12_joinedAll_36 3 rfl ?_
    refine k_imul hq dX12_joinedAll_37 ?_
    refine k_let (mk := fun z => .int z :: []) fun v3 _ => ?_
    refine k_istore hq dX12_joinedAll_38 (by decide) (ls' := [(10, .int v3), (9, .int (-9)), (0, .ref l0), (1, .int l1), (2, .int l2), (3, .int l3), (4, .long l4), (6, .int l6), (7, .int l7), (8, .int l8)]) rfl ?_
    exact k_sub [2, 3, 4, 5, 6, 7, 8, 9, 1, 0] rfl (Q_X12_joinedAll_40 hq he N k22 hk22 l0 l1 l2 l3 l4 l6 l7 l8 (-9) v3 h)
theorem Q_X12_joinedAll_22 {q : eT} {r0 : Int64} {h0 : eH} (hq : e_B q yX12_joinedAll.cls cX12_joinedAll 12 2 55 (some .long) yX12_joinedAll.name) (he : e_E q) (N : Nat) (l0 : Nat) (l1 : Int32) (l2 : Int32) (l3 : Int32) (l4 : Int64) (l6 : Int32) (l7 : Int32) (l8 : Int32) (h : eH) : e_K eL q r0 h0 22 [(0, .ref l0), (1, .int l1), (2, .int l2), (3, .int l3), (4, .long l4), (6, .int l6), (7, .int l7), (8, .int l8)] [] h (L_X12_joinedAll_22 N l0 l1 l2 l3 l4 l6 l7 l8 h) :=
  k_loop (mk := (fun s => [(0, .ref s.1), (1, .int s.2.1), (2, .int s.2.2.1), (3, .int s.2.2.2.1), (4, .long s.2.2.2.2.1), (6, .int s.2.2.2.2.2.1), (7, .int s.2.2.2.2.2.2.1), (8, .int s.2.2.2.2.2.2.2.1)])) (hp := fun s => s.2.2.2.2.2.2.2.2) (fun k hk s => P_X12_joinedAll_22b hq he N (fun l0 l1 l2 l3 l4 l6 l7 l8 h => k (l0, l1, l2, l3, l4, l6, l7, l8, h)) (fun l0 l1 l2 l3 l4 l6 l7 l8 h => hk (l0, l1, l2, l3, l4, l6, l7, l8, h)) s.1 s.2.1 s.2.2.1 s.2.2.2.1 s.2.2.2.2.1 s.2.2.2.2.2.1 s.2.2.2.2.2.2.1 s.2.2.2.2.2.2.2.1 s.2.2.2.2.2.2.2.2) N (l0, l1, l2, l3, l4, l6, l7, l8, h)
set_option maxRecDepth 100000 in
set_option maxHeartbeats 4000000 in
theorem P_X12_joinedAll_0 {q : eT} {r0 : Int64} {h0 : eH} (hq : e_B q yX12_joinedAll.cls cX12_joinedAll 12 2 55 (some .long) yX12_joinedAll.name) (he : e_E q) (N : Nat) (l0 : Nat) (l1 : Int32) (l2 : Int32) (l3 : Int32) (h : eH) : e_K eL q r0 h0 0 [(0, .ref l0), (1, .int l1), (2, .int l2), (3, .int l3)] [] h (F_X12_joinedAll N l0 l1 l2 l3 h) := by
  unfold F_X12_joinedAll
  refine k_aload_n hq dX12_joinedAll_0 0 rfl ?_
  refine k_iconst hq dX12_joinedAll_1 (v := 0) rfl ?_
  refine k_pz hq (C := RX12) (T := TX12) 11 35 rfl (by decide) lay_X12 tyX12 tyX12_ok nmX12 tw_962 rfl rfl dX12_joinedAll_2 fun h1 => ?_
  refine k_lconst hq dX12_joinedAll_5 (v := 0) rfl ?_
  refine k_lstore hq dX12_joinedAll_6 (by decide) (ls' := [(4, .long 0), (0, .ref l0), (1, .int l1), (2, .int l2), (3, .int l3)]) rfl ?_
  refine k_iconst hq dX12_joinedAll_8 (v := 0) rfl ?_
  refine k_istore hq dX12_joinedAll_9 (by decide) (ls' := [(6, .int 0), (4, .long 0), (0, .ref l0), (1, .int l1), (2, .int l2), (3, .int l3)]) rfl ?_
  refine k_aload_n hq dX12_joinedAll_11 2 rfl ?_
  refine k_iload_n hq dX12_joinedAll_12 3 rfl ?_
  refine k_iload_n hq dX12_joinedAll_13 4 rfl ?_
  refine k_callV hq (na := 2) (As := [.int l1, .int l2]) (st := []) 11 (C := RX12) (T := TX12) rfl (con_X12_siblings _ _ _ _ N l0 l1 l2) tw_1122 tw_59 tw_1119 tw_1121 tw_30 ⟨by decide, by decide, by decide +kernel⟩ rfl (by decide) rfl (Nat.le_of_ble_eq_true rfl) dX12_joinedAll_14 fun v2 h3 => ?_
  refine k_istore hq dX12_joinedAll_17 (by decide) (ls' := [(7, .int v2), (6, .int 0), (4, .long 0), (0, .ref l0), (1, .int l1), (2, .int l2), (3, .int l3)]) rfl ?_
  refine k_iconst hq dX12_joinedAll_19 (v := 0) rfl ?_
  refine k_istore hq dX12_joinedAll_20 (by decide) (ls' := [(8, .int 0), (7, .int v2), (6, .int 0), (4, .long 0), (0, .ref l0), (1, .int l1), (2, .int l2), (3, .int l3)]) rfl ?_
  exact k_sub [4, 5, 6, 7, 3, 2, 1, 0] rfl (Q_X12_joinedAll_22 hq he N l0 l1 l2 l3 0 0 v2 0 h3)
theorem con_X12_joinedAll (l : Launch) (G : eG) (B0 n : Nat) (N : Nat) (l0 : Nat) (l1 : Int32) (l2 : Int32) (l3 : Int32) : e_C eL l G B0 n yX12_joinedAll cX12_joinedAll 12 (some .long) 2 55 [.ref l0, .int l1, .int l2, .int l3] (F_X12_joinedAll N l0 l1 l2 l3) := by
  refine e_mk (by decide) (Nat.le_of_ble_eq_true rfl) fun q r0 h0 h hq he e1 e2 e3 e4 => ?_
  subst e1; subst e2; subst e3; subst e4
  exact P_X12_joinedAll_0 hq he N l0 l1 l2 l3 h
set_option maxRecDepth 100000 in
set_option maxHeartbeats 4000000 in
theorem P_X12_merges_146 {q : eT} {r0 : Int32} {h0 : eH} (hq : e_B q yX12_merges.cls cX12_merges 8 4 96 (some .int) yX12_merges.name) (he : e_E q) (N : Nat) (k87 : Nat → Int32 → Int32 → Int64 → Int32 → eH → Option (Int32 × eH)) (hk87 : ∀ (l0 : Nat) (l1 : Int32) (l2 : Int32) (l4 : Int64) (l6 : Int32) h, e_K eI q r0 h0 87 [(0, .ref l0), (1, .int l1), (2, .int l2), (4, .long l4), (6, .int l6)] [] h (k87 l0 l1 l2 l4 l6 h)) (l0 : Nat) (l1 : Int32) (l2 : Int32) (l4 : Int64) (l6 : Int32) (h : eH) : e_K eI q r0 h0 146 [(0, .ref l0), (1, .int l1), (2, .int l2), (4, .long l4), (6, .int l6)] [] h (F_X12_merges_146 N k87 l0 l1 l2 l4 l6 h) := by
  unfold F_X12_merges_146
  refine k_iinc hq dX12_merges_146 4 rfl (v := l6 + 1) rfl (by decide) (ls' := [(6, .int (l6 + 1)), (0, .ref l0), (1, .int l1), (2, .int l2), (4, .long l4)]) rfl ?_
  refine k_goto hq (tgt := 87) dX12_merges_149 (by decide) ?_
  exact k_sub [1, 2, 3, 4, 0] rfl (hk87 l0 l1 l2 l4 (l6 + 1) h)
set_option maxRecDepth 100000 in
set_option maxHeartbeats 4000000 in
theorem P_X12_merges_174b {q : eT} {r0 : Int32} {h0 : eH} (hq : e_B q yX12_merges.cls cX12_merges 8 4 96 (some .int) yX12_merges.name) (he : e_E q) (N : Nat) (k174 : Nat → Int32 → Int32 → Int64 → Int32 → Int32 → eH → Option (Int32 × eH)) (hk174 : ∀ (l0 : Nat) (l1 : Int32) (l2 : Int32) (l4 : Int64) (l6 : Int32) (l7 : Int32) h, e_K eI q r0 h0 174 [(0, .ref l0), (1, .int l1), (2, .int l2), (4, .long l4), (6, .int l6), (7, .int l7)] [] h (k174 l0 l1 l2 l4 l6 l7 h)) (l0 : Nat) (l1 : Int32) (l2 : Int32) (l4 : Int64) (l6 : Int32) (l7 : Int32) (h : eH) : e_K eI q r0 h0 174 [(0, .ref l0), (1, .int l1), (2, .int l2), (4, .long l4), (6, .int l6), (7, .int l7)] [] h (F_X12_merges_174b N k174 l0 l1 l2 l4 l6 l7 h) := by
  unfold F_X12_merges_174b
  refine k_iload hq dX12_merges_174 5 rfl ?_
  refine k_iconst hq dX12_merges_176 (v := 4) rfl ?_
  refine k_icmp_ge hq (tgt := 236) dX12_merges_177 (by decide) (fun _ => ?_) (fun _ => ?_)
  · refine k_aload_n hq dX12_merges_236 0 rfl ?_
    refine k_iload_n hq dX12_merges_237 2 rfl ?_
    refine k_iload_n hq dX12_merges_238 1 rfl ?_
    refine k_lload hq dX12_merges_239 3 rfl ?_
    refine k_callV hq (na := 3) (As := [.int l2, .int l1, .long l4]) (st := []) 11 (C := RX12) (T := TX12) rfl (con_X12_comes _ _ _ _ N l0 l2 l1 l4) tw_1130 tw_59 tw_1127 tw_1129 tw_31 ⟨by decide, by decide, by decide +kernel⟩ rfl (by decide) rfl (Nat.le_of_ble_eq_true rfl) dX12_merges_241 fun v1 h2 => ?_
    exact k_iret hq dX12_merges_244 he
  · refine k_aload_n hq dX12_merges_180 0 rfl ?_
    refine k_gr hq (C := RX12) (T := TX12) 11 8 rfl (by decide) (lay_X12 8 (by decide)) tw_935 dX12_merges_181 fun v3 => ?_
    refine k_iconst hq dX12_merges_184 (v := 4) rfl ?_
    refine k_iload hq dX12_merges_185 4 rfl ?_
    refine k_imul hq dX12_merges_187 ?_
    refine k_iload hq dX12_merges_188 5 rfl ?_
    refine k_iadd hq dX12_merges_190 ?_
    refine k_aload_n hq dX12_merges_191 0 rfl ?_
    refine k_gr hq (C := RX12) (T := TX12) 11 16 rfl (by decide) (lay_X12 16 (by decide)) tw_943 dX12_merges_192 fun v4 => ?_
    refine k_iload_n hq dX12_merges_195 2 rfl ?_
    refine k_iload_n hq dX12_merges_196 1 rfl ?_
    refine k_callS hq (na := 2) (As := [.int l2, .int l1]) (st := [.ref v4, .int ((4 * l6) + l7), .ref v3]) (con_X12_rowAt _ _ _ _ l2 l1) tw_1112 tw_59 tw_1110 tw_1111 ⟨by decide, by decide, by decide +kernel⟩ rfl (by decide) rfl (Nat.le_of_ble_eq_true rfl) dX12_merges_197 fun v5 h6 => ?_
    refine k_iload hq dX12_merges_200 5 rfl ?_
    refine k_iadd hq dX12_merges_202 ?_
    refine k_iald hq dX12_merges_203 fun v7 => ?_
    refine k_iast hq dX12_merges_204 fun h8 => ?_
    refine k_aload_n hq dX12_merges_205 0 rfl ?_
    refine k_gr hq (C := RX12) (T := TX12) 11 9 rfl (by decide) (lay_X12 9 (by decide)) tw_936 dX12_merges_206 fun v9 => ?_
    refine k_iconst hq dX12_merges_209 (v := 4) rfl ?_
    refine k_iload hq dX12_merges_210 4 rfl ?_
    refine k_imul hq dX12_merges_212 ?_
    refine k_iload hq dX12_merges_213 5 rfl ?_
    refine k_iadd hq dX12_merges_215 ?_
    refine k_aload_n hq dX12_merges_216 0 rfl ?_
    refine k_gr hq (C := RX12) (T := TX12) 11 16 rfl (by decide) (lay_X12 16 (by decide)) tw_943 dX12_merges_217 fun v10 => ?_
    refine k_iload_n hq dX12_merges_220 2 rfl ?_
    refine k_iload_n hq dX12_merges_221 1 rfl ?_
    refine k_callS hq (na := 2) (As := [.int l2, .int l1]) (st := [.ref v10, .int ((4 * l6) + l7), .ref v9]) (con_X12_rowAt _ _ _ _ l2 l1) tw_1112 tw_59 tw_1110 tw_1111 ⟨by decide, by decide, by decide +kernel⟩ rfl (by decide) rfl (Nat.le_of_ble_eq_true rfl) dX12_merges_222 fun v11 h12 => ?_
    refine k_iload hq dX12_merges_225 5 rfl ?_
    refine k_iadd hq dX12_merges_227 ?_
    refine k_iald hq dX12_merges_228 fun v13 => ?_
    refine k_iast hq dX12_merges_229 fun h14 => ?_
    refine k_iinc hq dX12_merges_230 5 rfl (v := l7 + 1) rfl (by decide) (ls' := [(7, .int (l7 + 1)), (0, .ref l0), (1, .int l1), (2, .int l2), (4, .long l4), (6, .int l6)]) rfl ?_
    refine k_goto hq (tgt := 174) dX12_merges_233 (by decide) ?_
    exact k_sub [1, 2, 3, 4, 5, 0] rfl (hk174 l0 l1 l2 l4 l6 (l7 + 1) h14)
theorem Q_X12_merges_174 {q : eT} {r0 : Int32} {h0 : eH} (hq : e_B q yX12_merges.cls cX12_merges 8 4 96 (some .int) yX12_merges.name) (he : e_E q) (N : Nat) (l0 : Nat) (l1 : Int32) (l2 : Int32) (l4 : Int64) (l6 : Int32) (l7 : Int32) (h : eH) : e_K eI q r0 h0 174 [(0, .ref l0), (1, .int l1), (2, .int l2), (4, .long l4), (6, .int l6), (7, .int l7)] [] h (L_X12_merges_174 N l0 l1 l2 l4 l6 l7 h) :=
  k_loop (mk := (fun s => [(0, .ref s.1), (1, .int s.2.1), (2, .int s.2.2.1), (4, .long s.2.2.2.1), (6, .int s.2.2.2.2.1), (7, .int s.2.2.2.2.2.1)])) (hp := fun s => s.2.2.2.2.2.2) (fun k hk s => P_X12_merges_174b hq he N (fun l0 l1 l2 l4 l6 l7 h => k (l0, l1, l2, l4, l6, l7, h)) (fun l0 l1 l2 l4 l6 l7 h => hk (l0, l1, l2, l4, l6, l7, h)) s.1 s.2.1 s.2.2.1 s.2.2.2.1 s.2.2.2.2.1 s.2.2.2.2.2.1 s.2.2.2.2.2.2) N (l0, l1, l2, l4, l6, l7, h)
set_option maxRecDepth 100000 in
set_option maxHeartbeats 4000000 in
theorem P_X12_merges_87b {q : eT} {r0 : Int32} {h0 : eH} (hq : e_B q yX12_merges.cls cX12_merges 8 4 96 (some .int) yX12_merges.name) (he : e_E q) (N : Nat) (k87 : Nat → Int32 → Int32 → Int64 → Int32 → eH → Option (Int32 × eH)) (hk87 : ∀ (l0 : Nat) (l1 : Int32) (l2 : Int32) (l4 : Int64) (l6 : Int32) h, e_K eI q r0 h0 87 [(0, .ref l0), (1, .int l1), (2, .int l2), (4, .long l4), (6, .int l6)] [] h (k87 l0 l1 l2 l4 l6 h)) (l0 : Nat) (l1 : Int32) (l2 : Int32) (l4 : Int64) (l6 : Int32) (h : eH) : e_K eI q r0 h0 87 [(0, .ref l0), (1, .int l1), (2, .int l2), (4, .long l4), (6, .int l6)] [] h (F_X12_merges_87b N k87 l0 l1 l2 l4 l6 h) := by
  unfold F_X12_merges_87b
  refine k_iload hq dX12_merges_87 4 rfl ?_
  refine k_sipush hq dX12_merges_89 (v := 164) rfl ?_
  refine k_iload_n hq dX12_merges_92 2 rfl ?_
  refine k_imul hq dX12_merges_93 ?_
  refine k_sipush hq dX12_merges_94 (v := 164) rfl ?_
  refine k_iadd hq dX12_merges_97 ?_
  refine k_icmp_ge hq (tgt := 152) dX12_merges_98 (by decide) (fun _ => ?_) (fun _ => ?_)
  · refine k_iload_n hq dX12_merges_152 2 rfl ?_
    refine k_iload_n hq dX12_merges_153 1 rfl ?_
    refine k_aload_n hq dX12_merges_154 0 rfl ?_
    refine k_gr hq (C := RX12) (T := TX12) 11 15 rfl (by decide) (lay_X12 15 (by decide)) tw_942 dX12_merges_155 fun v1 => ?_
    refine k_iconst hq dX12_merges_158 (v := 4) rfl ?_
    refine k_iload_n hq dX12_merges_159 2 rfl ?_
    refine k_imul hq dX12_merges_160 ?_
    refine k_iload_n hq dX12_merges_161 1 rfl ?_
    refine k_iadd hq dX12_merges_162 ?_
    refine k_iald hq dX12_merges_163 fun v2 => ?_
    refine k_iconst hq dX12_merges_164 (v := 1) rfl ?_
    refine k_iadd hq dX12_merges_165 ?_
    refine k_callS hq (na := 3) (As := [.int l2, .int l1, .int (v2 + 1)]) (st := []) (con_X12_at _ _ _ _ l2 l1 (v2 + 1)) tw_1115 tw_59 tw_1113 tw_1114 ⟨by decide, by decide, by decide +kernel⟩ rfl (by decide) rfl (Nat.le_of_ble_eq_true rfl) dX12_merges_166 fun v3 h4 => ?_
    refine k_istore hq dX12_merges_169 (by decide) (ls' := [(6, .int v3), (0, .ref l0), (1, .int l1), (2, .int l2), (4, .long l4)]) rfl ?_
    refine k_iconst hq dX12_merges_171 (v := 0) rfl ?_
    refine k_istore hq dX12_merges_172 (by decide) (ls' := [(7, .int 0), (6, .int v3), (0, .ref l0), (1, .int l1), (2, .int l2), (4, .long l4)]) rfl ?_
    exact k_sub [2, 3, 4, 5, 1, 0] rfl (Q_X12_merges_174 hq he N l0 l1 l2 l4 v3 0 h4)
  · refine k_aload_n hq dX12_merges_101 0 rfl ?_
    refine k_gr hq (C := RX12) (T := TX12) 11 14 rfl (by decide) (lay_X12 14 (by decide)) tw_941 dX12_merges_102 fun v5 => ?_
    refine k_iload hq dX12_merges_105 4 rfl ?_
    refine k_iald hq dX12_merges_107 fun v6 => ?_
    refine k_iload_n hq dX12_merges_108 1 rfl ?_
    refine k_callS hq (na := 2) (As := [.int v6, .int l1]) (st := []) (con_X12_has _ _ _ _ v6 l1) tw_1118 tw_59 tw_1116 tw_1117 ⟨by decide, by decide, by decide +kernel⟩ rfl (by decide) rfl (Nat.le_of_ble_eq_true rfl) dX12_merges_109 fun v7 h8 => ?_
    refine k_if_eq hq (tgt := 146) dX12_merges_112 (by decide) (fun _ => ?_) (fun _ => ?_)
    · exact k_sub [0, 1, 2, 3, 4] rfl (P_X12_merges_146 hq he N k87 hk87 l0 l1 l2 l4 l6 h8)
    · refine k_aload_n hq dX12_merges_115 0 rfl ?_
      refine k_gr hq (C := RX12) (T := TX12) 11 10 rfl (by decide) (lay_X12 10 (by decide)) tw_937 dX12_merges_116 fun v9 => ?_
      refine k_iload hq dX12_merges_119 4 rfl ?_
      refine k_iconst hq dX12_merges_121 (v := 1) rfl ?_
      refine k_zast hq dX12_merges_122 fun h10 => ?_
      refine k_aload_n hq dX12_merges_123 0 rfl ?_
      refine k_gr hq (C := RX12) (T := TX12) 11 13 rfl (by decide) (lay_X12 13 (by decide)) tw_940 dX12_merges_124 fun v11 => ?_
      refine k_iload hq dX12_merges_127 4 rfl ?_
      refine k_iconst hq dX12_merges_129 (v := 1) rfl ?_
      refine k_zast hq dX12_merges_130 fun h12 => ?_
      refine k_aload_n hq dX12_merges_131 0 rfl ?_
      refine k_gr hq (C := RX12) (T := TX12) 11 14 rfl (by decide) (lay_X12 14 (by decide)) tw_941 dX12_merges_132 fun v13 => ?_
      refine k_iload hq dX12_merges_135 4 rfl ?_
      refine k_dup2_11 hq dX12_merges_137 rfl rfl ?_
      refine k_iald hq dX12_merges_138 fun v14 => ?_
      refine k_iconst hq dX12_merges_139 (v := 1) rfl ?_
      refine k_iload_n hq dX12_merges_140 1 rfl ?_
      refine k_ishl hq dX12_merges_141 ?_
      refine k_iconst hq dX12_merges_142 (v := (-1)) rfl ?_
      refine k_ixor hq dX12_merges_143 ?_
      refine k_iand hq dX12_merges_144 ?_
      refine k_iast hq dX12_merges_145 fun h15 => ?_
      exact k_sub [0, 1, 2, 3, 4] rfl (P_X12_merges_146 hq he N k87 hk87 l0 l1 l2 l4 l6 h15)
theorem Q_X12_merges_87 {q : eT} {r0 : Int32} {h0 : eH} (hq : e_B q yX12_merges.cls cX12_merges 8 4 96 (some .int) yX12_merges.name) (he : e_E q) (N : Nat) (l0 : Nat) (l1 : Int32) (l2 : Int32) (l4 : Int64) (l6 : Int32) (h : eH) : e_K eI q r0 h0 87 [(0, .ref l0), (1, .int l1), (2, .int l2), (4, .long l4), (6, .int l6)] [] h (L_X12_merges_87 N l0 l1 l2 l4 l6 h) :=
  k_loop (mk := (fun s => [(0, .ref s.1), (1, .int s.2.1), (2, .int s.2.2.1), (4, .long s.2.2.2.1), (6, .int s.2.2.2.2.1)])) (hp := fun s => s.2.2.2.2.2) (fun k hk s => P_X12_merges_87b hq he N (fun l0 l1 l2 l4 l6 h => k (l0, l1, l2, l4, l6, h)) (fun l0 l1 l2 l4 l6 h => hk (l0, l1, l2, l4, l6, h)) s.1 s.2.1 s.2.2.1 s.2.2.2.1 s.2.2.2.2.1 s.2.2.2.2.2) N (l0, l1, l2, l4, l6, h)
set_option maxRecDepth 100000 in
set_option maxHeartbeats 4000000 in
theorem P_X12_merges_0 {q : eT} {r0 : Int32} {h0 : eH} (hq : e_B q yX12_merges.cls cX12_merges 8 4 96 (some .int) yX12_merges.name) (he : e_E q) (N : Nat) (l0 : Nat) (l1 : Int32) (l2 : Int32) (h : eH) : e_K eI q r0 h0 0 [(0, .ref l0), (1, .int l1), (2, .int l2)] [] h (F_X12_merges N l0 l1 l2 h) := by
  unfold F_X12_merges
  refine k_aload_n hq dX12_merges_0 0 rfl ?_
  refine k_iload_n hq dX12_merges_1 1 rfl ?_
  refine k_callV hq (na := 1) (As := [.int l1]) (st := []) 11 (C := RX12) (T := TX12) rfl (con_X12_isSite _ _ _ _ l0 l1) tw_1105 tw_59 tw_1102 tw_1104 tw_28 ⟨by decide, by decide, by decide +kernel⟩ rfl (by decide) rfl (Nat.le_of_ble_eq_true rfl) dX12_merges_2 fun v1 h2 => ?_
  refine k_if_eq hq (tgt := 16) dX12_merges_5 (by decide) (fun _ => ?_) (fun _ => ?_)
  · refine k_iconst hq dX12_merges_16 (v := (-1)) rfl ?_
    exact k_iret hq dX12_merges_17 he
  · refine k_aload_n hq dX12_merges_8 0 rfl ?_
    refine k_iload_n hq dX12_merges_9 2 rfl ?_
    refine k_callV hq (na := 1) (As := [.int l2]) (st := []) 11 (C := RX12) (T := TX12) rfl (con_X12_isKey _ _ _ _ l0 l2) tw_1109 tw_59 tw_1106 tw_1108 tw_29 ⟨by decide, by decide, by decide +kernel⟩ rfl (by decide) rfl (Nat.le_of_ble_eq_true rfl) dX12_merges_10 fun v3 h4 => ?_
    refine k_if_ne hq (tgt := 18) dX12_merges_13 (by decide) (fun _ => ?_) (fun _ => ?_)
    · refine k_iconst hq dX12_merges_16 (v := (-1)) rfl ?_
      exact k_iret hq dX12_merges_17 he
    · refine k_aload_n hq dX12_merges_18 0 rfl ?_
      refine k_iload_n hq dX12_merges_19 2 rfl ?_
      refine k_callV hq (na := 1) (As := [.int l2]) (st := []) 11 (C := RX12) (T := TX12) rfl (con_X12_ruleOf _ _ _ _ N l0 l2) tw_1154 tw_59 tw_1151 tw_1153 tw_34 ⟨by decide, by decide, by decide +kernel⟩ rfl (by decide) rfl (Nat.le_of_ble_eq_true rfl) dX12_merges_20 fun v5 h6 => ?_
      refine k_istore_n hq dX12_merges_23 rfl (by decide) (ls' := [(3, .int v5), (0, .ref l0), (1, .int l1), (2, .int l2)]) rfl ?_
      refine k_iload_n hq dX12_merges_24 0 rfl ?_
      refine k_bipush hq dX12_merges_25 (v := (-9)) rfl ?_
      refine k_icmp_eq hq (tgt := 40) dX12_merges_27 (by decide) (fun _ => ?_) (fun _ => ?_)
      · refine k_bipush hq dX12_merges_40 (v := (-2)) rfl ?_
        exact k_iret hq dX12_merges_42 he
      · refine k_aload_n hq dX12_merges_30 1 rfl ?_
        refine k_iload_n hq dX12_merges_31 2 rfl ?_
        refine k_iload_n hq dX12_merges_32 3 rfl ?_
        refine k_callV hq (na := 2) (As := [.int l1, .int l2]) (st := []) 11 (C := RX12) (T := TX12) rfl (con_X12_siblings _ _ _ _ N l0 l1 l2) tw_1122 tw_59 tw_1119 tw_1121 tw_30 ⟨by decide, by decide, by decide +kernel⟩ rfl (by decide) rfl (Nat.le_of_ble_eq_true rfl) dX12_merges_33 fun v7 h8 => ?_
        refine k_iconst hq dX12_merges_36 (v := 2) rfl ?_
        refine k_icmp_ge hq (tgt := 43) dX12_merges_37 (by decide) (fun _ => ?_) (fun _ => ?_)
        · refine k_aload_n hq dX12_merges_43 1 rfl ?_
          refine k_gr hq (C := RX12) (T := TX12) 11 15 rfl (by decide) (lay_X12 15 (by decide)) tw_942 dX12_merges_44 fun v9 => ?_
          refine k_iconst hq dX12_merges_47 (v := 4) rfl ?_
          refine k_iload_n hq dX12_merges_48 3 rfl ?_
          refine k_imul hq dX12_merges_49 ?_
          refine k_iload_n hq dX12_merges_50 2 rfl ?_
          refine k_iadd hq dX12_merges_51 ?_
          refine k_iald hq dX12_merges_52 fun v10 => ?_
          refine k_bipush hq dX12_merges_53 (v := 40) rfl ?_
          refine k_icmp_ne hq (tgt := 61) dX12_merges_55 (by decide) (fun _ => ?_) (fun _ => ?_)
          · refine k_bipush hq dX12_merges_58 (v := (-3)) rfl ?_
            exact k_iret hq dX12_merges_60 he
          · refine k_aload_n hq dX12_merges_61 1 rfl ?_
            refine k_iload_n hq dX12_merges_62 2 rfl ?_
            refine k_iload_n hq dX12_merges_63 3 rfl ?_
            refine k_iload_n hq dX12_merges_64 0 rfl ?_
            refine k_callV hq (na := 3) (As := [.int l1, .int l2, .int v5]) (st := []) 11 (C := RX12) (T := TX12) rfl (con_X12_joinedAll _ _ _ _ N l0 l1 l2 v5) tw_1158 tw_59 tw_1155 tw_1157 tw_35 ⟨by decide, by decide, by decide +kernel⟩ rfl (by decide) rfl (Nat.le_of_ble_eq_true rfl) dX12_merges_65 fun v11 h12 => ?_
            refine k_lstore hq dX12_merges_68 (by decide) (ls' := [(4, .long v11), (3, .int v5), (0, .ref l0), (1, .int l1), (2, .int l2)]) rfl ?_
            refine k_aload_n hq dX12_merges_70 2 rfl ?_
            refine k_gi hq (C := RX12) (T := TX12) 11 35 rfl (by decide) (lay_X12 35 (by decide)) tw_962 dX12_merges_71 fun v13 => ?_
            refine k_if_eq hq (tgt := 80) dX12_merges_74 (by decide) (fun _ => ?_) (fun _ => ?_)
            · refine k_sipush hq dX12_merges_80 (v := 164) rfl ?_
              refine k_iload_n hq dX12_merges_83 4 rfl ?_
              refine k_imul hq dX12_merges_84 ?_
              refine k_let (mk := fun z => .int z :: []) fun v14 _ => ?_
              refine k_istore hq dX12_merges_85 (by decide) (ls' := [(6, .int v14), (4, .long v11), (3, .int v5), (0, .ref l0), (1, .int l1), (2, .int l2)]) rfl ?_
              exact k_sub [3, 4, 5, 1, 0] rfl (Q_X12_merges_87 hq he N l0 l1 l2 v11 v14 h12)
            · refine k_bipush hq dX12_merges_77 (v := (-5)) rfl ?_
              exact k_iret hq dX12_merges_79 he
        · refine k_bipush hq dX12_merges_40 (v := (-2)) rfl ?_
          exact k_iret hq dX12_merges_42 he
theorem con_X12_merges (l : Launch) (G : eG) (B0 n : Nat) (N : Nat) (l0 : Nat) (l1 : Int32) (l2 : Int32) : e_C eI l G B0 n yX12_merges cX12_merges 8 (some .int) 4 96 [.ref l0, .int l1, .int l2] (F_X12_merges N l0 l1 l2) := by
  refine e_mk (by decide) (Nat.le_of_ble_eq_true rfl) fun q r0 h0 h hq he e1 e2 e3 e4 => ?_
  subst e1; subst e2; subst e3; subst e4
  exact P_X12_merges_0 hq he N l0 l1 l2 h
set_option maxRecDepth 100000 in
set_option maxHeartbeats 4000000 in
theorem P_X12_rules_105 {q : eT} {r0 : Int32} {h0 : eH} (hq : e_B q yX12_rules.cls cX12_rules 4 2 46 (some .int) yX12_rules.name) (he : e_E q) (N : Nat) (l0 : Nat) (l1 : Int32) (l2 : Int32) (l3 : Int32) (h : eH) : e_K eI q r0 h0 105 [(0, .ref l0), (1, .int l1), (2, .int l2), (3, .int l3)] [] h (F_X12_rules_105 N l0 l1 l2 l3 h) := by
  unfold F_X12_rules_105
  refine k_aload_n hq dX12_rules_105 0 rfl ?_
  refine k_gr hq (C := RX12) (T := TX12) 11 22 rfl (by decide) (lay_X12 22 (by decide)) tw_949 dX12_rules_106 fun v1 => ?_
  refine k_aload_n hq dX12_rules_109 0 rfl ?_
  refine k_gi hq (C := RX12) (T := TX12) 11 21 rfl (by decide) (lay_X12 21 (by decide)) tw_948 dX12_rules_110 fun v2 => ?_
  refine k_iload_n hq dX12_rules_113 1 rfl ?_
  refine k_iast hq dX12_rules_114 fun h3 => ?_
  refine k_aload_n hq dX12_rules_115 0 rfl ?_
  refine k_gr hq (C := RX12) (T := TX12) 11 23 rfl (by decide) (lay_X12 23 (by decide)) tw_950 dX12_rules_116 fun v4 => ?_
  refine k_aload_n hq dX12_rules_119 0 rfl ?_
  refine k_gi hq (C := RX12) (T := TX12) 11 21 rfl (by decide) (lay_X12 21 (by decide)) tw_948 dX12_rules_120 fun v5 => ?_
  refine k_iload_n hq dX12_rules_123 2 rfl ?_
  refine k_iast hq dX12_rules_124 fun h6 => ?_
  refine k_aload_n hq dX12_rules_125 0 rfl ?_
  refine k_dup hq dX12_rules_126 rfl ?_
  refine k_gi hq (C := RX12) (T := TX12) 11 21 rfl (by decide) (lay_X12 21 (by decide)) tw_948 dX12_rules_127 fun v7 => ?_
  refine k_iconst hq dX12_rules_130 (v := 1) rfl ?_
  refine k_iadd hq dX12_rules_131 ?_
  refine k_p hq (C := RX12) (T := TX12) 11 21 rfl (by decide) lay_X12 tyX12 tyX12_ok nmX12 tw_948 rfl rfl rfl dX12_rules_132 fun h8 => ?_
  refine k_iload_n hq dX12_rules_135 3 rfl ?_
  exact k_iret hq dX12_rules_136 he
set_option maxRecDepth 100000 in
set_option maxHeartbeats 4000000 in
theorem P_X12_rules_24b {q : eT} {r0 : Int32} {h0 : eH} (hq : e_B q yX12_rules.cls cX12_rules 4 2 46 (some .int) yX12_rules.name) (he : e_E q) (N : Nat) (k24 : Nat → Int32 → Int32 → Int32 → eH → Option (Int32 × eH)) (hk24 : ∀ (l0 : Nat) (l1 : Int32) (l2 : Int32) (l3 : Int32) h, e_K eI q r0 h0 24 [(0, .ref l0), (1, .int l1), (2, .int l2), (3, .int l3)] [] h (k24 l0 l1 l2 l3 h)) (l0 : Nat) (l1 : Int32) (l2 : Int32) (l3 : Int32) (h : eH) : e_K eI q r0 h0 24 [(0, .ref l0), (1, .int l1), (2, .int l2), (3, .int l3)] [] h (F_X12_rules_24b N k24 l0 l1 l2 l3 h) := by
  unfold F_X12_rules_24b
  refine k_iload_n hq dX12_rules_24 3 rfl ?_
  refine k_aload_n hq dX12_rules_25 0 rfl ?_
  refine k_gi hq (C := RX12) (T := TX12) 11 21 rfl (by decide) (lay_X12 21 (by decide)) tw_948 dX12_rules_26 fun v1 => ?_
  refine k_icmp_ge hq (tgt := 58) dX12_rules_29 (by decide) (fun _ => ?_) (fun _ => ?_)
  · refine k_bipush hq dX12_rules_58 (v := (-9)) rfl ?_
    refine k_istore_n hq dX12_rules_60 rfl (by decide) (ls' := [(3, .int (-9)), (0, .ref l0), (1, .int l1), (2, .int l2)]) rfl ?_
    refine k_aload_n hq dX12_rules_61 1 rfl ?_
    refine k_gi hq (C := RX12) (T := TX12) 11 21 rfl (by decide) (lay_X12 21 (by decide)) tw_948 dX12_rules_62 fun v2 => ?_
    refine k_iconst hq dX12_rules_65 (v := 2) rfl ?_
    refine k_icmp_ne hq (tgt := 105) dX12_rules_66 (by decide) (fun _ => ?_) (fun _ => ?_)
    · refine k_aload_n hq dX12_rules_69 1 rfl ?_
      refine k_gr hq (C := RX12) (T := TX12) 11 22 rfl (by decide) (lay_X12 22 (by decide)) tw_949 dX12_rules_70 fun v3 => ?_
      refine k_iconst hq dX12_rules_73 (v := 0) rfl ?_
      refine k_iald hq dX12_rules_74 fun v4 => ?_
      refine k_istore_n hq dX12_rules_75 rfl (by decide) (ls' := [(3, .int v4), (0, .ref l0), (1, .int l1), (2, .int l2)]) rfl ?_
      refine k_aload_n hq dX12_rules_76 1 rfl ?_
      refine k_gr hq (C := RX12) (T := TX12) 11 22 rfl (by decide) (lay_X12 22 (by decide)) tw_949 dX12_rules_77 fun v5 => ?_
      refine k_iconst hq dX12_rules_80 (v := 0) rfl ?_
      refine k_aload_n hq dX12_rules_81 1 rfl ?_
      refine k_gr hq (C := RX12) (T := TX12) 11 22 rfl (by decide) (lay_X12 22 (by decide)) tw_949 dX12_rules_82 fun v6 => ?_
      refine k_iconst hq dX12_rules_85 (v := 1) rfl ?_
      refine k_iald hq dX12_rules_86 fun v7 => ?_
      refine k_iast hq dX12_rules_87 fun h8 => ?_
      refine k_aload_n hq dX12_rules_88 1 rfl ?_
      refine k_gr hq (C := RX12) (T := TX12) 11 23 rfl (by decide) (lay_X12 23 (by decide)) tw_950 dX12_rules_89 fun v9 => ?_
      refine k_iconst hq dX12_rules_92 (v := 0) rfl ?_
      refine k_aload_n hq dX12_rules_93 1 rfl ?_
      refine k_gr hq (C := RX12) (T := TX12) 11 23 rfl (by decide) (lay_X12 23 (by decide)) tw_950 dX12_rules_94 fun v10 => ?_
      refine k_iconst hq dX12_rules_97 (v := 1) rfl ?_
      refine k_iald hq dX12_rules_98 fun v11 => ?_
      refine k_iast hq dX12_rules_99 fun h12 => ?_
      refine k_aload_n hq dX12_rules_100 1 rfl ?_
      refine k_iconst hq dX12_rules_101 (v := 1) rfl ?_
      refine k_p hq (C := RX12) (T := TX12) 11 21 rfl (by decide) lay_X12 tyX12 tyX12_ok nmX12 tw_948 rfl rfl rfl dX12_rules_102 fun h13 => ?_
      exact k_sub [1, 2, 3, 0] rfl (P_X12_rules_105 hq he N l0 l1 l2 v4 h13)
    · exact k_sub [1, 2, 3, 0] rfl (P_X12_rules_105 hq he N l0 l1 l2 (-9) h)
  · refine k_aload_n hq dX12_rules_32 0 rfl ?_
    refine k_gr hq (C := RX12) (T := TX12) 11 22 rfl (by decide) (lay_X12 22 (by decide)) tw_949 dX12_rules_33 fun v14 => ?_
    refine k_iload_n hq dX12_rules_36 3 rfl ?_
    refine k_iald hq dX12_rules_37 fun v15 => ?_
    refine k_iload_n hq dX12_rules_38 1 rfl ?_
    refine k_icmp_ne hq (tgt := 52) dX12_rules_39 (by decide) (fun _ => ?_) (fun _ => ?_)
    · refine k_aload_n hq dX12_rules_42 0 rfl ?_
      refine k_gr hq (C := RX12) (T := TX12) 11 23 rfl (by decide) (lay_X12 23 (by decide)) tw_950 dX12_rules_43 fun v16 => ?_
      refine k_iload_n hq dX12_rules_46 3 rfl ?_
      refine k_iload_n hq dX12_rules_47 2 rfl ?_
      refine k_iast hq dX12_rules_48 fun h17 => ?_
      refine k_bipush hq dX12_rules_49 (v := (-9)) rfl ?_
      exact k_iret hq dX12_rules_51 he
    · refine k_iinc hq dX12_rules_52 3 rfl (v := l3 + 1) rfl (by decide) (ls' := [(3, .int (l3 + 1)), (0, .ref l0), (1, .int l1), (2, .int l2)]) rfl ?_
      refine k_goto hq (tgt := 24) dX12_rules_55 (by decide) ?_
      exact k_sub [1, 2, 3, 0] rfl (hk24 l0 l1 l2 (l3 + 1) h)
theorem Q_X12_rules_24 {q : eT} {r0 : Int32} {h0 : eH} (hq : e_B q yX12_rules.cls cX12_rules 4 2 46 (some .int) yX12_rules.name) (he : e_E q) (N : Nat) (l0 : Nat) (l1 : Int32) (l2 : Int32) (l3 : Int32) (h : eH) : e_K eI q r0 h0 24 [(0, .ref l0), (1, .int l1), (2, .int l2), (3, .int l3)] [] h (L_X12_rules_24 N l0 l1 l2 l3 h) :=
  k_loop (mk := (fun s => [(0, .ref s.1), (1, .int s.2.1), (2, .int s.2.2.1), (3, .int s.2.2.2.1)])) (hp := fun s => s.2.2.2.2) (fun k hk s => P_X12_rules_24b hq he N (fun l0 l1 l2 l3 h => k (l0, l1, l2, l3, h)) (fun l0 l1 l2 l3 h => hk (l0, l1, l2, l3, h)) s.1 s.2.1 s.2.2.1 s.2.2.2.1 s.2.2.2.2) N (l0, l1, l2, l3, h)
set_option maxRecDepth 100000 in
set_option maxHeartbeats 4000000 in
theorem P_X12_rules_0 {q : eT} {r0 : Int32} {h0 : eH} (hq : e_B q yX12_rules.cls cX12_rules 4 2 46 (some .int) yX12_rules.name) (he : e_E q) (N : Nat) (l0 : Nat) (l1 : Int32) (l2 : Int32) (h : eH) : e_K eI q r0 h0 0 [(0, .ref l0), (1, .int l1), (2, .int l2)] [] h (F_X12_rules N l0 l1 l2 h) := by
  unfold F_X12_rules
  refine k_aload_n hq dX12_rules_0 0 rfl ?_
  refine k_iload_n hq dX12_rules_1 1 rfl ?_
  refine k_callV hq (na := 1) (As := [.int l1]) (st := []) 11 (C := RX12) (T := TX12) rfl (con_X12_isKey _ _ _ _ l0 l1) tw_1109 tw_59 tw_1106 tw_1108 tw_29 ⟨by decide, by decide, by decide +kernel⟩ rfl (by decide) rfl (Nat.le_of_ble_eq_true rfl) dX12_rules_2 fun v1 h2 => ?_
  refine k_if_eq hq (tgt := 20) dX12_rules_5 (by decide) (fun _ => ?_) (fun _ => ?_)
  · refine k_iconst hq dX12_rules_20 (v := (-1)) rfl ?_
    exact k_iret hq dX12_rules_21 he
  · refine k_iload_n hq dX12_rules_8 2 rfl ?_
    refine k_i2l hq dX12_rules_9 ?_
    refine k_lconst hq dX12_rules_10 (v := 0) rfl ?_
    refine k_ldc2 hq (v := 4) tw_1175 dX12_rules_11 ?_
    refine k_callS hq (na := 3) (As := [.long (l2.toInt64), .long 0, .long 4]) (st := []) (con_X12_in _ _ _ _ (l2.toInt64) 0 4) tw_1059 tw_59 tw_1057 tw_1058 ⟨by decide, by decide, by decide +kernel⟩ rfl (by decide) rfl (Nat.le_of_ble_eq_true rfl) dX12_rules_14 fun v3 h4 => ?_
    refine k_if_ne hq (tgt := 22) dX12_rules_17 (by decide) (fun _ => ?_) (fun _ => ?_)
    · refine k_iconst hq dX12_rules_20 (v := (-1)) rfl ?_
      exact k_iret hq dX12_rules_21 he
    · refine k_iconst hq dX12_rules_22 (v := 0) rfl ?_
      refine k_istore_n hq dX12_rules_23 rfl (by decide) (ls' := [(3, .int 0), (0, .ref l0), (1, .int l1), (2, .int l2)]) rfl ?_
      exact k_sub [1, 2, 3, 0] rfl (Q_X12_rules_24 hq he N l0 l1 l2 0 h4)
theorem con_X12_rules (l : Launch) (G : eG) (B0 n : Nat) (N : Nat) (l0 : Nat) (l1 : Int32) (l2 : Int32) : e_C eI l G B0 n yX12_rules cX12_rules 4 (some .int) 2 46 [.ref l0, .int l1, .int l2] (F_X12_rules N l0 l1 l2) := by
  refine e_mk (by decide) (Nat.le_of_ble_eq_true rfl) fun q r0 h0 h hq he e1 e2 e3 e4 => ?_
  subst e1; subst e2; subst e3; subst e4
  exact P_X12_rules_0 hq he N l0 l1 l2 h
set_option maxRecDepth 100000 in
set_option maxHeartbeats 4000000 in
theorem P_X12_row_0 {q : eT} {r0 : Int32} {h0 : eH} (hq : e_B q yX12_row.cls cX12_row 4 2 46 (some .int) yX12_row.name) (he : e_E q) (l0 : Nat) (l1 : Int32) (l2 : Int32) (l3 : Int32) (h : eH) : e_K eI q r0 h0 0 [(0, .ref l0), (1, .int l1), (2, .int l2), (3, .int l3)] [] h (F_X12_row l0 l1 l2 l3 h) := by
  unfold F_X12_row
  refine k_aload_n hq dX12_row_0 0 rfl ?_
  refine k_iload_n hq dX12_row_1 1 rfl ?_
  refine k_callV hq (na := 1) (As := [.int l1]) (st := []) 11 (C := RX12) (T := TX12) rfl (con_X12_isSite _ _ _ _ l0 l1) tw_1105 tw_59 tw_1102 tw_1104 tw_28 ⟨by decide, by decide, by decide +kernel⟩ rfl (by decide) rfl (Nat.le_of_ble_eq_true rfl) dX12_row_2 fun v1 h2 => ?_
  refine k_if_eq hq (tgt := 39) dX12_row_5 (by decide) (fun _ => ?_) (fun _ => ?_)
  · refine k_iconst hq dX12_row_39 (v := (-1)) rfl ?_
    exact k_iret hq dX12_row_40 he
  · refine k_aload_n hq dX12_row_8 0 rfl ?_
    refine k_iload_n hq dX12_row_9 2 rfl ?_
    refine k_callV hq (na := 1) (As := [.int l2]) (st := []) 11 (C := RX12) (T := TX12) rfl (con_X12_isKey _ _ _ _ l0 l2) tw_1109 tw_59 tw_1106 tw_1108 tw_29 ⟨by decide, by decide, by decide +kernel⟩ rfl (by decide) rfl (Nat.le_of_ble_eq_true rfl) dX12_row_10 fun v3 h4 => ?_
    refine k_if_eq hq (tgt := 39) dX12_row_13 (by decide) (fun _ => ?_) (fun _ => ?_)
    · refine k_iconst hq dX12_row_39 (v := (-1)) rfl ?_
      exact k_iret hq dX12_row_40 he
    · refine k_aload_n hq dX12_row_16 0 rfl ?_
      refine k_iload_n hq dX12_row_17 3 rfl ?_
      refine k_callV hq (na := 1) (As := [.int l3]) (st := []) 11 (C := RX12) (T := TX12) rfl (con_X12_isSite _ _ _ _ l0 l3) tw_1105 tw_59 tw_1102 tw_1104 tw_28 ⟨by decide, by decide, by decide +kernel⟩ rfl (by decide) rfl (Nat.le_of_ble_eq_true rfl) dX12_row_18 fun v5 h6 => ?_
      refine k_if_eq hq (tgt := 39) dX12_row_21 (by decide) (fun _ => ?_) (fun _ => ?_)
      · refine k_iconst hq dX12_row_39 (v := (-1)) rfl ?_
        exact k_iret hq dX12_row_40 he
      · refine k_aload_n hq dX12_row_24 0 rfl ?_
        refine k_gr hq (C := RX12) (T := TX12) 11 16 rfl (by decide) (lay_X12 16 (by decide)) tw_943 dX12_row_25 fun v7 => ?_
        refine k_iload_n hq dX12_row_28 2 rfl ?_
        refine k_iload_n hq dX12_row_29 1 rfl ?_
        refine k_callS hq (na := 2) (As := [.int l2, .int l1]) (st := [.ref v7]) (con_X12_rowAt _ _ _ _ l2 l1) tw_1112 tw_59 tw_1110 tw_1111 ⟨by decide, by decide, by decide +kernel⟩ rfl (by decide) rfl (Nat.le_of_ble_eq_true rfl) dX12_row_30 fun v8 h9 => ?_
        refine k_iload_n hq dX12_row_33 3 rfl ?_
        refine k_iadd hq dX12_row_34 ?_
        refine k_iald hq dX12_row_35 fun v10 => ?_
        refine k_goto hq (tgt := 40) dX12_row_36 (by decide) ?_
        exact k_iret hq dX12_row_40 he
theorem con_X12_row (l : Launch) (G : eG) (B0 n : Nat) (l0 : Nat) (l1 : Int32) (l2 : Int32) (l3 : Int32) : e_C eI l G B0 n yX12_row cX12_row 4 (some .int) 2 46 [.ref l0, .int l1, .int l2, .int l3] (F_X12_row l0 l1 l2 l3) := by
  refine e_mk (by decide) (Nat.le_of_ble_eq_true rfl) fun q r0 h0 h hq he e1 e2 e3 e4 => ?_
  subst e1; subst e2; subst e3; subst e4
  exact P_X12_row_0 hq he l0 l1 l2 l3 h
set_option maxRecDepth 100000 in
set_option maxHeartbeats 4000000 in
theorem P_X12_sibling_138 {q : eT} {r0 : Int64} {h0 : eH} (hq : e_B q yX12_sibling.cls cX12_sibling 8 2 46 (some .long) yX12_sibling.name) (he : e_E q) (N : Nat) (k43 : Nat → Int32 → Int32 → Int32 → Int32 → Int32 → Int32 → eH → Option (Int64 × eH)) (hk43 : ∀ (l0 : Nat) (l1 : Int32) (l2 : Int32) (l3 : Int32) (l4 : Int32) (l5 : Int32) (l6 : Int32) h, e_K eL q r0 h0 43 [(0, .ref l0), (1, .int l1), (2, .int l2), (3, .int l3), (4, .int l4), (5, .int l5), (6, .int l6)] [] h (k43 l0 l1 l2 l3 l4 l5 l6 h)) (l0 : Nat) (l1 : Int32) (l2 : Int32) (l3 : Int32) (l4 : Int32) (l5 : Int32) (l6 : Int32) (h : eH) : e_K eL q r0 h0 138 [(0, .ref l0), (1, .int l1), (2, .int l2), (3, .int l3), (4, .int l4), (5, .int l5), (6, .int l6)] [] h (F_X12_sibling_138 N k43 l0 l1 l2 l3 l4 l5 l6 h) := by
  unfold F_X12_sibling_138
  refine k_iinc hq dX12_sibling_138 6 rfl (v := l6 + 1) rfl (by decide) (ls' := [(6, .int (l6 + 1)), (0, .ref l0), (1, .int l1), (2, .int l2), (3, .int l3), (4, .int l4), (5, .int l5)]) rfl ?_
  refine k_goto hq (tgt := 43) dX12_sibling_141 (by decide) ?_
  exact k_sub [1, 2, 3, 4, 5, 6, 0] rfl (hk43 l0 l1 l2 l3 l4 l5 (l6 + 1) h)
set_option maxRecDepth 100000 in
set_option maxHeartbeats 4000000 in
theorem P_X12_sibling_43b {q : eT} {r0 : Int64} {h0 : eH} (hq : e_B q yX12_sibling.cls cX12_sibling 8 2 46 (some .long) yX12_sibling.name) (he : e_E q) (N : Nat) (k43 : Nat → Int32 → Int32 → Int32 → Int32 → Int32 → Int32 → eH → Option (Int64 × eH)) (hk43 : ∀ (l0 : Nat) (l1 : Int32) (l2 : Int32) (l3 : Int32) (l4 : Int32) (l5 : Int32) (l6 : Int32) h, e_K eL q r0 h0 43 [(0, .ref l0), (1, .int l1), (2, .int l2), (3, .int l3), (4, .int l4), (5, .int l5), (6, .int l6)] [] h (k43 l0 l1 l2 l3 l4 l5 l6 h)) (l0 : Nat) (l1 : Int32) (l2 : Int32) (l3 : Int32) (l4 : Int32) (l5 : Int32) (l6 : Int32) (h : eH) : e_K eL q r0 h0 43 [(0, .ref l0), (1, .int l1), (2, .int l2), (3, .int l3), (4, .int l4), (5, .int l5), (6, .int l6)] [] h (F_X12_sibling_43b N k43 l0 l1 l2 l3 l4 l5 l6 h) := by
  unfold F_X12_sibling_43b
  refine k_iload hq dX12_sibling_43 6 rfl ?_
  refine k_sipush hq dX12_sibling_45 (v := 164) rfl ?_
  refine k_icmp_ge hq (tgt := 144) dX12_sibling_48 (by decide) (fun _ => ?_) (fun _ => ?_)
  · refine k_ldc2 hq (v := (-9)) tw_1184 dX12_sibling_144 ?_
    exact k_lret hq dX12_sibling_147 he
  · refine k_sipush hq dX12_sibling_51 (v := 164) rfl ?_
    refine k_iload_n hq dX12_sibling_54 2 rfl ?_
    refine k_imul hq dX12_sibling_55 ?_
    refine k_iload hq dX12_sibling_56 6 rfl ?_
    refine k_iadd hq dX12_sibling_58 ?_
    refine k_let (mk := fun z => .int z :: []) fun v1 _ => ?_
    refine k_istore hq dX12_sibling_59 (by decide) (ls' := [(7, .int v1), (0, .ref l0), (1, .int l1), (2, .int l2), (3, .int l3), (4, .int l4), (5, .int l5), (6, .int l6)]) rfl ?_
    refine k_aload_n hq dX12_sibling_61 1 rfl ?_
    refine k_gr hq (C := RX12) (T := TX12) 11 14 rfl (by decide) (lay_X12 14 (by decide)) tw_941 dX12_sibling_62 fun v2 => ?_
    refine k_iload hq dX12_sibling_65 0 rfl ?_
    refine k_iald hq dX12_sibling_67 fun v3 => ?_
    refine k_iload_n hq dX12_sibling_68 2 rfl ?_
    refine k_callS hq (na := 2) (As := [.int v3, .int l1]) (st := []) (con_X12_has _ _ _ _ v3 l1) tw_1118 tw_59 tw_1116 tw_1117 ⟨by decide, by decide, by decide +kernel⟩ rfl (by decide) rfl (Nat.le_of_ble_eq_true rfl) dX12_sibling_69 fun v4 h5 => ?_
    refine k_if_eq hq (tgt := 138) dX12_sibling_72 (by decide) (fun _ => ?_) (fun _ => ?_)
    · exact k_sub [1, 2, 3, 4, 5, 6, 7] rfl (P_X12_sibling_138 hq he N k43 hk43 l0 l1 l2 l3 l4 l5 l6 h5)
    · refine k_iload hq dX12_sibling_75 6 rfl ?_
      refine k_iload_n hq dX12_sibling_77 4 rfl ?_
      refine k_icmp_ne hq (tgt := 135) dX12_sibling_78 (by decide) (fun _ => ?_) (fun _ => ?_)
      · refine k_iload hq dX12_sibling_81 5 rfl ?_
        refine k_if_ne hq (tgt := 95) dX12_sibling_83 (by decide) (fun _ => ?_) (fun _ => ?_)
        · refine k_iload hq dX12_sibling_86 7 rfl ?_
          refine k_bipush hq dX12_sibling_88 (v := 41) rfl ?_
          refine k_idivK hq (by decide) dX12_sibling_90 ?_
          refine k_i2l hq dX12_sibling_91 ?_
          refine k_goto hq (tgt := 134) dX12_sibling_92 (by decide) ?_
          exact k_lret hq dX12_sibling_134 he
        · refine k_iload hq dX12_sibling_95 5 rfl ?_
          refine k_iconst hq dX12_sibling_97 (v := 1) rfl ?_
          refine k_icmp_ne hq (tgt := 110) dX12_sibling_98 (by decide) (fun _ => ?_) (fun _ => ?_)
          · refine k_iload hq dX12_sibling_101 7 rfl ?_
            refine k_bipush hq dX12_sibling_103 (v := 41) rfl ?_
            refine k_iremK hq (by decide) dX12_sibling_105 ?_
            refine k_i2l hq dX12_sibling_106 ?_
            refine k_goto hq (tgt := 134) dX12_sibling_107 (by decide) ?_
            exact k_lret hq dX12_sibling_134 he
          · refine k_iload hq dX12_sibling_110 5 rfl ?_
            refine k_iconst hq dX12_sibling_112 (v := 2) rfl ?_
            refine k_icmp_ne hq (tgt := 127) dX12_sibling_113 (by decide) (fun _ => ?_) (fun _ => ?_)
            · refine k_aload_n hq dX12_sibling_116 1 rfl ?_
              refine k_gr hq (C := RX12) (T := TX12) 11 7 rfl (by decide) (lay_X12 7 (by decide)) tw_934 dX12_sibling_117 fun v8 => ?_
              refine k_iload hq dX12_sibling_120 0 rfl ?_
              refine k_iald hq dX12_sibling_122 fun v9 => ?_
              refine k_i2l hq dX12_sibling_123 ?_
              refine k_goto hq (tgt := 134) dX12_sibling_124 (by decide) ?_
              exact k_lret hq dX12_sibling_134 he
            · refine k_aload_n hq dX12_sibling_127 1 rfl ?_
              refine k_gr hq (C := RX12) (T := TX12) 11 6 rfl (by decide) (lay_X12 6 (by decide)) tw_933 dX12_sibling_128 fun v6 => ?_
              refine k_iload hq dX12_sibling_131 0 rfl ?_
              refine k_lald hq dX12_sibling_133 fun v7 => ?_
              exact k_lret hq dX12_sibling_134 he
      · refine k_iinc hq dX12_sibling_135 6 rfl (v := l5 + 1) rfl (by decide) (ls' := [(5, .int (l5 + 1)), (7, .int v1), (0, .ref l0), (1, .int l1), (2, .int l2), (3, .int l3), (4, .int l4), (6, .int l6)]) rfl ?_
        exact k_sub [2, 3, 4, 5, 6, 0, 7] rfl (P_X12_sibling_138 hq he N k43 hk43 l0 l1 l2 l3 l4 (l5 + 1) l6 h5)
theorem Q_X12_sibling_43 {q : eT} {r0 : Int64} {h0 : eH} (hq : e_B q yX12_sibling.cls cX12_sibling 8 2 46 (some .long) yX12_sibling.name) (he : e_E q) (N : Nat) (l0 : Nat) (l1 : Int32) (l2 : Int32) (l3 : Int32) (l4 : Int32) (l5 : Int32) (l6 : Int32) (h : eH) : e_K eL q r0 h0 43 [(0, .ref l0), (1, .int l1), (2, .int l2), (3, .int l3), (4, .int l4), (5, .int l5), (6, .int l6)] [] h (L_X12_sibling_43 N l0 l1 l2 l3 l4 l5 l6 h) :=
  k_loop (mk := (fun s => [(0, .ref s.1), (1, .int s.2.1), (2, .int s.2.2.1), (3, .int s.2.2.2.1), (4, .int s.2.2.2.2.1), (5, .int s.2.2.2.2.2.1), (6, .int s.2.2.2.2.2.2.1)])) (hp := fun s => s.2.2.2.2.2.2.2) (fun k hk s => P_X12_sibling_43b hq he N (fun l0 l1 l2 l3 l4 l5 l6 h => k (l0, l1, l2, l3, l4, l5, l6, h)) (fun l0 l1 l2 l3 l4 l5 l6 h => hk (l0, l1, l2, l3, l4, l5, l6, h)) s.1 s.2.1 s.2.2.1 s.2.2.2.1 s.2.2.2.2.1 s.2.2.2.2.2.1 s.2.2.2.2.2.2.1 s.2.2.2.2.2.2.2) N (l0, l1, l2, l3, l4, l5, l6, h)
set_option maxRecDepth 100000 in
set_option maxHeartbeats 4000000 in
theorem P_X12_sibling_0 {q : eT} {r0 : Int64} {h0 : eH} (hq : e_B q yX12_sibling.cls cX12_sibling 8 2 46 (some .long) yX12_sibling.name) (he : e_E q) (N : Nat) (l0 : Nat) (l1 : Int32) (l2 : Int32) (l3 : Int32) (l4 : Int32) (h : eH) : e_K eL q r0 h0 0 [(0, .ref l0), (1, .int l1), (2, .int l2), (3, .int l3), (4, .int l4)] [] h (F_X12_sibling N l0 l1 l2 l3 l4 h) := by
  unfold F_X12_sibling
  refine k_aload_n hq dX12_sibling_0 0 rfl ?_
  refine k_iload_n hq dX12_sibling_1 1 rfl ?_
  refine k_callV hq (na := 1) (As := [.int l1]) (st := []) 11 (C := RX12) (T := TX12) rfl (con_X12_isSite _ _ _ _ l0 l1) tw_1105 tw_59 tw_1102 tw_1104 tw_28 ⟨by decide, by decide, by decide +kernel⟩ rfl (by decide) rfl (Nat.le_of_ble_eq_true rfl) dX12_sibling_2 fun v1 h2 => ?_
  refine k_if_eq hq (tgt := 33) dX12_sibling_5 (by decide) (fun _ => ?_) (fun _ => ?_)
  · refine k_ldc2 hq (v := (-1)) tw_1082 dX12_sibling_33 ?_
    exact k_lret hq dX12_sibling_36 he
  · refine k_aload_n hq dX12_sibling_8 0 rfl ?_
    refine k_iload_n hq dX12_sibling_9 2 rfl ?_
    refine k_callV hq (na := 1) (As := [.int l2]) (st := []) 11 (C := RX12) (T := TX12) rfl (con_X12_isKey _ _ _ _ l0 l2) tw_1109 tw_59 tw_1106 tw_1108 tw_29 ⟨by decide, by decide, by decide +kernel⟩ rfl (by decide) rfl (Nat.le_of_ble_eq_true rfl) dX12_sibling_10 fun v3 h4 => ?_
    refine k_if_eq hq (tgt := 33) dX12_sibling_13 (by decide) (fun _ => ?_) (fun _ => ?_)
    · refine k_ldc2 hq (v := (-1)) tw_1082 dX12_sibling_33 ?_
      exact k_lret hq dX12_sibling_36 he
    · refine k_iload_n hq dX12_sibling_16 3 rfl ?_
      refine k_if_lt hq (tgt := 33) dX12_sibling_17 (by decide) (fun _ => ?_) (fun _ => ?_)
      · refine k_ldc2 hq (v := (-1)) tw_1082 dX12_sibling_33 ?_
        exact k_lret hq dX12_sibling_36 he
      · refine k_iload hq dX12_sibling_20 4 rfl ?_
        refine k_i2l hq dX12_sibling_22 ?_
        refine k_lconst hq dX12_sibling_23 (v := 0) rfl ?_
        refine k_ldc2 hq (v := 3) tw_1101 dX12_sibling_24 ?_
        refine k_callS hq (na := 3) (As := [.long (l4.toInt64), .long 0, .long 3]) (st := []) (con_X12_in _ _ _ _ (l4.toInt64) 0 3) tw_1059 tw_59 tw_1057 tw_1058 ⟨by decide, by decide, by decide +kernel⟩ rfl (by decide) rfl (Nat.le_of_ble_eq_true rfl) dX12_sibling_27 fun v5 h6 => ?_
        refine k_if_ne hq (tgt := 37) dX12_sibling_30 (by decide) (fun _ => ?_) (fun _ => ?_)
        · refine k_ldc2 hq (v := (-1)) tw_1082 dX12_sibling_33 ?_
          exact k_lret hq dX12_sibling_36 he
        · refine k_iconst hq dX12_sibling_37 (v := 0) rfl ?_
          refine k_istore hq dX12_sibling_38 (by decide) (ls' := [(5, .int 0), (0, .ref l0), (1, .int l1), (2, .int l2), (3, .int l3), (4, .int l4)]) rfl ?_
          refine k_iconst hq dX12_sibling_40 (v := 0) rfl ?_
          refine k_istore hq dX12_sibling_41 (by decide) (ls' := [(6, .int 0), (5, .int 0), (0, .ref l0), (1, .int l1), (2, .int l2), (3, .int l3), (4, .int l4)]) rfl ?_
          exact k_sub [2, 3, 4, 5, 6, 1, 0] rfl (Q_X12_sibling_43 hq he N l0 l1 l2 l3 l4 0 0 h6)
theorem con_X12_sibling (l : Launch) (G : eG) (B0 n : Nat) (N : Nat) (l0 : Nat) (l1 : Int32) (l2 : Int32) (l3 : Int32) (l4 : Int32) : e_C eL l G B0 n yX12_sibling cX12_sibling 8 (some .long) 2 46 [.ref l0, .int l1, .int l2, .int l3, .int l4] (F_X12_sibling N l0 l1 l2 l3 l4) := by
  refine e_mk (by decide) (Nat.le_of_ble_eq_true rfl) fun q r0 h0 h hq he e1 e2 e3 e4 => ?_
  subst e1; subst e2; subst e3; subst e4
  exact P_X12_sibling_0 hq he N l0 l1 l2 l3 l4 h
set_option maxRecDepth 100000 in
set_option maxHeartbeats 4000000 in
theorem P_X12_context_52 {q : eT} {r0 : Int32} {h0 : eH} (hq : e_B q yX12_context.cls cX12_context 3 2 46 (some .int) yX12_context.name) (he : e_E q) (l0 : Nat) (l1 : Int32) (h : eH) : e_K eI q r0 h0 52 [(0, .ref l0), (1, .int l1)] [] h (F_X12_context_52 l0 l1 h) := by
  unfold F_X12_context_52
  refine k_aload_n hq dX12_context_52 0 rfl ?_
  refine k_gr hq (C := RX12) (T := TX12) 11 18 rfl (by decide) (lay_X12 18 (by decide)) tw_945 dX12_context_53 fun v1 => ?_
  refine k_iload_n hq dX12_context_56 1 rfl ?_
  refine k_iald hq dX12_context_57 fun v2 => ?_
  exact k_iret hq dX12_context_58 he
set_option maxRecDepth 100000 in
set_option maxHeartbeats 4000000 in
theorem P_X12_context_37 {q : eT} {r0 : Int32} {h0 : eH} (hq : e_B q yX12_context.cls cX12_context 3 2 46 (some .int) yX12_context.name) (he : e_E q) (l0 : Nat) (l1 : Int32) (l2 : Int32) (h : eH) : e_K eI q r0 h0 37 [(0, .ref l0), (1, .int l1), (2, .int l2)] [] h (F_X12_context_37 l0 l1 l2 h) := by
  unfold F_X12_context_37
  refine k_aload_n hq dX12_context_37 0 rfl ?_
  refine k_gr hq (C := RX12) (T := TX12) 11 18 rfl (by decide) (lay_X12 18 (by decide)) tw_945 dX12_context_38 fun v1 => ?_
  refine k_iload_n hq dX12_context_41 1 rfl ?_
  refine k_iald hq dX12_context_42 fun v2 => ?_
  refine k_bipush hq dX12_context_43 (v := (-9)) rfl ?_
  refine k_icmp_eq hq (tgt := 52) dX12_context_45 (by decide) (fun _ => ?_) (fun _ => ?_)
  · exact k_sub [0, 1] rfl (P_X12_context_52 hq he l0 l1 h)
  · refine k_iload_n hq dX12_context_48 2 rfl ?_
    refine k_if_ge hq (tgt := 59) dX12_context_49 (by decide) (fun _ => ?_) (fun _ => ?_)
    · refine k_iload_n hq dX12_context_59 2 rfl ?_
      refine k_iconst hq dX12_context_60 (v := 4) rfl ?_
      refine k_icmp_ge hq (tgt := 77) dX12_context_61 (by decide) (fun _ => ?_) (fun _ => ?_)
      · refine k_aload_n hq dX12_context_77 0 rfl ?_
        refine k_gr hq (C := RX12) (T := TX12) 11 20 rfl (by decide) (lay_X12 20 (by decide)) tw_947 dX12_context_78 fun v3 => ?_
        refine k_iconst hq dX12_context_81 (v := 4) rfl ?_
        refine k_iload_n hq dX12_context_82 1 rfl ?_
        refine k_imul hq dX12_context_83 ?_
        refine k_iload_n hq dX12_context_84 2 rfl ?_
        refine k_iadd hq dX12_context_85 ?_
        refine k_iconst hq dX12_context_86 (v := 4) rfl ?_
        refine k_isub hq dX12_context_87 ?_
        refine k_iald hq dX12_context_88 fun v4 => ?_
        exact k_iret hq dX12_context_89 he
      · refine k_aload_n hq dX12_context_64 0 rfl ?_
        refine k_gr hq (C := RX12) (T := TX12) 11 19 rfl (by decide) (lay_X12 19 (by decide)) tw_946 dX12_context_65 fun v5 => ?_
        refine k_iconst hq dX12_context_68 (v := 4) rfl ?_
        refine k_iload_n hq dX12_context_69 1 rfl ?_
        refine k_imul hq dX12_context_70 ?_
        refine k_iload_n hq dX12_context_71 2 rfl ?_
        refine k_iadd hq dX12_context_72 ?_
        refine k_iald hq dX12_context_73 fun v6 => ?_
        refine k_goto hq (tgt := 89) dX12_context_74 (by decide) ?_
        exact k_iret hq dX12_context_89 he
    · exact k_sub [0, 1] rfl (P_X12_context_52 hq he l0 l1 h)
set_option maxRecDepth 100000 in
set_option maxHeartbeats 4000000 in
theorem P_X12_context_0 {q : eT} {r0 : Int32} {h0 : eH} (hq : e_B q yX12_context.cls cX12_context 3 2 46 (some .int) yX12_context.name) (he : e_E q) (l0 : Nat) (l1 : Int32) (l2 : Int32) (h : eH) : e_K eI q r0 h0 0 [(0, .ref l0), (1, .int l1), (2, .int l2)] [] h (F_X12_context l0 l1 l2 h) := by
  unfold F_X12_context
  refine k_iload_n hq dX12_context_0 1 rfl ?_
  refine k_callS hq (na := 1) (As := [.int l1]) (st := []) (con_X12_isClient _ _ _ _ l1) tw_1100 tw_59 tw_1098 tw_1099 ⟨by decide, by decide, by decide +kernel⟩ rfl (by decide) rfl (Nat.le_of_ble_eq_true rfl) dX12_context_1 fun v1 h2 => ?_
  refine k_if_eq hq (tgt := 35) dX12_context_4 (by decide) (fun _ => ?_) (fun _ => ?_)
  · refine k_iconst hq dX12_context_35 (v := (-1)) rfl ?_
    exact k_iret hq dX12_context_36 he
  · refine k_iload_n hq dX12_context_7 2 rfl ?_
    refine k_i2l hq dX12_context_8 ?_
    refine k_ldc2 hq (v := (-1)) tw_1082 dX12_context_9 ?_
    refine k_ldc2 hq (v := 7) tw_1189 dX12_context_12 ?_
    refine k_callS hq (na := 3) (As := [.long (l2.toInt64), .long (-1), .long 7]) (st := []) (con_X12_in _ _ _ _ (l2.toInt64) (-1) 7) tw_1059 tw_59 tw_1057 tw_1058 ⟨by decide, by decide, by decide +kernel⟩ rfl (by decide) rfl (Nat.le_of_ble_eq_true rfl) dX12_context_15 fun v3 h4 => ?_
    refine k_if_eq hq (tgt := 35) dX12_context_18 (by decide) (fun _ => ?_) (fun _ => ?_)
    · refine k_iconst hq dX12_context_35 (v := (-1)) rfl ?_
      exact k_iret hq dX12_context_36 he
    · refine k_iload_n hq dX12_context_21 2 rfl ?_
      refine k_if_lt hq (tgt := 37) dX12_context_22 (by decide) (fun _ => ?_) (fun _ => ?_)
      · exact k_sub [0, 1, 2] rfl (P_X12_context_37 hq he l0 l1 l2 h4)
      · refine k_aload_n hq dX12_context_25 0 rfl ?_
        refine k_iload_n hq dX12_context_26 2 rfl ?_
        refine k_iconst hq dX12_context_27 (v := 4) rfl ?_
        refine k_iremK hq (by decide) dX12_context_28 ?_
        refine k_callV hq (na := 1) (As := [.int (l2 - l2 / 4 * 4)]) (st := []) 11 (C := RX12) (T := TX12) rfl (con_X12_isSite _ _ _ _ l0 (l2 - l2 / 4 * 4)) tw_1105 tw_59 tw_1102 tw_1104 tw_28 ⟨by decide, by decide, by decide +kernel⟩ rfl (by decide) rfl (Nat.le_of_ble_eq_true rfl) dX12_context_29 fun v5 h6 => ?_
        refine k_if_ne hq (tgt := 37) dX12_context_32 (by decide) (fun _ => ?_) (fun _ => ?_)
        · refine k_iconst hq dX12_context_35 (v := (-1)) rfl ?_
          exact k_iret hq dX12_context_36 he
        · exact k_sub [0, 1, 2] rfl (P_X12_context_37 hq he l0 l1 l2 h6)
theorem con_X12_context (l : Launch) (G : eG) (B0 n : Nat) (l0 : Nat) (l1 : Int32) (l2 : Int32) : e_C eI l G B0 n yX12_context cX12_context 3 (some .int) 2 46 [.ref l0, .int l1, .int l2] (F_X12_context l0 l1 l2) := by
  refine e_mk (by decide) (Nat.le_of_ble_eq_true rfl) fun q r0 h0 h hq he e1 e2 e3 e4 => ?_
  subst e1; subst e2; subst e3; subst e4
  exact P_X12_context_0 hq he l0 l1 l2 h
set_option maxRecDepth 100000 in
set_option maxHeartbeats 4000000 in
theorem P_X12_bit_0 {q : eT} {r0 : Int32} {h0 : eH} (hq : e_B q yX12_bit.cls cX12_bit 1 0 0 (some .int) yX12_bit.name) (he : e_E q) (l0 : Int32) (h : eH) : e_K eI q r0 h0 0 [(0, .int l0)] [] h (F_X12_bit l0 h) := by
  unfold F_X12_bit
  refine k_iload_n hq dX12_bit_0 0 rfl ?_
  refine k_if_eq hq (tgt := 8) dX12_bit_1 (by decide) (fun _ => ?_) (fun _ => ?_)
  · refine k_iconst hq dX12_bit_8 (v := 0) rfl ?_
    exact k_iret hq dX12_bit_9 he
  · refine k_iconst hq dX12_bit_4 (v := 1) rfl ?_
    refine k_goto hq (tgt := 9) dX12_bit_5 (by decide) ?_
    exact k_iret hq dX12_bit_9 he
theorem con_X12_bit (l : Launch) (G : eG) (B0 n : Nat) (l0 : Int32) : e_C eI l G B0 n yX12_bit cX12_bit 1 (some .int) 0 0 [.int l0] (F_X12_bit l0) := by
  refine e_mk (by decide) (Nat.le_of_ble_eq_true rfl) fun q r0 h0 h hq he e1 e2 e3 e4 => ?_
  subst e1; subst e2; subst e3; subst e4
  exact P_X12_bit_0 hq he l0 h
set_option maxRecDepth 100000 in
set_option maxHeartbeats 4000000 in
theorem P_X12_isLost_0 {q : eT} {r0 : Int32} {h0 : eH} (hq : e_B q yX12_isLost.cls cX12_isLost 2 0 0 (some .boolean) yX12_isLost.name) (he : e_E q) (l0 : Nat) (l1 : Int32) (h : eH) : e_K eI q r0 h0 0 [(0, .ref l0), (1, .int l1)] [] h (F_X12_isLost l0 l1 h) := by
  unfold F_X12_isLost
  refine k_aload_n hq dX12_isLost_0 0 rfl ?_
  refine k_gr hq (C := RX12) (T := TX12) 11 14 rfl (by decide) (lay_X12 14 (by decide)) tw_941 dX12_isLost_1 fun v1 => ?_
  refine k_iload_n hq dX12_isLost_4 1 rfl ?_
  refine k_iald hq dX12_isLost_5 fun v2 => ?_
  refine k_if_ne hq (tgt := 22) dX12_isLost_6 (by decide) (fun _ => ?_) (fun _ => ?_)
  · refine k_aload_n hq dX12_isLost_9 0 rfl ?_
    refine k_gr hq (C := RX12) (T := TX12) 11 10 rfl (by decide) (lay_X12 10 (by decide)) tw_937 dX12_isLost_10 fun v3 => ?_
    refine k_iload_n hq dX12_isLost_13 1 rfl ?_
    refine k_zald hq dX12_isLost_14 fun v4 => ?_
    refine k_if_ne hq (tgt := 22) dX12_isLost_15 (by decide) (fun _ => ?_) (fun _ => ?_)
    · refine k_iconst hq dX12_isLost_18 (v := 1) rfl ?_
      refine k_goto hq (tgt := 23) dX12_isLost_19 (by decide) ?_
      exact k_zret hq dX12_isLost_23 he
    · refine k_iconst hq dX12_isLost_22 (v := 0) rfl ?_
      exact k_zret hq dX12_isLost_23 he
  · refine k_iconst hq dX12_isLost_22 (v := 0) rfl ?_
    exact k_zret hq dX12_isLost_23 he
theorem con_X12_isLost (l : Launch) (G : eG) (B0 n : Nat) (l0 : Nat) (l1 : Int32) : e_C eI l G B0 n yX12_isLost cX12_isLost 2 (some .boolean) 0 0 [.ref l0, .int l1] (F_X12_isLost l0 l1) := by
  refine e_mk (by decide) (Nat.le_of_ble_eq_true rfl) fun q r0 h0 h hq he e1 e2 e3 e4 => ?_
  subst e1; subst e2; subst e3; subst e4
  exact P_X12_isLost_0 hq he l0 l1 h
set_option maxRecDepth 100000 in
set_option maxHeartbeats 4000000 in
theorem P_X12_write_0 {q : eT} {r0 : Int64} {h0 : eH} (hq : e_B q yX12_write.cls cX12_write 6 3 69 (some .long) yX12_write.name) (he : e_E q) (l0 : Nat) (l1 : Int32) (l2 : Int32) (l3 : Int32) (l4 : Int32) (h : eH) : e_K eL q r0 h0 0 [(0, .ref l0), (1, .int l1), (2, .int l2), (3, .int l3), (4, .int l4)] [] h (F_X12_write l0 l1 l2 l3 l4 h) := by
  unfold F_X12_write
  refine k_aload_n hq dX12_write_0 0 rfl ?_
  refine k_iload_n hq dX12_write_1 1 rfl ?_
  refine k_iload_n hq dX12_write_2 2 rfl ?_
  refine k_iload_n hq dX12_write_3 3 rfl ?_
  refine k_callV hq (na := 3) (As := [.int l1, .int l2, .int l3]) (st := []) 11 (C := RX12) (T := TX12) rfl (con_X12_isWrite _ _ _ _ l0 l1 l2 l3) tw_1197 tw_59 tw_1194 tw_1196 tw_38 ⟨by decide, by decide, by decide +kernel⟩ rfl (by decide) rfl (Nat.le_of_ble_eq_true rfl) dX12_write_4 fun v1 h2 => ?_
  refine k_if_eq hq (tgt := 23) dX12_write_7 (by decide) (fun _ => ?_) (fun _ => ?_)
  · refine k_ldc2 hq (v := (-1)) tw_1082 dX12_write_23 ?_
    exact k_lret hq dX12_write_26 he
  · refine k_iload hq dX12_write_10 4 rfl ?_
    refine k_i2l hq dX12_write_12 ?_
    refine k_lconst hq dX12_write_13 (v := 0) rfl ?_
    refine k_ldc2 hq (v := 7) tw_1189 dX12_write_14 ?_
    refine k_callS hq (na := 3) (As := [.long (l4.toInt64), .long 0, .long 7]) (st := []) (con_X12_in _ _ _ _ (l4.toInt64) 0 7) tw_1059 tw_59 tw_1057 tw_1058 ⟨by decide, by decide, by decide +kernel⟩ rfl (by decide) rfl (Nat.le_of_ble_eq_true rfl) dX12_write_17 fun v3 h4 => ?_
    refine k_if_ne hq (tgt := 27) dX12_write_20 (by decide) (fun _ => ?_) (fun _ => ?_)
    · refine k_ldc2 hq (v := (-1)) tw_1082 dX12_write_23 ?_
      exact k_lret hq dX12_write_26 he
    · refine k_iload_n hq dX12_write_27 1 rfl ?_
      refine k_iload_n hq dX12_write_28 2 rfl ?_
      refine k_iload_n hq dX12_write_29 3 rfl ?_
      refine k_callS hq (na := 3) (As := [.int l1, .int l2, .int l3]) (st := []) (con_X12_at _ _ _ _ l1 l2 l3) tw_1115 tw_59 tw_1113 tw_1114 ⟨by decide, by decide, by decide +kernel⟩ rfl (by decide) rfl (Nat.le_of_ble_eq_true rfl) dX12_write_30 fun v5 h6 => ?_
      refine k_istore hq dX12_write_33 (by decide) (ls' := [(5, .int v5), (0, .ref l0), (1, .int l1), (2, .int l2), (3, .int l3), (4, .int l4)]) rfl ?_
      refine k_iload hq dX12_write_35 5 rfl ?_
      refine k_ite (fun e0 => ?_) (fun n0 => ?_)
      · refine k_tableIn hq (tgt := 80) dX12_write_37 (by rw [e0]; decide) (by rw [e0]; decide) (off := 43) (by rw [e0]; rfl) (by decide) ?_
        refine k_aload_n hq dX12_write_80 1 rfl ?_
        refine k_gr hq (C := RX12) (T := TX12) 11 6 rfl (by decide) (lay_X12 6 (by decide)) tw_933 dX12_write_81 fun v7 => ?_
        refine k_iload hq dX12_write_84 0 rfl ?_
        refine k_lald hq dX12_write_86 fun v8 => ?_
        exact k_lret hq dX12_write_87 he
      refine k_ite (fun e0 => ?_) (fun n1 => ?_)
      · refine k_tableIn hq (tgt := 88) dX12_write_37 (by rw [e0]; decide) (by rw [e0]; decide) (off := 51) (by rw [e0]; rfl) (by decide) ?_
        refine k_aload_n hq dX12_write_88 1 rfl ?_
        refine k_gr hq (C := RX12) (T := TX12) 11 7 rfl (by decide) (lay_X12 7 (by decide)) tw_934 dX12_write_89 fun v9 => ?_
        refine k_iload hq dX12_write_92 0 rfl ?_
        refine k_iald hq dX12_write_94 fun v10 => ?_
        refine k_i2l hq dX12_write_95 ?_
        exact k_lret hq dX12_write_96 he
      refine k_ite (fun e0 => ?_) (fun n2 => ?_)
      · refine k_tableIn hq (tgt := 97) dX12_write_37 (by rw [e0]; decide) (by rw [e0]; decide) (off := 60) (by rw [e0]; rfl) (by decide) ?_
        refine k_aload_n hq dX12_write_97 1 rfl ?_
        refine k_gr hq (C := RX12) (T := TX12) 11 10 rfl (by decide) (lay_X12 10 (by decide)) tw_937 dX12_write_98 fun v11 => ?_
        refine k_iload hq dX12_write_101 0 rfl ?_
        refine k_zald hq dX12_write_103 fun v12 => ?_
        refine k_callS hq (na := 1) (As := [.int v12]) (st := []) (con_X12_bit _ _ _ _ v12) tw_1200 tw_59 tw_1198 tw_1199 ⟨by decide, by decide, by decide +kernel⟩ rfl (by decide) rfl (Nat.le_of_ble_eq_true rfl) dX12_write_104 fun v13 h14 => ?_
        refine k_i2l hq dX12_write_107 ?_
        exact k_lret hq dX12_write_108 he
      refine k_ite (fun e0 => ?_) (fun n3 => ?_)
      · refine k_tableIn hq (tgt := 109) dX12_write_37 (by rw [e0]; decide) (by rw [e0]; decide) (off := 72) (by rw [e0]; rfl) (by decide) ?_
        refine k_aload_n hq dX12_write_109 1 rfl ?_
        refine k_gr hq (C := RX12) (T := TX12) 11 11 rfl (by decide) (lay_X12 11 (by decide)) tw_938 dX12_write_110 fun v15 => ?_
        refine k_iload hq dX12_write_113 0 rfl ?_
        refine k_zald hq dX12_write_115 fun v16 => ?_
        refine k_callS hq (na := 1) (As := [.int v16]) (st := []) (con_X12_bit _ _ _ _ v16) tw_1200 tw_59 tw_1198 tw_1199 ⟨by decide, by decide, by decide +kernel⟩ rfl (by decide) rfl (Nat.le_of_ble_eq_true rfl) dX12_write_116 fun v17 h18 => ?_
        refine k_i2l hq dX12_write_119 ?_
        exact k_lret hq dX12_write_120 he
      refine k_ite (fun e0 => ?_) (fun n4 => ?_)
      · refine k_tableIn hq (tgt := 121) dX12_write_37 (by rw [e0]; decide) (by rw [e0]; decide) (off := 84) (by rw [e0]; rfl) (by decide) ?_
        refine k_aload_n hq dX12_write_121 1 rfl ?_
        refine k_gr hq (C := RX12) (T := TX12) 11 12 rfl (by decide) (lay_X12 12 (by decide)) tw_939 dX12_write_122 fun v19 => ?_
        refine k_iload hq dX12_write_125 0 rfl ?_
        refine k_zald hq dX12_write_127 fun v20 => ?_
        refine k_callS hq (na := 1) (As := [.int v20]) (st := []) (con_X12_bit _ _ _ _ v20) tw_1200 tw_59 tw_1198 tw_1199 ⟨by decide, by decide, by decide +kernel⟩ rfl (by decide) rfl (Nat.le_of_ble_eq_true rfl) dX12_write_128 fun v21 h22 => ?_
        refine k_i2l hq dX12_write_131 ?_
        exact k_lret hq dX12_write_132 he
      refine k_ite (fun e0 => ?_) (fun n5 => ?_)
      · refine k_tableIn hq (tgt := 133) dX12_write_37 (by rw [e0]; decide) (by rw [e0]; decide) (off := 96) (by rw [e0]; rfl) (by decide) ?_
        refine k_aload_n hq dX12_write_133 1 rfl ?_
        refine k_gr hq (C := RX12) (T := TX12) 11 13 rfl (by decide) (lay_X12 13 (by decide)) tw_940 dX12_write_134 fun v23 => ?_
        refine k_iload hq dX12_write_137 0 rfl ?_
        refine k_zald hq dX12_write_139 fun v24 => ?_
        refine k_callS hq (na := 1) (As := [.int v24]) (st := []) (con_X12_bit _ _ _ _ v24) tw_1200 tw_59 tw_1198 tw_1199 ⟨by decide, by decide, by decide +kernel⟩ rfl (by decide) rfl (Nat.le_of_ble_eq_true rfl) dX12_write_140 fun v25 h26 => ?_
        refine k_i2l hq dX12_write_143 ?_
        exact k_lret hq dX12_write_144 he
      refine k_ite (fun e0 => ?_) (fun n6 => ?_)
      · refine k_tableIn hq (tgt := 145) dX12_write_37 (by rw [e0]; decide) (by rw [e0]; decide) (off := 108) (by rw [e0]; rfl) (by decide) ?_
        refine k_aload_n hq dX12_write_145 1 rfl ?_
        refine k_gr hq (C := RX12) (T := TX12) 11 14 rfl (by decide) (lay_X12 14 (by decide)) tw_941 dX12_write_146 fun v27 => ?_
        refine k_iload hq dX12_write_149 0 rfl ?_
        refine k_iald hq dX12_write_151 fun v28 => ?_
        refine k_i2l hq dX12_write_152 ?_
        exact k_lret hq dX12_write_153 he
      refine k_tableOut hq (tgt := 154) dX12_write_37 (by have m0 := e_ne n0 (show (0 : Int32).toInt = 0 from rfl); have m1 := e_ne n1 (show (1 : Int32).toInt = 1 from rfl); have m2 := e_ne n2 (show (2 : Int32).toInt = 2 from rfl); have m3 := e_ne n3 (show (3 : Int32).toInt = 3 from rfl); have m4 := e_ne n4 (show (4 : Int32).toInt = 4 from rfl); have m5 := e_ne n5 (show (5 : Int32).toInt = 5 from rfl); have m6 := e_ne n6 (show (6 : Int32).toInt = 6 from rfl); omega) (by decide) ?_
      refine k_aload_n hq dX12_write_154 1 rfl ?_
      refine k_iload hq dX12_write_155 0 rfl ?_
      refine k_callV hq (na := 1) (As := [.int v5]) (st := []) 11 (C := RX12) (T := TX12) rfl (con_X12_isLost _ _ _ _ l0 v5) tw_1204 tw_59 tw_1201 tw_1203 tw_39 ⟨by decide, by decide, by decide +kernel⟩ rfl (by decide) rfl (Nat.le_of_ble_eq_true rfl) dX12_write_157 fun v29 h30 => ?_
      refine k_callS hq (na := 1) (As := [.int v29]) (st := []) (con_X12_bit _ _ _ _ v29) tw_1200 tw_59 tw_1198 tw_1199 ⟨by decide, by decide, by decide +kernel⟩ rfl (by decide) rfl (Nat.le_of_ble_eq_true rfl) dX12_write_160 fun v31 h32 => ?_
      refine k_i2l hq dX12_write_163 ?_
      exact k_lret hq dX12_write_164 he
theorem con_X12_write (l : Launch) (G : eG) (B0 n : Nat) (l0 : Nat) (l1 : Int32) (l2 : Int32) (l3 : Int32) (l4 : Int32) : e_C eL l G B0 n yX12_write cX12_write 6 (some .long) 3 69 [.ref l0, .int l1, .int l2, .int l3, .int l4] (F_X12_write l0 l1 l2 l3 l4) := by
  refine e_mk (by decide) (Nat.le_of_ble_eq_true rfl) fun q r0 h0 h hq he e1 e2 e3 e4 => ?_
  subst e1; subst e2; subst e3; subst e4
  exact P_X12_write_0 hq he l0 l1 l2 l3 l4 h
set_option maxRecDepth 100000 in
set_option maxHeartbeats 4000000 in
theorem P_X12_ahead_80 {q : eT} {r0 : Int32} {h0 : eH} (hq : e_B q yX12_ahead.cls cX12_ahead 8 3 69 (some .int) yX12_ahead.name) (he : e_E q) (s0 : Int32) (h : eH) : e_K eI q r0 h0 80 [] [.int s0] h (F_X12_ahead_80 s0 h) := by
  unfold F_X12_ahead_80
  refine k_callS hq (na := 1) (As := [.int s0]) (st := []) (con_X12_bit _ _ _ _ s0) tw_1200 tw_59 tw_1198 tw_1199 ⟨by decide, by decide, by decide +kernel⟩ rfl (by decide) rfl (Nat.le_of_ble_eq_true rfl) dX12_ahead_80 fun v1 h2 => ?_
  exact k_iret hq dX12_ahead_83 he
set_option maxRecDepth 100000 in
set_option maxHeartbeats 4000000 in
theorem P_X12_ahead_71 {q : eT} {r0 : Int32} {h0 : eH} (hq : e_B q yX12_ahead.cls cX12_ahead 8 3 69 (some .int) yX12_ahead.name) (he : e_E q) (l3 : Int32) (s0 : Int32) (h : eH) : e_K eI q r0 h0 71 [(3, .int l3)] [.int s0] h (F_X12_ahead_71 l3 s0 h) := by
  unfold F_X12_ahead_71
  refine k_iload_n hq dX12_ahead_71 0 rfl ?_
  refine k_icmp_lt hq (tgt := 79) dX12_ahead_72 (by decide) (fun _ => ?_) (fun _ => ?_)
  · refine k_iconst hq dX12_ahead_79 (v := 0) rfl ?_
    exact k_sub [] rfl (P_X12_ahead_80 hq he 0 h)
  · refine k_iconst hq dX12_ahead_75 (v := 1) rfl ?_
    refine k_goto hq (tgt := 80) dX12_ahead_76 (by decide) ?_
    exact k_sub [] rfl (P_X12_ahead_80 hq he 1 h)
set_option maxRecDepth 100000 in
set_option maxHeartbeats 4000000 in
theorem P_X12_ahead_0 {q : eT} {r0 : Int32} {h0 : eH} (hq : e_B q yX12_ahead.cls cX12_ahead 8 3 69 (some .int) yX12_ahead.name) (he : e_E q) (l0 : Nat) (l1 : Int32) (l2 : Int32) (l3 : Int32) (l4 : Int32) (l5 : Int32) (l6 : Int32) (h : eH) : e_K eI q r0 h0 0 [(0, .ref l0), (1, .int l1), (2, .int l2), (3, .int l3), (4, .int l4), (5, .int l5), (6, .int l6)] [] h (F_X12_ahead l0 l1 l2 l3 l4 l5 l6 h) := by
  unfold F_X12_ahead
  refine k_aload_n hq dX12_ahead_0 0 rfl ?_
  refine k_iload_n hq dX12_ahead_1 1 rfl ?_
  refine k_iload_n hq dX12_ahead_2 2 rfl ?_
  refine k_iload_n hq dX12_ahead_3 3 rfl ?_
  refine k_callV hq (na := 3) (As := [.int l1, .int l2, .int l3]) (st := []) 11 (C := RX12) (T := TX12) rfl (con_X12_isWrite _ _ _ _ l0 l1 l2 l3) tw_1197 tw_59 tw_1194 tw_1196 tw_38 ⟨by decide, by decide, by decide +kernel⟩ rfl (by decide) rfl (Nat.le_of_ble_eq_true rfl) dX12_ahead_4 fun v1 h2 => ?_
  refine k_if_eq hq (tgt := 33) dX12_ahead_7 (by decide) (fun _ => ?_) (fun _ => ?_)
  · refine k_iconst hq dX12_ahead_33 (v := (-1)) rfl ?_
    exact k_iret hq dX12_ahead_34 he
  · refine k_aload_n hq dX12_ahead_10 0 rfl ?_
    refine k_iload_n hq dX12_ahead_11 1 rfl ?_
    refine k_iload hq dX12_ahead_12 4 rfl ?_
    refine k_iload hq dX12_ahead_14 5 rfl ?_
    refine k_callV hq (na := 3) (As := [.int l1, .int l4, .int l5]) (st := []) 11 (C := RX12) (T := TX12) rfl (con_X12_isWrite _ _ _ _ l0 l1 l4 l5) tw_1197 tw_59 tw_1194 tw_1196 tw_38 ⟨by decide, by decide, by decide +kernel⟩ rfl (by decide) rfl (Nat.le_of_ble_eq_true rfl) dX12_ahead_16 fun v3 h4 => ?_
    refine k_if_eq hq (tgt := 33) dX12_ahead_19 (by decide) (fun _ => ?_) (fun _ => ?_)
    · refine k_iconst hq dX12_ahead_33 (v := (-1)) rfl ?_
      exact k_iret hq dX12_ahead_34 he
    · refine k_iload hq dX12_ahead_22 6 rfl ?_
      refine k_i2l hq dX12_ahead_24 ?_
      refine k_lconst hq dX12_ahead_25 (v := 0) rfl ?_
      refine k_lconst hq dX12_ahead_26 (v := 1) rfl ?_
      refine k_callS hq (na := 3) (As := [.long (l6.toInt64), .long 0, .long 1]) (st := []) (con_X12_in _ _ _ _ (l6.toInt64) 0 1) tw_1059 tw_59 tw_1057 tw_1058 ⟨by decide, by decide, by decide +kernel⟩ rfl (by decide) rfl (Nat.le_of_ble_eq_true rfl) dX12_ahead_27 fun v5 h6 => ?_
      refine k_if_ne hq (tgt := 35) dX12_ahead_30 (by decide) (fun _ => ?_) (fun _ => ?_)
      · refine k_iconst hq dX12_ahead_33 (v := (-1)) rfl ?_
        exact k_iret hq dX12_ahead_34 he
      · refine k_iconst hq dX12_ahead_35 (v := 4) rfl ?_
        refine k_iload_n hq dX12_ahead_36 1 rfl ?_
        refine k_iload hq dX12_ahead_37 4 rfl ?_
        refine k_iload hq dX12_ahead_39 5 rfl ?_
        refine k_callS hq (na := 3) (As := [.int l1, .int l4, .int l5]) (st := [.int 4]) (con_X12_at _ _ _ _ l1 l4 l5) tw_1115 tw_59 tw_1113 tw_1114 ⟨by decide, by decide, by decide +kernel⟩ rfl (by decide) rfl (Nat.le_of_ble_eq_true rfl) dX12_ahead_41 fun v7 h8 => ?_
        refine k_imul hq dX12_ahead_44 ?_
        refine k_iload_n hq dX12_ahead_45 2 rfl ?_
        refine k_iadd hq dX12_ahead_46 ?_
        refine k_let (mk := fun z => .int z :: []) fun v9 _ => ?_
        refine k_istore hq dX12_ahead_47 (by decide) (ls' := [(7, .int v9), (0, .ref l0), (1, .int l1), (2, .int l2), (3, .int l3), (4, .int l4), (5, .int l5), (6, .int l6)]) rfl ?_
        refine k_iload hq dX12_ahead_49 7 rfl ?_
        refine k_if_ne hq (tgt := 64) dX12_ahead_51 (by decide) (fun _ => ?_) (fun _ => ?_)
        · refine k_aload_n hq dX12_ahead_54 1 rfl ?_
          refine k_gr hq (C := RX12) (T := TX12) 11 8 rfl (by decide) (lay_X12 8 (by decide)) tw_935 dX12_ahead_55 fun v12 => ?_
          refine k_iload hq dX12_ahead_58 0 rfl ?_
          refine k_iald hq dX12_ahead_60 fun v13 => ?_
          refine k_goto hq (tgt := 71) dX12_ahead_61 (by decide) ?_
          exact k_sub [4] rfl (P_X12_ahead_71 hq he l3 v13 h8)
        · refine k_aload_n hq dX12_ahead_64 1 rfl ?_
          refine k_gr hq (C := RX12) (T := TX12) 11 9 rfl (by decide) (lay_X12 9 (by decide)) tw_936 dX12_ahead_65 fun v10 => ?_
          refine k_iload hq dX12_ahead_68 0 rfl ?_
          refine k_iald hq dX12_ahead_70 fun v11 => ?_
          exact k_sub [4] rfl (P_X12_ahead_71 hq he l3 v11 h8)
theorem con_X12_ahead (l : Launch) (G : eG) (B0 n : Nat) (l0 : Nat) (l1 : Int32) (l2 : Int32) (l3 : Int32) (l4 : Int32) (l5 : Int32) (l6 : Int32) : e_C eI l G B0 n yX12_ahead cX12_ahead 8 (some .int) 3 69 [.ref l0, .int l1, .int l2, .int l3, .int l4, .int l5, .int l6] (F_X12_ahead l0 l1 l2 l3 l4 l5 l6) := by
  refine e_mk (by decide) (Nat.le_of_ble_eq_true rfl) fun q r0 h0 h hq he e1 e2 e3 e4 => ?_
  subst e1; subst e2; subst e3; subst e4
  exact P_X12_ahead_0 hq he l0 l1 l2 l3 l4 l5 l6 h
