set_option maxRecDepth 100000 in
set_option maxHeartbeats 4000000 in
theorem P_X4_replicaOf_0 {q : eT} {r0 : Option Nat} {h0 : eH} (hq : e_B q yX4_replicaOf.cls cX4_replicaOf 2 0 0 (some (.object "SideVersions$Replica")) yX4_replicaOf.name) (l0 : Nat) (l1 : Int32) (h : eH) : e_K eR q r0 h0 0 [(0, .ref l0), (1, .int l1)] [] h (F_X4_replicaOf l0 l1 h) := by
  unfold F_X4_replicaOf
  refine k_iload_n hq dX4_replicaOf_0 1 rfl ?_
  refine k_if_lt hq (tgt := 22) dX4_replicaOf_1 (by decide) (fun _ => ?_) (fun _ => ?_)
  · refine k_aconst_null hq dX4_replicaOf_22 ?_
    exact k_aret (v := none) hq dX4_replicaOf_23
  · refine k_iload_n hq dX4_replicaOf_4 1 rfl ?_
    refine k_aload_n hq dX4_replicaOf_5 0 rfl ?_
    refine k_gr hq (C := RX4) (T := TX4) 4 1 rfl (by decide) (lay_X4 1 (by decide)) tw_287 dX4_replicaOf_6 fun v1 => ?_
    refine k_alen hq dX4_replicaOf_9 fun v2 => ?_
    refine k_icmp_ge hq (tgt := 22) dX4_replicaOf_10 (by decide) (fun _ => ?_) (fun _ => ?_)
    · refine k_aconst_null hq dX4_replicaOf_22 ?_
      exact k_aret (v := none) hq dX4_replicaOf_23
    · refine k_aload_n hq dX4_replicaOf_13 0 rfl ?_
      refine k_gr hq (C := RX4) (T := TX4) 4 1 rfl (by decide) (lay_X4 1 (by decide)) tw_287 dX4_replicaOf_14 fun v3 => ?_
      refine k_iload_n hq dX4_replicaOf_17 1 rfl ?_
      refine k_aald hq 4 (fun _ => rfl) dX4_replicaOf_18 fun v4 => ?_
      refine k_goto hq (tgt := 23) dX4_replicaOf_19 (by decide) ?_
      exact k_aret (v := (some v4)) hq dX4_replicaOf_23
theorem con_X4_replicaOf (l : Launch) (G : eG) (B0 n : Nat) (l0 : Nat) (l1 : Int32) : e_C eR l G B0 n yX4_replicaOf cX4_replicaOf 2 (some (.object "SideVersions$Replica")) 0 0 [.ref l0, .int l1] (F_X4_replicaOf l0 l1) := by
  refine e_mk (by decide) (Nat.le_of_ble_eq_true rfl) fun q r0 h0 h hq e1 e2 e3 e4 => ?_
  subst e1; subst e2; subst e3; subst e4
  exact P_X4_replicaOf_0 hq l0 l1 h
set_option maxRecDepth 100000 in
set_option maxHeartbeats 4000000 in
theorem P_X4_isWithin_82 {q : eT} {r0 : Int32} {h0 : eH} (hq : e_B q yX4_isWithin.cls cX4_isWithin 10 4 85 (some .boolean) yX4_isWithin.name) (N : Nat) (k9 : Nat → Int32 → Option Nat → Int32 → eH → Option (Int32 × eH)) (k28 : Nat → Int32 → Nat → Int32 → Int64 → Int64 → Int32 → eH → Option (Int32 × eH)) (hk9 : ∀ (l0 : Nat) (l2 : Int32) (l3 : Option Nat) (l4 : Int32) h, e_K eI q r0 h0 9 [(0, .ref l0), (2, .int l2), (3, va_rf l3), (4, .int l4)] [] h (k9 l0 l2 l3 l4 h)) (hk28 : ∀ (l0 : Nat) (l2 : Int32) (l3 : Nat) (l4 : Int32) (l5 : Int64) (l7 : Int64) (l9 : Int32) h, e_K eI q r0 h0 28 [(0, .ref l0), (2, .int l2), (3, .ref l3), (4, .int l4), (5, .long l5), (7, .long l7), (9, .int l9)] [] h (k28 l0 l2 l3 l4 l5 l7 l9 h)) (l0 : Nat) (l2 : Int32) (l3 : Nat) (l4 : Int32) (l5 : Int64) (l7 : Int64) (l9 : Int32) (h : eH) : e_K eI q r0 h0 82 [(0, .ref l0), (2, .int l2), (3, .ref l3), (4, .int l4), (5, .long l5), (7, .long l7), (9, .int l9)] [] h (F_X4_isWithin_82 N k9 k28 l0 l2 l3 l4 l5 l7 l9 h) := by
  unfold F_X4_isWithin_82
  refine k_iinc hq dX4_isWithin_82 6 rfl (v := l9 + 1) rfl (by decide) (ls' := [(9, .int (l9 + 1)), (0, .ref l0), (2, .int l2), (3, .ref l3), (4, .int l4), (5, .long l5), (7, .long l7)]) rfl ?_
  refine k_goto hq (tgt := 28) dX4_isWithin_85 (by decide) ?_
  exact k_sub [1, 2, 3, 4, 5, 6, 0] rfl (hk28 l0 l2 l3 l4 l5 l7 (l9 + 1) h)
set_option maxRecDepth 100000 in
set_option maxHeartbeats 4000000 in
theorem P_X4_isWithin_28b {q : eT} {r0 : Int32} {h0 : eH} (hq : e_B q yX4_isWithin.cls cX4_isWithin 10 4 85 (some .boolean) yX4_isWithin.name) (N : Nat) (k9 : Nat → Int32 → Option Nat → Int32 → eH → Option (Int32 × eH)) (k28 : Nat → Int32 → Nat → Int32 → Int64 → Int64 → Int32 → eH → Option (Int32 × eH)) (hk9 : ∀ (l0 : Nat) (l2 : Int32) (l3 : Option Nat) (l4 : Int32) h, e_K eI q r0 h0 9 [(0, .ref l0), (2, .int l2), (3, va_rf l3), (4, .int l4)] [] h (k9 l0 l2 l3 l4 h)) (hk28 : ∀ (l0 : Nat) (l2 : Int32) (l3 : Nat) (l4 : Int32) (l5 : Int64) (l7 : Int64) (l9 : Int32) h, e_K eI q r0 h0 28 [(0, .ref l0), (2, .int l2), (3, .ref l3), (4, .int l4), (5, .long l5), (7, .long l7), (9, .int l9)] [] h (k28 l0 l2 l3 l4 l5 l7 l9 h)) (l0 : Nat) (l2 : Int32) (l3 : Nat) (l4 : Int32) (l5 : Int64) (l7 : Int64) (l9 : Int32) (h : eH) : e_K eI q r0 h0 28 [(0, .ref l0), (2, .int l2), (3, .ref l3), (4, .int l4), (5, .long l5), (7, .long l7), (9, .int l9)] [] h (F_X4_isWithin_28b N k9 k28 l0 l2 l3 l4 l5 l7 l9 h) := by
  unfold F_X4_isWithin_28b
  refine k_iload hq dX4_isWithin_28 6 rfl ?_
  refine k_aload_n hq dX4_isWithin_30 0 rfl ?_
  refine k_gr hq (C := RX4) (T := TX4) 4 1 rfl (by decide) (lay_X4 1 (by decide)) tw_287 dX4_isWithin_31 fun v1 => ?_
  refine k_alen hq dX4_isWithin_34 fun v2 => ?_
  refine k_icmp_ge hq (tgt := 88) dX4_isWithin_35 (by decide) (fun _ => ?_) (fun _ => ?_)
  · refine k_aload_n hq dX4_isWithin_88 2 rfl ?_
    refine k_iload hq dX4_isWithin_89 3 rfl ?_
    refine k_callV hq (na := 1) (As := [.int l4]) (st := []) 8 (C := RX8) (T := TX8) rfl (con_X8_covered _ _ _ _ l3 l4) tw_855 tw_57 tw_852 tw_853 tw_854 ⟨by decide, by decide, by decide +kernel⟩ rfl (by decide) rfl (Nat.le_of_ble_eq_true rfl) dX4_isWithin_91 fun v3 h4 => ?_
    refine k_lload hq dX4_isWithin_94 4 rfl ?_
    refine k_ldc2 hq (v := (-1)) tw_865 dX4_isWithin_96 ?_
    refine k_lxor hq dX4_isWithin_99 ?_
    refine k_land hq dX4_isWithin_100 ?_
    refine k_lconst hq dX4_isWithin_101 (v := 0) rfl ?_
    refine k_lcmp hq dX4_isWithin_102 ?_
    refine k_if_ne hq (tgt := 124) dX4_isWithin_103 (by decide) (fun _ => ?_) (fun _ => ?_)
    · refine k_aload_n hq dX4_isWithin_106 2 rfl ?_
      refine k_iload hq dX4_isWithin_107 3 rfl ?_
      refine k_callV hq (na := 1) (As := [.int l4]) (st := []) 8 (C := RX8) (T := TX8) rfl (con_X8_gone _ _ _ _ l3 l4) tw_860 tw_57 tw_857 tw_858 tw_859 ⟨by decide, by decide, by decide +kernel⟩ rfl (by decide) rfl (Nat.le_of_ble_eq_true rfl) dX4_isWithin_109 fun v5 h6 => ?_
      refine k_lload hq dX4_isWithin_112 5 rfl ?_
      refine k_ldc2 hq (v := (-1)) tw_865 dX4_isWithin_114 ?_
      refine k_lxor hq dX4_isWithin_117 ?_
      refine k_land hq dX4_isWithin_118 ?_
      refine k_lconst hq dX4_isWithin_119 (v := 0) rfl ?_
      refine k_lcmp hq dX4_isWithin_120 ?_
      refine k_if_eq hq (tgt := 126) dX4_isWithin_121 (by decide) (fun _ => ?_) (fun _ => ?_)
      · refine k_iinc hq dX4_isWithin_126 3 rfl (v := l4 + 1) rfl (by decide) (ls' := [(4, .int (l4 + 1)), (0, .ref l0), (2, .int l2), (3, .ref l3), (5, .long l5), (7, .long l7), (9, .int l9)]) rfl ?_
        refine k_goto hq (tgt := 9) dX4_isWithin_129 (by decide) ?_
        exact k_sub [1, 2, 3, 0] rfl (hk9 l0 l2 (some l3) (l4 + 1) h6)
      · refine k_iconst hq dX4_isWithin_124 (v := 0) rfl ?_
        exact k_zret hq dX4_isWithin_125
    · refine k_iconst hq dX4_isWithin_124 (v := 0) rfl ?_
      exact k_zret hq dX4_isWithin_125
  · refine k_iload_n hq dX4_isWithin_38 1 rfl ?_
    refine k_iload hq dX4_isWithin_39 6 rfl ?_
    refine k_ishr hq dX4_isWithin_41 ?_
    refine k_iconst hq dX4_isWithin_42 (v := 1) rfl ?_
    refine k_iand hq dX4_isWithin_43 ?_
    refine k_iconst hq dX4_isWithin_44 (v := 1) rfl ?_
    refine k_icmp_ne hq (tgt := 82) dX4_isWithin_45 (by decide) (fun _ => ?_) (fun _ => ?_)
    · refine k_lload hq dX4_isWithin_48 4 rfl ?_
      refine k_aload_n hq dX4_isWithin_50 0 rfl ?_
      refine k_gr hq (C := RX4) (T := TX4) 4 1 rfl (by decide) (lay_X4 1 (by decide)) tw_287 dX4_isWithin_51 fun v7 => ?_
      refine k_iload hq dX4_isWithin_54 6 rfl ?_
      refine k_aald hq 4 (fun _ => rfl) dX4_isWithin_56 fun v8 => ?_
      refine k_iload hq dX4_isWithin_57 3 rfl ?_
      refine k_callV hq (na := 1) (As := [.int l4]) (st := [.long l5]) 8 (C := RX8) (T := TX8) rfl (con_X8_covered _ _ _ _ v8 l4) tw_855 tw_57 tw_852 tw_853 tw_854 ⟨by decide, by decide, by decide +kernel⟩ rfl (by decide) rfl (Nat.le_of_ble_eq_true rfl) dX4_isWithin_59 fun v9 h10 => ?_
      refine k_lor hq dX4_isWithin_62 ?_
      refine k_let (mk := fun z => .long z :: []) fun v11 _ => ?_
      refine k_lstore hq dX4_isWithin_63 (by decide) (ls' := [(5, .long v11), (0, .ref l0), (2, .int l2), (3, .ref l3), (4, .int l4), (7, .long l7), (9, .int l9)]) rfl ?_
      refine k_lload hq dX4_isWithin_65 5 rfl ?_
      refine k_aload_n hq dX4_isWithin_67 1 rfl ?_
      refine k_gr hq (C := RX4) (T := TX4) 4 1 rfl (by decide) (lay_X4 1 (by decide)) tw_287 dX4_isWithin_68 fun v12 => ?_
      refine k_iload hq dX4_isWithin_71 6 rfl ?_
      refine k_aald hq 4 (fun _ => rfl) dX4_isWithin_73 fun v13 => ?_
      refine k_iload hq dX4_isWithin_74 4 rfl ?_
      refine k_callV hq (na := 1) (As := [.int l4]) (st := [.long l7]) 8 (C := RX8) (T := TX8) rfl (con_X8_gone _ _ _ _ v13 l4) tw_860 tw_57 tw_857 tw_858 tw_859 ⟨by decide, by decide, by decide +kernel⟩ rfl (by decide) rfl (Nat.le_of_ble_eq_true rfl) dX4_isWithin_76 fun v14 h15 => ?_
      refine k_lor hq dX4_isWithin_79 ?_
      refine k_let (mk := fun z => .long z :: []) fun v16 _ => ?_
      refine k_lstore hq dX4_isWithin_80 (by decide) (ls' := [(7, .long v16), (5, .long v11), (0, .ref l0), (2, .int l2), (3, .ref l3), (4, .int l4), (9, .int l9)]) rfl ?_
      exact k_sub [2, 3, 4, 5, 1, 0, 6] rfl (P_X4_isWithin_82 hq N k9 k28 hk9 hk28 l0 l2 l3 l4 v11 v16 l9 h15)
    · exact k_sub [0, 1, 2, 3, 4, 5, 6] rfl (P_X4_isWithin_82 hq N k9 k28 hk9 hk28 l0 l2 l3 l4 l5 l7 l9 h)
theorem Q_X4_isWithin_28 {q : eT} {r0 : Int32} {h0 : eH} (hq : e_B q yX4_isWithin.cls cX4_isWithin 10 4 85 (some .boolean) yX4_isWithin.name) (N : Nat) (k9 : Nat → Int32 → Option Nat → Int32 → eH → Option (Int32 × eH)) (hk9 : ∀ (l0 : Nat) (l2 : Int32) (l3 : Option Nat) (l4 : Int32) h, e_K eI q r0 h0 9 [(0, .ref l0), (2, .int l2), (3, va_rf l3), (4, .int l4)] [] h (k9 l0 l2 l3 l4 h)) (l0 : Nat) (l2 : Int32) (l3 : Nat) (l4 : Int32) (l5 : Int64) (l7 : Int64) (l9 : Int32) (h : eH) : e_K eI q r0 h0 28 [(0, .ref l0), (2, .int l2), (3, .ref l3), (4, .int l4), (5, .long l5), (7, .long l7), (9, .int l9)] [] h (L_X4_isWithin_28 N k9 l0 l2 l3 l4 l5 l7 l9 h) :=
  k_loop (mk := (fun s => [(0, .ref s.1), (2, .int s.2.1), (3, .ref s.2.2.1), (4, .int s.2.2.2.1), (5, .long s.2.2.2.2.1), (7, .long s.2.2.2.2.2.1), (9, .int s.2.2.2.2.2.2.1)])) (hp := fun s => s.2.2.2.2.2.2.2) (fun k hk s => P_X4_isWithin_28b hq N k9 (fun l0 l2 l3 l4 l5 l7 l9 h => k (l0, l2, l3, l4, l5, l7, l9, h)) hk9 (fun l0 l2 l3 l4 l5 l7 l9 h => hk (l0, l2, l3, l4, l5, l7, l9, h)) s.1 s.2.1 s.2.2.1 s.2.2.2.1 s.2.2.2.2.1 s.2.2.2.2.2.1 s.2.2.2.2.2.2.1 s.2.2.2.2.2.2.2) N (l0, l2, l3, l4, l5, l7, l9, h)
set_option maxRecDepth 100000 in
set_option maxHeartbeats 4000000 in
theorem P_X4_isWithin_9b {q : eT} {r0 : Int32} {h0 : eH} (hq : e_B q yX4_isWithin.cls cX4_isWithin 10 4 85 (some .boolean) yX4_isWithin.name) (N : Nat) (k9 : Nat → Int32 → Option Nat → Int32 → eH → Option (Int32 × eH)) (hk9 : ∀ (l0 : Nat) (l2 : Int32) (l3 : Option Nat) (l4 : Int32) h, e_K eI q r0 h0 9 [(0, .ref l0), (2, .int l2), (3, va_rf l3), (4, .int l4)] [] h (k9 l0 l2 l3 l4 h)) (l0 : Nat) (l2 : Int32) (l3 : Option Nat) (l4 : Int32) (h : eH) : e_K eI q r0 h0 9 [(0, .ref l0), (2, .int l2), (3, va_rf l3), (4, .int l4)] [] h (F_X4_isWithin_9b N k9 l0 l2 l3 l4 h) := by
  unfold F_X4_isWithin_9b
  refine k_qload_n hq dX4_isWithin_9 2 rfl ?_
  refine k_ifnull hq (tgt := 132) dX4_isWithin_10 (by decide) (fun hr => ?_) (fun r1 hr => ?_)
  · subst hr
    refine k_iconst hq dX4_isWithin_132 (v := 1) rfl ?_
    exact k_zret hq dX4_isWithin_133
  · subst hr
    refine k_iload hq dX4_isWithin_13 3 rfl ?_
    refine k_iconst hq dX4_isWithin_15 (v := 4) rfl ?_
    refine k_icmp_ge hq (tgt := 132) dX4_isWithin_16 (by decide) (fun _ => ?_) (fun _ => ?_)
    · refine k_iconst hq dX4_isWithin_132 (v := 1) rfl ?_
      exact k_zret hq dX4_isWithin_133
    · refine k_lconst hq dX4_isWithin_19 (v := 0) rfl ?_
      refine k_lstore hq dX4_isWithin_20 (by decide) (ls' := [(5, .long 0), (0, .ref l0), (2, .int l2), (3, .ref r1), (4, .int l4)]) rfl ?_
      refine k_lconst hq dX4_isWithin_22 (v := 0) rfl ?_
      refine k_lstore hq dX4_isWithin_23 (by decide) (ls' := [(7, .long 0), (5, .long 0), (0, .ref l0), (2, .int l2), (3, .ref r1), (4, .int l4)]) rfl ?_
      refine k_iconst hq dX4_isWithin_25 (v := 0) rfl ?_
      refine k_istore hq dX4_isWithin_26 (by decide) (ls' := [(9, .int 0), (7, .long 0), (5, .long 0), (0, .ref l0), (2, .int l2), (3, .ref r1), (4, .int l4)]) rfl ?_
      exact k_sub [3, 4, 5, 6, 2, 1, 0] rfl (Q_X4_isWithin_28 hq N k9 hk9 l0 l2 r1 l4 0 0 0 h)
theorem Q_X4_isWithin_9 {q : eT} {r0 : Int32} {h0 : eH} (hq : e_B q yX4_isWithin.cls cX4_isWithin 10 4 85 (some .boolean) yX4_isWithin.name) (N : Nat) (l0 : Nat) (l2 : Int32) (l3 : Option Nat) (l4 : Int32) (h : eH) : e_K eI q r0 h0 9 [(0, .ref l0), (2, .int l2), (3, va_rf l3), (4, .int l4)] [] h (L_X4_isWithin_9 N l0 l2 l3 l4 h) :=
  k_loop (mk := (fun s => [(0, .ref s.1), (2, .int s.2.1), (3, va_rf s.2.2.1), (4, .int s.2.2.2.1)])) (hp := fun s => s.2.2.2.2) (fun k hk s => P_X4_isWithin_9b hq N (fun l0 l2 l3 l4 h => k (l0, l2, l3, l4, h)) (fun l0 l2 l3 l4 h => hk (l0, l2, l3, l4, h)) s.1 s.2.1 s.2.2.1 s.2.2.2.1 s.2.2.2.2) N (l0, l2, l3, l4, h)
set_option maxRecDepth 100000 in
set_option maxHeartbeats 4000000 in
theorem P_X4_isWithin_0 {q : eT} {r0 : Int32} {h0 : eH} (hq : e_B q yX4_isWithin.cls cX4_isWithin 10 4 85 (some .boolean) yX4_isWithin.name) (N : Nat) (l0 : Nat) (l1 : Int32) (l2 : Int32) (h : eH) : e_K eI q r0 h0 0 [(0, .ref l0), (1, .int l1), (2, .int l2)] [] h (F_X4_isWithin N l0 l1 l2 h) := by
  unfold F_X4_isWithin
  refine k_aload_n hq dX4_isWithin_0 0 rfl ?_
  refine k_iload_n hq dX4_isWithin_1 1 rfl ?_
  refine k_callV hq (na := 1) (As := [.int l1]) (st := []) 4 (C := RX4) (T := TX4) rfl (con_X4_replicaOf _ _ _ _ l0 l1) tw_537 tw_54 tw_851 tw_535 tw_536 ⟨by decide, by decide, by decide +kernel⟩ rfl (by decide) rfl (Nat.le_of_ble_eq_true rfl) dX4_isWithin_2 fun v1 h2 => ?_
  refine k_qstore_n hq dX4_isWithin_5 rfl (by decide) (ls' := [(3, va_rf v1), (0, .ref l0), (1, .int l1), (2, .int l2)]) rfl ?_
  refine k_iconst hq dX4_isWithin_6 (v := 0) rfl ?_
  refine k_istore hq dX4_isWithin_7 (by decide) (ls' := [(4, .int 0), (3, va_rf v1), (0, .ref l0), (1, .int l1), (2, .int l2)]) rfl ?_
  exact k_sub [2, 4, 1, 0] rfl (Q_X4_isWithin_9 hq N l0 l2 v1 0 h2)
theorem con_X4_isWithin (l : Launch) (G : eG) (B0 n : Nat) (N : Nat) (l0 : Nat) (l1 : Int32) (l2 : Int32) : e_C eI l G B0 n yX4_isWithin cX4_isWithin 10 (some .boolean) 4 85 [.ref l0, .int l1, .int l2] (F_X4_isWithin N l0 l1 l2) := by
  refine e_mk (by decide) (Nat.le_of_ble_eq_true rfl) fun q r0 h0 h hq e1 e2 e3 e4 => ?_
  subst e1; subst e2; subst e3; subst e4
  exact P_X4_isWithin_0 hq N l0 l1 l2 h
set_option maxRecDepth 100000 in
set_option maxHeartbeats 4000000 in
theorem P_X2_lookAt_31b {q : eT} {r0 : Unit} {h0 : eH} (hq : e_B q yX2_lookAt.cls cX2_lookAt 5 5 114 none yX2_lookAt.name) (N : Nat) (k11 : Nat → Nat → Int32 → eH → Option (Unit × eH)) (k31 : Nat → Nat → Int32 → Int32 → eH → Option (Unit × eH)) (hk11 : ∀ (l0 : Nat) (l1 : Nat) (l3 : Int32) h, e_K eV q r0 h0 11 [(0, .ref l0), (1, .ref l1), (3, .int l3)] [] h (k11 l0 l1 l3 h)) (hk31 : ∀ (l0 : Nat) (l1 : Nat) (l3 : Int32) (l4 : Int32) h, e_K eV q r0 h0 31 [(0, .ref l0), (1, .ref l1), (3, .int l3), (4, .int l4)] [] h (k31 l0 l1 l3 l4 h)) (l0 : Nat) (l1 : Nat) (l3 : Int32) (l4 : Int32) (h : eH) : e_K eV q r0 h0 31 [(0, .ref l0), (1, .ref l1), (3, .int l3), (4, .int l4)] [] h (F_X2_lookAt_31b N k11 k31 l0 l1 l3 l4 h) := by
  unfold F_X2_lookAt_31b
  refine k_iload hq dX2_lookAt_31 3 rfl ?_
  refine k_aload_n hq dX2_lookAt_33 0 rfl ?_
  refine k_gi hq (C := RX2) (T := TX2) 2 1 rfl (by decide) (lay_X2 1 (by decide)) tw_179 dX2_lookAt_34 fun v1 => ?_
  refine k_icmp_ge hq (tgt := 68) dX2_lookAt_37 (by decide) (fun _ => ?_) (fun _ => ?_)
  · refine k_iinc hq dX2_lookAt_68 2 rfl (v := l3 + 1) rfl (by decide) (ls' := [(3, .int (l3 + 1)), (0, .ref l0), (1, .ref l1), (4, .int l4)]) rfl ?_
    refine k_goto hq (tgt := 11) dX2_lookAt_71 (by decide) ?_
    exact k_sub [1, 2, 0] rfl (hk11 l0 l1 (l3 + 1) h)
  · refine k_aload_n hq dX2_lookAt_40 0 rfl ?_
    refine k_gr hq (C := RX2) (T := TX2) 2 0 rfl (by decide) (lay_X2 0 (by decide)) tw_178 dX2_lookAt_41 fun v2 => ?_
    refine k_iload_n hq dX2_lookAt_44 2 rfl ?_
    refine k_dup2_11 hq dX2_lookAt_45 rfl rfl ?_
    refine k_iald hq dX2_lookAt_46 fun v3 => ?_
    refine k_aload_n hq dX2_lookAt_47 1 rfl ?_
    refine k_iload hq dX2_lookAt_48 3 rfl ?_
    refine k_iload_n hq dX2_lookAt_50 2 rfl ?_
    refine k_callV hq (na := 2) (As := [.int l4, .int l3]) (st := [.int v3, .int l3, .ref v2]) 4 (C := RX4) (T := TX4) rfl (con_X4_isWithin _ _ _ _ N l1 l4 l3) tw_850 tw_54 tw_847 tw_848 tw_849 ⟨by decide, by decide, by decide +kernel⟩ rfl (by decide) rfl (Nat.le_of_ble_eq_true rfl) dX2_lookAt_51 fun v4 h5 => ?_
    refine k_callSN hq (na := 1) (As := [.int v4]) (st := [.int v3, .int l3, .ref v2]) (con_X11_bit _ _ _ _ v4) tw_793 tw_48 tw_866 tw_792 ⟨by decide, by decide, by decide +kernel⟩ rfl (by decide) rfl (Nat.le_of_ble_eq_true rfl) dX2_lookAt_54 fun v6 h7 => ?_
    refine k_iload hq dX2_lookAt_57 3 rfl ?_
    refine k_ishl hq dX2_lookAt_59 ?_
    refine k_ior hq dX2_lookAt_60 ?_
    refine k_iast hq dX2_lookAt_61 fun h8 => ?_
    refine k_iinc hq dX2_lookAt_62 3 rfl (v := l4 + 1) rfl (by decide) (ls' := [(4, .int (l4 + 1)), (0, .ref l0), (1, .ref l1), (3, .int l3)]) rfl ?_
    refine k_goto hq (tgt := 31) dX2_lookAt_65 (by decide) ?_
    exact k_sub [1, 2, 3, 0] rfl (hk31 l0 l1 l3 (l4 + 1) h8)
theorem Q_X2_lookAt_31 {q : eT} {r0 : Unit} {h0 : eH} (hq : e_B q yX2_lookAt.cls cX2_lookAt 5 5 114 none yX2_lookAt.name) (N : Nat) (k11 : Nat → Nat → Int32 → eH → Option (Unit × eH)) (hk11 : ∀ (l0 : Nat) (l1 : Nat) (l3 : Int32) h, e_K eV q r0 h0 11 [(0, .ref l0), (1, .ref l1), (3, .int l3)] [] h (k11 l0 l1 l3 h)) (l0 : Nat) (l1 : Nat) (l3 : Int32) (l4 : Int32) (h : eH) : e_K eV q r0 h0 31 [(0, .ref l0), (1, .ref l1), (3, .int l3), (4, .int l4)] [] h (L_X2_lookAt_31 N k11 l0 l1 l3 l4 h) :=
  k_loop (mk := (fun s => [(0, .ref s.1), (1, .ref s.2.1), (3, .int s.2.2.1), (4, .int s.2.2.2.1)])) (hp := fun s => s.2.2.2.2) (fun k hk s => P_X2_lookAt_31b hq N k11 (fun l0 l1 l3 l4 h => k (l0, l1, l3, l4, h)) hk11 (fun l0 l1 l3 l4 h => hk (l0, l1, l3, l4, h)) s.1 s.2.1 s.2.2.1 s.2.2.2.1 s.2.2.2.2) N (l0, l1, l3, l4, h)
set_option maxRecDepth 100000 in
set_option maxHeartbeats 4000000 in
theorem P_X2_lookAt_81b {q : eT} {r0 : Unit} {h0 : eH} (hq : e_B q yX2_lookAt.cls cX2_lookAt 5 5 114 none yX2_lookAt.name) (N : Nat) (k81 : Nat → Int32 → eH → Option (Unit × eH)) (hk81 : ∀ (l0 : Nat) (l3 : Int32) h, e_K eV q r0 h0 81 [(0, .ref l0), (3, .int l3)] [] h (k81 l0 l3 h)) (l0 : Nat) (l3 : Int32) (h : eH) : e_K eV q r0 h0 81 [(0, .ref l0), (3, .int l3)] [] h (F_X2_lookAt_81b N k81 l0 l3 h) := by
  unfold F_X2_lookAt_81b
  refine k_iload_n hq dX2_lookAt_81 1 rfl ?_
  refine k_aload_n hq dX2_lookAt_82 0 rfl ?_
  refine k_gi hq (C := RX2) (T := TX2) 2 1 rfl (by decide) (lay_X2 1 (by decide)) tw_179 dX2_lookAt_83 fun v1 => ?_
  refine k_icmp_ge hq (tgt := 116) dX2_lookAt_86 (by decide) (fun _ => ?_) (fun _ => ?_)
  · exact k_vret hq dX2_lookAt_116
  · refine k_aload_n hq dX2_lookAt_89 0 rfl ?_
    refine k_dup hq dX2_lookAt_90 rfl ?_
    refine k_gi hq (C := RX2) (T := TX2) 2 2 rfl (by decide) (lay_X2 2 (by decide)) tw_180 dX2_lookAt_91 fun v2 => ?_
    refine k_aload_n hq dX2_lookAt_94 0 rfl ?_
    refine k_gr hq (C := RX2) (T := TX2) 2 0 rfl (by decide) (lay_X2 0 (by decide)) tw_178 dX2_lookAt_95 fun v3 => ?_
    refine k_iconst hq dX2_lookAt_98 (v := 1) rfl ?_
    refine k_iload_n hq dX2_lookAt_99 1 rfl ?_
    refine k_ishl hq dX2_lookAt_100 ?_
    refine k_iald hq dX2_lookAt_101 fun v4 => ?_
    refine k_iconst hq dX2_lookAt_102 (v := 4) rfl ?_
    refine k_iload_n hq dX2_lookAt_103 1 rfl ?_
    refine k_imul hq dX2_lookAt_104 ?_
    refine k_ishl hq dX2_lookAt_105 ?_
    refine k_ior hq dX2_lookAt_106 ?_
    refine k_p hq (C := RX2) (T := TX2) 2 2 rfl (by decide) lay_X2 tyX2 tyX2_ok nmX2 tw_180 rfl rfl rfl dX2_lookAt_107 fun h5 => ?_
    refine k_iinc hq dX2_lookAt_110 1 rfl (v := l3 + 1) rfl (by decide) (ls' := [(3, .int (l3 + 1)), (0, .ref l0)]) rfl ?_
    refine k_goto hq (tgt := 81) dX2_lookAt_113 (by decide) ?_
    exact k_sub [1, 0] rfl (hk81 l0 (l3 + 1) h5)
theorem Q_X2_lookAt_81 {q : eT} {r0 : Unit} {h0 : eH} (hq : e_B q yX2_lookAt.cls cX2_lookAt 5 5 114 none yX2_lookAt.name) (N : Nat) (l0 : Nat) (l3 : Int32) (h : eH) : e_K eV q r0 h0 81 [(0, .ref l0), (3, .int l3)] [] h (L_X2_lookAt_81 N l0 l3 h) :=
  k_loop (mk := (fun s => [(0, .ref s.1), (3, .int s.2.1)])) (hp := fun s => s.2.2) (fun k hk s => P_X2_lookAt_81b hq N (fun l0 l3 h => k (l0, l3, h)) (fun l0 l3 h => hk (l0, l3, h)) s.1 s.2.1 s.2.2) N (l0, l3, h)
set_option maxRecDepth 100000 in
set_option maxHeartbeats 4000000 in
theorem P_X2_lookAt_11b {q : eT} {r0 : Unit} {h0 : eH} (hq : e_B q yX2_lookAt.cls cX2_lookAt 5 5 114 none yX2_lookAt.name) (N : Nat) (k11 : Nat → Nat → Int32 → eH → Option (Unit × eH)) (hk11 : ∀ (l0 : Nat) (l1 : Nat) (l3 : Int32) h, e_K eV q r0 h0 11 [(0, .ref l0), (1, .ref l1), (3, .int l3)] [] h (k11 l0 l1 l3 h)) (l0 : Nat) (l1 : Nat) (l3 : Int32) (h : eH) : e_K eV q r0 h0 11 [(0, .ref l0), (1, .ref l1), (3, .int l3)] [] h (F_X2_lookAt_11b N k11 l0 l1 l3 h) := by
  unfold F_X2_lookAt_11b
  refine k_iload_n hq dX2_lookAt_11 2 rfl ?_
  refine k_iconst hq dX2_lookAt_12 (v := 1) rfl ?_
  refine k_aload_n hq dX2_lookAt_13 0 rfl ?_
  refine k_gi hq (C := RX2) (T := TX2) 2 1 rfl (by decide) (lay_X2 1 (by decide)) tw_179 dX2_lookAt_14 fun v1 => ?_
  refine k_ishl hq dX2_lookAt_17 ?_
  refine k_icmp_ge hq (tgt := 74) dX2_lookAt_18 (by decide) (fun _ => ?_) (fun _ => ?_)
  · refine k_aload_n hq dX2_lookAt_74 0 rfl ?_
    refine k_iconst hq dX2_lookAt_75 (v := 0) rfl ?_
    refine k_p hq (C := RX2) (T := TX2) 2 2 rfl (by decide) lay_X2 tyX2 tyX2_ok nmX2 tw_180 rfl rfl rfl dX2_lookAt_76 fun h2 => ?_
    refine k_iconst hq dX2_lookAt_79 (v := 0) rfl ?_
    refine k_istore_n hq dX2_lookAt_80 rfl (by decide) (ls' := [(3, .int 0), (0, .ref l0), (1, .ref l1)]) rfl ?_
    exact k_sub [1, 0] rfl (Q_X2_lookAt_81 hq N l0 0 h2)
  · refine k_aload_n hq dX2_lookAt_21 0 rfl ?_
    refine k_gr hq (C := RX2) (T := TX2) 2 0 rfl (by decide) (lay_X2 0 (by decide)) tw_178 dX2_lookAt_22 fun v3 => ?_
    refine k_iload_n hq dX2_lookAt_25 2 rfl ?_
    refine k_iconst hq dX2_lookAt_26 (v := 0) rfl ?_
    refine k_iast hq dX2_lookAt_27 fun h4 => ?_
    refine k_iconst hq dX2_lookAt_28 (v := 0) rfl ?_
    refine k_istore hq dX2_lookAt_29 (by decide) (ls' := [(4, .int 0), (0, .ref l0), (1, .ref l1), (3, .int l3)]) rfl ?_
    exact k_sub [1, 2, 3, 0] rfl (Q_X2_lookAt_31 hq N k11 hk11 l0 l1 l3 0 h4)
theorem Q_X2_lookAt_11 {q : eT} {r0 : Unit} {h0 : eH} (hq : e_B q yX2_lookAt.cls cX2_lookAt 5 5 114 none yX2_lookAt.name) (N : Nat) (l0 : Nat) (l1 : Nat) (l3 : Int32) (h : eH) : e_K eV q r0 h0 11 [(0, .ref l0), (1, .ref l1), (3, .int l3)] [] h (L_X2_lookAt_11 N l0 l1 l3 h) :=
  k_loop (mk := (fun s => [(0, .ref s.1), (1, .ref s.2.1), (3, .int s.2.2.1)])) (hp := fun s => s.2.2.2) (fun k hk s => P_X2_lookAt_11b hq N (fun l0 l1 l3 h => k (l0, l1, l3, h)) (fun l0 l1 l3 h => hk (l0, l1, l3, h)) s.1 s.2.1 s.2.2.1 s.2.2.2) N (l0, l1, l3, h)
set_option maxRecDepth 100000 in
set_option maxHeartbeats 4000000 in
theorem P_X2_lookAt_0 {q : eT} {r0 : Unit} {h0 : eH} (hq : e_B q yX2_lookAt.cls cX2_lookAt 5 5 114 none yX2_lookAt.name) (N : Nat) (l0 : Nat) (l1 : Nat) (l2 : Int32) (h : eH) : e_K eV q r0 h0 0 [(0, .ref l0), (1, .ref l1), (2, .int l2)] [] h (F_X2_lookAt N l0 l1 l2 h) := by
  unfold F_X2_lookAt
  refine k_aload_n hq dX2_lookAt_0 0 rfl ?_
  refine k_iload_n hq dX2_lookAt_1 2 rfl ?_
  refine k_iconst hq dX2_lookAt_2 (v := 4) rfl ?_
  refine k_mmin hq tw_846 tw_397 tw_60 tw_398 (by decide) (Nat.le_of_ble_eq_true rfl) dX2_lookAt_3 ?_
  refine k_p hq (C := RX2) (T := TX2) 2 1 rfl (by decide) lay_X2 tyX2 tyX2_ok nmX2 tw_179 rfl rfl rfl dX2_lookAt_6 fun h1 => ?_
  refine k_iconst hq dX2_lookAt_9 (v := 0) rfl ?_
  refine k_istore_n hq dX2_lookAt_10 rfl (by decide) (ls' := [(3, .int 0), (0, .ref l0), (1, .ref l1), (2, .int l2)]) rfl ?_
  exact k_sub [1, 2, 0] rfl (Q_X2_lookAt_11 hq N l0 l1 0 h1)
theorem con_X2_lookAt (l : Launch) (G : eG) (B0 n : Nat) (N : Nat) (l0 : Nat) (l1 : Nat) (l2 : Int32) : e_C eV l G B0 n yX2_lookAt cX2_lookAt 5 none 5 114 [.ref l0, .ref l1, .int l2] (F_X2_lookAt N l0 l1 l2) := by
  refine e_mk (by decide) (Nat.le_of_ble_eq_true rfl) fun q r0 h0 h hq e1 e2 e3 e4 => ?_
  subst e1; subst e2; subst e3; subst e4
  exact P_X2_lookAt_0 hq N l0 l1 l2 h
set_option maxRecDepth 100000 in
set_option maxHeartbeats 4000000 in
theorem P_X2_setOf_0 {q : eT} {r0 : Int32} {h0 : eH} (hq : e_B q yX2_setOf.cls cX2_setOf 2 0 0 (some .int) yX2_setOf.name) (l0 : Int32) (l1 : Int32) (h : eH) : e_K eI q r0 h0 0 [(0, .int l0), (1, .int l1)] [] h (F_X2_setOf l0 l1 h) := by
  unfold F_X2_setOf
  refine k_iload_n hq dX2_setOf_0 0 rfl ?_
  refine k_iconst hq dX2_setOf_1 (v := 4) rfl ?_
  refine k_iload_n hq dX2_setOf_2 1 rfl ?_
  refine k_imul hq dX2_setOf_3 ?_
  refine k_ishr hq dX2_setOf_4 ?_
  refine k_bipush hq dX2_setOf_5 (v := 15) rfl ?_
  refine k_iand hq dX2_setOf_7 ?_
  exact k_iret hq dX2_setOf_8
theorem con_X2_setOf (l : Launch) (G : eG) (B0 n : Nat) (l0 : Int32) (l1 : Int32) : e_C eI l G B0 n yX2_setOf cX2_setOf 2 (some .int) 0 0 [.int l0, .int l1] (F_X2_setOf l0 l1) := by
  refine e_mk (by decide) (Nat.le_of_ble_eq_true rfl) fun q r0 h0 h hq e1 e2 e3 e4 => ?_
  subst e1; subst e2; subst e3; subst e4
  exact P_X2_setOf_0 hq l0 l1 h
set_option maxRecDepth 100000 in
set_option maxHeartbeats 4000000 in
theorem P_X2_lackingSites_39 {q : eT} {r0 : Int32} {h0 : eH} (hq : e_B q yX2_lackingSites.cls cX2_lackingSites 5 1 21 (some .int) yX2_lackingSites.name) (N : Nat) (k14 : Nat → Int32 → Int32 → Int32 → Int32 → eH → Option (Int32 × eH)) (hk14 : ∀ (l0 : Nat) (l1 : Int32) (l2 : Int32) (l3 : Int32) (l4 : Int32) h, e_K eI q r0 h0 14 [(0, .ref l0), (1, .int l1), (2, .int l2), (3, .int l3), (4, .int l4)] [] h (k14 l0 l1 l2 l3 l4 h)) (l0 : Nat) (l1 : Int32) (l2 : Int32) (l4 : Int32) (s0 : Int32) (s1 : Int32) (h : eH) : e_K eI q r0 h0 39 [(0, .ref l0), (1, .int l1), (2, .int l2), (4, .int l4)] [.int s1, .int s0] h (F_X2_lackingSites_39 N k14 l0 l1 l2 l4 s0 s1 h) := by
  unfold F_X2_lackingSites_39
  refine k_callSN hq (na := 1) (As := [.int s1]) (st := [.int s0]) (con_X11_bit _ _ _ _ s1) tw_793 tw_48 tw_866 tw_792 ⟨by decide, by decide, by decide +kernel⟩ rfl (by decide) rfl (Nat.le_of_ble_eq_true rfl) dX2_lackingSites_39 fun v1 h2 => ?_
  refine k_iadd hq dX2_lackingSites_42 ?_
  refine k_let (mk := fun z => .int z :: []) fun v3 _ => ?_
  refine k_istore_n hq dX2_lackingSites_43 rfl (by decide) (ls' := [(3, .int v3), (0, .ref l0), (1, .int l1), (2, .int l2), (4, .int l4)]) rfl ?_
  refine k_iinc hq dX2_lackingSites_44 4 rfl (v := l4 + 1) rfl (by decide) (ls' := [(4, .int (l4 + 1)), (3, .int v3), (0, .ref l0), (1, .int l1), (2, .int l2)]) rfl ?_
  refine k_goto hq (tgt := 14) dX2_lackingSites_47 (by decide) ?_
  exact k_sub [2, 3, 4, 1, 0] rfl (hk14 l0 l1 l2 v3 (l4 + 1) h2)
set_option maxRecDepth 100000 in
set_option maxHeartbeats 4000000 in
theorem P_X2_lackingSites_14b {q : eT} {r0 : Int32} {h0 : eH} (hq : e_B q yX2_lackingSites.cls cX2_lackingSites 5 1 21 (some .int) yX2_lackingSites.name) (N : Nat) (k14 : Nat → Int32 → Int32 → Int32 → Int32 → eH → Option (Int32 × eH)) (hk14 : ∀ (l0 : Nat) (l1 : Int32) (l2 : Int32) (l3 : Int32) (l4 : Int32) h, e_K eI q r0 h0 14 [(0, .ref l0), (1, .int l1), (2, .int l2), (3, .int l3), (4, .int l4)] [] h (k14 l0 l1 l2 l3 l4 h)) (l0 : Nat) (l1 : Int32) (l2 : Int32) (l3 : Int32) (l4 : Int32) (h : eH) : e_K eI q r0 h0 14 [(0, .ref l0), (1, .int l1), (2, .int l2), (3, .int l3), (4, .int l4)] [] h (F_X2_lackingSites_14b N k14 l0 l1 l2 l3 l4 h) := by
  unfold F_X2_lackingSites_14b
  refine k_iload hq dX2_lackingSites_14 4 rfl ?_
  refine k_aload_n hq dX2_lackingSites_16 0 rfl ?_
  refine k_gi hq (C := RX2) (T := TX2) 2 1 rfl (by decide) (lay_X2 1 (by decide)) tw_179 dX2_lackingSites_17 fun v1 => ?_
  refine k_icmp_ge hq (tgt := 50) dX2_lackingSites_20 (by decide) (fun _ => ?_) (fun _ => ?_)
  · refine k_iload_n hq dX2_lackingSites_50 3 rfl ?_
    exact k_iret hq dX2_lackingSites_51
  · refine k_iload_n hq dX2_lackingSites_23 3 rfl ?_
    refine k_iload_n hq dX2_lackingSites_24 1 rfl ?_
    refine k_iload hq dX2_lackingSites_25 4 rfl ?_
    refine k_callS hq (na := 2) (As := [.int l1, .int l4]) (st := [.int l3]) (con_X2_setOf _ _ _ _ l1 l4) tw_880 tw_53 tw_878 tw_879 ⟨by decide, by decide, by decide +kernel⟩ rfl (by decide) rfl (Nat.le_of_ble_eq_true rfl) dX2_lackingSites_27 fun v2 h3 => ?_
    refine k_iload_n hq dX2_lackingSites_30 2 rfl ?_
    refine k_icmp_eq hq (tgt := 38) dX2_lackingSites_31 (by decide) (fun _ => ?_) (fun _ => ?_)
    · refine k_iconst hq dX2_lackingSites_38 (v := 0) rfl ?_
      exact k_sub [0, 1, 2, 4] rfl (P_X2_lackingSites_39 hq N k14 hk14 l0 l1 l2 l4 l3 0 h3)
    · refine k_iconst hq dX2_lackingSites_34 (v := 1) rfl ?_
      refine k_goto hq (tgt := 39) dX2_lackingSites_35 (by decide) ?_
      exact k_sub [0, 1, 2, 4] rfl (P_X2_lackingSites_39 hq N k14 hk14 l0 l1 l2 l4 l3 1 h3)
theorem Q_X2_lackingSites_14 {q : eT} {r0 : Int32} {h0 : eH} (hq : e_B q yX2_lackingSites.cls cX2_lackingSites 5 1 21 (some .int) yX2_lackingSites.name) (N : Nat) (l0 : Nat) (l1 : Int32) (l2 : Int32) (l3 : Int32) (l4 : Int32) (h : eH) : e_K eI q r0 h0 14 [(0, .ref l0), (1, .int l1), (2, .int l2), (3, .int l3), (4, .int l4)] [] h (L_X2_lackingSites_14 N l0 l1 l2 l3 l4 h) :=
  k_loop (mk := (fun s => [(0, .ref s.1), (1, .int s.2.1), (2, .int s.2.2.1), (3, .int s.2.2.2.1), (4, .int s.2.2.2.2.1)])) (hp := fun s => s.2.2.2.2.2) (fun k hk s => P_X2_lackingSites_14b hq N (fun l0 l1 l2 l3 l4 h => k (l0, l1, l2, l3, l4, h)) (fun l0 l1 l2 l3 l4 h => hk (l0, l1, l2, l3, l4, h)) s.1 s.2.1 s.2.2.1 s.2.2.2.1 s.2.2.2.2.1 s.2.2.2.2.2) N (l0, l1, l2, l3, l4, h)
set_option maxRecDepth 100000 in
set_option maxHeartbeats 4000000 in
theorem P_X2_lackingSites_0 {q : eT} {r0 : Int32} {h0 : eH} (hq : e_B q yX2_lackingSites.cls cX2_lackingSites 5 1 21 (some .int) yX2_lackingSites.name) (N : Nat) (l0 : Nat) (l1 : Int32) (h : eH) : e_K eI q r0 h0 0 [(0, .ref l0), (1, .int l1)] [] h (F_X2_lackingSites N l0 l1 h) := by
  unfold F_X2_lackingSites
  refine k_iconst hq dX2_lackingSites_0 (v := 1) rfl ?_
  refine k_aload_n hq dX2_lackingSites_1 0 rfl ?_
  refine k_gi hq (C := RX2) (T := TX2) 2 1 rfl (by decide) (lay_X2 1 (by decide)) tw_179 dX2_lackingSites_2 fun v1 => ?_
  refine k_ishl hq dX2_lackingSites_5 ?_
  refine k_iconst hq dX2_lackingSites_6 (v := 1) rfl ?_
  refine k_isub hq dX2_lackingSites_7 ?_
  refine k_let (mk := fun z => .int z :: []) fun v2 _ => ?_
  refine k_istore_n hq dX2_lackingSites_8 rfl (by decide) (ls' := [(2, .int v2), (0, .ref l0), (1, .int l1)]) rfl ?_
  refine k_iconst hq dX2_lackingSites_9 (v := 0) rfl ?_
  refine k_istore_n hq dX2_lackingSites_10 rfl (by decide) (ls' := [(3, .int 0), (2, .int v2), (0, .ref l0), (1, .int l1)]) rfl ?_
  refine k_iconst hq dX2_lackingSites_11 (v := 0) rfl ?_
  refine k_istore hq dX2_lackingSites_12 (by decide) (ls' := [(4, .int 0), (3, .int 0), (2, .int v2), (0, .ref l0), (1, .int l1)]) rfl ?_
  exact k_sub [3, 4, 2, 1, 0] rfl (Q_X2_lackingSites_14 hq N l0 l1 v2 0 0 h)
theorem con_X2_lackingSites (l : Launch) (G : eG) (B0 n : Nat) (N : Nat) (l0 : Nat) (l1 : Int32) : e_C eI l G B0 n yX2_lackingSites cX2_lackingSites 5 (some .int) 1 21 [.ref l0, .int l1] (F_X2_lackingSites N l0 l1) := by
  refine e_mk (by decide) (Nat.le_of_ble_eq_true rfl) fun q r0 h0 h hq e1 e2 e3 e4 => ?_
  subst e1; subst e2; subst e3; subst e4
  exact P_X2_lackingSites_0 hq N l0 l1 h
set_option maxRecDepth 100000 in
set_option maxHeartbeats 4000000 in
theorem P_X2_afterSending_0 {q : eT} {r0 : Int32} {h0 : eH} (hq : e_B q yX2_afterSending.cls cX2_afterSending 5 1 21 (some .int) yX2_afterSending.name) (l0 : Nat) (l1 : Int32) (l2 : Int32) (l3 : Int32) (h : eH) : e_K eI q r0 h0 0 [(0, .ref l0), (1, .int l1), (2, .int l2), (3, .int l3)] [] h (F_X2_afterSending l0 l1 l2 l3 h) := by
  unfold F_X2_afterSending
  refine k_aload_n hq dX2_afterSending_0 0 rfl ?_
  refine k_gr hq (C := RX2) (T := TX2) 2 0 rfl (by decide) (lay_X2 0 (by decide)) tw_178 dX2_afterSending_1 fun v1 => ?_
  refine k_iload_n hq dX2_afterSending_4 1 rfl ?_
  refine k_iload_n hq dX2_afterSending_5 2 rfl ?_
  refine k_callS hq (na := 2) (As := [.int l1, .int l2]) (st := [.ref v1]) (con_X2_setOf _ _ _ _ l1 l2) tw_880 tw_53 tw_878 tw_879 ⟨by decide, by decide, by decide +kernel⟩ rfl (by decide) rfl (Nat.le_of_ble_eq_true rfl) dX2_afterSending_6 fun v2 h3 => ?_
  refine k_iload_n hq dX2_afterSending_9 1 rfl ?_
  refine k_iload_n hq dX2_afterSending_10 3 rfl ?_
  refine k_callS hq (na := 2) (As := [.int l1, .int l3]) (st := [.int v2, .ref v1]) (con_X2_setOf _ _ _ _ l1 l3) tw_880 tw_53 tw_878 tw_879 ⟨by decide, by decide, by decide +kernel⟩ rfl (by decide) rfl (Nat.le_of_ble_eq_true rfl) dX2_afterSending_11 fun v4 h5 => ?_
  refine k_ior hq dX2_afterSending_14 ?_
  refine k_iald hq dX2_afterSending_15 fun v6 => ?_
  refine k_istore hq dX2_afterSending_16 (by decide) (ls' := [(4, .int v6), (0, .ref l0), (1, .int l1), (2, .int l2), (3, .int l3)]) rfl ?_
  refine k_iload_n hq dX2_afterSending_18 2 rfl ?_
  refine k_bipush hq dX2_afterSending_19 (v := 15) rfl ?_
  refine k_iconst hq dX2_afterSending_21 (v := 4) rfl ?_
  refine k_iload_n hq dX2_afterSending_22 4 rfl ?_
  refine k_imul hq dX2_afterSending_23 ?_
  refine k_ishl hq dX2_afterSending_24 ?_
  refine k_iconst hq dX2_afterSending_25 (v := (-1)) rfl ?_
  refine k_ixor hq dX2_afterSending_26 ?_
  refine k_iand hq dX2_afterSending_27 ?_
  refine k_iload hq dX2_afterSending_28 0 rfl ?_
  refine k_iconst hq dX2_afterSending_30 (v := 4) rfl ?_
  refine k_iload_n hq dX2_afterSending_31 4 rfl ?_
  refine k_imul hq dX2_afterSending_32 ?_
  refine k_ishl hq dX2_afterSending_33 ?_
  refine k_ior hq dX2_afterSending_34 ?_
  exact k_iret hq dX2_afterSending_35
theorem con_X2_afterSending (l : Launch) (G : eG) (B0 n : Nat) (l0 : Nat) (l1 : Int32) (l2 : Int32) (l3 : Int32) : e_C eI l G B0 n yX2_afterSending cX2_afterSending 5 (some .int) 1 21 [.ref l0, .int l1, .int l2, .int l3] (F_X2_afterSending l0 l1 l2 l3) := by
  refine e_mk (by decide) (Nat.le_of_ble_eq_true rfl) fun q r0 h0 h hq e1 e2 e3 e4 => ?_
  subst e1; subst e2; subst e3; subst e4
  exact P_X2_afterSending_0 hq l0 l1 l2 l3 h
set_option maxRecDepth 100000 in
set_option maxHeartbeats 4000000 in
theorem P_X2_isEnough_15 {q : eT} {r0 : Int32} {h0 : eH} {fr lo fr2 lo2 : Nat} (hfl : fr2 + 1 ≤ fr ∧ 8 + (7 + 11) + lo2 ≤ lo) (hfr1 : 2 ≤ fr) (hlo1 : 45 ≤ lo) (hq : e_B q yX2_isEnough.cls cX2_isEnough 7 fr lo (some .boolean) yX2_isEnough.name) (N : Nat) (rec : Nat → Int32 → Int32 → eH → Option (Int32 × eH)) (hrec : ∀ (a0 : Nat) (a1 : Int32) (a2 : Int32), e_C eI (e_l q) (e_G q) (e_B0 q) (e_n q) yX2_isEnough cX2_isEnough 7 (some .boolean) fr2 lo2 [.ref a0, .int a1, .int a2] (rec a0 a1 a2)) (l3 : Int32) (h : eH) : e_K eI q r0 h0 15 [(3, .int l3)] [] h (F_X2_isEnough_15 N rec l3 h) := by
  unfold F_X2_isEnough_15
  refine k_iload_n hq dX2_isEnough_15 0 rfl ?_
  refine k_if_ne hq (tgt := 23) dX2_isEnough_16 (by decide) (fun _ => ?_) (fun _ => ?_)
  · refine k_iconst hq dX2_isEnough_19 (v := 1) rfl ?_
    refine k_goto hq (tgt := 24) dX2_isEnough_20 (by decide) ?_
    exact k_zret hq dX2_isEnough_24
  · refine k_iconst hq dX2_isEnough_23 (v := 0) rfl ?_
    exact k_zret hq dX2_isEnough_24
set_option maxRecDepth 100000 in
set_option maxHeartbeats 4000000 in
theorem P_X2_isEnough_80 {q : eT} {r0 : Int32} {h0 : eH} {fr lo fr2 lo2 : Nat} (hfl : fr2 + 1 ≤ fr ∧ 8 + (7 + 11) + lo2 ≤ lo) (hfr1 : 2 ≤ fr) (hlo1 : 45 ≤ lo) (hq : e_B q yX2_isEnough.cls cX2_isEnough 7 fr lo (some .boolean) yX2_isEnough.name) (N : Nat) (rec : Nat → Int32 → Int32 → eH → Option (Int32 × eH)) (hrec : ∀ (a0 : Nat) (a1 : Int32) (a2 : Int32), e_C eI (e_l q) (e_G q) (e_B0 q) (e_n q) yX2_isEnough cX2_isEnough 7 (some .boolean) fr2 lo2 [.ref a0, .int a1, .int a2] (rec a0 a1 a2)) (k28 : Nat → Int32 → Int32 → Int32 → eH → Option (Int32 × eH)) (k40 : Nat → Int32 → Int32 → Int32 → Int32 → eH → Option (Int32 × eH)) (hk28 : ∀ (l0 : Nat) (l1 : Int32) (l2 : Int32) (l4 : Int32) h, e_K eI q r0 h0 28 [(0, .ref l0), (1, .int l1), (2, .int l2), (4, .int l4)] [] h (k28 l0 l1 l2 l4 h)) (hk40 : ∀ (l0 : Nat) (l1 : Int32) (l2 : Int32) (l4 : Int32) (l5 : Int32) h, e_K eI q r0 h0 40 [(0, .ref l0), (1, .int l1), (2, .int l2), (4, .int l4), (5, .int l5)] [] h (k40 l0 l1 l2 l4 l5 h)) (l0 : Nat) (l1 : Int32) (l2 : Int32) (l4 : Int32) (l5 : Int32) (h : eH) : e_K eI q r0 h0 80 [(0, .ref l0), (1, .int l1), (2, .int l2), (4, .int l4), (5, .int l5)] [] h (F_X2_isEnough_80 N rec k28 k40 l0 l1 l2 l4 l5 h) := by
  unfold F_X2_isEnough_80
  refine k_iinc hq dX2_isEnough_80 4 rfl (v := l5 + 1) rfl (by decide) (ls' := [(5, .int (l5 + 1)), (0, .ref l0), (1, .int l1), (2, .int l2), (4, .int l4)]) rfl ?_
  refine k_goto hq (tgt := 40) dX2_isEnough_83 (by decide) ?_
  exact k_sub [1, 2, 3, 4, 0] rfl (hk40 l0 l1 l2 l4 (l5 + 1) h)
set_option maxRecDepth 100000 in
set_option maxHeartbeats 4000000 in
theorem P_X2_isEnough_40b {q : eT} {r0 : Int32} {h0 : eH} {fr lo fr2 lo2 : Nat} (hfl : fr2 + 1 ≤ fr ∧ 8 + (7 + 11) + lo2 ≤ lo) (hfr1 : 2 ≤ fr) (hlo1 : 45 ≤ lo) (hq : e_B q yX2_isEnough.cls cX2_isEnough 7 fr lo (some .boolean) yX2_isEnough.name) (N : Nat) (rec : Nat → Int32 → Int32 → eH → Option (Int32 × eH)) (hrec : ∀ (a0 : Nat) (a1 : Int32) (a2 : Int32), e_C eI (e_l q) (e_G q) (e_B0 q) (e_n q) yX2_isEnough cX2_isEnough 7 (some .boolean) fr2 lo2 [.ref a0, .int a1, .int a2] (rec a0 a1 a2)) (k28 : Nat → Int32 → Int32 → Int32 → eH → Option (Int32 × eH)) (k40 : Nat → Int32 → Int32 → Int32 → Int32 → eH → Option (Int32 × eH)) (hk28 : ∀ (l0 : Nat) (l1 : Int32) (l2 : Int32) (l4 : Int32) h, e_K eI q r0 h0 28 [(0, .ref l0), (1, .int l1), (2, .int l2), (4, .int l4)] [] h (k28 l0 l1 l2 l4 h)) (hk40 : ∀ (l0 : Nat) (l1 : Int32) (l2 : Int32) (l4 : Int32) (l5 : Int32) h, e_K eI q r0 h0 40 [(0, .ref l0), (1, .int l1), (2, .int l2), (4, .int l4), (5, .int l5)] [] h (k40 l0 l1 l2 l4 l5 h)) (l0 : Nat) (l1 : Int32) (l2 : Int32) (l4 : Int32) (l5 : Int32) (h : eH) : e_K eI q r0 h0 40 [(0, .ref l0), (1, .int l1), (2, .int l2), (4, .int l4), (5, .int l5)] [] h (F_X2_isEnough_40b N rec k28 k40 l0 l1 l2 l4 l5 h) := by
  unfold F_X2_isEnough_40b
  refine k_iload hq dX2_isEnough_40 4 rfl ?_
  refine k_aload_n hq dX2_isEnough_42 0 rfl ?_
  refine k_gi hq (C := RX2) (T := TX2) 2 1 rfl (by decide) (lay_X2 1 (by decide)) tw_179 dX2_isEnough_43 fun v1 => ?_
  refine k_icmp_ge hq (tgt := 86) dX2_isEnough_46 (by decide) (fun _ => ?_) (fun _ => ?_)
  · refine k_iinc hq dX2_isEnough_86 3 rfl (v := l4 + 1) rfl (by decide) (ls' := [(4, .int (l4 + 1)), (0, .ref l0), (1, .int l1), (2, .int l2), (5, .int l5)]) rfl ?_
    refine k_goto hq (tgt := 28) dX2_isEnough_89 (by decide) ?_
    exact k_sub [1, 2, 3, 0] rfl (hk28 l0 l1 l2 (l4 + 1) h)
  · refine k_aload_n hq dX2_isEnough_49 0 rfl ?_
    refine k_iload_n hq dX2_isEnough_50 1 rfl ?_
    refine k_iload hq dX2_isEnough_51 3 rfl ?_
    refine k_iload hq dX2_isEnough_53 4 rfl ?_
    refine k_callV hq (na := 3) (As := [.int l1, .int l4, .int l5]) (st := []) 2 (C := RX2) (T := TX2) rfl (con_X2_afterSending _ _ _ _ l0 l1 l4 l5) tw_884 tw_53 tw_881 tw_883 tw_20 ⟨by decide, by decide, by decide +kernel⟩ rfl ⟨by omega, by omega⟩ rfl (Nat.le_of_ble_eq_true rfl) dX2_isEnough_55 fun v2 h3 => ?_
    refine k_istore hq dX2_isEnough_58 (by decide) (ls' := [(6, .int v2), (0, .ref l0), (1, .int l1), (2, .int l2), (4, .int l4), (5, .int l5)]) rfl ?_
    refine k_iload hq dX2_isEnough_60 0 rfl ?_
    refine k_iload_n hq dX2_isEnough_62 2 rfl ?_
    refine k_icmp_eq hq (tgt := 80) dX2_isEnough_63 (by decide) (fun _ => ?_) (fun _ => ?_)
    · exact k_sub [1, 2, 3, 4, 5] rfl (P_X2_isEnough_80 hq N rec hrec k28 k40 hk28 hk40 l0 l1 l2 l4 l5 h3)
    · refine k_aload_n hq dX2_isEnough_66 1 rfl ?_
      refine k_iload hq dX2_isEnough_67 0 rfl ?_
      refine k_iload_n hq dX2_isEnough_69 3 rfl ?_
      refine k_iconst hq dX2_isEnough_70 (v := 1) rfl ?_
      refine k_isub hq dX2_isEnough_71 ?_
      refine k_callS hq (na := 3) (As := [.ref l0, .int v2, .int (l2 - 1)]) (st := []) (hrec l0 v2 (l2 - 1)) tw_873 tw_53 tw_871 tw_872 ⟨by decide, by decide, by decide +kernel⟩ rfl hfl rfl (Nat.le_of_ble_eq_true rfl) dX2_isEnough_72 fun v4 h5 => ?_
      refine k_if_eq hq (tgt := 80) dX2_isEnough_75 (by decide) (fun _ => ?_) (fun _ => ?_)
      · exact k_sub [1, 2, 3, 4, 5] rfl (P_X2_isEnough_80 hq N rec hrec k28 k40 hk28 hk40 l0 l1 l2 l4 l5 h5)
      · refine k_iconst hq dX2_isEnough_78 (v := 1) rfl ?_
        exact k_zret hq dX2_isEnough_79
theorem Q_X2_isEnough_40 {q : eT} {r0 : Int32} {h0 : eH} {fr lo fr2 lo2 : Nat} (hfl : fr2 + 1 ≤ fr ∧ 8 + (7 + 11) + lo2 ≤ lo) (hfr1 : 2 ≤ fr) (hlo1 : 45 ≤ lo) (hq : e_B q yX2_isEnough.cls cX2_isEnough 7 fr lo (some .boolean) yX2_isEnough.name) (N : Nat) (rec : Nat → Int32 → Int32 → eH → Option (Int32 × eH)) (hrec : ∀ (a0 : Nat) (a1 : Int32) (a2 : Int32), e_C eI (e_l q) (e_G q) (e_B0 q) (e_n q) yX2_isEnough cX2_isEnough 7 (some .boolean) fr2 lo2 [.ref a0, .int a1, .int a2] (rec a0 a1 a2)) (k28 : Nat → Int32 → Int32 → Int32 → eH → Option (Int32 × eH)) (hk28 : ∀ (l0 : Nat) (l1 : Int32) (l2 : Int32) (l4 : Int32) h, e_K eI q r0 h0 28 [(0, .ref l0), (1, .int l1), (2, .int l2), (4, .int l4)] [] h (k28 l0 l1 l2 l4 h)) (l0 : Nat) (l1 : Int32) (l2 : Int32) (l4 : Int32) (l5 : Int32) (h : eH) : e_K eI q r0 h0 40 [(0, .ref l0), (1, .int l1), (2, .int l2), (4, .int l4), (5, .int l5)] [] h (L_X2_isEnough_40 N rec k28 l0 l1 l2 l4 l5 h) :=
  k_loop (mk := (fun s => [(0, .ref s.1), (1, .int s.2.1), (2, .int s.2.2.1), (4, .int s.2.2.2.1), (5, .int s.2.2.2.2.1)])) (hp := fun s => s.2.2.2.2.2) (fun k hk s => P_X2_isEnough_40b hfl hfr1 hlo1 hq N rec hrec k28 (fun l0 l1 l2 l4 l5 h => k (l0, l1, l2, l4, l5, h)) hk28 (fun l0 l1 l2 l4 l5 h => hk (l0, l1, l2, l4, l5, h)) s.1 s.2.1 s.2.2.1 s.2.2.2.1 s.2.2.2.2.1 s.2.2.2.2.2) N (l0, l1, l2, l4, l5, h)
set_option maxRecDepth 100000 in
set_option maxHeartbeats 4000000 in
theorem P_X2_isEnough_28b {q : eT} {r0 : Int32} {h0 : eH} {fr lo fr2 lo2 : Nat} (hfl : fr2 + 1 ≤ fr ∧ 8 + (7 + 11) + lo2 ≤ lo) (hfr1 : 2 ≤ fr) (hlo1 : 45 ≤ lo) (hq : e_B q yX2_isEnough.cls cX2_isEnough 7 fr lo (some .boolean) yX2_isEnough.name) (N : Nat) (rec : Nat → Int32 → Int32 → eH → Option (Int32 × eH)) (hrec : ∀ (a0 : Nat) (a1 : Int32) (a2 : Int32), e_C eI (e_l q) (e_G q) (e_B0 q) (e_n q) yX2_isEnough cX2_isEnough 7 (some .boolean) fr2 lo2 [.ref a0, .int a1, .int a2] (rec a0 a1 a2)) (k28 : Nat → Int32 → Int32 → Int32 → eH → Option (Int32 × eH)) (hk28 : ∀ (l0 : Nat) (l1 : Int32) (l2 : Int32) (l4 : Int32) h, e_K eI q r0 h0 28 [(0, .ref l0), (1, .int l1), (2, .int l2), (4, .int l4)] [] h (k28 l0 l1 l2 l4 h)) (l0 : Nat) (l1 : Int32) (l2 : Int32) (l4 : Int32) (h : eH) : e_K eI q r0 h0 28 [(0, .ref l0), (1, .int l1), (2, .int l2), (4, .int l4)] [] h (F_X2_isEnough_28b N rec k28 l0 l1 l2 l4 h) := by
  unfold F_X2_isEnough_28b
  refine k_iload hq dX2_isEnough_28 3 rfl ?_
  refine k_aload_n hq dX2_isEnough_30 0 rfl ?_
  refine k_gi hq (C := RX2) (T := TX2) 2 1 rfl (by decide) (lay_X2 1 (by decide)) tw_179 dX2_isEnough_31 fun v1 => ?_
  refine k_icmp_ge hq (tgt := 92) dX2_isEnough_34 (by decide) (fun _ => ?_) (fun _ => ?_)
  · refine k_iconst hq dX2_isEnough_92 (v := 0) rfl ?_
    exact k_zret hq dX2_isEnough_93
  · refine k_iconst hq dX2_isEnough_37 (v := 0) rfl ?_
    refine k_istore hq dX2_isEnough_38 (by decide) (ls' := [(5, .int 0), (0, .ref l0), (1, .int l1), (2, .int l2), (4, .int l4)]) rfl ?_
    exact k_sub [1, 2, 3, 4, 0] rfl (Q_X2_isEnough_40 hq N rec hrec k28 hk28 l0 l1 l2 l4 0 h)
theorem Q_X2_isEnough_28 {q : eT} {r0 : Int32} {h0 : eH} {fr lo fr2 lo2 : Nat} (hfl : fr2 + 1 ≤ fr ∧ 8 + (7 + 11) + lo2 ≤ lo) (hfr1 : 2 ≤ fr) (hlo1 : 45 ≤ lo) (hq : e_B q yX2_isEnough.cls cX2_isEnough 7 fr lo (some .boolean) yX2_isEnough.name) (N : Nat) (rec : Nat → Int32 → Int32 → eH → Option (Int32 × eH)) (hrec : ∀ (a0 : Nat) (a1 : Int32) (a2 : Int32), e_C eI (e_l q) (e_G q) (e_B0 q) (e_n q) yX2_isEnough cX2_isEnough 7 (some .boolean) fr2 lo2 [.ref a0, .int a1, .int a2] (rec a0 a1 a2)) (l0 : Nat) (l1 : Int32) (l2 : Int32) (l4 : Int32) (h : eH) : e_K eI q r0 h0 28 [(0, .ref l0), (1, .int l1), (2, .int l2), (4, .int l4)] [] h (L_X2_isEnough_28 N rec l0 l1 l2 l4 h) :=
  k_loop (mk := (fun s => [(0, .ref s.1), (1, .int s.2.1), (2, .int s.2.2.1), (4, .int s.2.2.2.1)])) (hp := fun s => s.2.2.2.2) (fun k hk s => P_X2_isEnough_28b hfl hfr1 hlo1 hq N rec hrec (fun l0 l1 l2 l4 h => k (l0, l1, l2, l4, h)) (fun l0 l1 l2 l4 h => hk (l0, l1, l2, l4, h)) s.1 s.2.1 s.2.2.1 s.2.2.2.1 s.2.2.2.2) N (l0, l1, l2, l4, h)
set_option maxRecDepth 100000 in
set_option maxHeartbeats 4000000 in
theorem P_X2_isEnough_0 {q : eT} {r0 : Int32} {h0 : eH} {fr lo fr2 lo2 : Nat} (hfl : fr2 + 1 ≤ fr ∧ 8 + (7 + 11) + lo2 ≤ lo) (hfr1 : 2 ≤ fr) (hlo1 : 45 ≤ lo) (hq : e_B q yX2_isEnough.cls cX2_isEnough 7 fr lo (some .boolean) yX2_isEnough.name) (N : Nat) (rec : Nat → Int32 → Int32 → eH → Option (Int32 × eH)) (hrec : ∀ (a0 : Nat) (a1 : Int32) (a2 : Int32), e_C eI (e_l q) (e_G q) (e_B0 q) (e_n q) yX2_isEnough cX2_isEnough 7 (some .boolean) fr2 lo2 [.ref a0, .int a1, .int a2] (rec a0 a1 a2)) (l0 : Nat) (l1 : Int32) (l2 : Int32) (h : eH) : e_K eI q r0 h0 0 [(0, .ref l0), (1, .int l1), (2, .int l2)] [] h (F_X2_isEnough_b N rec l0 l1 l2 h) := by
  unfold F_X2_isEnough_b
  refine k_aload_n hq dX2_isEnough_0 0 rfl ?_
  refine k_iload_n hq dX2_isEnough_1 1 rfl ?_
  refine k_callV hq (na := 1) (As := [.int l1]) (st := []) 2 (C := RX2) (T := TX2) rfl (con_X2_lackingSites _ _ _ _ N l0 l1) tw_877 tw_53 tw_874 tw_876 tw_19 ⟨by decide, by decide, by decide +kernel⟩ rfl ⟨by omega, by omega⟩ rfl (Nat.le_of_ble_eq_true rfl) dX2_isEnough_2 fun v1 h2 => ?_
  refine k_istore_n hq dX2_isEnough_5 rfl (by decide) (ls' := [(3, .int v1), (0, .ref l0), (1, .int l1), (2, .int l2)]) rfl ?_
  refine k_iload_n hq dX2_isEnough_6 0 rfl ?_
  refine k_if_eq hq (tgt := 15) dX2_isEnough_7 (by decide) (fun _ => ?_) (fun _ => ?_)
  · exact k_sub [0] rfl (P_X2_isEnough_15 hfl hfr1 hlo1 hq N rec hrec v1 h2)
  · refine k_iload_n hq dX2_isEnough_10 0 rfl ?_
    refine k_iload_n hq dX2_isEnough_11 3 rfl ?_
    refine k_icmp_le hq (tgt := 25) dX2_isEnough_12 (by decide) (fun _ => ?_) (fun _ => ?_)
    · refine k_iconst hq dX2_isEnough_25 (v := 0) rfl ?_
      refine k_istore hq dX2_isEnough_26 (by decide) (ls' := [(4, .int 0), (3, .int v1), (0, .ref l0), (1, .int l1), (2, .int l2)]) rfl ?_
      exact k_sub [2, 3, 4, 0] rfl (Q_X2_isEnough_28 hfl hfr1 hlo1 hq N rec hrec l0 l1 l2 0 h2)
    · exact k_sub [0] rfl (P_X2_isEnough_15 hfl hfr1 hlo1 hq N rec hrec v1 h2)
theorem con_X2_isEnough_d (l : Launch) (G : eG) (B0 n : Nat) (N : Nat) : ∀ (d : Nat) (l0 : Nat) (l1 : Int32) (l2 : Int32) , e_C eI l G B0 n yX2_isEnough cX2_isEnough 7 (some .boolean) (d + 2) (26 * d + 45) [.ref l0, .int l1, .int l2] (F_X2_isEnough N d l0 l1 l2) := by
  intro d
  induction d with
  | zero => intro l0 l1 l2 h r h2 hh; cases hh
  | succ d ih =>
    intro l0 l1 l2
    refine e_mk (by decide) (Nat.le_of_ble_eq_true rfl) fun q r0 h0 h hq e1 e2 e3 e4 => ?_
    subst e1; subst e2; subst e3; subst e4
    exact P_X2_isEnough_0 (fr2 := d + 2) (lo2 := 26 * d + 45) ⟨by omega, by omega⟩ (by omega) (by omega) hq N (F_X2_isEnough N d) ih l0 l1 l2 h
theorem con_X2_isEnough (l : Launch) (G : eG) (B0 n : Nat) (N : Nat) (l0 : Nat) (l1 : Int32) (l2 : Int32) : e_C eI l G B0 n yX2_isEnough cX2_isEnough 7 (some .boolean) 10 253 [.ref l0, .int l1, .int l2] (F_X2_isEnough8 N l0 l1 l2) := con_X2_isEnough_d l G B0 n N 8 l0 l1 l2
set_option maxRecDepth 100000 in
set_option maxHeartbeats 4000000 in
theorem P_X2_fewest_11b {q : eT} {r0 : Int32} {h0 : eH} (hq : e_B q yX2_fewest.cls cX2_fewest 3 11 279 (some .int) yX2_fewest.name) (N : Nat) (k11 : Nat → Int32 → Int32 → eH → Option (Int32 × eH)) (hk11 : ∀ (l0 : Nat) (l1 : Int32) (l2 : Int32) h, e_K eI q r0 h0 11 [(0, .ref l0), (1, .int l1), (2, .int l2)] [] h (k11 l0 l1 l2 h)) (l0 : Nat) (l1 : Int32) (l2 : Int32) (h : eH) : e_K eI q r0 h0 11 [(0, .ref l0), (1, .int l1), (2, .int l2)] [] h (F_X2_fewest_11b N k11 l0 l1 l2 h) := by
  unfold F_X2_fewest_11b
  refine k_iload_n hq dX2_fewest_11 2 rfl ?_
  refine k_iload_n hq dX2_fewest_12 1 rfl ?_
  refine k_icmp_ge hq (tgt := 36) dX2_fewest_13 (by decide) (fun _ => ?_) (fun _ => ?_)
  · refine k_iload_n hq dX2_fewest_36 1 rfl ?_
    exact k_iret hq dX2_fewest_37
  · refine k_aload_n hq dX2_fewest_16 0 rfl ?_
    refine k_aload_n hq dX2_fewest_17 0 rfl ?_
    refine k_gi hq (C := RX2) (T := TX2) 2 2 rfl (by decide) (lay_X2 2 (by decide)) tw_180 dX2_fewest_18 fun v1 => ?_
    refine k_iload_n hq dX2_fewest_21 2 rfl ?_
    refine k_callS hq (na := 3) (As := [.ref l0, .int v1, .int l2]) (st := []) (con_X2_isEnough _ _ _ _ N l0 v1 l2) tw_873 tw_53 tw_871 tw_872 ⟨by decide, by decide, by decide +kernel⟩ rfl (by decide) rfl (Nat.le_of_ble_eq_true rfl) dX2_fewest_22 fun v2 h3 => ?_
    refine k_if_eq hq (tgt := 30) dX2_fewest_25 (by decide) (fun _ => ?_) (fun _ => ?_)
    · refine k_iinc hq dX2_fewest_30 2 rfl (v := l2 + 1) rfl (by decide) (ls' := [(2, .int (l2 + 1)), (0, .ref l0), (1, .int l1)]) rfl ?_
      refine k_goto hq (tgt := 11) dX2_fewest_33 (by decide) ?_
      exact k_sub [1, 2, 0] rfl (hk11 l0 l1 (l2 + 1) h3)
    · refine k_iload_n hq dX2_fewest_28 2 rfl ?_
      exact k_iret hq dX2_fewest_29
theorem Q_X2_fewest_11 {q : eT} {r0 : Int32} {h0 : eH} (hq : e_B q yX2_fewest.cls cX2_fewest 3 11 279 (some .int) yX2_fewest.name) (N : Nat) (l0 : Nat) (l1 : Int32) (l2 : Int32) (h : eH) : e_K eI q r0 h0 11 [(0, .ref l0), (1, .int l1), (2, .int l2)] [] h (L_X2_fewest_11 N l0 l1 l2 h) :=
  k_loop (mk := (fun s => [(0, .ref s.1), (1, .int s.2.1), (2, .int s.2.2.1)])) (hp := fun s => s.2.2.2) (fun k hk s => P_X2_fewest_11b hq N (fun l0 l1 l2 h => k (l0, l1, l2, h)) (fun l0 l1 l2 h => hk (l0, l1, l2, h)) s.1 s.2.1 s.2.2.1 s.2.2.2) N (l0, l1, l2, h)
set_option maxRecDepth 100000 in
set_option maxHeartbeats 4000000 in
theorem P_X2_fewest_0 {q : eT} {r0 : Int32} {h0 : eH} (hq : e_B q yX2_fewest.cls cX2_fewest 3 11 279 (some .int) yX2_fewest.name) (N : Nat) (l0 : Nat) (h : eH) : e_K eI q r0 h0 0 [(0, .ref l0)] [] h (F_X2_fewest N l0 h) := by
  unfold F_X2_fewest
  refine k_iconst hq dX2_fewest_0 (v := 2) rfl ?_
  refine k_aload_n hq dX2_fewest_1 0 rfl ?_
  refine k_gi hq (C := RX2) (T := TX2) 2 1 rfl (by decide) (lay_X2 1 (by decide)) tw_179 dX2_fewest_2 fun v1 => ?_
  refine k_iconst hq dX2_fewest_5 (v := 1) rfl ?_
  refine k_isub hq dX2_fewest_6 ?_
  refine k_imul hq dX2_fewest_7 ?_
  refine k_let (mk := fun z => .int z :: []) fun v2 _ => ?_
  refine k_istore_n hq dX2_fewest_8 rfl (by decide) (ls' := [(1, .int v2), (0, .ref l0)]) rfl ?_
  refine k_iconst hq dX2_fewest_9 (v := 0) rfl ?_
  refine k_istore_n hq dX2_fewest_10 rfl (by decide) (ls' := [(2, .int 0), (1, .int v2), (0, .ref l0)]) rfl ?_
  exact k_sub [2, 1, 0] rfl (Q_X2_fewest_11 hq N l0 v2 0 h)
theorem con_X2_fewest (l : Launch) (G : eG) (B0 n : Nat) (N : Nat) (l0 : Nat) : e_C eI l G B0 n yX2_fewest cX2_fewest 3 (some .int) 11 279 [.ref l0] (F_X2_fewest N l0) := by
  refine e_mk (by decide) (Nat.le_of_ble_eq_true rfl) fun q r0 h0 h hq e1 e2 e3 e4 => ?_
  subst e1; subst e2; subst e3; subst e4
  exact P_X2_fewest_0 hq N l0 h
set_option maxRecDepth 100000 in
set_option maxHeartbeats 4000000 in
theorem P_X2_firstOfFewest_72 {q : eT} {r0 : Int32} {h0 : eH} (hq : e_B q yX2_firstOfFewest.cls cX2_firstOfFewest 5 12 301 (some .int) yX2_firstOfFewest.name) (N : Nat) (k14 : Nat → Int32 → Int32 → eH → Option (Int32 × eH)) (k24 : Nat → Int32 → Int32 → Int32 → eH → Option (Int32 × eH)) (hk14 : ∀ (l0 : Nat) (l1 : Int32) (l2 : Int32) h, e_K eI q r0 h0 14 [(0, .ref l0), (1, .int l1), (2, .int l2)] [] h (k14 l0 l1 l2 h)) (hk24 : ∀ (l0 : Nat) (l1 : Int32) (l2 : Int32) (l3 : Int32) h, e_K eI q r0 h0 24 [(0, .ref l0), (1, .int l1), (2, .int l2), (3, .int l3)] [] h (k24 l0 l1 l2 l3 h)) (l0 : Nat) (l1 : Int32) (l2 : Int32) (l3 : Int32) (h : eH) : e_K eI q r0 h0 72 [(0, .ref l0), (1, .int l1), (2, .int l2), (3, .int l3)] [] h (F_X2_firstOfFewest_72 N k14 k24 l0 l1 l2 l3 h) := by
  unfold F_X2_firstOfFewest_72
  refine k_iinc hq dX2_firstOfFewest_72 3 rfl (v := l3 + 1) rfl (by decide) (ls' := [(3, .int (l3 + 1)), (0, .ref l0), (1, .int l1), (2, .int l2)]) rfl ?_
  refine k_goto hq (tgt := 24) dX2_firstOfFewest_75 (by decide) ?_
  exact k_sub [1, 2, 3, 0] rfl (hk24 l0 l1 l2 (l3 + 1) h)
set_option maxRecDepth 100000 in
set_option maxHeartbeats 4000000 in
theorem P_X2_firstOfFewest_24b {q : eT} {r0 : Int32} {h0 : eH} (hq : e_B q yX2_firstOfFewest.cls cX2_firstOfFewest 5 12 301 (some .int) yX2_firstOfFewest.name) (N : Nat) (k14 : Nat → Int32 → Int32 → eH → Option (Int32 × eH)) (k24 : Nat → Int32 → Int32 → Int32 → eH → Option (Int32 × eH)) (hk14 : ∀ (l0 : Nat) (l1 : Int32) (l2 : Int32) h, e_K eI q r0 h0 14 [(0, .ref l0), (1, .int l1), (2, .int l2)] [] h (k14 l0 l1 l2 h)) (hk24 : ∀ (l0 : Nat) (l1 : Int32) (l2 : Int32) (l3 : Int32) h, e_K eI q r0 h0 24 [(0, .ref l0), (1, .int l1), (2, .int l2), (3, .int l3)] [] h (k24 l0 l1 l2 l3 h)) (l0 : Nat) (l1 : Int32) (l2 : Int32) (l3 : Int32) (h : eH) : e_K eI q r0 h0 24 [(0, .ref l0), (1, .int l1), (2, .int l2), (3, .int l3)] [] h (F_X2_firstOfFewest_24b N k14 k24 l0 l1 l2 l3 h) := by
  unfold F_X2_firstOfFewest_24b
  refine k_iload_n hq dX2_firstOfFewest_24 3 rfl ?_
  refine k_aload_n hq dX2_firstOfFewest_25 0 rfl ?_
  refine k_gi hq (C := RX2) (T := TX2) 2 1 rfl (by decide) (lay_X2 1 (by decide)) tw_179 dX2_firstOfFewest_26 fun v1 => ?_
  refine k_icmp_ge hq (tgt := 78) dX2_firstOfFewest_29 (by decide) (fun _ => ?_) (fun _ => ?_)
  · refine k_iinc hq dX2_firstOfFewest_78 2 rfl (v := l2 + 1) rfl (by decide) (ls' := [(2, .int (l2 + 1)), (0, .ref l0), (1, .int l1), (3, .int l3)]) rfl ?_
    refine k_goto hq (tgt := 14) dX2_firstOfFewest_81 (by decide) ?_
    exact k_sub [1, 2, 0] rfl (hk14 l0 l1 (l2 + 1) h)
  · refine k_aload_n hq dX2_firstOfFewest_32 0 rfl ?_
    refine k_aload_n hq dX2_firstOfFewest_33 0 rfl ?_
    refine k_gi hq (C := RX2) (T := TX2) 2 2 rfl (by decide) (lay_X2 2 (by decide)) tw_180 dX2_firstOfFewest_34 fun v2 => ?_
    refine k_iload_n hq dX2_firstOfFewest_37 2 rfl ?_
    refine k_iload_n hq dX2_firstOfFewest_38 3 rfl ?_
    refine k_callV hq (na := 3) (As := [.int v2, .int l2, .int l3]) (st := []) 2 (C := RX2) (T := TX2) rfl (con_X2_afterSending _ _ _ _ l0 v2 l2 l3) tw_884 tw_53 tw_881 tw_883 tw_20 ⟨by decide, by decide, by decide +kernel⟩ rfl (by decide) rfl (Nat.le_of_ble_eq_true rfl) dX2_firstOfFewest_39 fun v3 h4 => ?_
    refine k_istore hq dX2_firstOfFewest_42 (by decide) (ls' := [(4, .int v3), (0, .ref l0), (1, .int l1), (2, .int l2), (3, .int l3)]) rfl ?_
    refine k_iload hq dX2_firstOfFewest_44 0 rfl ?_
    refine k_aload_n hq dX2_firstOfFewest_46 1 rfl ?_
    refine k_gi hq (C := RX2) (T := TX2) 2 2 rfl (by decide) (lay_X2 2 (by decide)) tw_180 dX2_firstOfFewest_47 fun v5 => ?_
    refine k_icmp_eq hq (tgt := 72) dX2_firstOfFewest_50 (by decide) (fun _ => ?_) (fun _ => ?_)
    · exact k_sub [1, 2, 3, 4] rfl (P_X2_firstOfFewest_72 hq N k14 k24 hk14 hk24 l0 l1 l2 l3 h4)
    · refine k_aload_n hq dX2_firstOfFewest_53 1 rfl ?_
      refine k_iload hq dX2_firstOfFewest_54 0 rfl ?_
      refine k_iload_n hq dX2_firstOfFewest_56 2 rfl ?_
      refine k_iconst hq dX2_firstOfFewest_57 (v := 1) rfl ?_
      refine k_isub hq dX2_firstOfFewest_58 ?_
      refine k_callS hq (na := 3) (As := [.ref l0, .int v3, .int (l1 - 1)]) (st := []) (con_X2_isEnough _ _ _ _ N l0 v3 (l1 - 1)) tw_873 tw_53 tw_871 tw_872 ⟨by decide, by decide, by decide +kernel⟩ rfl (by decide) rfl (Nat.le_of_ble_eq_true rfl) dX2_firstOfFewest_59 fun v6 h7 => ?_
      refine k_if_eq hq (tgt := 72) dX2_firstOfFewest_62 (by decide) (fun _ => ?_) (fun _ => ?_)
      · exact k_sub [1, 2, 3, 4] rfl (P_X2_firstOfFewest_72 hq N k14 k24 hk14 hk24 l0 l1 l2 l3 h7)
      · refine k_bipush hq dX2_firstOfFewest_65 (v := 10) rfl ?_
        refine k_iload_n hq dX2_firstOfFewest_67 3 rfl ?_
        refine k_imul hq dX2_firstOfFewest_68 ?_
        refine k_iload_n hq dX2_firstOfFewest_69 4 rfl ?_
        refine k_iadd hq dX2_firstOfFewest_70 ?_
        exact k_iret hq dX2_firstOfFewest_71
theorem Q_X2_firstOfFewest_24 {q : eT} {r0 : Int32} {h0 : eH} (hq : e_B q yX2_firstOfFewest.cls cX2_firstOfFewest 5 12 301 (some .int) yX2_firstOfFewest.name) (N : Nat) (k14 : Nat → Int32 → Int32 → eH → Option (Int32 × eH)) (hk14 : ∀ (l0 : Nat) (l1 : Int32) (l2 : Int32) h, e_K eI q r0 h0 14 [(0, .ref l0), (1, .int l1), (2, .int l2)] [] h (k14 l0 l1 l2 h)) (l0 : Nat) (l1 : Int32) (l2 : Int32) (l3 : Int32) (h : eH) : e_K eI q r0 h0 24 [(0, .ref l0), (1, .int l1), (2, .int l2), (3, .int l3)] [] h (L_X2_firstOfFewest_24 N k14 l0 l1 l2 l3 h) :=
  k_loop (mk := (fun s => [(0, .ref s.1), (1, .int s.2.1), (2, .int s.2.2.1), (3, .int s.2.2.2.1)])) (hp := fun s => s.2.2.2.2) (fun k hk s => P_X2_firstOfFewest_24b hq N k14 (fun l0 l1 l2 l3 h => k (l0, l1, l2, l3, h)) hk14 (fun l0 l1 l2 l3 h => hk (l0, l1, l2, l3, h)) s.1 s.2.1 s.2.2.1 s.2.2.2.1 s.2.2.2.2) N (l0, l1, l2, l3, h)
set_option maxRecDepth 100000 in
set_option maxHeartbeats 4000000 in
theorem P_X2_firstOfFewest_14b {q : eT} {r0 : Int32} {h0 : eH} (hq : e_B q yX2_firstOfFewest.cls cX2_firstOfFewest 5 12 301 (some .int) yX2_firstOfFewest.name) (N : Nat) (k14 : Nat → Int32 → Int32 → eH → Option (Int32 × eH)) (hk14 : ∀ (l0 : Nat) (l1 : Int32) (l2 : Int32) h, e_K eI q r0 h0 14 [(0, .ref l0), (1, .int l1), (2, .int l2)] [] h (k14 l0 l1 l2 h)) (l0 : Nat) (l1 : Int32) (l2 : Int32) (h : eH) : e_K eI q r0 h0 14 [(0, .ref l0), (1, .int l1), (2, .int l2)] [] h (F_X2_firstOfFewest_14b N k14 l0 l1 l2 h) := by
  unfold F_X2_firstOfFewest_14b
  refine k_iload_n hq dX2_firstOfFewest_14 2 rfl ?_
  refine k_aload_n hq dX2_firstOfFewest_15 0 rfl ?_
  refine k_gi hq (C := RX2) (T := TX2) 2 1 rfl (by decide) (lay_X2 1 (by decide)) tw_179 dX2_firstOfFewest_16 fun v1 => ?_
  refine k_icmp_ge hq (tgt := 84) dX2_firstOfFewest_19 (by decide) (fun _ => ?_) (fun _ => ?_)
  · refine k_bipush hq dX2_firstOfFewest_84 (v := (-9)) rfl ?_
    exact k_iret hq dX2_firstOfFewest_86
  · refine k_iconst hq dX2_firstOfFewest_22 (v := 0) rfl ?_
    refine k_istore_n hq dX2_firstOfFewest_23 rfl (by decide) (ls' := [(3, .int 0), (0, .ref l0), (1, .int l1), (2, .int l2)]) rfl ?_
    exact k_sub [1, 2, 3, 0] rfl (Q_X2_firstOfFewest_24 hq N k14 hk14 l0 l1 l2 0 h)
theorem Q_X2_firstOfFewest_14 {q : eT} {r0 : Int32} {h0 : eH} (hq : e_B q yX2_firstOfFewest.cls cX2_firstOfFewest 5 12 301 (some .int) yX2_firstOfFewest.name) (N : Nat) (l0 : Nat) (l1 : Int32) (l2 : Int32) (h : eH) : e_K eI q r0 h0 14 [(0, .ref l0), (1, .int l1), (2, .int l2)] [] h (L_X2_firstOfFewest_14 N l0 l1 l2 h) :=
  k_loop (mk := (fun s => [(0, .ref s.1), (1, .int s.2.1), (2, .int s.2.2.1)])) (hp := fun s => s.2.2.2) (fun k hk s => P_X2_firstOfFewest_14b hq N (fun l0 l1 l2 h => k (l0, l1, l2, h)) (fun l0 l1 l2 h => hk (l0, l1, l2, h)) s.1 s.2.1 s.2.2.1 s.2.2.2) N (l0, l1, l2, h)
set_option maxRecDepth 100000 in
set_option maxHeartbeats 4000000 in
theorem P_X2_firstOfFewest_0 {q : eT} {r0 : Int32} {h0 : eH} (hq : e_B q yX2_firstOfFewest.cls cX2_firstOfFewest 5 12 301 (some .int) yX2_firstOfFewest.name) (N : Nat) (l0 : Nat) (h : eH) : e_K eI q r0 h0 0 [(0, .ref l0)] [] h (F_X2_firstOfFewest N l0 h) := by
  unfold F_X2_firstOfFewest
  refine k_aload_n hq dX2_firstOfFewest_0 0 rfl ?_
  refine k_callV hq (na := 0) (As := []) (st := []) 2 (C := RX2) (T := TX2) rfl (con_X2_fewest _ _ _ _ N l0) tw_870 tw_53 tw_889 tw_868 tw_869 ⟨by decide, by decide, by decide +kernel⟩ rfl (by decide) rfl (Nat.le_of_ble_eq_true rfl) dX2_firstOfFewest_1 fun v1 h2 => ?_
  refine k_istore_n hq dX2_firstOfFewest_4 rfl (by decide) (ls' := [(1, .int v1), (0, .ref l0)]) rfl ?_
  refine k_iload_n hq dX2_firstOfFewest_5 0 rfl ?_
  refine k_if_ne hq (tgt := 12) dX2_firstOfFewest_6 (by decide) (fun _ => ?_) (fun _ => ?_)
  · refine k_bipush hq dX2_firstOfFewest_9 (v := (-9)) rfl ?_
    exact k_iret hq dX2_firstOfFewest_11
  · refine k_iconst hq dX2_firstOfFewest_12 (v := 0) rfl ?_
    refine k_istore_n hq dX2_firstOfFewest_13 rfl (by decide) (ls' := [(2, .int 0), (1, .int v1), (0, .ref l0)]) rfl ?_
    exact k_sub [2, 1, 0] rfl (Q_X2_firstOfFewest_14 hq N l0 v1 0 h2)
theorem con_X2_firstOfFewest (l : Launch) (G : eG) (B0 n : Nat) (N : Nat) (l0 : Nat) : e_C eI l G B0 n yX2_firstOfFewest cX2_firstOfFewest 5 (some .int) 12 301 [.ref l0] (F_X2_firstOfFewest N l0) := by
  refine e_mk (by decide) (Nat.le_of_ble_eq_true rfl) fun q r0 h0 h hq e1 e2 e3 e4 => ?_
  subst e1; subst e2; subst e3; subst e4
  exact P_X2_firstOfFewest_0 hq N l0 h
set_option maxRecDepth 100000 in
set_option maxHeartbeats 4000000 in
theorem P_X4_beginAnew_10b {q : eT} {r0 : Unit} {h0 : eH} (hq : e_B q yX4_beginAnew.cls cX4_beginAnew 3 2 42 none yX4_beginAnew.name) (N : Nat) (k10 : Nat → Int32 → eH → Option (Unit × eH)) (hk10 : ∀ (l0 : Nat) (l2 : Int32) h, e_K eV q r0 h0 10 [(0, .ref l0), (2, .int l2)] [] h (k10 l0 l2 h)) (l0 : Nat) (l2 : Int32) (h : eH) : e_K eV q r0 h0 10 [(0, .ref l0), (2, .int l2)] [] h (F_X4_beginAnew_10b N k10 l0 l2 h) := by
  unfold F_X4_beginAnew_10b
  refine k_iload_n hq dX4_beginAnew_10 1 rfl ?_
  refine k_aload_n hq dX4_beginAnew_11 0 rfl ?_
  refine k_gr hq (C := RX4) (T := TX4) 4 1 rfl (by decide) (lay_X4 1 (by decide)) tw_287 dX4_beginAnew_12 fun v1 => ?_
  refine k_alen hq dX4_beginAnew_15 fun v2 => ?_
  refine k_icmp_ge hq (tgt := 34) dX4_beginAnew_16 (by decide) (fun _ => ?_) (fun _ => ?_)
  · exact k_vret hq dX4_beginAnew_34
  · refine k_aload_n hq dX4_beginAnew_19 0 rfl ?_
    refine k_gr hq (C := RX4) (T := TX4) 4 1 rfl (by decide) (lay_X4 1 (by decide)) tw_287 dX4_beginAnew_20 fun v3 => ?_
    refine k_iload_n hq dX4_beginAnew_23 1 rfl ?_
    refine k_aald hq 4 (fun _ => rfl) dX4_beginAnew_24 fun v4 => ?_
    refine k_callV hq (na := 0) (As := []) (st := []) 8 (C := RX8) (T := TX8) rfl (con_X8_beginAnew _ _ _ _ N v4) tw_503 tw_57 tw_500 tw_501 tw_502 ⟨by decide, by decide, by decide +kernel⟩ rfl (by decide) rfl (Nat.le_of_ble_eq_true rfl) dX4_beginAnew_25 fun v5 h6 => ?_
    refine k_iinc hq dX4_beginAnew_28 1 rfl (v := l2 + 1) rfl (by decide) (ls' := [(2, .int (l2 + 1)), (0, .ref l0)]) rfl ?_
    refine k_goto hq (tgt := 10) dX4_beginAnew_31 (by decide) ?_
    exact k_sub [1, 0] rfl (hk10 l0 (l2 + 1) h6)
theorem Q_X4_beginAnew_10 {q : eT} {r0 : Unit} {h0 : eH} (hq : e_B q yX4_beginAnew.cls cX4_beginAnew 3 2 42 none yX4_beginAnew.name) (N : Nat) (l0 : Nat) (l2 : Int32) (h : eH) : e_K eV q r0 h0 10 [(0, .ref l0), (2, .int l2)] [] h (L_X4_beginAnew_10 N l0 l2 h) :=
  k_loop (mk := (fun s => [(0, .ref s.1), (2, .int s.2.1)])) (hp := fun s => s.2.2) (fun k hk s => P_X4_beginAnew_10b hq N (fun l0 l2 h => k (l0, l2, h)) (fun l0 l2 h => hk (l0, l2, h)) s.1 s.2.1 s.2.2) N (l0, l2, h)
set_option maxRecDepth 100000 in
set_option maxHeartbeats 4000000 in
theorem P_X4_beginAnew_0 {q : eT} {r0 : Unit} {h0 : eH} (hq : e_B q yX4_beginAnew.cls cX4_beginAnew 3 2 42 none yX4_beginAnew.name) (N : Nat) (l0 : Nat) (l1 : Int32) (h : eH) : e_K eV q r0 h0 0 [(0, .ref l0), (1, .int l1)] [] h (F_X4_beginAnew N l0 l1 h) := by
  unfold F_X4_beginAnew
  refine k_aload_n hq dX4_beginAnew_0 0 rfl ?_
  refine k_gr hq (C := RX4) (T := TX4) 4 0 rfl (by decide) (lay_X4 0 (by decide)) tw_285 dX4_beginAnew_1 fun v1 => ?_
  refine k_iload_n hq dX4_beginAnew_4 1 rfl ?_
  refine k_callV hq (na := 1) (As := [.int l1]) (st := []) 3 (C := RX3) (T := TX3) rfl (con_X3_beginAnew _ _ _ _ N v1 l1) tw_495 tw_55 tw_492 tw_493 tw_494 ⟨by decide, by decide, by decide +kernel⟩ rfl (by decide) rfl (Nat.le_of_ble_eq_true rfl) dX4_beginAnew_5 fun v2 h3 => ?_
  refine k_iconst hq dX4_beginAnew_8 (v := 0) rfl ?_
  refine k_istore_n hq dX4_beginAnew_9 rfl (by decide) (ls' := [(2, .int 0), (0, .ref l0), (1, .int l1)]) rfl ?_
  exact k_sub [1, 0] rfl (Q_X4_beginAnew_10 hq N l0 0 h3)
theorem con_X4_beginAnew (l : Launch) (G : eG) (B0 n : Nat) (N : Nat) (l0 : Nat) (l1 : Int32) : e_C eV l G B0 n yX4_beginAnew cX4_beginAnew 3 none 2 42 [.ref l0, .int l1] (F_X4_beginAnew N l0 l1) := by
  refine e_mk (by decide) (Nat.le_of_ble_eq_true rfl) fun q r0 h0 h hq e1 e2 e3 e4 => ?_
  subst e1; subst e2; subst e3; subst e4
  exact P_X4_beginAnew_0 hq N l0 l1 h
set_option maxRecDepth 100000 in
set_option maxHeartbeats 4000000 in
theorem P_X4_greatestRow_4b {q : eT} {r0 : Int32} {h0 : eH} (hq : e_B q yX4_greatestRow.cls cX4_greatestRow 3 2 54 (some .int) yX4_greatestRow.name) (N : Nat) (k4 : Nat → Int32 → Int32 → eH → Option (Int32 × eH)) (hk4 : ∀ (l0 : Nat) (l1 : Int32) (l2 : Int32) h, e_K eI q r0 h0 4 [(0, .ref l0), (1, .int l1), (2, .int l2)] [] h (k4 l0 l1 l2 h)) (l0 : Nat) (l1 : Int32) (l2 : Int32) (h : eH) : e_K eI q r0 h0 4 [(0, .ref l0), (1, .int l1), (2, .int l2)] [] h (F_X4_greatestRow_4b N k4 l0 l1 l2 h) := by
  unfold F_X4_greatestRow_4b
  refine k_iload_n hq dX4_greatestRow_4 2 rfl ?_
  refine k_aload_n hq dX4_greatestRow_5 0 rfl ?_
  refine k_gr hq (C := RX4) (T := TX4) 4 1 rfl (by decide) (lay_X4 1 (by decide)) tw_287 dX4_greatestRow_6 fun v1 => ?_
  refine k_alen hq dX4_greatestRow_9 fun v2 => ?_
  refine k_icmp_ge hq (tgt := 33) dX4_greatestRow_10 (by decide) (fun _ => ?_) (fun _ => ?_)
  · refine k_iload_n hq dX4_greatestRow_33 1 rfl ?_
    exact k_iret hq dX4_greatestRow_34
  · refine k_iload_n hq dX4_greatestRow_13 1 rfl ?_
    refine k_aload_n hq dX4_greatestRow_14 0 rfl ?_
    refine k_gr hq (C := RX4) (T := TX4) 4 1 rfl (by decide) (lay_X4 1 (by decide)) tw_287 dX4_greatestRow_15 fun v3 => ?_
    refine k_iload_n hq dX4_greatestRow_18 2 rfl ?_
    refine k_aald hq 4 (fun _ => rfl) dX4_greatestRow_19 fun v4 => ?_
    refine k_giN hq (C := RX8) (T := TX8) 8 3 rfl (by decide) (lay_X8 3 (by decide)) tw_274 dX4_greatestRow_20 fun v5 => ?_
    refine k_callS hq (na := 2) (As := [.int l1, .int v5]) (st := []) (con_X9_greater _ _ _ _ N l1 v5) tw_624 tw_65 tw_834 tw_623 ⟨by decide, by decide, by decide +kernel⟩ rfl (by decide) rfl (Nat.le_of_ble_eq_true rfl) dX4_greatestRow_23 fun v6 h7 => ?_
    refine k_istore_n hq dX4_greatestRow_26 rfl (by decide) (ls' := [(1, .int v6), (0, .ref l0), (2, .int l2)]) rfl ?_
    refine k_iinc hq dX4_greatestRow_27 2 rfl (v := l2 + 1) rfl (by decide) (ls' := [(2, .int (l2 + 1)), (1, .int v6), (0, .ref l0)]) rfl ?_
    refine k_goto hq (tgt := 4) dX4_greatestRow_30 (by decide) ?_
    exact k_sub [2, 1, 0] rfl (hk4 l0 v6 (l2 + 1) h7)
theorem Q_X4_greatestRow_4 {q : eT} {r0 : Int32} {h0 : eH} (hq : e_B q yX4_greatestRow.cls cX4_greatestRow 3 2 54 (some .int) yX4_greatestRow.name) (N : Nat) (l0 : Nat) (l1 : Int32) (l2 : Int32) (h : eH) : e_K eI q r0 h0 4 [(0, .ref l0), (1, .int l1), (2, .int l2)] [] h (L_X4_greatestRow_4 N l0 l1 l2 h) :=
  k_loop (mk := (fun s => [(0, .ref s.1), (1, .int s.2.1), (2, .int s.2.2.1)])) (hp := fun s => s.2.2.2) (fun k hk s => P_X4_greatestRow_4b hq N (fun l0 l1 l2 h => k (l0, l1, l2, h)) (fun l0 l1 l2 h => hk (l0, l1, l2, h)) s.1 s.2.1 s.2.2.1 s.2.2.2) N (l0, l1, l2, h)
set_option maxRecDepth 100000 in
set_option maxHeartbeats 4000000 in
theorem P_X4_greatestRow_0 {q : eT} {r0 : Int32} {h0 : eH} (hq : e_B q yX4_greatestRow.cls cX4_greatestRow 3 2 54 (some .int) yX4_greatestRow.name) (N : Nat) (l0 : Nat) (h : eH) : e_K eI q r0 h0 0 [(0, .ref l0)] [] h (F_X4_greatestRow N l0 h) := by
  unfold F_X4_greatestRow
  refine k_iconst hq dX4_greatestRow_0 (v := 0) rfl ?_
  refine k_istore_n hq dX4_greatestRow_1 rfl (by decide) (ls' := [(1, .int 0), (0, .ref l0)]) rfl ?_
  refine k_iconst hq dX4_greatestRow_2 (v := 0) rfl ?_
  refine k_istore_n hq dX4_greatestRow_3 rfl (by decide) (ls' := [(2, .int 0), (1, .int 0), (0, .ref l0)]) rfl ?_
  exact k_sub [2, 1, 0] rfl (Q_X4_greatestRow_4 hq N l0 0 0 h)
theorem con_X4_greatestRow (l : Launch) (G : eG) (B0 n : Nat) (N : Nat) (l0 : Nat) : e_C eI l G B0 n yX4_greatestRow cX4_greatestRow 3 (some .int) 2 54 [.ref l0] (F_X4_greatestRow N l0) := by
  refine e_mk (by decide) (Nat.le_of_ble_eq_true rfl) fun q r0 h0 h hq e1 e2 e3 e4 => ?_
  subst e1; subst e2; subst e3; subst e4
  exact P_X4_greatestRow_0 hq N l0 h
set_option maxRecDepth 100000 in
set_option maxHeartbeats 4000000 in
theorem P_X4_holders_4b {q : eT} {r0 : Int32} {h0 : eH} (hq : e_B q yX4_holders.cls cX4_holders 4 3 61 (some .int) yX4_holders.name) (N : Nat) (k4 : Nat → Int32 → Int32 → Int32 → eH → Option (Int32 × eH)) (hk4 : ∀ (l0 : Nat) (l1 : Int32) (l2 : Int32) (l3 : Int32) h, e_K eI q r0 h0 4 [(0, .ref l0), (1, .int l1), (2, .int l2), (3, .int l3)] [] h (k4 l0 l1 l2 l3 h)) (l0 : Nat) (l1 : Int32) (l2 : Int32) (l3 : Int32) (h : eH) : e_K eI q r0 h0 4 [(0, .ref l0), (1, .int l1), (2, .int l2), (3, .int l3)] [] h (F_X4_holders_4b N k4 l0 l1 l2 l3 h) := by
  unfold F_X4_holders_4b
  refine k_iload_n hq dX4_holders_4 3 rfl ?_
  refine k_aload_n hq dX4_holders_5 0 rfl ?_
  refine k_gr hq (C := RX4) (T := TX4) 4 1 rfl (by decide) (lay_X4 1 (by decide)) tw_287 dX4_holders_6 fun v1 => ?_
  refine k_alen hq dX4_holders_9 fun v2 => ?_
  refine k_icmp_ge hq (tgt := 40) dX4_holders_10 (by decide) (fun _ => ?_) (fun _ => ?_)
  · refine k_iload_n hq dX4_holders_40 2 rfl ?_
    exact k_iret hq dX4_holders_41
  · refine k_iload_n hq dX4_holders_13 2 rfl ?_
    refine k_aload_n hq dX4_holders_14 0 rfl ?_
    refine k_gr hq (C := RX4) (T := TX4) 4 1 rfl (by decide) (lay_X4 1 (by decide)) tw_287 dX4_holders_15 fun v3 => ?_
    refine k_iload_n hq dX4_holders_18 3 rfl ?_
    refine k_aald hq 4 (fun _ => rfl) dX4_holders_19 fun v4 => ?_
    refine k_grN hq (C := RX8) (T := TX8) 8 2 rfl (by decide) (lay_X8 2 (by decide)) tw_271 dX4_holders_20 fun v5 => ?_
    refine k_iload_n hq dX4_holders_23 1 rfl ?_
    refine k_callV hq (na := 1) (As := [.int l1]) (st := [.int l2]) 1 (C := RX1) (T := TX1) rfl (con_X1_has _ _ _ _ v5 l1) tw_656 tw_56 tw_798 tw_654 tw_655 ⟨by decide, by decide, by decide +kernel⟩ rfl (by decide) rfl (Nat.le_of_ble_eq_true rfl) dX4_holders_24 fun v6 h7 => ?_
    refine k_callSN hq (na := 1) (As := [.int v6]) (st := [.int l2]) (con_X11_bit _ _ _ _ v6) tw_793 tw_48 tw_799 tw_792 ⟨by decide, by decide, by decide +kernel⟩ rfl (by decide) rfl (Nat.le_of_ble_eq_true rfl) dX4_holders_27 fun v8 h9 => ?_
    refine k_iload_n hq dX4_holders_30 3 rfl ?_
    refine k_ishl hq dX4_holders_31 ?_
    refine k_ior hq dX4_holders_32 ?_
    refine k_let (mk := fun z => .int z :: []) fun v10 _ => ?_
    refine k_istore_n hq dX4_holders_33 rfl (by decide) (ls' := [(2, .int v10), (0, .ref l0), (1, .int l1), (3, .int l3)]) rfl ?_
    refine k_iinc hq dX4_holders_34 3 rfl (v := l3 + 1) rfl (by decide) (ls' := [(3, .int (l3 + 1)), (2, .int v10), (0, .ref l0), (1, .int l1)]) rfl ?_
    refine k_goto hq (tgt := 4) dX4_holders_37 (by decide) ?_
    exact k_sub [2, 3, 1, 0] rfl (hk4 l0 l1 v10 (l3 + 1) h9)
theorem Q_X4_holders_4 {q : eT} {r0 : Int32} {h0 : eH} (hq : e_B q yX4_holders.cls cX4_holders 4 3 61 (some .int) yX4_holders.name) (N : Nat) (l0 : Nat) (l1 : Int32) (l2 : Int32) (l3 : Int32) (h : eH) : e_K eI q r0 h0 4 [(0, .ref l0), (1, .int l1), (2, .int l2), (3, .int l3)] [] h (L_X4_holders_4 N l0 l1 l2 l3 h) :=
  k_loop (mk := (fun s => [(0, .ref s.1), (1, .int s.2.1), (2, .int s.2.2.1), (3, .int s.2.2.2.1)])) (hp := fun s => s.2.2.2.2) (fun k hk s => P_X4_holders_4b hq N (fun l0 l1 l2 l3 h => k (l0, l1, l2, l3, h)) (fun l0 l1 l2 l3 h => hk (l0, l1, l2, l3, h)) s.1 s.2.1 s.2.2.1 s.2.2.2.1 s.2.2.2.2) N (l0, l1, l2, l3, h)
set_option maxRecDepth 100000 in
set_option maxHeartbeats 4000000 in
theorem P_X4_holders_0 {q : eT} {r0 : Int32} {h0 : eH} (hq : e_B q yX4_holders.cls cX4_holders 4 3 61 (some .int) yX4_holders.name) (N : Nat) (l0 : Nat) (l1 : Int32) (h : eH) : e_K eI q r0 h0 0 [(0, .ref l0), (1, .int l1)] [] h (F_X4_holders N l0 l1 h) := by
  unfold F_X4_holders
  refine k_iconst hq dX4_holders_0 (v := 0) rfl ?_
  refine k_istore_n hq dX4_holders_1 rfl (by decide) (ls' := [(2, .int 0), (0, .ref l0), (1, .int l1)]) rfl ?_
  refine k_iconst hq dX4_holders_2 (v := 0) rfl ?_
  refine k_istore_n hq dX4_holders_3 rfl (by decide) (ls' := [(3, .int 0), (2, .int 0), (0, .ref l0), (1, .int l1)]) rfl ?_
  exact k_sub [2, 3, 1, 0] rfl (Q_X4_holders_4 hq N l0 l1 0 0 h)
theorem con_X4_holders (l : Launch) (G : eG) (B0 n : Nat) (N : Nat) (l0 : Nat) (l1 : Int32) : e_C eI l G B0 n yX4_holders cX4_holders 4 (some .int) 3 61 [.ref l0, .int l1] (F_X4_holders N l0 l1) := by
  refine e_mk (by decide) (Nat.le_of_ble_eq_true rfl) fun q r0 h0 h hq e1 e2 e3 e4 => ?_
  subst e1; subst e2; subst e3; subst e4
  exact P_X4_holders_0 hq N l0 l1 h
set_option maxRecDepth 100000 in
set_option maxHeartbeats 4000000 in
theorem P_X4_isLost_0 {q : eT} {r0 : Int32} {h0 : eH} (hq : e_B q yX4_isLost.cls cX4_isLost 2 4 84 (some .boolean) yX4_isLost.name) (N : Nat) (l0 : Nat) (l1 : Int32) (h : eH) : e_K eI q r0 h0 0 [(0, .ref l0), (1, .int l1)] [] h (F_X4_isLost N l0 l1 h) := by
  unfold F_X4_isLost
  refine k_aload_n hq dX4_isLost_0 0 rfl ?_
  refine k_gr hq (C := RX4) (T := TX4) 4 0 rfl (by decide) (lay_X4 0 (by decide)) tw_285 dX4_isLost_1 fun v1 => ?_
  refine k_iload_n hq dX4_isLost_4 1 rfl ?_
  refine k_callV hq (na := 1) (As := [.int l1]) (st := []) 3 (C := RX3) (T := TX3) rfl (con_X3_has _ _ _ _ v1 l1) tw_563 tw_55 tw_804 tw_561 tw_562 ⟨by decide, by decide, by decide +kernel⟩ rfl (by decide) rfl (Nat.le_of_ble_eq_true rfl) dX4_isLost_5 fun v2 h3 => ?_
  refine k_if_eq hq (tgt := 37) dX4_isLost_8 (by decide) (fun _ => ?_) (fun _ => ?_)
  · refine k_iconst hq dX4_isLost_37 (v := 0) rfl ?_
    exact k_zret hq dX4_isLost_38
  · refine k_aload_n hq dX4_isLost_11 0 rfl ?_
    refine k_gr hq (C := RX4) (T := TX4) 4 0 rfl (by decide) (lay_X4 0 (by decide)) tw_285 dX4_isLost_12 fun v4 => ?_
    refine k_grN hq (C := RX3) (T := TX3) 3 4 rfl (by decide) (lay_X3 4 (by decide)) tw_216 dX4_isLost_15 fun v5 => ?_
    refine k_iload_n hq dX4_isLost_18 1 rfl ?_
    refine k_callV hq (na := 1) (As := [.int l1]) (st := []) 1 (C := RX1) (T := TX1) rfl (con_X1_has _ _ _ _ v5 l1) tw_656 tw_56 tw_798 tw_654 tw_655 ⟨by decide, by decide, by decide +kernel⟩ rfl (by decide) rfl (Nat.le_of_ble_eq_true rfl) dX4_isLost_19 fun v6 h7 => ?_
    refine k_if_ne hq (tgt := 37) dX4_isLost_22 (by decide) (fun _ => ?_) (fun _ => ?_)
    · refine k_aload_n hq dX4_isLost_25 0 rfl ?_
      refine k_iload_n hq dX4_isLost_26 1 rfl ?_
      refine k_callV hq (na := 1) (As := [.int l1]) (st := []) 4 (C := RX4) (T := TX4) rfl (con_X4_holders _ _ _ _ N l0 l1) tw_797 tw_54 tw_805 tw_795 tw_796 ⟨by decide, by decide, by decide +kernel⟩ rfl (by decide) rfl (Nat.le_of_ble_eq_true rfl) dX4_isLost_27 fun v8 h9 => ?_
      refine k_if_ne hq (tgt := 37) dX4_isLost_30 (by decide) (fun _ => ?_) (fun _ => ?_)
      · refine k_iconst hq dX4_isLost_33 (v := 1) rfl ?_
        refine k_goto hq (tgt := 38) dX4_isLost_34 (by decide) ?_
        exact k_zret hq dX4_isLost_38
      · refine k_iconst hq dX4_isLost_37 (v := 0) rfl ?_
        exact k_zret hq dX4_isLost_38
    · refine k_iconst hq dX4_isLost_37 (v := 0) rfl ?_
      exact k_zret hq dX4_isLost_38
theorem con_X4_isLost (l : Launch) (G : eG) (B0 n : Nat) (N : Nat) (l0 : Nat) (l1 : Int32) : e_C eI l G B0 n yX4_isLost cX4_isLost 2 (some .boolean) 4 84 [.ref l0, .int l1] (F_X4_isLost N l0 l1) := by
  refine e_mk (by decide) (Nat.le_of_ble_eq_true rfl) fun q r0 h0 h hq e1 e2 e3 e4 => ?_
  subst e1; subst e2; subst e3; subst e4
  exact P_X4_isLost_0 hq N l0 l1 h
set_option maxRecDepth 100000 in
set_option maxHeartbeats 4000000 in
theorem P_X4_lostTotal_4b {q : eT} {r0 : Int32} {h0 : eH} (hq : e_B q yX4_lostTotal.cls cX4_lostTotal 3 5 105 (some .int) yX4_lostTotal.name) (N : Nat) (k4 : Nat → Int32 → Int32 → eH → Option (Int32 × eH)) (hk4 : ∀ (l0 : Nat) (l1 : Int32) (l2 : Int32) h, e_K eI q r0 h0 4 [(0, .ref l0), (1, .int l1), (2, .int l2)] [] h (k4 l0 l1 l2 h)) (l0 : Nat) (l1 : Int32) (l2 : Int32) (h : eH) : e_K eI q r0 h0 4 [(0, .ref l0), (1, .int l1), (2, .int l2)] [] h (F_X4_lostTotal_4b N k4 l0 l1 l2 h) := by
  unfold F_X4_lostTotal_4b
  refine k_iload_n hq dX4_lostTotal_4 2 rfl ?_
  refine k_sipush hq dX4_lostTotal_5 (v := 160) rfl ?_
  refine k_icmp_ge hq (tgt := 28) dX4_lostTotal_8 (by decide) (fun _ => ?_) (fun _ => ?_)
  · refine k_iload_n hq dX4_lostTotal_28 1 rfl ?_
    exact k_iret hq dX4_lostTotal_29
  · refine k_iload_n hq dX4_lostTotal_11 1 rfl ?_
    refine k_aload_n hq dX4_lostTotal_12 0 rfl ?_
    refine k_iload_n hq dX4_lostTotal_13 2 rfl ?_
    refine k_callV hq (na := 1) (As := [.int l2]) (st := [.int l1]) 4 (C := RX4) (T := TX4) rfl (con_X4_isLost _ _ _ _ N l0 l2) tw_803 tw_54 tw_907 tw_801 tw_802 ⟨by decide, by decide, by decide +kernel⟩ rfl (by decide) rfl (Nat.le_of_ble_eq_true rfl) dX4_lostTotal_14 fun v1 h2 => ?_
    refine k_callSN hq (na := 1) (As := [.int v1]) (st := [.int l1]) (con_X11_bit _ _ _ _ v1) tw_793 tw_48 tw_799 tw_792 ⟨by decide, by decide, by decide +kernel⟩ rfl (by decide) rfl (Nat.le_of_ble_eq_true rfl) dX4_lostTotal_17 fun v3 h4 => ?_
    refine k_iadd hq dX4_lostTotal_20 ?_
    refine k_let (mk := fun z => .int z :: []) fun v5 _ => ?_
    refine k_istore_n hq dX4_lostTotal_21 rfl (by decide) (ls' := [(1, .int v5), (0, .ref l0), (2, .int l2)]) rfl ?_
    refine k_iinc hq dX4_lostTotal_22 2 rfl (v := l2 + 1) rfl (by decide) (ls' := [(2, .int (l2 + 1)), (1, .int v5), (0, .ref l0)]) rfl ?_
    refine k_goto hq (tgt := 4) dX4_lostTotal_25 (by decide) ?_
    exact k_sub [2, 1, 0] rfl (hk4 l0 v5 (l2 + 1) h4)
theorem Q_X4_lostTotal_4 {q : eT} {r0 : Int32} {h0 : eH} (hq : e_B q yX4_lostTotal.cls cX4_lostTotal 3 5 105 (some .int) yX4_lostTotal.name) (N : Nat) (l0 : Nat) (l1 : Int32) (l2 : Int32) (h : eH) : e_K eI q r0 h0 4 [(0, .ref l0), (1, .int l1), (2, .int l2)] [] h (L_X4_lostTotal_4 N l0 l1 l2 h) :=
  k_loop (mk := (fun s => [(0, .ref s.1), (1, .int s.2.1), (2, .int s.2.2.1)])) (hp := fun s => s.2.2.2) (fun k hk s => P_X4_lostTotal_4b hq N (fun l0 l1 l2 h => k (l0, l1, l2, h)) (fun l0 l1 l2 h => hk (l0, l1, l2, h)) s.1 s.2.1 s.2.2.1 s.2.2.2) N (l0, l1, l2, h)
set_option maxRecDepth 100000 in
set_option maxHeartbeats 4000000 in
theorem P_X4_lostTotal_0 {q : eT} {r0 : Int32} {h0 : eH} (hq : e_B q yX4_lostTotal.cls cX4_lostTotal 3 5 105 (some .int) yX4_lostTotal.name) (N : Nat) (l0 : Nat) (h : eH) : e_K eI q r0 h0 0 [(0, .ref l0)] [] h (F_X4_lostTotal N l0 h) := by
  unfold F_X4_lostTotal
  refine k_iconst hq dX4_lostTotal_0 (v := 0) rfl ?_
  refine k_istore_n hq dX4_lostTotal_1 rfl (by decide) (ls' := [(1, .int 0), (0, .ref l0)]) rfl ?_
  refine k_iconst hq dX4_lostTotal_2 (v := 0) rfl ?_
  refine k_istore_n hq dX4_lostTotal_3 rfl (by decide) (ls' := [(2, .int 0), (1, .int 0), (0, .ref l0)]) rfl ?_
  exact k_sub [2, 1, 0] rfl (Q_X4_lostTotal_4 hq N l0 0 0 h)
theorem con_X4_lostTotal (l : Launch) (G : eG) (B0 n : Nat) (N : Nat) (l0 : Nat) : e_C eI l G B0 n yX4_lostTotal cX4_lostTotal 3 (some .int) 5 105 [.ref l0] (F_X4_lostTotal N l0) := by
  refine e_mk (by decide) (Nat.le_of_ble_eq_true rfl) fun q r0 h0 h hq e1 e2 e3 e4 => ?_
  subst e1; subst e2; subst e3; subst e4
  exact P_X4_lostTotal_0 hq N l0 h
set_option maxRecDepth 100000 in
set_option maxHeartbeats 4000000 in
theorem P_X7_forget_0 {q : eT} {r0 : Unit} {h0 : eH} (hq : e_B q yX7_forget.cls cX7_forget 1 0 0 none yX7_forget.name) (l0 : Nat) (h : eH) : e_K eV q r0 h0 0 [(0, .ref l0)] [] h (F_X7_forget l0 h) := by
  unfold F_X7_forget
  refine k_aload_n hq dX7_forget_0 0 rfl ?_
  refine k_iconst hq dX7_forget_1 (v := 0) rfl ?_
  refine k_p hq (C := RX7) (T := TX7) 7 1 rfl (by decide) lay_X7 tyX7 tyX7_ok nmX7 tw_108 rfl rfl rfl dX7_forget_2 fun h1 => ?_
  refine k_aload_n hq dX7_forget_5 0 rfl ?_
  refine k_iconst hq dX7_forget_6 (v := 0) rfl ?_
  refine k_p hq (C := RX7) (T := TX7) 7 2 rfl (by decide) lay_X7 tyX7 tyX7_ok nmX7 tw_110 rfl rfl rfl dX7_forget_7 fun h2 => ?_
  refine k_aload_n hq dX7_forget_10 0 rfl ?_
  refine k_iconst hq dX7_forget_11 (v := 0) rfl ?_
  refine k_p hq (C := RX7) (T := TX7) 7 3 rfl (by decide) lay_X7 tyX7 tyX7_ok nmX7 tw_112 rfl rfl rfl dX7_forget_12 fun h3 => ?_
  refine k_aload_n hq dX7_forget_15 0 rfl ?_
  refine k_iconst hq dX7_forget_16 (v := 0) rfl ?_
  refine k_p hq (C := RX7) (T := TX7) 7 4 rfl (by decide) lay_X7 tyX7 tyX7_ok nmX7 tw_114 rfl rfl rfl dX7_forget_17 fun h4 => ?_
  refine k_aload_n hq dX7_forget_20 0 rfl ?_
  refine k_iconst hq dX7_forget_21 (v := 0) rfl ?_
  refine k_p hq (C := RX7) (T := TX7) 7 5 rfl (by decide) lay_X7 tyX7 tyX7_ok nmX7 tw_116 rfl rfl rfl dX7_forget_22 fun h5 => ?_
  exact k_vret hq dX7_forget_25
theorem con_X7_forget (l : Launch) (G : eG) (B0 n : Nat) (l0 : Nat) : e_C eV l G B0 n yX7_forget cX7_forget 1 none 0 0 [.ref l0] (F_X7_forget l0) := by
  refine e_mk (by decide) (Nat.le_of_ble_eq_true rfl) fun q r0 h0 h hq e1 e2 e3 e4 => ?_
  subst e1; subst e2; subst e3; subst e4
  exact P_X7_forget_0 hq l0 h
set_option maxRecDepth 100000 in
set_option maxHeartbeats 4000000 in
theorem P_X10_rewind_0 {q : eT} {r0 : Unit} {h0 : eH} (hq : e_B q yX10_rewind.cls cX10_rewind 1 0 0 none yX10_rewind.name) (l0 : Nat) (h : eH) : e_K eV q r0 h0 0 [(0, .ref l0)] [] h (F_X10_rewind l0 h) := by
  unfold F_X10_rewind
  refine k_aload_n hq dX10_rewind_0 0 rfl ?_
  refine k_iconst hq dX10_rewind_1 (v := 0) rfl ?_
  refine k_p hq (C := RX10) (T := TX10) 9 3 rfl (by decide) lay_X10 tyX10 tyX10_ok nmX10 tw_86 rfl rfl rfl dX10_rewind_2 fun h1 => ?_
  exact k_vret hq dX10_rewind_5
theorem con_X10_rewind (l : Launch) (G : eG) (B0 n : Nat) (l0 : Nat) : e_C eV l G B0 n yX10_rewind cX10_rewind 1 none 0 0 [.ref l0] (F_X10_rewind l0) := by
  refine e_mk (by decide) (Nat.le_of_ble_eq_true rfl) fun q r0 h0 h hq e1 e2 e3 e4 => ?_
  subst e1; subst e2; subst e3; subst e4
  exact P_X10_rewind_0 hq l0 h
set_option maxRecDepth 100000 in
set_option maxHeartbeats 4000000 in
theorem P_X10_byteAt_0 {q : eT} {r0 : Int32} {h0 : eH} (hq : e_B q yX10_byteAt.cls cX10_byteAt 2 0 0 (some .int) yX10_byteAt.name) (l0 : Nat) (l1 : Int32) (h : eH) : e_K eI q r0 h0 0 [(0, .ref l0), (1, .int l1)] [] h (F_X10_byteAt l0 l1 h) := by
  unfold F_X10_byteAt
  refine k_iload_n hq dX10_byteAt_0 1 rfl ?_
  refine k_if_lt hq (tgt := 30) dX10_byteAt_1 (by decide) (fun _ => ?_) (fun _ => ?_)
  · refine k_iconst hq dX10_byteAt_30 (v := (-1)) rfl ?_
    exact k_iret hq dX10_byteAt_31
  · refine k_iload_n hq dX10_byteAt_4 1 rfl ?_
    refine k_aload_n hq dX10_byteAt_5 0 rfl ?_
    refine k_gi hq (C := RX10) (T := TX10) 9 1 rfl (by decide) (lay_X10 1 (by decide)) tw_82 dX10_byteAt_6 fun v1 => ?_
    refine k_icmp_ge hq (tgt := 30) dX10_byteAt_9 (by decide) (fun _ => ?_) (fun _ => ?_)
    · refine k_iconst hq dX10_byteAt_30 (v := (-1)) rfl ?_
      exact k_iret hq dX10_byteAt_31
    · refine k_iload_n hq dX10_byteAt_12 1 rfl ?_
      refine k_aload_n hq dX10_byteAt_13 0 rfl ?_
      refine k_gr hq (C := RX10) (T := TX10) 9 0 rfl (by decide) (lay_X10 0 (by decide)) tw_81 dX10_byteAt_14 fun v2 => ?_
      refine k_alen hq dX10_byteAt_17 fun v3 => ?_
      refine k_icmp_ge hq (tgt := 30) dX10_byteAt_18 (by decide) (fun _ => ?_) (fun _ => ?_)
      · refine k_iconst hq dX10_byteAt_30 (v := (-1)) rfl ?_
        exact k_iret hq dX10_byteAt_31
      · refine k_aload_n hq dX10_byteAt_21 0 rfl ?_
        refine k_gr hq (C := RX10) (T := TX10) 9 0 rfl (by decide) (lay_X10 0 (by decide)) tw_81 dX10_byteAt_22 fun v4 => ?_
        refine k_iload_n hq dX10_byteAt_25 1 rfl ?_
        refine k_iald hq dX10_byteAt_26 fun v5 => ?_
        refine k_goto hq (tgt := 31) dX10_byteAt_27 (by decide) ?_
        exact k_iret hq dX10_byteAt_31
theorem con_X10_byteAt (l : Launch) (G : eG) (B0 n : Nat) (l0 : Nat) (l1 : Int32) : e_C eI l G B0 n yX10_byteAt cX10_byteAt 2 (some .int) 0 0 [.ref l0, .int l1] (F_X10_byteAt l0 l1) := by
  refine e_mk (by decide) (Nat.le_of_ble_eq_true rfl) fun q r0 h0 h hq e1 e2 e3 e4 => ?_
  subst e1; subst e2; subst e3; subst e4
  exact P_X10_byteAt_0 hq l0 l1 h
set_option maxRecDepth 100000 in
set_option maxHeartbeats 4000000 in
theorem P_X10_sortAt_40 {q : eT} {r0 : Int32} {h0 : eH} (hq : e_B q yX10_sortAt.cls cX10_sortAt 3 1 21 (some .int) yX10_sortAt.name) (l2 : Int32) (h : eH) : e_K eI q r0 h0 40 [(2, .int l2)] [] h (F_X10_sortAt_40 l2 h) := by
  unfold F_X10_sortAt_40
  refine k_iload_n hq dX10_sortAt_40 0 rfl ?_
  refine k_bipush hq dX10_sortAt_41 (v := 59) rfl ?_
  refine k_icmp_ne hq (tgt := 48) dX10_sortAt_43 (by decide) (fun _ => ?_) (fun _ => ?_)
  · refine k_iconst hq dX10_sortAt_46 (v := 3) rfl ?_
    exact k_iret hq dX10_sortAt_47
  · refine k_iload_n hq dX10_sortAt_48 0 rfl ?_
    refine k_bipush hq dX10_sortAt_49 (v := 32) rfl ?_
    refine k_icmp_ne hq (tgt := 58) dX10_sortAt_51 (by decide) (fun _ => ?_) (fun _ => ?_)
    · refine k_iconst hq dX10_sortAt_54 (v := 4) rfl ?_
      refine k_goto hq (tgt := 59) dX10_sortAt_55 (by decide) ?_
      exact k_iret hq dX10_sortAt_59
    · refine k_iconst hq dX10_sortAt_58 (v := 5) rfl ?_
      exact k_iret hq dX10_sortAt_59
set_option maxRecDepth 100000 in
set_option maxHeartbeats 4000000 in
theorem P_X10_sortAt_26 {q : eT} {r0 : Int32} {h0 : eH} (hq : e_B q yX10_sortAt.cls cX10_sortAt 3 1 21 (some .int) yX10_sortAt.name) (l2 : Int32) (h : eH) : e_K eI q r0 h0 26 [(2, .int l2)] [] h (F_X10_sortAt_26 l2 h) := by
  unfold F_X10_sortAt_26
  refine k_iload_n hq dX10_sortAt_26 0 rfl ?_
  refine k_bipush hq dX10_sortAt_27 (v := 48) rfl ?_
  refine k_icmp_lt hq (tgt := 40) dX10_sortAt_29 (by decide) (fun _ => ?_) (fun _ => ?_)
  · exact k_sub [0] rfl (P_X10_sortAt_40 hq l2 h)
  · refine k_iload_n hq dX10_sortAt_32 0 rfl ?_
    refine k_bipush hq dX10_sortAt_33 (v := 57) rfl ?_
    refine k_icmp_gt hq (tgt := 40) dX10_sortAt_35 (by decide) (fun _ => ?_) (fun _ => ?_)
    · exact k_sub [0] rfl (P_X10_sortAt_40 hq l2 h)
    · refine k_iconst hq dX10_sortAt_38 (v := 2) rfl ?_
      exact k_iret hq dX10_sortAt_39
set_option maxRecDepth 100000 in
set_option maxHeartbeats 4000000 in
theorem P_X10_sortAt_0 {q : eT} {r0 : Int32} {h0 : eH} (hq : e_B q yX10_sortAt.cls cX10_sortAt 3 1 21 (some .int) yX10_sortAt.name) (l0 : Nat) (l1 : Int32) (h : eH) : e_K eI q r0 h0 0 [(0, .ref l0), (1, .int l1)] [] h (F_X10_sortAt l0 l1 h) := by
  unfold F_X10_sortAt
  refine k_aload_n hq dX10_sortAt_0 0 rfl ?_
  refine k_iload_n hq dX10_sortAt_1 1 rfl ?_
  refine k_callV hq (na := 1) (As := [.int l1]) (st := []) 9 (C := RX10) (T := TX10) rfl (con_X10_byteAt _ _ _ _ l0 l1) tw_395 tw_49 tw_392 tw_394 tw_2 ⟨by decide, by decide, by decide +kernel⟩ rfl (by decide) rfl (Nat.le_of_ble_eq_true rfl) dX10_sortAt_2 fun v1 h2 => ?_
  refine k_istore_n hq dX10_sortAt_5 rfl (by decide) (ls' := [(2, .int v1), (0, .ref l0), (1, .int l1)]) rfl ?_
  refine k_iload_n hq dX10_sortAt_6 0 rfl ?_
  refine k_if_ge hq (tgt := 12) dX10_sortAt_7 (by decide) (fun _ => ?_) (fun _ => ?_)
  · refine k_iload_n hq dX10_sortAt_12 0 rfl ?_
    refine k_bipush hq dX10_sortAt_13 (v := 97) rfl ?_
    refine k_icmp_lt hq (tgt := 26) dX10_sortAt_15 (by decide) (fun _ => ?_) (fun _ => ?_)
    · exact k_sub [0] rfl (P_X10_sortAt_26 hq v1 h2)
    · refine k_iload_n hq dX10_sortAt_18 0 rfl ?_
      refine k_bipush hq dX10_sortAt_19 (v := 122) rfl ?_
      refine k_icmp_gt hq (tgt := 26) dX10_sortAt_21 (by decide) (fun _ => ?_) (fun _ => ?_)
      · exact k_sub [0] rfl (P_X10_sortAt_26 hq v1 h2)
      · refine k_iconst hq dX10_sortAt_24 (v := 1) rfl ?_
        exact k_iret hq dX10_sortAt_25
  · refine k_iconst hq dX10_sortAt_10 (v := 0) rfl ?_
    exact k_iret hq dX10_sortAt_11
theorem con_X10_sortAt (l : Launch) (G : eG) (B0 n : Nat) (l0 : Nat) (l1 : Int32) : e_C eI l G B0 n yX10_sortAt cX10_sortAt 3 (some .int) 1 21 [.ref l0, .int l1] (F_X10_sortAt l0 l1) := by
  refine e_mk (by decide) (Nat.le_of_ble_eq_true rfl) fun q r0 h0 h hq e1 e2 e3 e4 => ?_
  subst e1; subst e2; subst e3; subst e4
  exact P_X10_sortAt_0 hq l0 l1 h
set_option maxRecDepth 100000 in
set_option maxHeartbeats 4000000 in
theorem P_X10_step_95b {q : eT} {r0 : Unit} {h0 : eH} (hq : e_B q yX10_step.cls cX10_step 2 2 43 none yX10_step.name) (N : Nat) (k95 : Nat → Int32 → eH → Option (Unit × eH)) (hk95 : ∀ (l0 : Nat) (l1 : Int32) h, e_K eV q r0 h0 95 [(0, .ref l0), (1, .int l1)] [] h (k95 l0 l1 h)) (l0 : Nat) (l1 : Int32) (h : eH) : e_K eV q r0 h0 95 [(0, .ref l0), (1, .int l1)] [] h (F_X10_step_95b N k95 l0 l1 h) := by
  unfold F_X10_step_95b
  refine k_iload_n hq dX10_step_95 1 rfl ?_
  refine k_if_eq hq (tgt := 138) dX10_step_96 (by decide) (fun _ => ?_) (fun _ => ?_)
  · exact k_vret hq dX10_step_138
  · refine k_aload_n hq dX10_step_99 0 rfl ?_
    refine k_gi hq (C := RX10) (T := TX10) 9 3 rfl (by decide) (lay_X10 3 (by decide)) tw_86 dX10_step_100 fun v1 => ?_
    refine k_aload_n hq dX10_step_103 0 rfl ?_
    refine k_gi hq (C := RX10) (T := TX10) 9 1 rfl (by decide) (lay_X10 1 (by decide)) tw_82 dX10_step_104 fun v2 => ?_
    refine k_icmp_ge hq (tgt := 138) dX10_step_107 (by decide) (fun _ => ?_) (fun _ => ?_)
    · exact k_vret hq dX10_step_138
    · refine k_aload_n hq dX10_step_110 0 rfl ?_
      refine k_aload_n hq dX10_step_111 0 rfl ?_
      refine k_gi hq (C := RX10) (T := TX10) 9 3 rfl (by decide) (lay_X10 3 (by decide)) tw_86 dX10_step_112 fun v3 => ?_
      refine k_callV hq (na := 1) (As := [.int v3]) (st := []) 9 (C := RX10) (T := TX10) rfl (con_X10_sortAt _ _ _ _ l0 v3) tw_391 tw_49 tw_388 tw_390 tw_1 ⟨by decide, by decide, by decide +kernel⟩ rfl (by decide) rfl (Nat.le_of_ble_eq_true rfl) dX10_step_115 fun v4 h5 => ?_
      refine k_aload_n hq dX10_step_118 0 rfl ?_
      refine k_gi hq (C := RX10) (T := TX10) 9 4 rfl (by decide) (lay_X10 4 (by decide)) tw_88 dX10_step_119 fun v6 => ?_
      refine k_icmp_ne hq (tgt := 138) dX10_step_122 (by decide) (fun _ => ?_) (fun _ => ?_)
      · refine k_aload_n hq dX10_step_125 0 rfl ?_
        refine k_dup hq dX10_step_126 rfl ?_
        refine k_gi hq (C := RX10) (T := TX10) 9 3 rfl (by decide) (lay_X10 3 (by decide)) tw_86 dX10_step_127 fun v7 => ?_
        refine k_iconst hq dX10_step_130 (v := 1) rfl ?_
        refine k_iadd hq dX10_step_131 ?_
        refine k_p hq (C := RX10) (T := TX10) 9 3 rfl (by decide) lay_X10 tyX10 tyX10_ok nmX10 tw_86 rfl rfl rfl dX10_step_132 fun h8 => ?_
        refine k_goto hq (tgt := 95) dX10_step_135 (by decide) ?_
        exact k_sub [0, 1] rfl (hk95 l0 l1 h8)
      · exact k_vret hq dX10_step_138
theorem Q_X10_step_95 {q : eT} {r0 : Unit} {h0 : eH} (hq : e_B q yX10_step.cls cX10_step 2 2 43 none yX10_step.name) (N : Nat) (l0 : Nat) (l1 : Int32) (h : eH) : e_K eV q r0 h0 95 [(0, .ref l0), (1, .int l1)] [] h (L_X10_step_95 N l0 l1 h) :=
  k_loop (mk := (fun s => [(0, .ref s.1), (1, .int s.2.1)])) (hp := fun s => s.2.2) (fun k hk s => P_X10_step_95b hq N (fun l0 l1 h => k (l0, l1, h)) (fun l0 l1 h => hk (l0, l1, h)) s.1 s.2.1 s.2.2) N (l0, l1, h)
set_option maxRecDepth 100000 in
set_option maxHeartbeats 4000000 in
theorem P_X10_step_94 {q : eT} {r0 : Unit} {h0 : eH} (hq : e_B q yX10_step.cls cX10_step 2 2 43 none yX10_step.name) (N : Nat) (l0 : Nat) (s0 : Int32) (h : eH) : e_K eV q r0 h0 94 [(0, .ref l0)] [.int s0] h (F_X10_step_94 N l0 s0 h) := by
  unfold F_X10_step_94
  refine k_istore_n hq dX10_step_94 rfl (by decide) (ls' := [(1, .int s0), (0, .ref l0)]) rfl ?_
  exact k_sub [1, 0] rfl (Q_X10_step_95 hq N l0 s0 h)
set_option maxRecDepth 100000 in
set_option maxHeartbeats 4000000 in
theorem P_X10_step_89 {q : eT} {r0 : Unit} {h0 : eH} (hq : e_B q yX10_step.cls cX10_step 2 2 43 none yX10_step.name) (N : Nat) (l0 : Nat) (h : eH) : e_K eV q r0 h0 89 [(0, .ref l0)] [] h (F_X10_step_89 N l0 h) := by
  unfold F_X10_step_89
  refine k_iconst hq dX10_step_89 (v := 1) rfl ?_
  refine k_goto hq (tgt := 94) dX10_step_90 (by decide) ?_
  exact k_sub [0] rfl (P_X10_step_94 hq N l0 1 h)
set_option maxRecDepth 100000 in
set_option maxHeartbeats 4000000 in
theorem P_X10_step_44 {q : eT} {r0 : Unit} {h0 : eH} (hq : e_B q yX10_step.cls cX10_step 2 2 43 none yX10_step.name) (N : Nat) (l0 : Nat) (h : eH) : e_K eV q r0 h0 44 [(0, .ref l0)] [] h (F_X10_step_44 N l0 h) := by
  unfold F_X10_step_44
  refine k_aload_n hq dX10_step_44 0 rfl ?_
  refine k_aload_n hq dX10_step_45 0 rfl ?_
  refine k_aload_n hq dX10_step_46 0 rfl ?_
  refine k_gi hq (C := RX10) (T := TX10) 9 2 rfl (by decide) (lay_X10 2 (by decide)) tw_85 dX10_step_47 fun v1 => ?_
  refine k_callV hq (na := 1) (As := [.int v1]) (st := [.ref l0]) 9 (C := RX10) (T := TX10) rfl (con_X10_sortAt _ _ _ _ l0 v1) tw_391 tw_49 tw_388 tw_390 tw_1 ⟨by decide, by decide, by decide +kernel⟩ rfl (by decide) rfl (Nat.le_of_ble_eq_true rfl) dX10_step_50 fun v2 h3 => ?_
  refine k_p hq (C := RX10) (T := TX10) 9 4 rfl (by decide) lay_X10 tyX10 tyX10_ok nmX10 tw_88 rfl rfl rfl dX10_step_53 fun h4 => ?_
  refine k_aload_n hq dX10_step_56 0 rfl ?_
  refine k_aload_n hq dX10_step_57 0 rfl ?_
  refine k_gi hq (C := RX10) (T := TX10) 9 2 rfl (by decide) (lay_X10 2 (by decide)) tw_85 dX10_step_58 fun v5 => ?_
  refine k_iconst hq dX10_step_61 (v := 1) rfl ?_
  refine k_iadd hq dX10_step_62 ?_
  refine k_aload_n hq dX10_step_63 0 rfl ?_
  refine k_gi hq (C := RX10) (T := TX10) 9 1 rfl (by decide) (lay_X10 1 (by decide)) tw_82 dX10_step_64 fun v6 => ?_
  refine k_mmin hq tw_396 tw_397 tw_60 tw_398 (by decide) (Nat.le_of_ble_eq_true rfl) dX10_step_67 ?_
  refine k_p hq (C := RX10) (T := TX10) 9 3 rfl (by decide) lay_X10 tyX10 tyX10_ok nmX10 tw_86 rfl rfl rfl dX10_step_70 fun h7 => ?_
  refine k_aload_n hq dX10_step_73 0 rfl ?_
  refine k_gi hq (C := RX10) (T := TX10) 9 4 rfl (by decide) (lay_X10 4 (by decide)) tw_88 dX10_step_74 fun v8 => ?_
  refine k_iconst hq dX10_step_77 (v := 1) rfl ?_
  refine k_icmp_eq hq (tgt := 89) dX10_step_78 (by decide) (fun _ => ?_) (fun _ => ?_)
  · exact k_sub [0] rfl (P_X10_step_89 hq N l0 h7)
  · refine k_aload_n hq dX10_step_81 0 rfl ?_
    refine k_gi hq (C := RX10) (T := TX10) 9 4 rfl (by decide) (lay_X10 4 (by decide)) tw_88 dX10_step_82 fun v9 => ?_
    refine k_iconst hq dX10_step_85 (v := 2) rfl ?_
    refine k_icmp_ne hq (tgt := 93) dX10_step_86 (by decide) (fun _ => ?_) (fun _ => ?_)
    · exact k_sub [0] rfl (P_X10_step_89 hq N l0 h7)
    · refine k_iconst hq dX10_step_93 (v := 0) rfl ?_
      exact k_sub [0] rfl (P_X10_step_94 hq N l0 0 h7)
set_option maxRecDepth 100000 in
set_option maxHeartbeats 4000000 in
theorem P_X10_step_8b {q : eT} {r0 : Unit} {h0 : eH} (hq : e_B q yX10_step.cls cX10_step 2 2 43 none yX10_step.name) (N : Nat) (k8 : Nat → eH → Option (Unit × eH)) (hk8 : ∀ (l0 : Nat) h, e_K eV q r0 h0 8 [(0, .ref l0)] [] h (k8 l0 h)) (l0 : Nat) (h : eH) : e_K eV q r0 h0 8 [(0, .ref l0)] [] h (F_X10_step_8b N k8 l0 h) := by
  unfold F_X10_step_8b
  refine k_aload_n hq dX10_step_8 0 rfl ?_
  refine k_gi hq (C := RX10) (T := TX10) 9 2 rfl (by decide) (lay_X10 2 (by decide)) tw_85 dX10_step_9 fun v1 => ?_
  refine k_aload_n hq dX10_step_12 0 rfl ?_
  refine k_gi hq (C := RX10) (T := TX10) 9 1 rfl (by decide) (lay_X10 1 (by decide)) tw_82 dX10_step_13 fun v2 => ?_
  refine k_icmp_ge hq (tgt := 44) dX10_step_16 (by decide) (fun _ => ?_) (fun _ => ?_)
  · exact k_sub [0] rfl (P_X10_step_44 hq N l0 h)
  · refine k_aload_n hq dX10_step_19 0 rfl ?_
    refine k_aload_n hq dX10_step_20 0 rfl ?_
    refine k_gi hq (C := RX10) (T := TX10) 9 2 rfl (by decide) (lay_X10 2 (by decide)) tw_85 dX10_step_21 fun v3 => ?_
    refine k_callV hq (na := 1) (As := [.int v3]) (st := []) 9 (C := RX10) (T := TX10) rfl (con_X10_sortAt _ _ _ _ l0 v3) tw_391 tw_49 tw_388 tw_390 tw_1 ⟨by decide, by decide, by decide +kernel⟩ rfl (by decide) rfl (Nat.le_of_ble_eq_true rfl) dX10_step_24 fun v4 h5 => ?_
    refine k_iconst hq dX10_step_27 (v := 4) rfl ?_
    refine k_icmp_ne hq (tgt := 44) dX10_step_28 (by decide) (fun _ => ?_) (fun _ => ?_)
    · refine k_aload_n hq dX10_step_31 0 rfl ?_
      refine k_dup hq dX10_step_32 rfl ?_
      refine k_gi hq (C := RX10) (T := TX10) 9 2 rfl (by decide) (lay_X10 2 (by decide)) tw_85 dX10_step_33 fun v6 => ?_
      refine k_iconst hq dX10_step_36 (v := 1) rfl ?_
      refine k_iadd hq dX10_step_37 ?_
      refine k_p hq (C := RX10) (T := TX10) 9 2 rfl (by decide) lay_X10 tyX10 tyX10_ok nmX10 tw_85 rfl rfl rfl dX10_step_38 fun h7 => ?_
      refine k_goto hq (tgt := 8) dX10_step_41 (by decide) ?_
      exact k_sub [0] rfl (hk8 l0 h7)
    · exact k_sub [0] rfl (P_X10_step_44 hq N l0 h5)
theorem Q_X10_step_8 {q : eT} {r0 : Unit} {h0 : eH} (hq : e_B q yX10_step.cls cX10_step 2 2 43 none yX10_step.name) (N : Nat) (l0 : Nat) (h : eH) : e_K eV q r0 h0 8 [(0, .ref l0)] [] h (L_X10_step_8 N l0 h) :=
  k_loop (mk := (fun s => [(0, .ref s.1)])) (hp := fun s => s.2) (fun k hk s => P_X10_step_8b hq N (fun l0 h => k (l0, h)) (fun l0 h => hk (l0, h)) s.1 s.2) N (l0, h)
set_option maxRecDepth 100000 in
set_option maxHeartbeats 4000000 in
theorem P_X10_step_0 {q : eT} {r0 : Unit} {h0 : eH} (hq : e_B q yX10_step.cls cX10_step 2 2 43 none yX10_step.name) (N : Nat) (l0 : Nat) (h : eH) : e_K eV q r0 h0 0 [(0, .ref l0)] [] h (F_X10_step N l0 h) := by
  unfold F_X10_step
  refine k_aload_n hq dX10_step_0 0 rfl ?_
  refine k_aload_n hq dX10_step_1 0 rfl ?_
  refine k_gi hq (C := RX10) (T := TX10) 9 3 rfl (by decide) (lay_X10 3 (by decide)) tw_86 dX10_step_2 fun v1 => ?_
  refine k_p hq (C := RX10) (T := TX10) 9 2 rfl (by decide) lay_X10 tyX10 tyX10_ok nmX10 tw_85 rfl rfl rfl dX10_step_5 fun h2 => ?_
  exact k_sub [0] rfl (Q_X10_step_8 hq N l0 h2)
theorem con_X10_step (l : Launch) (G : eG) (B0 n : Nat) (N : Nat) (l0 : Nat) : e_C eV l G B0 n yX10_step cX10_step 2 none 2 43 [.ref l0] (F_X10_step N l0) := by
  refine e_mk (by decide) (Nat.le_of_ble_eq_true rfl) fun q r0 h0 h hq e1 e2 e3 e4 => ?_
  subst e1; subst e2; subst e3; subst e4
  exact P_X10_step_0 hq N l0 h
set_option maxRecDepth 100000 in
set_option maxHeartbeats 4000000 in
theorem P_X7_putUsual_54 {q : eT} {r0 : Unit} {h0 : eH} (hq : e_B q yX7_putUsual.cls cX7_putUsual 1 0 0 none yX7_putUsual.name) (s0 : Nat) (s1 : Int32) (h : eH) : e_K eV q r0 h0 54 [] [.int s1, .ref s0] h (F_X7_putUsual_54 s0 s1 h) := by
  unfold F_X7_putUsual_54
  refine k_p hq (C := RX7) (T := TX7) 7 3 rfl (by decide) lay_X7 tyX7 tyX7_ok nmX7 tw_112 rfl rfl rfl dX7_putUsual_54 fun h1 => ?_
  exact k_vret hq dX7_putUsual_57
set_option maxRecDepth 100000 in
set_option maxHeartbeats 4000000 in
theorem P_X7_putUsual_35 {q : eT} {r0 : Unit} {h0 : eH} (hq : e_B q yX7_putUsual.cls cX7_putUsual 1 0 0 none yX7_putUsual.name) (l0 : Nat) (s0 : Nat) (s1 : Int32) (h : eH) : e_K eV q r0 h0 35 [(0, .ref l0)] [.int s1, .ref s0] h (F_X7_putUsual_35 l0 s0 s1 h) := by
  unfold F_X7_putUsual_35
  refine k_p hq (C := RX7) (T := TX7) 7 2 rfl (by decide) lay_X7 tyX7 tyX7_ok nmX7 tw_110 rfl rfl rfl dX7_putUsual_35 fun h1 => ?_
  refine k_aload_n hq dX7_putUsual_38 0 rfl ?_
  refine k_aload_n hq dX7_putUsual_39 0 rfl ?_
  refine k_gi hq (C := RX7) (T := TX7) 7 3 rfl (by decide) (lay_X7 3 (by decide)) tw_112 dX7_putUsual_40 fun v2 => ?_
  refine k_if_ne hq (tgt := 50) dX7_putUsual_43 (by decide) (fun _ => ?_) (fun _ => ?_)
  · refine k_iconst hq dX7_putUsual_46 (v := 4) rfl ?_
    refine k_goto hq (tgt := 54) dX7_putUsual_47 (by decide) ?_
    exact k_sub [] rfl (P_X7_putUsual_54 hq l0 4 h1)
  · refine k_aload_n hq dX7_putUsual_50 0 rfl ?_
    refine k_gi hq (C := RX7) (T := TX7) 7 3 rfl (by decide) (lay_X7 3 (by decide)) tw_112 dX7_putUsual_51 fun v3 => ?_
    exact k_sub [] rfl (P_X7_putUsual_54 hq l0 v3 h1)
set_option maxRecDepth 100000 in
set_option maxHeartbeats 4000000 in
theorem P_X7_putUsual_16 {q : eT} {r0 : Unit} {h0 : eH} (hq : e_B q yX7_putUsual.cls cX7_putUsual 1 0 0 none yX7_putUsual.name) (l0 : Nat) (s0 : Nat) (s1 : Int32) (h : eH) : e_K eV q r0 h0 16 [(0, .ref l0)] [.int s1, .ref s0] h (F_X7_putUsual_16 l0 s0 s1 h) := by
  unfold F_X7_putUsual_16
  refine k_p hq (C := RX7) (T := TX7) 7 1 rfl (by decide) lay_X7 tyX7 tyX7_ok nmX7 tw_108 rfl rfl rfl dX7_putUsual_16 fun h1 => ?_
  refine k_aload_n hq dX7_putUsual_19 0 rfl ?_
  refine k_aload_n hq dX7_putUsual_20 0 rfl ?_
  refine k_gi hq (C := RX7) (T := TX7) 7 2 rfl (by decide) (lay_X7 2 (by decide)) tw_110 dX7_putUsual_21 fun v2 => ?_
  refine k_if_ne hq (tgt := 31) dX7_putUsual_24 (by decide) (fun _ => ?_) (fun _ => ?_)
  · refine k_iconst hq dX7_putUsual_27 (v := 4) rfl ?_
    refine k_goto hq (tgt := 35) dX7_putUsual_28 (by decide) ?_
    exact k_sub [0] rfl (P_X7_putUsual_35 hq l0 l0 4 h1)
  · refine k_aload_n hq dX7_putUsual_31 0 rfl ?_
    refine k_gi hq (C := RX7) (T := TX7) 7 2 rfl (by decide) (lay_X7 2 (by decide)) tw_110 dX7_putUsual_32 fun v3 => ?_
    exact k_sub [0] rfl (P_X7_putUsual_35 hq l0 l0 v3 h1)
set_option maxRecDepth 100000 in
set_option maxHeartbeats 4000000 in
theorem P_X7_putUsual_0 {q : eT} {r0 : Unit} {h0 : eH} (hq : e_B q yX7_putUsual.cls cX7_putUsual 1 0 0 none yX7_putUsual.name) (l0 : Nat) (h : eH) : e_K eV q r0 h0 0 [(0, .ref l0)] [] h (F_X7_putUsual l0 h) := by
  unfold F_X7_putUsual
  refine k_aload_n hq dX7_putUsual_0 0 rfl ?_
  refine k_aload_n hq dX7_putUsual_1 0 rfl ?_
  refine k_gi hq (C := RX7) (T := TX7) 7 1 rfl (by decide) (lay_X7 1 (by decide)) tw_108 dX7_putUsual_2 fun v1 => ?_
  refine k_if_ne hq (tgt := 12) dX7_putUsual_5 (by decide) (fun _ => ?_) (fun _ => ?_)
  · refine k_iconst hq dX7_putUsual_8 (v := 3) rfl ?_
    refine k_goto hq (tgt := 16) dX7_putUsual_9 (by decide) ?_
    exact k_sub [0] rfl (P_X7_putUsual_16 hq l0 l0 3 h)
  · refine k_aload_n hq dX7_putUsual_12 0 rfl ?_
    refine k_gi hq (C := RX7) (T := TX7) 7 1 rfl (by decide) (lay_X7 1 (by decide)) tw_108 dX7_putUsual_13 fun v2 => ?_
    exact k_sub [0] rfl (P_X7_putUsual_16 hq l0 l0 v2 h)
theorem con_X7_putUsual (l : Launch) (G : eG) (B0 n : Nat) (l0 : Nat) : e_C eV l G B0 n yX7_putUsual cX7_putUsual 1 none 0 0 [.ref l0] (F_X7_putUsual l0) := by
  refine e_mk (by decide) (Nat.le_of_ble_eq_true rfl) fun q r0 h0 h hq e1 e2 e3 e4 => ?_
  subst e1; subst e2; subst e3; subst e4
  exact P_X7_putUsual_0 hq l0 h
set_option maxRecDepth 100000 in
set_option maxHeartbeats 4000000 in
theorem P_X10_isWord_28b {q : eT} {r0 : Int32} {h0 : eH} (hq : e_B q yX10_isWord.cls cX10_isWord 3 5 150 (some .boolean) yX10_isWord.name) (N : Nat) (k28 : Nat → Nat → Int32 → eH → Option (Int32 × eH)) (hk28 : ∀ (l0 : Nat) (l1 : Nat) (l2 : Int32) h, e_K eI q r0 h0 28 [(0, .ref l0), (1, .ref l1), (2, .int l2)] [] h (k28 l0 l1 l2 h)) (l0 : Nat) (l1 : Nat) (l2 : Int32) (h : eH) : e_K eI q r0 h0 28 [(0, .ref l0), (1, .ref l1), (2, .int l2)] [] h (F_X10_isWord_28b N (e_G q) k28 l0 l1 l2 h) := by
  unfold F_X10_isWord_28b
  refine k_iload_n hq dX10_isWord_28 2 rfl ?_
  refine k_aload_n hq dX10_isWord_29 1 rfl ?_
  refine k_callStr hq (na := 0) (As := []) (st := [.int l2]) (c_s_length _ _ _ _ l1) tw_415 tw_61 tw_412 tw_413 tw_414 ⟨by decide, by decide, by decide +kernel⟩ rfl (by decide) rfl (Nat.le_of_ble_eq_true rfl) dX10_isWord_30 fun v1 h2 => ?_
  refine k_icmp_ge hq (tgt := 62) dX10_isWord_33 (by decide) (fun _ => ?_) (fun _ => ?_)
  · refine k_iconst hq dX10_isWord_62 (v := 1) rfl ?_
    exact k_zret hq dX10_isWord_63
  · refine k_aload_n hq dX10_isWord_36 0 rfl ?_
    refine k_aload_n hq dX10_isWord_37 0 rfl ?_
    refine k_gi hq (C := RX10) (T := TX10) 9 2 rfl (by decide) (lay_X10 2 (by decide)) tw_85 dX10_isWord_38 fun v3 => ?_
    refine k_iload_n hq dX10_isWord_41 2 rfl ?_
    refine k_iadd hq dX10_isWord_42 ?_
    refine k_callV hq (na := 1) (As := [.int (v3 + l2)]) (st := []) 9 (C := RX10) (T := TX10) rfl (con_X10_byteAt _ _ _ _ l0 (v3 + l2)) tw_395 tw_49 tw_392 tw_394 tw_2 ⟨by decide, by decide, by decide +kernel⟩ rfl (by decide) rfl (Nat.le_of_ble_eq_true rfl) dX10_isWord_43 fun v4 h5 => ?_
    refine k_aload_n hq dX10_isWord_46 1 rfl ?_
    refine k_iload_n hq dX10_isWord_47 2 rfl ?_
    refine k_callStr hq (na := 1) (As := [.int l2]) (st := [.int v4]) (c_s_charAt _ _ _ _ l1 l2) tw_425 tw_61 tw_422 tw_423 tw_424 ⟨by decide, by decide, by decide +kernel⟩ rfl (by decide) rfl (Nat.le_of_ble_eq_true rfl) dX10_isWord_48 fun v6 h7 => ?_
    refine k_icmp_eq hq (tgt := 56) dX10_isWord_51 (by decide) (fun _ => ?_) (fun _ => ?_)
    · refine k_iinc hq dX10_isWord_56 2 rfl (v := l2 + 1) rfl (by decide) (ls' := [(2, .int (l2 + 1)), (0, .ref l0), (1, .ref l1)]) rfl ?_
      refine k_goto hq (tgt := 28) dX10_isWord_59 (by decide) ?_
      exact k_sub [1, 2, 0] rfl (hk28 l0 l1 (l2 + 1) h7)
    · refine k_iconst hq dX10_isWord_54 (v := 0) rfl ?_
      exact k_zret hq dX10_isWord_55
theorem Q_X10_isWord_28 {q : eT} {r0 : Int32} {h0 : eH} (hq : e_B q yX10_isWord.cls cX10_isWord 3 5 150 (some .boolean) yX10_isWord.name) (N : Nat) (l0 : Nat) (l1 : Nat) (l2 : Int32) (h : eH) : e_K eI q r0 h0 28 [(0, .ref l0), (1, .ref l1), (2, .int l2)] [] h (L_X10_isWord_28 N (e_G q) l0 l1 l2 h) :=
  k_loop (mk := (fun s => [(0, .ref s.1), (1, .ref s.2.1), (2, .int s.2.2.1)])) (hp := fun s => s.2.2.2) (fun k hk s => P_X10_isWord_28b hq N (fun l0 l1 l2 h => k (l0, l1, l2, h)) (fun l0 l1 l2 h => hk (l0, l1, l2, h)) s.1 s.2.1 s.2.2.1 s.2.2.2) N (l0, l1, l2, h)
set_option maxRecDepth 100000 in
set_option maxHeartbeats 4000000 in
theorem P_X10_isWord_0 {q : eT} {r0 : Int32} {h0 : eH} (hq : e_B q yX10_isWord.cls cX10_isWord 3 5 150 (some .boolean) yX10_isWord.name) (N : Nat) (l0 : Nat) (l1 : Nat) (h : eH) : e_K eI q r0 h0 0 [(0, .ref l0), (1, .ref l1)] [] h (F_X10_isWord N (e_G q) l0 l1 h) := by
  unfold F_X10_isWord
  refine k_aload_n hq dX10_isWord_0 0 rfl ?_
  refine k_gi hq (C := RX10) (T := TX10) 9 4 rfl (by decide) (lay_X10 4 (by decide)) tw_88 dX10_isWord_1 fun v1 => ?_
  refine k_iconst hq dX10_isWord_4 (v := 1) rfl ?_
  refine k_icmp_ne hq (tgt := 24) dX10_isWord_5 (by decide) (fun _ => ?_) (fun _ => ?_)
  · refine k_aload_n hq dX10_isWord_8 0 rfl ?_
    refine k_gi hq (C := RX10) (T := TX10) 9 3 rfl (by decide) (lay_X10 3 (by decide)) tw_86 dX10_isWord_9 fun v2 => ?_
    refine k_aload_n hq dX10_isWord_12 0 rfl ?_
    refine k_gi hq (C := RX10) (T := TX10) 9 2 rfl (by decide) (lay_X10 2 (by decide)) tw_85 dX10_isWord_13 fun v3 => ?_
    refine k_isub hq dX10_isWord_16 ?_
    refine k_aload_n hq dX10_isWord_17 1 rfl ?_
    refine k_callStr hq (na := 0) (As := []) (st := [.int (v2 - v3)]) (c_s_length _ _ _ _ l1) tw_415 tw_61 tw_412 tw_413 tw_414 ⟨by decide, by decide, by decide +kernel⟩ rfl (by decide) rfl (Nat.le_of_ble_eq_true rfl) dX10_isWord_18 fun v4 h5 => ?_
    refine k_icmp_eq hq (tgt := 26) dX10_isWord_21 (by decide) (fun _ => ?_) (fun _ => ?_)
    · refine k_iconst hq dX10_isWord_26 (v := 0) rfl ?_
      refine k_istore_n hq dX10_isWord_27 rfl (by decide) (ls' := [(2, .int 0), (0, .ref l0), (1, .ref l1)]) rfl ?_
      exact k_sub [1, 2, 0] rfl (Q_X10_isWord_28 hq N l0 l1 0 h5)
    · refine k_iconst hq dX10_isWord_24 (v := 0) rfl ?_
      exact k_zret hq dX10_isWord_25
  · refine k_iconst hq dX10_isWord_24 (v := 0) rfl ?_
    exact k_zret hq dX10_isWord_25
theorem con_X10_isWord (l : Launch) (G : eG) (B0 n : Nat) (N : Nat) (l0 : Nat) (l1 : Nat) : e_C eI l G B0 n yX10_isWord cX10_isWord 3 (some .boolean) 5 150 [.ref l0, .ref l1] (F_X10_isWord N G l0 l1) := by
  refine e_mk (by decide) (Nat.le_of_ble_eq_true rfl) fun q r0 h0 h hq e1 e2 e3 e4 => ?_
  subst e1; subst e2; subst e3; subst e4
  exact P_X10_isWord_0 hq N l0 l1 h
set_option maxRecDepth 100000 in
set_option maxHeartbeats 4000000 in
theorem P_X7_takesSemicolon_0 {q : eT} {r0 : Int32} {h0 : eH} (hq : e_B q yX7_takesSemicolon.cls cX7_takesSemicolon 2 3 64 (some .boolean) yX7_takesSemicolon.name) (N : Nat) (l0 : Nat) (l1 : Nat) (h : eH) : e_K eI q r0 h0 0 [(0, .ref l0), (1, .ref l1)] [] h (F_X7_takesSemicolon N l0 l1 h) := by
  unfold F_X7_takesSemicolon
  refine k_aload_n hq dX7_takesSemicolon_0 1 rfl ?_
  refine k_callV hq (na := 0) (As := []) (st := []) 9 (C := RX10) (T := TX10) rfl (con_X10_step _ _ _ _ N l1) tw_387 tw_49 tw_384 tw_385 tw_386 ⟨by decide, by decide, by decide +kernel⟩ rfl (by decide) rfl (Nat.le_of_ble_eq_true rfl) dX7_takesSemicolon_1 fun v1 h2 => ?_
  refine k_aload_n hq dX7_takesSemicolon_4 1 rfl ?_
  refine k_giN hq (C := RX10) (T := TX10) 9 4 rfl (by decide) (lay_X10 4 (by decide)) tw_87 dX7_takesSemicolon_5 fun v3 => ?_
  refine k_iconst hq dX7_takesSemicolon_8 (v := 3) rfl ?_
  refine k_icmp_ne hq (tgt := 16) dX7_takesSemicolon_9 (by decide) (fun _ => ?_) (fun _ => ?_)
  · refine k_iconst hq dX7_takesSemicolon_12 (v := 1) rfl ?_
    refine k_goto hq (tgt := 17) dX7_takesSemicolon_13 (by decide) ?_
    exact k_zret hq dX7_takesSemicolon_17
  · refine k_iconst hq dX7_takesSemicolon_16 (v := 0) rfl ?_
    exact k_zret hq dX7_takesSemicolon_17
theorem con_X7_takesSemicolon (l : Launch) (G : eG) (B0 n : Nat) (N : Nat) (l0 : Nat) (l1 : Nat) : e_C eI l G B0 n yX7_takesSemicolon cX7_takesSemicolon 2 (some .boolean) 3 64 [.ref l0, .ref l1] (F_X7_takesSemicolon N l0 l1) := by
  refine e_mk (by decide) (Nat.le_of_ble_eq_true rfl) fun q r0 h0 h hq e1 e2 e3 e4 => ?_
  subst e1; subst e2; subst e3; subst e4
  exact P_X7_takesSemicolon_0 hq N l0 l1 h
set_option maxRecDepth 100000 in
set_option maxHeartbeats 4000000 in
theorem P_X7_takesKey_0 {q : eT} {r0 : Int32} {h0 : eH} (hq : e_B q yX7_takesKey.cls cX7_takesKey 3 4 85 (some .boolean) yX7_takesKey.name) (N : Nat) (l0 : Nat) (l1 : Nat) (l2 : Int32) (h : eH) : e_K eI q r0 h0 0 [(0, .ref l0), (1, .ref l1), (2, .int l2)] [] h (F_X7_takesKey N l0 l1 l2 h) := by
  unfold F_X7_takesKey
  refine k_aload_n hq dX7_takesKey_0 0 rfl ?_
  refine k_gi hq (C := RX7) (T := TX7) 7 4 rfl (by decide) (lay_X7 4 (by decide)) tw_114 dX7_takesKey_1 fun v1 => ?_
  refine k_aload_n hq dX7_takesKey_4 0 rfl ?_
  refine k_gr hq (C := RX7) (T := TX7) 7 0 rfl (by decide) (lay_X7 0 (by decide)) tw_107 dX7_takesKey_5 fun v2 => ?_
  refine k_alen hq dX7_takesKey_8 fun v3 => ?_
  refine k_icmp_lt hq (tgt := 14) dX7_takesKey_9 (by decide) (fun _ => ?_) (fun _ => ?_)
  · refine k_aload_n hq dX7_takesKey_14 0 rfl ?_
    refine k_gr hq (C := RX7) (T := TX7) 7 0 rfl (by decide) (lay_X7 0 (by decide)) tw_107 dX7_takesKey_15 fun v4 => ?_
    refine k_aload_n hq dX7_takesKey_18 0 rfl ?_
    refine k_gi hq (C := RX7) (T := TX7) 7 4 rfl (by decide) (lay_X7 4 (by decide)) tw_114 dX7_takesKey_19 fun v5 => ?_
    refine k_iload_n hq dX7_takesKey_22 2 rfl ?_
    refine k_iast hq dX7_takesKey_23 fun h6 => ?_
    refine k_aload_n hq dX7_takesKey_24 0 rfl ?_
    refine k_dup hq dX7_takesKey_25 rfl ?_
    refine k_gi hq (C := RX7) (T := TX7) 7 4 rfl (by decide) (lay_X7 4 (by decide)) tw_114 dX7_takesKey_26 fun v7 => ?_
    refine k_iconst hq dX7_takesKey_29 (v := 1) rfl ?_
    refine k_iadd hq dX7_takesKey_30 ?_
    refine k_p hq (C := RX7) (T := TX7) 7 4 rfl (by decide) lay_X7 tyX7 tyX7_ok nmX7 tw_114 rfl rfl rfl dX7_takesKey_31 fun h8 => ?_
    refine k_aload_n hq dX7_takesKey_34 0 rfl ?_
    refine k_aload_n hq dX7_takesKey_35 1 rfl ?_
    refine k_callV hq (na := 1) (As := [.ref l1]) (st := []) 7 (C := RX7) (T := TX7) rfl (con_X7_takesSemicolon _ _ _ _ N l0 l1) tw_467 tw_50 tw_464 tw_466 tw_6 ⟨by decide, by decide, by decide +kernel⟩ rfl (by decide) rfl (Nat.le_of_ble_eq_true rfl) dX7_takesKey_36 fun v9 h10 => ?_
    exact k_zret hq dX7_takesKey_39
  · refine k_iconst hq dX7_takesKey_12 (v := 0) rfl ?_
    exact k_zret hq dX7_takesKey_13
theorem con_X7_takesKey (l : Launch) (G : eG) (B0 n : Nat) (N : Nat) (l0 : Nat) (l1 : Nat) (l2 : Int32) : e_C eI l G B0 n yX7_takesKey cX7_takesKey 3 (some .boolean) 4 85 [.ref l0, .ref l1, .int l2] (F_X7_takesKey N l0 l1 l2) := by
  refine e_mk (by decide) (Nat.le_of_ble_eq_true rfl) fun q r0 h0 h hq e1 e2 e3 e4 => ?_
  subst e1; subst e2; subst e3; subst e4
  exact P_X7_takesKey_0 hq N l0 l1 l2 h
set_option maxRecDepth 100000 in
set_option maxHeartbeats 4000000 in
theorem P_X10_digit_0 {q : eT} {r0 : Int32} {h0 : eH} (hq : e_B q yX10_digit.cls cX10_digit 1 1 21 (some .int) yX10_digit.name) (l0 : Nat) (h : eH) : e_K eI q r0 h0 0 [(0, .ref l0)] [] h (F_X10_digit l0 h) := by
  unfold F_X10_digit
  refine k_aload_n hq dX10_digit_0 0 rfl ?_
  refine k_gi hq (C := RX10) (T := TX10) 9 4 rfl (by decide) (lay_X10 4 (by decide)) tw_88 dX10_digit_1 fun v1 => ?_
  refine k_iconst hq dX10_digit_4 (v := 2) rfl ?_
  refine k_icmp_ne hq (tgt := 35) dX10_digit_5 (by decide) (fun _ => ?_) (fun _ => ?_)
  · refine k_aload_n hq dX10_digit_8 0 rfl ?_
    refine k_gi hq (C := RX10) (T := TX10) 9 3 rfl (by decide) (lay_X10 3 (by decide)) tw_86 dX10_digit_9 fun v2 => ?_
    refine k_aload_n hq dX10_digit_12 0 rfl ?_
    refine k_gi hq (C := RX10) (T := TX10) 9 2 rfl (by decide) (lay_X10 2 (by decide)) tw_85 dX10_digit_13 fun v3 => ?_
    refine k_isub hq dX10_digit_16 ?_
    refine k_iconst hq dX10_digit_17 (v := 1) rfl ?_
    refine k_icmp_ne hq (tgt := 35) dX10_digit_18 (by decide) (fun _ => ?_) (fun _ => ?_)
    · refine k_aload_n hq dX10_digit_21 0 rfl ?_
      refine k_aload_n hq dX10_digit_22 0 rfl ?_
      refine k_gi hq (C := RX10) (T := TX10) 9 2 rfl (by decide) (lay_X10 2 (by decide)) tw_85 dX10_digit_23 fun v4 => ?_
      refine k_callV hq (na := 1) (As := [.int v4]) (st := []) 9 (C := RX10) (T := TX10) rfl (con_X10_byteAt _ _ _ _ l0 v4) tw_395 tw_49 tw_392 tw_394 tw_2 ⟨by decide, by decide, by decide +kernel⟩ rfl (by decide) rfl (Nat.le_of_ble_eq_true rfl) dX10_digit_26 fun v5 h6 => ?_
      refine k_bipush hq dX10_digit_29 (v := 48) rfl ?_
      refine k_isub hq dX10_digit_31 ?_
      refine k_goto hq (tgt := 36) dX10_digit_32 (by decide) ?_
      exact k_iret hq dX10_digit_36
    · refine k_iconst hq dX10_digit_35 (v := (-1)) rfl ?_
      exact k_iret hq dX10_digit_36
  · refine k_iconst hq dX10_digit_35 (v := (-1)) rfl ?_
    exact k_iret hq dX10_digit_36
theorem con_X10_digit (l : Launch) (G : eG) (B0 n : Nat) (l0 : Nat) : e_C eI l G B0 n yX10_digit cX10_digit 1 (some .int) 1 21 [.ref l0] (F_X10_digit l0) := by
  refine e_mk (by decide) (Nat.le_of_ble_eq_true rfl) fun q r0 h0 h hq e1 e2 e3 e4 => ?_
  subst e1; subst e2; subst e3; subst e4
  exact P_X10_digit_0 hq l0 h
set_option maxRecDepth 100000 in
set_option maxHeartbeats 4000000 in
theorem P_X7_takenNumber_0 {q : eT} {r0 : Int32} {h0 : eH} (hq : e_B q yX7_takenNumber.cls cX7_takenNumber 5 3 64 (some .int) yX7_takenNumber.name) (N : Nat) (l0 : Nat) (l1 : Nat) (l2 : Int32) (l3 : Int32) (h : eH) : e_K eI q r0 h0 0 [(0, .ref l0), (1, .ref l1), (2, .int l2), (3, .int l3)] [] h (F_X7_takenNumber N l0 l1 l2 l3 h) := by
  unfold F_X7_takenNumber
  refine k_aload_n hq dX7_takenNumber_0 1 rfl ?_
  refine k_callV hq (na := 0) (As := []) (st := []) 9 (C := RX10) (T := TX10) rfl (con_X10_step _ _ _ _ N l1) tw_387 tw_49 tw_384 tw_385 tw_386 ⟨by decide, by decide, by decide +kernel⟩ rfl (by decide) rfl (Nat.le_of_ble_eq_true rfl) dX7_takenNumber_1 fun v1 h2 => ?_
  refine k_aload_n hq dX7_takenNumber_4 1 rfl ?_
  refine k_callV hq (na := 0) (As := []) (st := []) 9 (C := RX10) (T := TX10) rfl (con_X10_digit _ _ _ _ l1) tw_477 tw_49 tw_474 tw_475 tw_476 ⟨by decide, by decide, by decide +kernel⟩ rfl (by decide) rfl (Nat.le_of_ble_eq_true rfl) dX7_takenNumber_5 fun v3 h4 => ?_
  refine k_istore hq dX7_takenNumber_8 (by decide) (ls' := [(4, .int v3), (0, .ref l0), (1, .ref l1), (2, .int l2), (3, .int l3)]) rfl ?_
  refine k_iload hq dX7_takenNumber_10 0 rfl ?_
  refine k_iload_n hq dX7_takenNumber_12 3 rfl ?_
  refine k_icmp_lt hq (tgt := 27) dX7_takenNumber_13 (by decide) (fun _ => ?_) (fun _ => ?_)
  · refine k_iconst hq dX7_takenNumber_27 (v := 0) rfl ?_
    exact k_iret hq dX7_takenNumber_28
  · refine k_iload hq dX7_takenNumber_16 0 rfl ?_
    refine k_iload_n hq dX7_takenNumber_18 4 rfl ?_
    refine k_icmp_gt hq (tgt := 27) dX7_takenNumber_19 (by decide) (fun _ => ?_) (fun _ => ?_)
    · refine k_iconst hq dX7_takenNumber_27 (v := 0) rfl ?_
      exact k_iret hq dX7_takenNumber_28
    · refine k_iload hq dX7_takenNumber_22 0 rfl ?_
      refine k_goto hq (tgt := 28) dX7_takenNumber_24 (by decide) ?_
      exact k_iret hq dX7_takenNumber_28
theorem con_X7_takenNumber (l : Launch) (G : eG) (B0 n : Nat) (N : Nat) (l0 : Nat) (l1 : Nat) (l2 : Int32) (l3 : Int32) : e_C eI l G B0 n yX7_takenNumber cX7_takenNumber 5 (some .int) 3 64 [.ref l0, .ref l1, .int l2, .int l3] (F_X7_takenNumber N l0 l1 l2 l3) := by
  refine e_mk (by decide) (Nat.le_of_ble_eq_true rfl) fun q r0 h0 h hq e1 e2 e3 e4 => ?_
  subst e1; subst e2; subst e3; subst e4
  exact P_X7_takenNumber_0 hq N l0 l1 l2 l3 h
set_option maxRecDepth 100000 in
set_option maxHeartbeats 4000000 in
theorem P_X7_takesItem_129 {q : eT} {r0 : Int32} {h0 : eH} (hq : e_B q yX7_takesItem.cls cX7_takesItem 2 6 172 (some .boolean) yX7_takesItem.name) (N : Nat) (l0 : Nat) (l1 : Nat) (h : eH) : e_K eI q r0 h0 129 [(0, .ref l0), (1, .ref l1)] [] h (F_X7_takesItem_129 N (e_G q) l0 l1 h) := by
  unfold F_X7_takesItem_129
  refine k_aload_n hq dX7_takesItem_129 1 rfl ?_
  refine k_ldcS hq 4 (by decide) rfl rfl dX7_takesItem_130 ?_
  refine k_callV hq (na := 1) (As := [.ref (G.2.2.1 4)]) (st := []) 9 (C := RX10) (T := TX10) rfl (con_X10_isWord _ _ _ _ N l1 (G.2.2.1 4)) tw_411 tw_49 tw_408 tw_409 tw_410 ⟨by decide, by decide, by decide +kernel⟩ rfl (by decide) rfl (Nat.le_of_ble_eq_true rfl) dX7_takesItem_132 fun v1 h2 => ?_
  refine k_if_eq hq (tgt := 177) dX7_takesItem_135 (by decide) (fun _ => ?_) (fun _ => ?_)
  · refine k_iconst hq dX7_takesItem_177 (v := 0) rfl ?_
    exact k_zret hq dX7_takesItem_178
  · refine k_aload_n hq dX7_takesItem_138 0 rfl ?_
    refine k_gi hq (C := RX7) (T := TX7) 7 3 rfl (by decide) (lay_X7 3 (by decide)) tw_112 dX7_takesItem_139 fun v3 => ?_
    refine k_if_ne hq (tgt := 177) dX7_takesItem_142 (by decide) (fun _ => ?_) (fun _ => ?_)
    · refine k_aload_n hq dX7_takesItem_145 0 rfl ?_
      refine k_aload_n hq dX7_takesItem_146 0 rfl ?_
      refine k_aload_n hq dX7_takesItem_147 1 rfl ?_
      refine k_iconst hq dX7_takesItem_148 (v := 1) rfl ?_
      refine k_iconst hq dX7_takesItem_149 (v := 4) rfl ?_
      refine k_callV hq (na := 3) (As := [.ref l1, .int 1, .int 4]) (st := [.ref l0]) 7 (C := RX7) (T := TX7) rfl (con_X7_takenNumber _ _ _ _ N l0 l1 1 4) tw_473 tw_50 tw_470 tw_472 tw_7 ⟨by decide, by decide, by decide +kernel⟩ rfl (by decide) rfl (Nat.le_of_ble_eq_true rfl) dX7_takesItem_150 fun v4 h5 => ?_
      refine k_p hq (C := RX7) (T := TX7) 7 3 rfl (by decide) lay_X7 tyX7 tyX7_ok nmX7 tw_112 rfl rfl rfl dX7_takesItem_153 fun h6 => ?_
      refine k_aload_n hq dX7_takesItem_156 0 rfl ?_
      refine k_gi hq (C := RX7) (T := TX7) 7 3 rfl (by decide) (lay_X7 3 (by decide)) tw_112 dX7_takesItem_157 fun v7 => ?_
      refine k_if_eq hq (tgt := 175) dX7_takesItem_160 (by decide) (fun _ => ?_) (fun _ => ?_)
      · refine k_iconst hq dX7_takesItem_175 (v := 0) rfl ?_
        exact k_zret hq dX7_takesItem_176
      · refine k_aload_n hq dX7_takesItem_163 0 rfl ?_
        refine k_aload_n hq dX7_takesItem_164 1 rfl ?_
        refine k_callV hq (na := 1) (As := [.ref l1]) (st := []) 7 (C := RX7) (T := TX7) rfl (con_X7_takesSemicolon _ _ _ _ N l0 l1) tw_467 tw_50 tw_464 tw_466 tw_6 ⟨by decide, by decide, by decide +kernel⟩ rfl (by decide) rfl (Nat.le_of_ble_eq_true rfl) dX7_takesItem_165 fun v8 h9 => ?_
        refine k_if_eq hq (tgt := 175) dX7_takesItem_168 (by decide) (fun _ => ?_) (fun _ => ?_)
        · refine k_iconst hq dX7_takesItem_175 (v := 0) rfl ?_
          exact k_zret hq dX7_takesItem_176
        · refine k_iconst hq dX7_takesItem_171 (v := 1) rfl ?_
          refine k_goto hq (tgt := 176) dX7_takesItem_172 (by decide) ?_
          exact k_zret hq dX7_takesItem_176
    · refine k_iconst hq dX7_takesItem_177 (v := 0) rfl ?_
      exact k_zret hq dX7_takesItem_178
set_option maxRecDepth 100000 in
set_option maxHeartbeats 4000000 in
theorem P_X7_takesItem_80 {q : eT} {r0 : Int32} {h0 : eH} (hq : e_B q yX7_takesItem.cls cX7_takesItem 2 6 172 (some .boolean) yX7_takesItem.name) (N : Nat) (l0 : Nat) (l1 : Nat) (h : eH) : e_K eI q r0 h0 80 [(0, .ref l0), (1, .ref l1)] [] h (F_X7_takesItem_80 N (e_G q) l0 l1 h) := by
  unfold F_X7_takesItem_80
  refine k_aload_n hq dX7_takesItem_80 1 rfl ?_
  refine k_ldcS hq 3 (by decide) rfl rfl dX7_takesItem_81 ?_
  refine k_callV hq (na := 1) (As := [.ref (G.2.2.1 3)]) (st := []) 9 (C := RX10) (T := TX10) rfl (con_X10_isWord _ _ _ _ N l1 (G.2.2.1 3)) tw_411 tw_49 tw_408 tw_409 tw_410 ⟨by decide, by decide, by decide +kernel⟩ rfl (by decide) rfl (Nat.le_of_ble_eq_true rfl) dX7_takesItem_83 fun v1 h2 => ?_
  refine k_if_eq hq (tgt := 129) dX7_takesItem_86 (by decide) (fun _ => ?_) (fun _ => ?_)
  · exact k_sub [0, 1] rfl (P_X7_takesItem_129 hq N l0 l1 h2)
  · refine k_aload_n hq dX7_takesItem_89 0 rfl ?_
    refine k_gi hq (C := RX7) (T := TX7) 7 2 rfl (by decide) (lay_X7 2 (by decide)) tw_110 dX7_takesItem_90 fun v3 => ?_
    refine k_if_ne hq (tgt := 129) dX7_takesItem_93 (by decide) (fun _ => ?_) (fun _ => ?_)
    · refine k_aload_n hq dX7_takesItem_96 0 rfl ?_
      refine k_aload_n hq dX7_takesItem_97 0 rfl ?_
      refine k_aload_n hq dX7_takesItem_98 1 rfl ?_
      refine k_iconst hq dX7_takesItem_99 (v := 1) rfl ?_
      refine k_bipush hq dX7_takesItem_100 (v := 6) rfl ?_
      refine k_callV hq (na := 3) (As := [.ref l1, .int 1, .int 6]) (st := [.ref l0]) 7 (C := RX7) (T := TX7) rfl (con_X7_takenNumber _ _ _ _ N l0 l1 1 6) tw_473 tw_50 tw_470 tw_472 tw_7 ⟨by decide, by decide, by decide +kernel⟩ rfl (by decide) rfl (Nat.le_of_ble_eq_true rfl) dX7_takesItem_102 fun v4 h5 => ?_
      refine k_p hq (C := RX7) (T := TX7) 7 2 rfl (by decide) lay_X7 tyX7 tyX7_ok nmX7 tw_110 rfl rfl rfl dX7_takesItem_105 fun h6 => ?_
      refine k_aload_n hq dX7_takesItem_108 0 rfl ?_
      refine k_gi hq (C := RX7) (T := TX7) 7 2 rfl (by decide) (lay_X7 2 (by decide)) tw_110 dX7_takesItem_109 fun v7 => ?_
      refine k_if_eq hq (tgt := 127) dX7_takesItem_112 (by decide) (fun _ => ?_) (fun _ => ?_)
      · refine k_iconst hq dX7_takesItem_127 (v := 0) rfl ?_
        exact k_zret hq dX7_takesItem_128
      · refine k_aload_n hq dX7_takesItem_115 0 rfl ?_
        refine k_aload_n hq dX7_takesItem_116 1 rfl ?_
        refine k_callV hq (na := 1) (As := [.ref l1]) (st := []) 7 (C := RX7) (T := TX7) rfl (con_X7_takesSemicolon _ _ _ _ N l0 l1) tw_467 tw_50 tw_464 tw_466 tw_6 ⟨by decide, by decide, by decide +kernel⟩ rfl (by decide) rfl (Nat.le_of_ble_eq_true rfl) dX7_takesItem_117 fun v8 h9 => ?_
        refine k_if_eq hq (tgt := 127) dX7_takesItem_120 (by decide) (fun _ => ?_) (fun _ => ?_)
        · refine k_iconst hq dX7_takesItem_127 (v := 0) rfl ?_
          exact k_zret hq dX7_takesItem_128
        · refine k_iconst hq dX7_takesItem_123 (v := 1) rfl ?_
          refine k_goto hq (tgt := 128) dX7_takesItem_124 (by decide) ?_
          exact k_zret hq dX7_takesItem_128
    · exact k_sub [0, 1] rfl (P_X7_takesItem_129 hq N l0 l1 h2)
set_option maxRecDepth 100000 in
set_option maxHeartbeats 4000000 in
theorem P_X7_takesItem_0 {q : eT} {r0 : Int32} {h0 : eH} (hq : e_B q yX7_takesItem.cls cX7_takesItem 2 6 172 (some .boolean) yX7_takesItem.name) (N : Nat) (l0 : Nat) (l1 : Nat) (h : eH) : e_K eI q r0 h0 0 [(0, .ref l0), (1, .ref l1)] [] h (F_X7_takesItem N (e_G q) l0 l1 h) := by
  unfold F_X7_takesItem
  refine k_aload_n hq dX7_takesItem_0 1 rfl ?_
  refine k_ldcS hq 0 (by decide) rfl rfl dX7_takesItem_1 ?_
  refine k_callV hq (na := 1) (As := [.ref (G.2.2.1 0)]) (st := []) 9 (C := RX10) (T := TX10) rfl (con_X10_isWord _ _ _ _ N l1 (G.2.2.1 0)) tw_411 tw_49 tw_408 tw_409 tw_410 ⟨by decide, by decide, by decide +kernel⟩ rfl (by decide) rfl (Nat.le_of_ble_eq_true rfl) dX7_takesItem_3 fun v1 h2 => ?_
  refine k_if_eq hq (tgt := 16) dX7_takesItem_6 (by decide) (fun _ => ?_) (fun _ => ?_)
  · refine k_aload_n hq dX7_takesItem_16 1 rfl ?_
    refine k_ldcS hq 1 (by decide) rfl rfl dX7_takesItem_17 ?_
    refine k_callV hq (na := 1) (As := [.ref (G.2.2.1 1)]) (st := []) 9 (C := RX10) (T := TX10) rfl (con_X10_isWord _ _ _ _ N l1 (G.2.2.1 1)) tw_411 tw_49 tw_408 tw_409 tw_410 ⟨by decide, by decide, by decide +kernel⟩ rfl (by decide) rfl (Nat.le_of_ble_eq_true rfl) dX7_takesItem_19 fun v3 h4 => ?_
    refine k_if_eq hq (tgt := 32) dX7_takesItem_22 (by decide) (fun _ => ?_) (fun _ => ?_)
    · refine k_aload_n hq dX7_takesItem_32 1 rfl ?_
      refine k_ldcS hq 2 (by decide) rfl rfl dX7_takesItem_33 ?_
      refine k_callV hq (na := 1) (As := [.ref (G.2.2.1 2)]) (st := []) 9 (C := RX10) (T := TX10) rfl (con_X10_isWord _ _ _ _ N l1 (G.2.2.1 2)) tw_411 tw_49 tw_408 tw_409 tw_410 ⟨by decide, by decide, by decide +kernel⟩ rfl (by decide) rfl (Nat.le_of_ble_eq_true rfl) dX7_takesItem_35 fun v5 h6 => ?_
      refine k_if_eq hq (tgt := 80) dX7_takesItem_38 (by decide) (fun _ => ?_) (fun _ => ?_)
      · exact k_sub [0, 1] rfl (P_X7_takesItem_80 hq N l0 l1 h6)
      · refine k_aload_n hq dX7_takesItem_41 0 rfl ?_
        refine k_gi hq (C := RX7) (T := TX7) 7 1 rfl (by decide) (lay_X7 1 (by decide)) tw_108 dX7_takesItem_42 fun v7 => ?_
        refine k_if_ne hq (tgt := 80) dX7_takesItem_45 (by decide) (fun _ => ?_) (fun _ => ?_)
        · refine k_aload_n hq dX7_takesItem_48 0 rfl ?_
          refine k_aload_n hq dX7_takesItem_49 0 rfl ?_
          refine k_aload_n hq dX7_takesItem_50 1 rfl ?_
          refine k_iconst hq dX7_takesItem_51 (v := 2) rfl ?_
          refine k_iconst hq dX7_takesItem_52 (v := 4) rfl ?_
          refine k_callV hq (na := 3) (As := [.ref l1, .int 2, .int 4]) (st := [.ref l0]) 7 (C := RX7) (T := TX7) rfl (con_X7_takenNumber _ _ _ _ N l0 l1 2 4) tw_473 tw_50 tw_470 tw_472 tw_7 ⟨by decide, by decide, by decide +kernel⟩ rfl (by decide) rfl (Nat.le_of_ble_eq_true rfl) dX7_takesItem_53 fun v8 h9 => ?_
          refine k_p hq (C := RX7) (T := TX7) 7 1 rfl (by decide) lay_X7 tyX7 tyX7_ok nmX7 tw_108 rfl rfl rfl dX7_takesItem_56 fun h10 => ?_
          refine k_aload_n hq dX7_takesItem_59 0 rfl ?_
          refine k_gi hq (C := RX7) (T := TX7) 7 1 rfl (by decide) (lay_X7 1 (by decide)) tw_108 dX7_takesItem_60 fun v11 => ?_
          refine k_if_eq hq (tgt := 78) dX7_takesItem_63 (by decide) (fun _ => ?_) (fun _ => ?_)
          · refine k_iconst hq dX7_takesItem_78 (v := 0) rfl ?_
            exact k_zret hq dX7_takesItem_79
          · refine k_aload_n hq dX7_takesItem_66 0 rfl ?_
            refine k_aload_n hq dX7_takesItem_67 1 rfl ?_
            refine k_callV hq (na := 1) (As := [.ref l1]) (st := []) 7 (C := RX7) (T := TX7) rfl (con_X7_takesSemicolon _ _ _ _ N l0 l1) tw_467 tw_50 tw_464 tw_466 tw_6 ⟨by decide, by decide, by decide +kernel⟩ rfl (by decide) rfl (Nat.le_of_ble_eq_true rfl) dX7_takesItem_68 fun v12 h13 => ?_
            refine k_if_eq hq (tgt := 78) dX7_takesItem_71 (by decide) (fun _ => ?_) (fun _ => ?_)
            · refine k_iconst hq dX7_takesItem_78 (v := 0) rfl ?_
              exact k_zret hq dX7_takesItem_79
            · refine k_iconst hq dX7_takesItem_74 (v := 1) rfl ?_
              refine k_goto hq (tgt := 79) dX7_takesItem_75 (by decide) ?_
              exact k_zret hq dX7_takesItem_79
        · exact k_sub [0, 1] rfl (P_X7_takesItem_80 hq N l0 l1 h6)
    · refine k_aload_n hq dX7_takesItem_25 0 rfl ?_
      refine k_aload_n hq dX7_takesItem_26 1 rfl ?_
      refine k_iconst hq dX7_takesItem_27 (v := 1) rfl ?_
      refine k_callV hq (na := 2) (As := [.ref l1, .int 1]) (st := []) 7 (C := RX7) (T := TX7) rfl (con_X7_takesKey _ _ _ _ N l0 l1 1) tw_463 tw_50 tw_460 tw_462 tw_5 ⟨by decide, by decide, by decide +kernel⟩ rfl (by decide) rfl (Nat.le_of_ble_eq_true rfl) dX7_takesItem_28 fun v14 h15 => ?_
      exact k_zret hq dX7_takesItem_31
  · refine k_aload_n hq dX7_takesItem_9 0 rfl ?_
    refine k_aload_n hq dX7_takesItem_10 1 rfl ?_
    refine k_iconst hq dX7_takesItem_11 (v := 0) rfl ?_
    refine k_callV hq (na := 2) (As := [.ref l1, .int 0]) (st := []) 7 (C := RX7) (T := TX7) rfl (con_X7_takesKey _ _ _ _ N l0 l1 0) tw_463 tw_50 tw_460 tw_462 tw_5 ⟨by decide, by decide, by decide +kernel⟩ rfl (by decide) rfl (Nat.le_of_ble_eq_true rfl) dX7_takesItem_12 fun v16 h17 => ?_
    exact k_zret hq dX7_takesItem_15
theorem con_X7_takesItem (l : Launch) (G : eG) (B0 n : Nat) (N : Nat) (l0 : Nat) (l1 : Nat) : e_C eI l G B0 n yX7_takesItem cX7_takesItem 2 (some .boolean) 6 172 [.ref l0, .ref l1] (F_X7_takesItem N G l0 l1) := by
  refine e_mk (by decide) (Nat.le_of_ble_eq_true rfl) fun q r0 h0 h hq e1 e2 e3 e4 => ?_
  subst e1; subst e2; subst e3; subst e4
  exact P_X7_takesItem_0 hq N l0 l1 h
set_option maxRecDepth 100000 in
set_option maxHeartbeats 4000000 in
theorem P_X7_fill_10b {q : eT} {r0 : Int32} {h0 : eH} (hq : e_B q yX7_fill.cls cX7_fill 3 7 193 (some .int) yX7_fill.name) (N : Nat) (k10 : Nat → Nat → Int32 → eH → Option (Int32 × eH)) (hk10 : ∀ (l0 : Nat) (l1 : Nat) (l2 : Int32) h, e_K eI q r0 h0 10 [(0, .ref l0), (1, .ref l1), (2, .int l2)] [] h (k10 l0 l1 l2 h)) (l0 : Nat) (l1 : Nat) (l2 : Int32) (h : eH) : e_K eI q r0 h0 10 [(0, .ref l0), (1, .ref l1), (2, .int l2)] [] h (F_X7_fill_10b N (e_G q) k10 l0 l1 l2 h) := by
  unfold F_X7_fill_10b
  refine k_iload_n hq dX7_fill_10 2 rfl ?_
  refine k_bipush hq dX7_fill_11 (v := 7) rfl ?_
  refine k_icmp_gt hq (tgt := 62) dX7_fill_13 (by decide) (fun _ => ?_) (fun _ => ?_)
  · refine k_aload_n hq dX7_fill_62 1 rfl ?_
    refine k_giN hq (C := RX10) (T := TX10) 9 2 rfl (by decide) (lay_X10 2 (by decide)) tw_84 dX7_fill_63 fun v1 => ?_
    exact k_iret hq dX7_fill_66
  · refine k_aload_n hq dX7_fill_16 1 rfl ?_
    refine k_callV hq (na := 0) (As := []) (st := []) 9 (C := RX10) (T := TX10) rfl (con_X10_step _ _ _ _ N l1) tw_387 tw_49 tw_384 tw_385 tw_386 ⟨by decide, by decide, by decide +kernel⟩ rfl (by decide) rfl (Nat.le_of_ble_eq_true rfl) dX7_fill_17 fun v2 h3 => ?_
    refine k_aload_n hq dX7_fill_20 1 rfl ?_
    refine k_giN hq (C := RX10) (T := TX10) 9 4 rfl (by decide) (lay_X10 4 (by decide)) tw_87 dX7_fill_21 fun v4 => ?_
    refine k_if_ne hq (tgt := 33) dX7_fill_24 (by decide) (fun _ => ?_) (fun _ => ?_)
    · refine k_aload_n hq dX7_fill_27 0 rfl ?_
      refine k_callV hq (na := 0) (As := []) (st := []) 7 (C := RX7) (T := TX7) rfl (con_X7_putUsual _ _ _ _ l0) tw_402 tw_50 tw_399 tw_401 tw_3 ⟨by decide, by decide, by decide +kernel⟩ rfl (by decide) rfl (Nat.le_of_ble_eq_true rfl) dX7_fill_28 fun v10 h11 => ?_
      refine k_iconst hq dX7_fill_31 (v := (-1)) rfl ?_
      exact k_iret hq dX7_fill_32
    · refine k_aload_n hq dX7_fill_33 0 rfl ?_
      refine k_aload_n hq dX7_fill_34 1 rfl ?_
      refine k_callV hq (na := 1) (As := [.ref l1]) (st := []) 7 (C := RX7) (T := TX7) rfl (con_X7_takesItem _ _ _ _ N l0 l1) tw_406 tw_50 tw_403 tw_405 tw_4 ⟨by decide, by decide, by decide +kernel⟩ rfl (by decide) rfl (Nat.le_of_ble_eq_true rfl) dX7_fill_35 fun v5 h6 => ?_
      refine k_if_ne hq (tgt := 46) dX7_fill_38 (by decide) (fun _ => ?_) (fun _ => ?_)
      · refine k_aload_n hq dX7_fill_41 1 rfl ?_
        refine k_giN hq (C := RX10) (T := TX10) 9 2 rfl (by decide) (lay_X10 2 (by decide)) tw_84 dX7_fill_42 fun v9 => ?_
        exact k_iret hq dX7_fill_45
      · refine k_aload_n hq dX7_fill_46 0 rfl ?_
        refine k_dup hq dX7_fill_47 rfl ?_
        refine k_gi hq (C := RX7) (T := TX7) 7 5 rfl (by decide) (lay_X7 5 (by decide)) tw_116 dX7_fill_48 fun v7 => ?_
        refine k_iconst hq dX7_fill_51 (v := 1) rfl ?_
        refine k_iadd hq dX7_fill_52 ?_
        refine k_p hq (C := RX7) (T := TX7) 7 5 rfl (by decide) lay_X7 tyX7 tyX7_ok nmX7 tw_116 rfl rfl rfl dX7_fill_53 fun h8 => ?_
        refine k_iinc hq dX7_fill_56 2 rfl (v := l2 + 1) rfl (by decide) (ls' := [(2, .int (l2 + 1)), (0, .ref l0), (1, .ref l1)]) rfl ?_
        refine k_goto hq (tgt := 10) dX7_fill_59 (by decide) ?_
        exact k_sub [1, 2, 0] rfl (hk10 l0 l1 (l2 + 1) h8)
theorem Q_X7_fill_10 {q : eT} {r0 : Int32} {h0 : eH} (hq : e_B q yX7_fill.cls cX7_fill 3 7 193 (some .int) yX7_fill.name) (N : Nat) (l0 : Nat) (l1 : Nat) (l2 : Int32) (h : eH) : e_K eI q r0 h0 10 [(0, .ref l0), (1, .ref l1), (2, .int l2)] [] h (L_X7_fill_10 N (e_G q) l0 l1 l2 h) :=
  k_loop (mk := (fun s => [(0, .ref s.1), (1, .ref s.2.1), (2, .int s.2.2.1)])) (hp := fun s => s.2.2.2) (fun k hk s => P_X7_fill_10b hq N (fun l0 l1 l2 h => k (l0, l1, l2, h)) (fun l0 l1 l2 h => hk (l0, l1, l2, h)) s.1 s.2.1 s.2.2.1 s.2.2.2) N (l0, l1, l2, h)
set_option maxRecDepth 100000 in
set_option maxHeartbeats 4000000 in
theorem P_X7_fill_0 {q : eT} {r0 : Int32} {h0 : eH} (hq : e_B q yX7_fill.cls cX7_fill 3 7 193 (some .int) yX7_fill.name) (N : Nat) (l0 : Nat) (l1 : Nat) (h : eH) : e_K eI q r0 h0 0 [(0, .ref l0), (1, .ref l1)] [] h (F_X7_fill N (e_G q) l0 l1 h) := by
  unfold F_X7_fill
  refine k_aload_n hq dX7_fill_0 0 rfl ?_
  refine k_callV hq (na := 0) (As := []) (st := []) 7 (C := RX7) (T := TX7) rfl (con_X7_forget _ _ _ _ l0) tw_379 tw_50 tw_376 tw_378 tw_0 ⟨by decide, by decide, by decide +kernel⟩ rfl (by decide) rfl (Nat.le_of_ble_eq_true rfl) dX7_fill_1 fun v1 h2 => ?_
  refine k_aload_n hq dX7_fill_4 1 rfl ?_
  refine k_callV hq (na := 0) (As := []) (st := []) 9 (C := RX10) (T := TX10) rfl (con_X10_rewind _ _ _ _ l1) tw_383 tw_49 tw_380 tw_381 tw_382 ⟨by decide, by decide, by decide +kernel⟩ rfl (by decide) rfl (Nat.le_of_ble_eq_true rfl) dX7_fill_5 fun v3 h4 => ?_
  refine k_iconst hq dX7_fill_8 (v := 0) rfl ?_
  refine k_istore_n hq dX7_fill_9 rfl (by decide) (ls' := [(2, .int 0), (0, .ref l0), (1, .ref l1)]) rfl ?_
  exact k_sub [1, 2, 0] rfl (Q_X7_fill_10 hq N l0 l1 0 h4)
theorem con_X7_fill (l : Launch) (G : eG) (B0 n : Nat) (N : Nat) (l0 : Nat) (l1 : Nat) : e_C eI l G B0 n yX7_fill cX7_fill 3 (some .int) 7 193 [.ref l0, .ref l1] (F_X7_fill N G l0 l1) := by
  refine e_mk (by decide) (Nat.le_of_ble_eq_true rfl) fun q r0 h0 h hq e1 e2 e3 e4 => ?_
  subst e1; subst e2; subst e3; subst e4
  exact P_X7_fill_0 hq N l0 l1 h
set_option maxRecDepth 100000 in
set_option maxHeartbeats 4000000 in
theorem P_X7_kindOf_0 {q : eT} {r0 : Int32} {h0 : eH} (hq : e_B q yX7_kindOf.cls cX7_kindOf 2 0 0 (some .int) yX7_kindOf.name) (l0 : Nat) (l1 : Int32) (h : eH) : e_K eI q r0 h0 0 [(0, .ref l0), (1, .int l1)] [] h (F_X7_kindOf l0 l1 h) := by
  unfold F_X7_kindOf
  refine k_iload_n hq dX7_kindOf_0 1 rfl ?_
  refine k_if_lt hq (tgt := 30) dX7_kindOf_1 (by decide) (fun _ => ?_) (fun _ => ?_)
  · refine k_iconst hq dX7_kindOf_30 (v := 0) rfl ?_
    exact k_iret hq dX7_kindOf_31
  · refine k_iload_n hq dX7_kindOf_4 1 rfl ?_
    refine k_aload_n hq dX7_kindOf_5 0 rfl ?_
    refine k_gi hq (C := RX7) (T := TX7) 7 4 rfl (by decide) (lay_X7 4 (by decide)) tw_114 dX7_kindOf_6 fun v1 => ?_
    refine k_icmp_ge hq (tgt := 30) dX7_kindOf_9 (by decide) (fun _ => ?_) (fun _ => ?_)
    · refine k_iconst hq dX7_kindOf_30 (v := 0) rfl ?_
      exact k_iret hq dX7_kindOf_31
    · refine k_iload_n hq dX7_kindOf_12 1 rfl ?_
      refine k_aload_n hq dX7_kindOf_13 0 rfl ?_
      refine k_gr hq (C := RX7) (T := TX7) 7 0 rfl (by decide) (lay_X7 0 (by decide)) tw_107 dX7_kindOf_14 fun v2 => ?_
      refine k_alen hq dX7_kindOf_17 fun v3 => ?_
      refine k_icmp_ge hq (tgt := 30) dX7_kindOf_18 (by decide) (fun _ => ?_) (fun _ => ?_)
      · refine k_iconst hq dX7_kindOf_30 (v := 0) rfl ?_
        exact k_iret hq dX7_kindOf_31
      · refine k_aload_n hq dX7_kindOf_21 0 rfl ?_
        refine k_gr hq (C := RX7) (T := TX7) 7 0 rfl (by decide) (lay_X7 0 (by decide)) tw_107 dX7_kindOf_22 fun v4 => ?_
        refine k_iload_n hq dX7_kindOf_25 1 rfl ?_
        refine k_iald hq dX7_kindOf_26 fun v5 => ?_
        refine k_goto hq (tgt := 31) dX7_kindOf_27 (by decide) ?_
        exact k_iret hq dX7_kindOf_31
theorem con_X7_kindOf (l : Launch) (G : eG) (B0 n : Nat) (l0 : Nat) (l1 : Int32) : e_C eI l G B0 n yX7_kindOf cX7_kindOf 2 (some .int) 0 0 [.ref l0, .int l1] (F_X7_kindOf l0 l1) := by
  refine e_mk (by decide) (Nat.le_of_ble_eq_true rfl) fun q r0 h0 h hq e1 e2 e3 e4 => ?_
  subst e1; subst e2; subst e3; subst e4
  exact P_X7_kindOf_0 hq l0 l1 h
set_option maxRecDepth 100000 in
set_option maxHeartbeats 4000000 in
theorem P_X10_isFull_0 {q : eT} {r0 : Int32} {h0 : eH} (hq : e_B q yX10_isFull.cls cX10_isFull 1 0 0 (some .boolean) yX10_isFull.name) (l0 : Nat) (h : eH) : e_K eI q r0 h0 0 [(0, .ref l0)] [] h (F_X10_isFull l0 h) := by
  unfold F_X10_isFull
  refine k_aload_n hq dX10_isFull_0 0 rfl ?_
  refine k_gi hq (C := RX10) (T := TX10) 9 1 rfl (by decide) (lay_X10 1 (by decide)) tw_82 dX10_isFull_1 fun v1 => ?_
  refine k_aload_n hq dX10_isFull_4 0 rfl ?_
  refine k_gr hq (C := RX10) (T := TX10) 9 0 rfl (by decide) (lay_X10 0 (by decide)) tw_81 dX10_isFull_5 fun v2 => ?_
  refine k_alen hq dX10_isFull_8 fun v3 => ?_
  refine k_icmp_lt hq (tgt := 16) dX10_isFull_9 (by decide) (fun _ => ?_) (fun _ => ?_)
  · refine k_iconst hq dX10_isFull_16 (v := 0) rfl ?_
    exact k_zret hq dX10_isFull_17
  · refine k_iconst hq dX10_isFull_12 (v := 1) rfl ?_
    refine k_goto hq (tgt := 17) dX10_isFull_13 (by decide) ?_
    exact k_zret hq dX10_isFull_17
theorem con_X10_isFull (l : Launch) (G : eG) (B0 n : Nat) (l0 : Nat) : e_C eI l G B0 n yX10_isFull cX10_isFull 1 (some .boolean) 0 0 [.ref l0] (F_X10_isFull l0) := by
  refine e_mk (by decide) (Nat.le_of_ble_eq_true rfl) fun q r0 h0 h hq e1 e2 e3 e4 => ?_
  subst e1; subst e2; subst e3; subst e4
  exact P_X10_isFull_0 hq l0 h
set_option maxRecDepth 100000 in
set_option maxHeartbeats 4000000 in
theorem P_X10_append_0 {q : eT} {r0 : Unit} {h0 : eH} (hq : e_B q yX10_append.cls cX10_append 2 0 0 none yX10_append.name) (l0 : Nat) (l1 : Int32) (h : eH) : e_K eV q r0 h0 0 [(0, .ref l0), (1, .int l1)] [] h (F_X10_append l0 l1 h) := by
  unfold F_X10_append
  refine k_aload_n hq dX10_append_0 0 rfl ?_
  refine k_gi hq (C := RX10) (T := TX10) 9 1 rfl (by decide) (lay_X10 1 (by decide)) tw_82 dX10_append_1 fun v1 => ?_
  refine k_aload_n hq dX10_append_4 0 rfl ?_
  refine k_gr hq (C := RX10) (T := TX10) 9 0 rfl (by decide) (lay_X10 0 (by decide)) tw_81 dX10_append_5 fun v2 => ?_
  refine k_alen hq dX10_append_8 fun v3 => ?_
  refine k_icmp_ge hq (tgt := 32) dX10_append_9 (by decide) (fun _ => ?_) (fun _ => ?_)
  · exact k_vret hq dX10_append_32
  · refine k_aload_n hq dX10_append_12 0 rfl ?_
    refine k_gr hq (C := RX10) (T := TX10) 9 0 rfl (by decide) (lay_X10 0 (by decide)) tw_81 dX10_append_13 fun v4 => ?_
    refine k_aload_n hq dX10_append_16 0 rfl ?_
    refine k_gi hq (C := RX10) (T := TX10) 9 1 rfl (by decide) (lay_X10 1 (by decide)) tw_82 dX10_append_17 fun v5 => ?_
    refine k_iload_n hq dX10_append_20 1 rfl ?_
    refine k_iast hq dX10_append_21 fun h6 => ?_
    refine k_aload_n hq dX10_append_22 0 rfl ?_
    refine k_dup hq dX10_append_23 rfl ?_
    refine k_gi hq (C := RX10) (T := TX10) 9 1 rfl (by decide) (lay_X10 1 (by decide)) tw_82 dX10_append_24 fun v7 => ?_
    refine k_iconst hq dX10_append_27 (v := 1) rfl ?_
    refine k_iadd hq dX10_append_28 ?_
    refine k_p hq (C := RX10) (T := TX10) 9 1 rfl (by decide) lay_X10 tyX10 tyX10_ok nmX10 tw_82 rfl rfl rfl dX10_append_29 fun h8 => ?_
    exact k_vret hq dX10_append_32
theorem con_X10_append (l : Launch) (G : eG) (B0 n : Nat) (l0 : Nat) (l1 : Int32) : e_C eV l G B0 n yX10_append cX10_append 2 none 0 0 [.ref l0, .int l1] (F_X10_append l0 l1) := by
  refine e_mk (by decide) (Nat.le_of_ble_eq_true rfl) fun q r0 h0 h hq e1 e2 e3 e4 => ?_
  subst e1; subst e2; subst e3; subst e4
  exact P_X10_append_0 hq l0 l1 h
set_option maxRecDepth 100000 in
set_option maxHeartbeats 4000000 in
theorem P_X10_empty_0 {q : eT} {r0 : Unit} {h0 : eH} (hq : e_B q yX10_empty.cls cX10_empty 1 0 0 none yX10_empty.name) (l0 : Nat) (h : eH) : e_K eV q r0 h0 0 [(0, .ref l0)] [] h (F_X10_empty l0 h) := by
  unfold F_X10_empty
  refine k_aload_n hq dX10_empty_0 0 rfl ?_
  refine k_iconst hq dX10_empty_1 (v := 0) rfl ?_
  refine k_p hq (C := RX10) (T := TX10) 9 1 rfl (by decide) lay_X10 tyX10 tyX10_ok nmX10 tw_82 rfl rfl rfl dX10_empty_2 fun h1 => ?_
  exact k_vret hq dX10_empty_5
theorem con_X10_empty (l : Launch) (G : eG) (B0 n : Nat) (l0 : Nat) : e_C eV l G B0 n yX10_empty cX10_empty 1 none 0 0 [.ref l0] (F_X10_empty l0) := by
  refine e_mk (by decide) (Nat.le_of_ble_eq_true rfl) fun q r0 h0 h hq e1 e2 e3 e4 => ?_
  subst e1; subst e2; subst e3; subst e4
  exact P_X10_empty_0 hq l0 h
