set_option maxRecDepth 100000 in
set_option maxHeartbeats 4000000 in
theorem P_X2_lackingSites_39 {q : eT} {r0 : Int32} {h0 : eH} (hq : e_B q yX2_lackingSites.cls cX2_lackingSites 5 1 21 (some .int) yX2_lackingSites.name) (he : e_E q) (N : Nat) (k14 : Nat → Int32 → Int32 → Int32 → Int32 → eH → Option (Int32 × eH)) (hk14 : ∀ (l0 : Nat) (l1 : Int32) (l2 : Int32) (l3 : Int32) (l4 : Int32) h, e_K eI q r0 h0 14 [(0, .ref l0), (1, .int l1), (2, .int l2), (3, .int l3), (4, .int l4)] [] h (k14 l0 l1 l2 l3 l4 h)) (l0 : Nat) (l1 : Int32) (l2 : Int32) (l4 : Int32) (s0 : Int32) (s1 : Int32) (h : eH) : e_K eI q r0 h0 39 [(0, .ref l0), (1, .int l1), (2, .int l2), (4, .int l4)] [.int s1, .int s0] h (F_X2_lackingSites_39 N k14 l0 l1 l2 l4 s0 s1 h) := by
  unfold F_X2_lackingSites_39
  refine k_callSN hq (na := 1) (As := [.int s1]) (st := [.int s0]) (con_X11_bit _ _ _ _ s1) tw_793 tw_48 tw_866 tw_792 ⟨by decide, by decide, by decide +kernel⟩ rfl (by decide) rfl (Nat.le_of_ble_eq_true rfl) dX2_lackingSites_39 fun v1 h2 => ?_
  refine k_iadd hq dX2_lackingSites_42 ?_
  refine k_let (mk := fun z => .int z :: []) fun v3 _ => ?_
  refine k_istore_n hq dX2_lackingSites_43 rfl (by decide) (ls' := [(3, .int v3), (0, .ref l0), (1, .int l1), (2, .int l2), (4, .int l4)]) rfl ?_
  refine k_iinc hq dX2_lackingSites_44 4 rfl (v := l4 + 1) rfl (by decide) (ls' := [(4, .int (l4 + 1)), (3, .int v3), (0, .ref l0), (1, .int l1), (2, .int l2)]) rfl ?_
  refine k_goto hq (tgt := 14) dX2_lackingSites_47 (by decide) ?_
  exact k_sub [2, 3, 4, 1, 0] rfl (hk14 l0 l1 l2 v3 (l4 + 1) h2)
set_option maxRecDepth 100000 in
set_option maxHeartbeats 4000000 in
theorem P_X2_lackingSites_14b {q : eT} {r0 : Int32} {h0 : eH} (hq : e_B q yX2_lackingSites.cls cX2_lackingSites 5 1 21 (some .int) yX2_lackingSites.name) (he : e_E q) (N : Nat) (k14 : Nat → Int32 → Int32 → Int32 → Int32 → eH → Option (Int32 × eH)) (hk14 : ∀ (l0 : Nat) (l1 : Int32) (l2 : Int32) (l3 : Int32) (l4 : Int32) h, e_K eI q r0 h0 14 [(0, .ref l0), (1, .int l1), (2, .int l2), (3, .int l3), (4, .int l4)] [] h (k14 l0 l1 l2 l3 l4 h)) (l0 : Nat) (l1 : Int32) (l2 : Int32) (l3 : Int32) (l4 : Int32) (h : eH) : e_K eI q r0 h0 14 [(0, .ref l0), (1, .int l1), (2, .int l2), (3, .int l3), (4, .int l4)] [] h (F_X2_lackingSites_14b N k14 l0 l1 l2 l3 l4 h) := by
  unfold F_X2_lackingSites_14b
  refine k_iload hq dX2_lackingSites_14 4 rfl ?_
  refine k_aload_n hq dX2_lackingSites_16 0 rfl ?_
  refine k_gi hq (C := RX2) (T := TX2) 2 1 rfl (by decide) (lay_X2 1 (by decide)) tw_179 dX2_lackingSites_17 fun v1 => ?_
  refine k_icmp_ge hq (tgt := 50) dX2_lackingSites_20 (by decide) (fun _ => ?_) (fun _ => ?_)
  · refine k_iload_n hq dX2_lackingSites_50 3 rfl ?_
    exact k_iret hq dX2_lackingSites_51 he
  · refine k_iload_n hq dX2_lackingSites_23 3 rfl ?_
    refine k_iload_n hq dX2_lackingSites_24 1 rfl ?_
    refine k_iload hq dX2_lackingSites_25 4 rfl ?_
    refine k_callS hq (na := 2) (As := [.int l1, .int l4]) (st := [.int l3]) (con_X2_setOf _ _ _ _ l1 l4) tw_880 tw_53 tw_878 tw_879 ⟨by decide, by decide, by decide +kernel⟩ rfl (by decide) rfl (Nat.le_of_ble_eq_true rfl) dX2_lackingSites_27 fun v2 h3 => ?_
    refine k_iload_n hq dX2_lackingSites_30 2 rfl ?_
    refine k_icmp_eq hq (tgt := 38) dX2_lackingSites_31 (by decide) (fun _ => ?_) (fun _ => ?_)
    · refine k_iconst hq dX2_lackingSites_38 (v := 0) rfl ?_
      exact k_sub [0, 1, 2, 4] rfl (P_X2_lackingSites_39 hq he N k14 hk14 l0 l1 l2 l4 l3 0 h3)
    · refine k_iconst hq dX2_lackingSites_34 (v := 1) rfl ?_
      refine k_goto hq (tgt := 39) dX2_lackingSites_35 (by decide) ?_
      exact k_sub [0, 1, 2, 4] rfl (P_X2_lackingSites_39 hq he N k14 hk14 l0 l1 l2 l4 l3 1 h3)
theorem Q_X2_lackingSites_14 {q : eT} {r0 : Int32} {h0 : eH} (hq : e_B q yX2_lackingSites.cls cX2_lackingSites 5 1 21 (some .int) yX2_lackingSites.name) (he : e_E q) (N : Nat) (l0 : Nat) (l1 : Int32) (l2 : Int32) (l3 : Int32) (l4 : Int32) (h : eH) : e_K eI q r0 h0 14 [(0, .ref l0), (1, .int l1), (2, .int l2), (3, .int l3), (4, .int l4)] [] h (L_X2_lackingSites_14 N l0 l1 l2 l3 l4 h) :=
  k_loop (mk := (fun s => [(0, .ref s.1), (1, .int s.2.1), (2, .int s.2.2.1), (3, .int s.2.2.2.1), (4, .int s.2.2.2.2.1)])) (hp := fun s => s.2.2.2.2.2) (fun k hk s => P_X2_lackingSites_14b hq he N (fun l0 l1 l2 l3 l4 h => k (l0, l1, l2, l3, l4, h)) (fun l0 l1 l2 l3 l4 h => hk (l0, l1, l2, l3, l4, h)) s.1 s.2.1 s.2.2.1 s.2.2.2.1 s.2.2.2.2.1 s.2.2.2.2.2) N (l0, l1, l2, l3, l4, h)
set_option maxRecDepth 100000 in
set_option maxHeartbeats 4000000 in
theorem P_X2_lackingSites_0 {q : eT} {r0 : Int32} {h0 : eH} (hq : e_B q yX2_lackingSites.cls cX2_lackingSites 5 1 21 (some .int) yX2_lackingSites.name) (he : e_E q) (N : Nat) (l0 : Nat) (l1 : Int32) (h : eH) : e_K eI q r0 h0 0 [(0, .ref l0), (1, .int l1)] [] h (F_X2_lackingSites N l0 l1 h) := by
  unfold F_X2_lackingSites
  refine k_iconst hq dX2_lackingSites_0 (v := 1) rfl ?_
  refine k_aload_n hq dX2_lackingSites_1 0 rfl ?_
  refine k_gi hq (C := RX2) (T := TX2) 2 1 rfl (by decide) (lay_X2 1 (by decide)) tw_179 dX2_lackingSites_2 fun v1 => ?_
  refine k_ishl hq dX2_lackingSites_5 ?_
  refine k_iconst hq dX2_lackingSites_6 (v := 1) rfl ?_
  refine k_isub hq dX2_lackingSites_7 ?_
  refine k_let (mk := fun z => .int z :: []) fun v2 _ => ?_
  refine k_istore_n hq dX2_lackingSites_8 rfl (by decide) (ls' := [(2, .int v2), (0, .ref l0), (1, .int l1)]) rfl ?_
  refine k_iconst hq dX2_lackingSites_9 (v := 0) rfl ?_
  refine k_istore_n hq dX2_lackingSites_10 rfl (by decide) (ls' := [(3, .int 0), (2, .int v2), (0, .ref l0), (1, .int l1)]) rfl ?_
  refine k_iconst hq dX2_lackingSites_11 (v := 0) rfl ?_
  refine k_istore hq dX2_lackingSites_12 (by decide) (ls' := [(4, .int 0), (3, .int 0), (2, .int v2), (0, .ref l0), (1, .int l1)]) rfl ?_
  exact k_sub [3, 4, 2, 1, 0] rfl (Q_X2_lackingSites_14 hq he N l0 l1 v2 0 0 h)
theorem con_X2_lackingSites (l : Launch) (G : eG) (B0 n : Nat) (N : Nat) (l0 : Nat) (l1 : Int32) : e_C eI l G B0 n yX2_lackingSites cX2_lackingSites 5 (some .int) 1 21 [.ref l0, .int l1] (F_X2_lackingSites N l0 l1) := by
  refine e_mk (by decide) (Nat.le_of_ble_eq_true rfl) fun q r0 h0 h hq he e1 e2 e3 e4 => ?_
  subst e1; subst e2; subst e3; subst e4
  exact P_X2_lackingSites_0 hq he N l0 l1 h
set_option maxRecDepth 100000 in
set_option maxHeartbeats 4000000 in
theorem P_X2_afterSending_0 {q : eT} {r0 : Int32} {h0 : eH} (hq : e_B q yX2_afterSending.cls cX2_afterSending 5 1 21 (some .int) yX2_afterSending.name) (he : e_E q) (l0 : Nat) (l1 : Int32) (l2 : Int32) (l3 : Int32) (h : eH) : e_K eI q r0 h0 0 [(0, .ref l0), (1, .int l1), (2, .int l2), (3, .int l3)] [] h (F_X2_afterSending l0 l1 l2 l3 h) := by
  unfold F_X2_afterSending
  refine k_aload_n hq dX2_afterSending_0 0 rfl ?_
  refine k_gr hq (C := RX2) (T := TX2) 2 0 rfl (by decide) (lay_X2 0 (by decide)) tw_178 dX2_afterSending_1 fun v1 => ?_
  refine k_iload_n hq dX2_afterSending_4 1 rfl ?_
  refine k_iload_n hq dX2_afterSending_5 2 rfl ?_
  refine k_callS hq (na := 2) (As := [.int l1, .int l2]) (st := [.ref v1]) (con_X2_setOf _ _ _ _ l1 l2) tw_880 tw_53 tw_878 tw_879 ⟨by decide, by decide, by decide +kernel⟩ rfl (by decide) rfl (Nat.le_of_ble_eq_true rfl) dX2_afterSending_6 fun v2 h3 => ?_
  refine k_iload_n hq dX2_afterSending_9 1 rfl ?_
  refine k_iload_n hq dX2_afterSending_10 3 rfl ?_
  refine k_callS hq (na := 2) (As := [.int l1, .int l3]) (st := [.int v2, .ref v1]) (con_X2_setOf _ _ _ _ l1 l3) tw_880 tw_53 tw_878 tw_879 ⟨by decide, by decide, by decide +kernel⟩ rfl (by decide) rfl (Nat.le_of_ble_eq_true rfl) dX2_afterSending_11 fun v4 h5 => ?_
  refine k_ior hq dX2_afterSending_14 ?_
  refine k_iald hq dX2_afterSending_15 fun v6 => ?_
  refine k_istore hq dX2_afterSending_16 (by decide) (ls' := [(4, .int v6), (0, .ref l0), (1, .int l1), (2, .int l2), (3, .int l3)]) rfl ?_
  refine k_iload_n hq dX2_afterSending_18 2 rfl ?_
  refine k_bipush hq dX2_afterSending_19 (v := 15) rfl ?_
  refine k_iconst hq dX2_afterSending_21 (v := 4) rfl ?_
  refine k_iload_n hq dX2_afterSending_22 4 rfl ?_
  refine k_imul hq dX2_afterSending_23 ?_
  refine k_ishl hq dX2_afterSending_24 ?_
  refine k_iconst hq dX2_afterSending_25 (v := (-1)) rfl ?_
  refine k_ixor hq dX2_afterSending_26 ?_
  refine k_iand hq dX2_afterSending_27 ?_
  refine k_iload hq dX2_afterSending_28 0 rfl ?_
  refine k_iconst hq dX2_afterSending_30 (v := 4) rfl ?_
  refine k_iload_n hq dX2_afterSending_31 4 rfl ?_
  refine k_imul hq dX2_afterSending_32 ?_
  refine k_ishl hq dX2_afterSending_33 ?_
  refine k_ior hq dX2_afterSending_34 ?_
  exact k_iret hq dX2_afterSending_35 he
theorem con_X2_afterSending (l : Launch) (G : eG) (B0 n : Nat) (l0 : Nat) (l1 : Int32) (l2 : Int32) (l3 : Int32) : e_C eI l G B0 n yX2_afterSending cX2_afterSending 5 (some .int) 1 21 [.ref l0, .int l1, .int l2, .int l3] (F_X2_afterSending l0 l1 l2 l3) := by
  refine e_mk (by decide) (Nat.le_of_ble_eq_true rfl) fun q r0 h0 h hq he e1 e2 e3 e4 => ?_
  subst e1; subst e2; subst e3; subst e4
  exact P_X2_afterSending_0 hq he l0 l1 l2 l3 h
set_option maxRecDepth 100000 in
set_option maxHeartbeats 4000000 in
theorem P_X2_isEnough_15 {q : eT} {r0 : Int32} {h0 : eH} {fr lo fr2 lo2 : Nat} (hfl : fr2 + 1 ≤ fr ∧ 8 + (7 + 11) + lo2 ≤ lo) (hfr1 : 2 ≤ fr) (hlo1 : 45 ≤ lo) (hq : e_B q yX2_isEnough.cls cX2_isEnough 7 fr lo (some .boolean) yX2_isEnough.name) (he : e_E q) (N : Nat) (rec : Nat → Int32 → Int32 → eH → Option (Int32 × eH)) (hrec : ∀ (a0 : Nat) (a1 : Int32) (a2 : Int32), e_C eI (e_l q) (e_G q) (e_B0 q) (e_n q) yX2_isEnough cX2_isEnough 7 (some .boolean) fr2 lo2 [.ref a0, .int a1, .int a2] (rec a0 a1 a2)) (l3 : Int32) (h : eH) : e_K eI q r0 h0 15 [(3, .int l3)] [] h (F_X2_isEnough_15 N rec l3 h) := by
  unfold F_X2_isEnough_15
  refine k_iload_n hq dX2_isEnough_15 0 rfl ?_
  refine k_if_ne hq (tgt := 23) dX2_isEnough_16 (by decide) (fun _ => ?_) (fun _ => ?_)
  · refine k_iconst hq dX2_isEnough_19 (v := 1) rfl ?_
    refine k_goto hq (tgt := 24) dX2_isEnough_20 (by decide) ?_
    exact k_zret hq dX2_isEnough_24 he
  · refine k_iconst hq dX2_isEnough_23 (v := 0) rfl ?_
    exact k_zret hq dX2_isEnough_24 he
set_option maxRecDepth 100000 in
set_option maxHeartbeats 4000000 in
theorem P_X2_isEnough_80 {q : eT} {r0 : Int32} {h0 : eH} {fr lo fr2 lo2 : Nat} (hfl : fr2 + 1 ≤ fr ∧ 8 + (7 + 11) + lo2 ≤ lo) (hfr1 : 2 ≤ fr) (hlo1 : 45 ≤ lo) (hq : e_B q yX2_isEnough.cls cX2_isEnough 7 fr lo (some .boolean) yX2_isEnough.name) (he : e_E q) (N : Nat) (rec : Nat → Int32 → Int32 → eH → Option (Int32 × eH)) (hrec : ∀ (a0 : Nat) (a1 : Int32) (a2 : Int32), e_C eI (e_l q) (e_G q) (e_B0 q) (e_n q) yX2_isEnough cX2_isEnough 7 (some .boolean) fr2 lo2 [.ref a0, .int a1, .int a2] (rec a0 a1 a2)) (k28 : Nat → Int32 → Int32 → Int32 → eH → Option (Int32 × eH)) (k40 : Nat → Int32 → Int32 → Int32 → Int32 → eH → Option (Int32 × eH)) (hk28 : ∀ (l0 : Nat) (l1 : Int32) (l2 : Int32) (l4 : Int32) h, e_K eI q r0 h0 28 [(0, .ref l0), (1, .int l1), (2, .int l2), (4, .int l4)] [] h (k28 l0 l1 l2 l4 h)) (hk40 : ∀ (l0 : Nat) (l1 : Int32) (l2 : Int32) (l4 : Int32) (l5 : Int32) h, e_K eI q r0 h0 40 [(0, .ref l0), (1, .int l1), (2, .int l2), (4, .int l4), (5, .int l5)] [] h (k40 l0 l1 l2 l4 l5 h)) (l0 : Nat) (l1 : Int32) (l2 : Int32) (l4 : Int32) (l5 : Int32) (h : eH) : e_K eI q r0 h0 80 [(0, .ref l0), (1, .int l1), (2, .int l2), (4, .int l4), (5, .int l5)] [] h (F_X2_isEnough_80 N rec k28 k40 l0 l1 l2 l4 l5 h) := by
  unfold F_X2_isEnough_80
  refine k_iinc hq dX2_isEnough_80 4 rfl (v := l5 + 1) rfl (by decide) (ls' := [(5, .int (l5 + 1)), (0, .ref l0), (1, .int l1), (2, .int l2), (4, .int l4)]) rfl ?_
  refine k_goto hq (tgt := 40) dX2_isEnough_83 (by decide) ?_
  exact k_sub [1, 2, 3, 4, 0] rfl (hk40 l0 l1 l2 l4 (l5 + 1) h)
set_option maxRecDepth 100000 in
set_option maxHeartbeats 4000000 in
theorem P_X2_isEnough_40b {q : eT} {r0 : Int32} {h0 : eH} {fr lo fr2 lo2 : Nat} (hfl : fr2 + 1 ≤ fr ∧ 8 + (7 + 11) + lo2 ≤ lo) (hfr1 : 2 ≤ fr) (hlo1 : 45 ≤ lo) (hq : e_B q yX2_isEnough.cls cX2_isEnough 7 fr lo (some .boolean) yX2_isEnough.name) (he : e_E q) (N : Nat) (rec : Nat → Int32 → Int32 → eH → Option (Int32 × eH)) (hrec : ∀ (a0 : Nat) (a1 : Int32) (a2 : Int32), e_C eI (e_l q) (e_G q) (e_B0 q) (e_n q) yX2_isEnough cX2_isEnough 7 (some .boolean) fr2 lo2 [.ref a0, .int a1, .int a2] (rec a0 a1 a2)) (k28 : Nat → Int32 → Int32 → Int32 → eH → Option (Int32 × eH)) (k40 : Nat → Int32 → Int32 → Int32 → Int32 → eH → Option (Int32 × eH)) (hk28 : ∀ (l0 : Nat) (l1 : Int32) (l2 : Int32) (l4 : Int32) h, e_K eI q r0 h0 28 [(0, .ref l0), (1, .int l1), (2, .int l2), (4, .int l4)] [] h (k28 l0 l1 l2 l4 h)) (hk40 : ∀ (l0 : Nat) (l1 : Int32) (l2 : Int32) (l4 : Int32) (l5 : Int32) h, e_K eI q r0 h0 40 [(0, .ref l0), (1, .int l1), (2, .int l2), (4, .int l4), (5, .int l5)] [] h (k40 l0 l1 l2 l4 l5 h)) (l0 : Nat) (l1 : Int32) (l2 : Int32) (l4 : Int32) (l5 : Int32) (h : eH) : e_K eI q r0 h0 40 [(0, .ref l0), (1, .int l1), (2, .int l2), (4, .int l4), (5, .int l5)] [] h (F_X2_isEnough_40b N rec k28 k40 l0 l1 l2 l4 l5 h) := by
  unfold F_X2_isEnough_40b
  refine k_iload hq dX2_isEnough_40 4 rfl ?_
  refine k_aload_n hq dX2_isEnough_42 0 rfl ?_
  refine k_gi hq (C := RX2) (T := TX2) 2 1 rfl (by decide) (lay_X2 1 (by decide)) tw_179 dX2_isEnough_43 fun v1 => ?_
  refine k_icmp_ge hq (tgt := 86) dX2_isEnough_46 (by decide) (fun _ => ?_) (fun _ => ?_)
  · refine k_iinc hq dX2_isEnough_86 3 rfl (v := l4 + 1) rfl (by decide) (ls' := [(4, .int (l4 + 1)), (0, .ref l0), (1, .int l1), (2, .int l2), (5, .int l5)]) rfl ?_
    refine k_goto hq (tgt := 28) dX2_isEnough_89 (by decide) ?_
    exact k_sub [1, 2, 3, 0] rfl (hk28 l0 l1 l2 (l4 + 1) h)
  · refine k_aload_n hq dX2_isEnough_49 0 rfl ?_
    refine k_iload_n hq dX2_isEnough_50 1 rfl ?_
    refine k_iload hq dX2_isEnough_51 3 rfl ?_
    refine k_iload hq dX2_isEnough_53 4 rfl ?_
    refine k_callV hq (na := 3) (As := [.int l1, .int l4, .int l5]) (st := []) 2 (C := RX2) (T := TX2) rfl (con_X2_afterSending _ _ _ _ l0 l1 l4 l5) tw_884 tw_53 tw_881 tw_883 tw_20 ⟨by decide, by decide, by decide +kernel⟩ rfl ⟨by omega, by omega⟩ rfl (Nat.le_of_ble_eq_true rfl) dX2_isEnough_55 fun v2 h3 => ?_
    refine k_istore hq dX2_isEnough_58 (by decide) (ls' := [(6, .int v2), (0, .ref l0), (1, .int l1), (2, .int l2), (4, .int l4), (5, .int l5)]) rfl ?_
    refine k_iload hq dX2_isEnough_60 0 rfl ?_
    refine k_iload_n hq dX2_isEnough_62 2 rfl ?_
    refine k_icmp_eq hq (tgt := 80) dX2_isEnough_63 (by decide) (fun _ => ?_) (fun _ => ?_)
    · exact k_sub [1, 2, 3, 4, 5] rfl (P_X2_isEnough_80 hfl hfr1 hlo1 hq he N rec hrec k28 k40 hk28 hk40 l0 l1 l2 l4 l5 h3)
    · refine k_aload_n hq dX2_isEnough_66 1 rfl ?_
      refine k_iload hq dX2_isEnough_67 0 rfl ?_
      refine k_iload_n hq dX2_isEnough_69 3 rfl ?_
      refine k_iconst hq dX2_isEnough_70 (v := 1) rfl ?_
      refine k_isub hq dX2_isEnough_71 ?_
      refine k_callS hq (na := 3) (As := [.ref l0, .int v2, .int (l2 - 1)]) (st := []) (hrec l0 v2 (l2 - 1)) tw_873 tw_53 tw_871 tw_872 ⟨by decide, by decide, by decide +kernel⟩ rfl hfl rfl (Nat.le_of_ble_eq_true rfl) dX2_isEnough_72 fun v4 h5 => ?_
      refine k_if_eq hq (tgt := 80) dX2_isEnough_75 (by decide) (fun _ => ?_) (fun _ => ?_)
      · exact k_sub [1, 2, 3, 4, 5] rfl (P_X2_isEnough_80 hfl hfr1 hlo1 hq he N rec hrec k28 k40 hk28 hk40 l0 l1 l2 l4 l5 h5)
      · refine k_iconst hq dX2_isEnough_78 (v := 1) rfl ?_
        exact k_zret hq dX2_isEnough_79 he
theorem Q_X2_isEnough_40 {q : eT} {r0 : Int32} {h0 : eH} {fr lo fr2 lo2 : Nat} (hfl : fr2 + 1 ≤ fr ∧ 8 + (7 + 11) + lo2 ≤ lo) (hfr1 : 2 ≤ fr) (hlo1 : 45 ≤ lo) (hq : e_B q yX2_isEnough.cls cX2_isEnough 7 fr lo (some .boolean) yX2_isEnough.name) (he : e_E q) (N : Nat) (rec : Nat → Int32 → Int32 → eH → Option (Int32 × eH)) (hrec : ∀ (a0 : Nat) (a1 : Int32) (a2 : Int32), e_C eI (e_l q) (e_G q) (e_B0 q) (e_n q) yX2_isEnough cX2_isEnough 7 (some .boolean) fr2 lo2 [.ref a0, .int a1, .int a2] (rec a0 a1 a2)) (k28 : Nat → Int32 → Int32 → Int32 → eH → Option (Int32 × eH)) (hk28 : ∀ (l0 : Nat) (l1 : Int32) (l2 : Int32) (l4 : Int32) h, e_K eI q r0 h0 28 [(0, .ref l0), (1, .int l1), (2, .int l2), (4, .int l4)] [] h (k28 l0 l1 l2 l4 h)) (l0 : Nat) (l1 : Int32) (l2 : Int32) (l4 : Int32) (l5 : Int32) (h : eH) : e_K eI q r0 h0 40 [(0, .ref l0), (1, .int l1), (2, .int l2), (4, .int l4), (5, .int l5)] [] h (L_X2_isEnough_40 N rec k28 l0 l1 l2 l4 l5 h) :=
  k_loop (mk := (fun s => [(0, .ref s.1), (1, .int s.2.1), (2, .int s.2.2.1), (4, .int s.2.2.2.1), (5, .int s.2.2.2.2.1)])) (hp := fun s => s.2.2.2.2.2) (fun k hk s => P_X2_isEnough_40b hfl hfr1 hlo1 hq he N rec hrec k28 (fun l0 l1 l2 l4 l5 h => k (l0, l1, l2, l4, l5, h)) hk28 (fun l0 l1 l2 l4 l5 h => hk (l0, l1, l2, l4, l5, h)) s.1 s.2.1 s.2.2.1 s.2.2.2.1 s.2.2.2.2.1 s.2.2.2.2.2) N (l0, l1, l2, l4, l5, h)
set_option maxRecDepth 100000 in
set_option maxHeartbeats 4000000 in
theorem P_X2_isEnough_28b {q : eT} {r0 : Int32} {h0 : eH} {fr lo fr2 lo2 : Nat} (hfl : fr2 + 1 ≤ fr ∧ 8 + (7 + 11) + lo2 ≤ lo) (hfr1 : 2 ≤ fr) (hlo1 : 45 ≤ lo) (hq : e_B q yX2_isEnough.cls cX2_isEnough 7 fr lo (some .boolean) yX2_isEnough.name) (he : e_E q) (N : Nat) (rec : Nat → Int32 → Int32 → eH → Option (Int32 × eH)) (hrec : ∀ (a0 : Nat) (a1 : Int32) (a2 : Int32), e_C eI (e_l q) (e_G q) (e_B0 q) (e_n q) yX2_isEnough cX2_isEnough 7 (some .boolean) fr2 lo2 [.ref a0, .int a1, .int a2] (rec a0 a1 a2)) (k28 : Nat → Int32 → Int32 → Int32 → eH → Option (Int32 × eH)) (hk28 : ∀ (l0 : Nat) (l1 : Int32) (l2 : Int32) (l4 : Int32) h, e_K eI q r0 h0 28 [(0, .ref l0), (1, .int l1), (2, .int l2), (4, .int l4)] [] h (k28 l0 l1 l2 l4 h)) (l0 : Nat) (l1 : Int32) (l2 : Int32) (l4 : Int32) (h : eH) : e_K eI q r0 h0 28 [(0, .ref l0), (1, .int l1), (2, .int l2), (4, .int l4)] [] h (F_X2_isEnough_28b N rec k28 l0 l1 l2 l4 h) := by
  unfold F_X2_isEnough_28b
  refine k_iload hq dX2_isEnough_28 3 rfl ?_
  refine k_aload_n hq dX2_isEnough_30 0 rfl ?_
  refine k_gi hq (C := RX2) (T := TX2) 2 1 rfl (by decide) (lay_X2 1 (by decide)) tw_179 dX2_isEnough_31 fun v1 => ?_
  refine k_icmp_ge hq (tgt := 92) dX2_isEnough_34 (by decide) (fun _ => ?_) (fun _ => ?_)
  · refine k_iconst hq dX2_isEnough_92 (v := 0) rfl ?_
    exact k_zret hq dX2_isEnough_93 he
  · refine k_iconst hq dX2_isEnough_37 (v := 0) rfl ?_
    refine k_istore hq dX2_isEnough_38 (by decide) (ls' := [(5, .int 0), (0, .ref l0), (1, .int l1), (2, .int l2), (4, .int l4)]) rfl ?_
    exact k_sub [1, 2, 3, 4, 0] rfl (Q_X2_isEnough_40 hfl hfr1 hlo1 hq he N rec hrec k28 hk28 l0 l1 l2 l4 0 h)
theorem Q_X2_isEnough_28 {q : eT} {r0 : Int32} {h0 : eH} {fr lo fr2 lo2 : Nat} (hfl : fr2 + 1 ≤ fr ∧ 8 + (7 + 11) + lo2 ≤ lo) (hfr1 : 2 ≤ fr) (hlo1 : 45 ≤ lo) (hq : e_B q yX2_isEnough.cls cX2_isEnough 7 fr lo (some .boolean) yX2_isEnough.name) (he : e_E q) (N : Nat) (rec : Nat → Int32 → Int32 → eH → Option (Int32 × eH)) (hrec : ∀ (a0 : Nat) (a1 : Int32) (a2 : Int32), e_C eI (e_l q) (e_G q) (e_B0 q) (e_n q) yX2_isEnough cX2_isEnough 7 (some .boolean) fr2 lo2 [.ref a0, .int a1, .int a2] (rec a0 a1 a2)) (l0 : Nat) (l1 : Int32) (l2 : Int32) (l4 : Int32) (h : eH) : e_K eI q r0 h0 28 [(0, .ref l0), (1, .int l1), (2, .int l2), (4, .int l4)] [] h (L_X2_isEnough_28 N rec l0 l1 l2 l4 h) :=
  k_loop (mk := (fun s => [(0, .ref s.1), (1, .int s.2.1), (2, .int s.2.2.1), (4, .int s.2.2.2.1)])) (hp := fun s => s.2.2.2.2) (fun k hk s => P_X2_isEnough_28b hfl hfr1 hlo1 hq he N rec hrec (fun l0 l1 l2 l4 h => k (l0, l1, l2, l4, h)) (fun l0 l1 l2 l4 h => hk (l0, l1, l2, l4, h)) s.1 s.2.1 s.2.2.1 s.2.2.2.1 s.2.2.2.2) N (l0, l1, l2, l4, h)
set_option maxRecDepth 100000 in
set_option maxHeartbeats 4000000 in
theorem P_X2_isEnough_0 {q : eT} {r0 : Int32} {h0 : eH} {fr lo fr2 lo2 : Nat} (hfl : fr2 + 1 ≤ fr ∧ 8 + (7 + 11) + lo2 ≤ lo) (hfr1 : 2 ≤ fr) (hlo1 : 45 ≤ lo) (hq : e_B q yX2_isEnough.cls cX2_isEnough 7 fr lo (some .boolean) yX2_isEnough.name) (he : e_E q) (N : Nat) (rec : Nat → Int32 → Int32 → eH → Option (Int32 × eH)) (hrec : ∀ (a0 : Nat) (a1 : Int32) (a2 : Int32), e_C eI (e_l q) (e_G q) (e_B0 q) (e_n q) yX2_isEnough cX2_isEnough 7 (some .boolean) fr2 lo2 [.ref a0, .int a1, .int a2] (rec a0 a1 a2)) (l0 : Nat) (l1 : Int32) (l2 : Int32) (h : eH) : e_K eI q r0 h0 0 [(0, .ref l0), (1, .int l1), (2, .int l2)] [] h (F_X2_isEnough_b N rec l0 l1 l2 h) := by
  unfold F_X2_isEnough_b
  refine k_aload_n hq dX2_isEnough_0 0 rfl ?_
  refine k_iload_n hq dX2_isEnough_1 1 rfl ?_
  refine k_callV hq (na := 1) (As := [.int l1]) (st := []) 2 (C := RX2) (T := TX2) rfl (con_X2_lackingSites _ _ _ _ N l0 l1) tw_877 tw_53 tw_874 tw_876 tw_19 ⟨by decide, by decide, by decide +kernel⟩ rfl ⟨by omega, by omega⟩ rfl (Nat.le_of_ble_eq_true rfl) dX2_isEnough_2 fun v1 h2 => ?_
  refine k_istore_n hq dX2_isEnough_5 rfl (by decide) (ls' := [(3, .int v1), (0, .ref l0), (1, .int l1), (2, .int l2)]) rfl ?_
  refine k_iload_n hq dX2_isEnough_6 0 rfl ?_
  refine k_if_eq hq (tgt := 15) dX2_isEnough_7 (by decide) (fun _ => ?_) (fun _ => ?_)
  · exact k_sub [0] rfl (P_X2_isEnough_15 hfl hfr1 hlo1 hq he N rec hrec v1 h2)
  · refine k_iload_n hq dX2_isEnough_10 0 rfl ?_
    refine k_iload_n hq dX2_isEnough_11 3 rfl ?_
    refine k_icmp_le hq (tgt := 25) dX2_isEnough_12 (by decide) (fun _ => ?_) (fun _ => ?_)
    · refine k_iconst hq dX2_isEnough_25 (v := 0) rfl ?_
      refine k_istore hq dX2_isEnough_26 (by decide) (ls' := [(4, .int 0), (3, .int v1), (0, .ref l0), (1, .int l1), (2, .int l2)]) rfl ?_
      exact k_sub [2, 3, 4, 0] rfl (Q_X2_isEnough_28 hfl hfr1 hlo1 hq he N rec hrec l0 l1 l2 0 h2)
    · exact k_sub [0] rfl (P_X2_isEnough_15 hfl hfr1 hlo1 hq he N rec hrec v1 h2)
theorem con_X2_isEnough_d (l : Launch) (G : eG) (B0 n : Nat) (N : Nat) : ∀ (d : Nat) (l0 : Nat) (l1 : Int32) (l2 : Int32) , e_C eI l G B0 n yX2_isEnough cX2_isEnough 7 (some .boolean) (d + 2) (26 * d + 45) [.ref l0, .int l1, .int l2] (F_X2_isEnough N d l0 l1 l2) := by
  intro d
  induction d with
  | zero => intro l0 l1 l2 h r h2 hh; cases hh
  | succ d ih =>
    intro l0 l1 l2
    refine e_mk (by decide) (Nat.le_of_ble_eq_true rfl) fun q r0 h0 h hq he e1 e2 e3 e4 => ?_
    subst e1; subst e2; subst e3; subst e4
    exact P_X2_isEnough_0 (fr2 := d + 2) (lo2 := 26 * d + 45) ⟨by omega, by omega⟩ (by omega) (by omega) hq he N (F_X2_isEnough N d) ih l0 l1 l2 h
theorem con_X2_isEnough (l : Launch) (G : eG) (B0 n : Nat) (N : Nat) (l0 : Nat) (l1 : Int32) (l2 : Int32) : e_C eI l G B0 n yX2_isEnough cX2_isEnough 7 (some .boolean) 10 253 [.ref l0, .int l1, .int l2] (F_X2_isEnough8 N l0 l1 l2) := con_X2_isEnough_d l G B0 n N 8 l0 l1 l2
set_option maxRecDepth 100000 in
set_option maxHeartbeats 4000000 in
theorem P_X2_fewest_11b {q : eT} {r0 : Int32} {h0 : eH} (hq : e_B q yX2_fewest.cls cX2_fewest 3 11 279 (some .int) yX2_fewest.name) (he : e_E q) (N : Nat) (k11 : Nat → Int32 → Int32 → eH → Option (Int32 × eH)) (hk11 : ∀ (l0 : Nat) (l1 : Int32) (l2 : Int32) h, e_K eI q r0 h0 11 [(0, .ref l0), (1, .int l1), (2, .int l2)] [] h (k11 l0 l1 l2 h)) (l0 : Nat) (l1 : Int32) (l2 : Int32) (h : eH) : e_K eI q r0 h0 11 [(0, .ref l0), (1, .int l1), (2, .int l2)] [] h (F_X2_fewest_11b N k11 l0 l1 l2 h) := by
  unfold F_X2_fewest_11b
  refine k_iload_n hq dX2_fewest_11 2 rfl ?_
  refine k_iload_n hq dX2_fewest_12 1 rfl ?_
  refine k_icmp_ge hq (tgt := 36) dX2_fewest_13 (by decide) (fun _ => ?_) (fun _ => ?_)
  · refine k_iload_n hq dX2_fewest_36 1 rfl ?_
    exact k_iret hq dX2_fewest_37 he
  · refine k_aload_n hq dX2_fewest_16 0 rfl ?_
    refine k_aload_n hq dX2_fewest_17 0 rfl ?_
    refine k_gi hq (C := RX2) (T := TX2) 2 2 rfl (by decide) (lay_X2 2 (by decide)) tw_180 dX2_fewest_18 fun v1 => ?_
    refine k_iload_n hq dX2_fewest_21 2 rfl ?_
    refine k_callS hq (na := 3) (As := [.ref l0, .int v1, .int l2]) (st := []) (con_X2_isEnough _ _ _ _ N l0 v1 l2) tw_873 tw_53 tw_871 tw_872 ⟨by decide, by decide, by decide +kernel⟩ rfl (by decide) rfl (Nat.le_of_ble_eq_true rfl) dX2_fewest_22 fun v2 h3 => ?_
    refine k_if_eq hq (tgt := 30) dX2_fewest_25 (by decide) (fun _ => ?_) (fun _ => ?_)
    · refine k_iinc hq dX2_fewest_30 2 rfl (v := l2 + 1) rfl (by decide) (ls' := [(2, .int (l2 + 1)), (0, .ref l0), (1, .int l1)]) rfl ?_
      refine k_goto hq (tgt := 11) dX2_fewest_33 (by decide) ?_
      exact k_sub [1, 2, 0] rfl (hk11 l0 l1 (l2 + 1) h3)
    · refine k_iload_n hq dX2_fewest_28 2 rfl ?_
      exact k_iret hq dX2_fewest_29 he
theorem Q_X2_fewest_11 {q : eT} {r0 : Int32} {h0 : eH} (hq : e_B q yX2_fewest.cls cX2_fewest 3 11 279 (some .int) yX2_fewest.name) (he : e_E q) (N : Nat) (l0 : Nat) (l1 : Int32) (l2 : Int32) (h : eH) : e_K eI q r0 h0 11 [(0, .ref l0), (1, .int l1), (2, .int l2)] [] h (L_X2_fewest_11 N l0 l1 l2 h) :=
  k_loop (mk := (fun s => [(0, .ref s.1), (1, .int s.2.1), (2, .int s.2.2.1)])) (hp := fun s => s.2.2.2) (fun k hk s => P_X2_fewest_11b hq he N (fun l0 l1 l2 h => k (l0, l1, l2, h)) (fun l0 l1 l2 h => hk (l0, l1, l2, h)) s.1 s.2.1 s.2.2.1 s.2.2.2) N (l0, l1, l2, h)
set_option maxRecDepth 100000 in
set_option maxHeartbeats 4000000 in
theorem P_X2_fewest_0 {q : eT} {r0 : Int32} {h0 : eH} (hq : e_B q yX2_fewest.cls cX2_fewest 3 11 279 (some .int) yX2_fewest.name) (he : e_E q) (N : Nat) (l0 : Nat) (h : eH) : e_K eI q r0 h0 0 [(0, .ref l0)] [] h (F_X2_fewest N l0 h) := by
  unfold F_X2_fewest
  refine k_iconst hq dX2_fewest_0 (v := 2) rfl ?_
  refine k_aload_n hq dX2_fewest_1 0 rfl ?_
  refine k_gi hq (C := RX2) (T := TX2) 2 1 rfl (by decide) (lay_X2 1 (by decide)) tw_179 dX2_fewest_2 fun v1 => ?_
  refine k_iconst hq dX2_fewest_5 (v := 1) rfl ?_
  refine k_isub hq dX2_fewest_6 ?_
  refine k_imul hq dX2_fewest_7 ?_
  refine k_let (mk := fun z => .int z :: []) fun v2 _ => ?_
  refine k_istore_n hq dX2_fewest_8 rfl (by decide) (ls' := [(1, .int v2), (0, .ref l0)]) rfl ?_
  refine k_iconst hq dX2_fewest_9 (v := 0) rfl ?_
  refine k_istore_n hq dX2_fewest_10 rfl (by decide) (ls' := [(2, .int 0), (1, .int v2), (0, .ref l0)]) rfl ?_
  exact k_sub [2, 1, 0] rfl (Q_X2_fewest_11 hq he N l0 v2 0 h)
theorem con_X2_fewest (l : Launch) (G : eG) (B0 n : Nat) (N : Nat) (l0 : Nat) : e_C eI l G B0 n yX2_fewest cX2_fewest 3 (some .int) 11 279 [.ref l0] (F_X2_fewest N l0) := by
  refine e_mk (by decide) (Nat.le_of_ble_eq_true rfl) fun q r0 h0 h hq he e1 e2 e3 e4 => ?_
  subst e1; subst e2; subst e3; subst e4
  exact P_X2_fewest_0 hq he N l0 h
set_option maxRecDepth 100000 in
set_option maxHeartbeats 4000000 in
theorem P_X2_firstOfFewest_72 {q : eT} {r0 : Int32} {h0 : eH} (hq : e_B q yX2_firstOfFewest.cls cX2_firstOfFewest 5 12 301 (some .int) yX2_firstOfFewest.name) (he : e_E q) (N : Nat) (k14 : Nat → Int32 → Int32 → eH → Option (Int32 × eH)) (k24 : Nat → Int32 → Int32 → Int32 → eH → Option (Int32 × eH)) (hk14 : ∀ (l0 : Nat) (l1 : Int32) (l2 : Int32) h, e_K eI q r0 h0 14 [(0, .ref l0), (1, .int l1), (2, .int l2)] [] h (k14 l0 l1 l2 h)) (hk24 : ∀ (l0 : Nat) (l1 : Int32) (l2 : Int32) (l3 : Int32) h, e_K eI q r0 h0 24 [(0, .ref l0), (1, .int l1), (2, .int l2), (3, .int l3)] [] h (k24 l0 l1 l2 l3 h)) (l0 : Nat) (l1 : Int32) (l2 : Int32) (l3 : Int32) (h : eH) : e_K eI q r0 h0 72 [(0, .ref l0), (1, .int l1), (2, .int l2), (3, .int l3)] [] h (F_X2_firstOfFewest_72 N k14 k24 l0 l1 l2 l3 h) := by
  unfold F_X2_firstOfFewest_72
  refine k_iinc hq dX2_firstOfFewest_72 3 rfl (v := l3 + 1) rfl (by decide) (ls' := [(3, .int (l3 + 1)), (0, .ref l0), (1, .int l1), (2, .int l2)]) rfl ?_
  refine k_goto hq (tgt := 24) dX2_firstOfFewest_75 (by decide) ?_
  exact k_sub [1, 2, 3, 0] rfl (hk24 l0 l1 l2 (l3 + 1) h)
set_option maxRecDepth 100000 in
set_option maxHeartbeats 4000000 in
theorem P_X2_firstOfFewest_24b {q : eT} {r0 : Int32} {h0 : eH} (hq : e_B q yX2_firstOfFewest.cls cX2_firstOfFewest 5 12 301 (some .int) yX2_firstOfFewest.name) (he : e_E q) (N : Nat) (k14 : Nat → Int32 → Int32 → eH → Option (Int32 × eH)) (k24 : Nat → Int32 → Int32 → Int32 → eH → Option (Int32 × eH)) (hk14 : ∀ (l0 : Nat) (l1 : Int32) (l2 : Int32) h, e_K eI q r0 h0 14 [(0, .ref l0), (1, .int l1), (2, .int l2)] [] h (k14 l0 l1 l2 h)) (hk24 : ∀ (l0 : Nat) (l1 : Int32) (l2 : Int32) (l3 : Int32) h, e_K eI q r0 h0 24 [(0, .ref l0), (1, .int l1), (2, .int l2), (3, .int l3)] [] h (k24 l0 l1 l2 l3 h)) (l0 : Nat) (l1 : Int32) (l2 : Int32) (l3 : Int32) (h : eH) : e_K eI q r0 h0 24 [(0, .ref l0), (1, .int l1), (2, .int l2), (3, .int l3)] [] h (F_X2_firstOfFewest_24b N k14 k24 l0 l1 l2 l3 h) := by
  unfold F_X2_firstOfFewest_24b
  refine k_iload_n hq dX2_firstOfFewest_24 3 rfl ?_
  refine k_aload_n hq dX2_firstOfFewest_25 0 rfl ?_
  refine k_gi hq (C := RX2) (T := TX2) 2 1 rfl (by decide) (lay_X2 1 (by decide)) tw_179 dX2_firstOfFewest_26 fun v1 => ?_
  refine k_icmp_ge hq (tgt := 78) dX2_firstOfFewest_29 (by decide) (fun _ => ?_) (fun _ => ?_)
  · refine k_iinc hq dX2_firstOfFewest_78 2 rfl (v := l2 + 1) rfl (by decide) (ls' := [(2, .int (l2 + 1)), (0, .ref l0), (1, .int l1), (3, .int l3)]) rfl ?_
    refine k_goto hq (tgt := 14) dX2_firstOfFewest_81 (by decide) ?_
    exact k_sub [1, 2, 0] rfl (hk14 l0 l1 (l2 + 1) h)
  · refine k_aload_n hq dX2_firstOfFewest_32 0 rfl ?_
    refine k_aload_n hq dX2_firstOfFewest_33 0 rfl ?_
    refine k_gi hq (C := RX2) (T := TX2) 2 2 rfl (by decide) (lay_X2 2 (by decide)) tw_180 dX2_firstOfFewest_34 fun v2 => ?_
    refine k_iload_n hq dX2_firstOfFewest_37 2 rfl ?_
    refine k_iload_n hq dX2_firstOfFewest_38 3 rfl ?_
    refine k_callV hq (na := 3) (As := [.int v2, .int l2, .int l3]) (st := []) 2 (C := RX2) (T := TX2) rfl (con_X2_afterSending _ _ _ _ l0 v2 l2 l3) tw_884 tw_53 tw_881 tw_883 tw_20 ⟨by decide, by decide, by decide +kernel⟩ rfl (by decide) rfl (Nat.le_of_ble_eq_true rfl) dX2_firstOfFewest_39 fun v3 h4 => ?_
    refine k_istore hq dX2_firstOfFewest_42 (by decide) (ls' := [(4, .int v3), (0, .ref l0), (1, .int l1), (2, .int l2), (3, .int l3)]) rfl ?_
    refine k_iload hq dX2_firstOfFewest_44 0 rfl ?_
    refine k_aload_n hq dX2_firstOfFewest_46 1 rfl ?_
    refine k_gi hq (C := RX2) (T := TX2) 2 2 rfl (by decide) (lay_X2 2 (by decide)) tw_180 dX2_firstOfFewest_47 fun v5 => ?_
    refine k_icmp_eq hq (tgt := 72) dX2_firstOfFewest_50 (by decide) (fun _ => ?_) (fun _ => ?_)
    · exact k_sub [1, 2, 3, 4] rfl (P_X2_firstOfFewest_72 hq he N k14 k24 hk14 hk24 l0 l1 l2 l3 h4)
    · refine k_aload_n hq dX2_firstOfFewest_53 1 rfl ?_
      refine k_iload hq dX2_firstOfFewest_54 0 rfl ?_
      refine k_iload_n hq dX2_firstOfFewest_56 2 rfl ?_
      refine k_iconst hq dX2_firstOfFewest_57 (v := 1) rfl ?_
      refine k_isub hq dX2_firstOfFewest_58 ?_
      refine k_callS hq (na := 3) (As := [.ref l0, .int v3, .int (l1 - 1)]) (st := []) (con_X2_isEnough _ _ _ _ N l0 v3 (l1 - 1)) tw_873 tw_53 tw_871 tw_872 ⟨by decide, by decide, by decide +kernel⟩ rfl (by decide) rfl (Nat.le_of_ble_eq_true rfl) dX2_firstOfFewest_59 fun v6 h7 => ?_
      refine k_if_eq hq (tgt := 72) dX2_firstOfFewest_62 (by decide) (fun _ => ?_) (fun _ => ?_)
      · exact k_sub [1, 2, 3, 4] rfl (P_X2_firstOfFewest_72 hq he N k14 k24 hk14 hk24 l0 l1 l2 l3 h7)
      · refine k_bipush hq dX2_firstOfFewest_65 (v := 10) rfl ?_
        refine k_iload_n hq dX2_firstOfFewest_67 3 rfl ?_
        refine k_imul hq dX2_firstOfFewest_68 ?_
        refine k_iload_n hq dX2_firstOfFewest_69 4 rfl ?_
        refine k_iadd hq dX2_firstOfFewest_70 ?_
        exact k_iret hq dX2_firstOfFewest_71 he
theorem Q_X2_firstOfFewest_24 {q : eT} {r0 : Int32} {h0 : eH} (hq : e_B q yX2_firstOfFewest.cls cX2_firstOfFewest 5 12 301 (some .int) yX2_firstOfFewest.name) (he : e_E q) (N : Nat) (k14 : Nat → Int32 → Int32 → eH → Option (Int32 × eH)) (hk14 : ∀ (l0 : Nat) (l1 : Int32) (l2 : Int32) h, e_K eI q r0 h0 14 [(0, .ref l0), (1, .int l1), (2, .int l2)] [] h (k14 l0 l1 l2 h)) (l0 : Nat) (l1 : Int32) (l2 : Int32) (l3 : Int32) (h : eH) : e_K eI q r0 h0 24 [(0, .ref l0), (1, .int l1), (2, .int l2), (3, .int l3)] [] h (L_X2_firstOfFewest_24 N k14 l0 l1 l2 l3 h) :=
  k_loop (mk := (fun s => [(0, .ref s.1), (1, .int s.2.1), (2, .int s.2.2.1), (3, .int s.2.2.2.1)])) (hp := fun s => s.2.2.2.2) (fun k hk s => P_X2_firstOfFewest_24b hq he N k14 (fun l0 l1 l2 l3 h => k (l0, l1, l2, l3, h)) hk14 (fun l0 l1 l2 l3 h => hk (l0, l1, l2, l3, h)) s.1 s.2.1 s.2.2.1 s.2.2.2.1 s.2.2.2.2) N (l0, l1, l2, l3, h)
set_option maxRecDepth 100000 in
set_option maxHeartbeats 4000000 in
theorem P_X2_firstOfFewest_14b {q : eT} {r0 : Int32} {h0 : eH} (hq : e_B q yX2_firstOfFewest.cls cX2_firstOfFewest 5 12 301 (some .int) yX2_firstOfFewest.name) (he : e_E q) (N : Nat) (k14 : Nat → Int32 → Int32 → eH → Option (Int32 × eH)) (hk14 : ∀ (l0 : Nat) (l1 : Int32) (l2 : Int32) h, e_K eI q r0 h0 14 [(0, .ref l0), (1, .int l1), (2, .int l2)] [] h (k14 l0 l1 l2 h)) (l0 : Nat) (l1 : Int32) (l2 : Int32) (h : eH) : e_K eI q r0 h0 14 [(0, .ref l0), (1, .int l1), (2, .int l2)] [] h (F_X2_firstOfFewest_14b N k14 l0 l1 l2 h) := by
  unfold F_X2_firstOfFewest_14b
  refine k_iload_n hq dX2_firstOfFewest_14 2 rfl ?_
  refine k_aload_n hq dX2_firstOfFewest_15 0 rfl ?_
  refine k_gi hq (C := RX2) (T := TX2) 2 1 rfl (by decide) (lay_X2 1 (by decide)) tw_179 dX2_firstOfFewest_16 fun v1 => ?_
  refine k_icmp_ge hq (tgt := 84) dX2_firstOfFewest_19 (by decide) (fun _ => ?_) (fun _ => ?_)
  · refine k_bipush hq dX2_firstOfFewest_84 (v := (-9)) rfl ?_
    exact k_iret hq dX2_firstOfFewest_86 he
  · refine k_iconst hq dX2_firstOfFewest_22 (v := 0) rfl ?_
    refine k_istore_n hq dX2_firstOfFewest_23 rfl (by decide) (ls' := [(3, .int 0), (0, .ref l0), (1, .int l1), (2, .int l2)]) rfl ?_
    exact k_sub [1, 2, 3, 0] rfl (Q_X2_firstOfFewest_24 hq he N k14 hk14 l0 l1 l2 0 h)
theorem Q_X2_firstOfFewest_14 {q : eT} {r0 : Int32} {h0 : eH} (hq : e_B q yX2_firstOfFewest.cls cX2_firstOfFewest 5 12 301 (some .int) yX2_firstOfFewest.name) (he : e_E q) (N : Nat) (l0 : Nat) (l1 : Int32) (l2 : Int32) (h : eH) : e_K eI q r0 h0 14 [(0, .ref l0), (1, .int l1), (2, .int l2)] [] h (L_X2_firstOfFewest_14 N l0 l1 l2 h) :=
  k_loop (mk := (fun s => [(0, .ref s.1), (1, .int s.2.1), (2, .int s.2.2.1)])) (hp := fun s => s.2.2.2) (fun k hk s => P_X2_firstOfFewest_14b hq he N (fun l0 l1 l2 h => k (l0, l1, l2, h)) (fun l0 l1 l2 h => hk (l0, l1, l2, h)) s.1 s.2.1 s.2.2.1 s.2.2.2) N (l0, l1, l2, h)
set_option maxRecDepth 100000 in
set_option maxHeartbeats 4000000 in
theorem P_X2_firstOfFewest_0 {q : eT} {r0 : Int32} {h0 : eH} (hq : e_B q yX2_firstOfFewest.cls cX2_firstOfFewest 5 12 301 (some .int) yX2_firstOfFewest.name) (he : e_E q) (N : Nat) (l0 : Nat) (h : eH) : e_K eI q r0 h0 0 [(0, .ref l0)] [] h (F_X2_firstOfFewest N l0 h) := by
  unfold F_X2_firstOfFewest
  refine k_aload_n hq dX2_firstOfFewest_0 0 rfl ?_
  refine k_callV hq (na := 0) (As := []) (st := []) 2 (C := RX2) (T := TX2) rfl (con_X2_fewest _ _ _ _ N l0) tw_870 tw_53 tw_889 tw_868 tw_869 ⟨by decide, by decide, by decide +kernel⟩ rfl (by decide) rfl (Nat.le_of_ble_eq_true rfl) dX2_firstOfFewest_1 fun v1 h2 => ?_
  refine k_istore_n hq dX2_firstOfFewest_4 rfl (by decide) (ls' := [(1, .int v1), (0, .ref l0)]) rfl ?_
  refine k_iload_n hq dX2_firstOfFewest_5 0 rfl ?_
  refine k_if_ne hq (tgt := 12) dX2_firstOfFewest_6 (by decide) (fun _ => ?_) (fun _ => ?_)
  · refine k_bipush hq dX2_firstOfFewest_9 (v := (-9)) rfl ?_
    exact k_iret hq dX2_firstOfFewest_11 he
  · refine k_iconst hq dX2_firstOfFewest_12 (v := 0) rfl ?_
    refine k_istore_n hq dX2_firstOfFewest_13 rfl (by decide) (ls' := [(2, .int 0), (1, .int v1), (0, .ref l0)]) rfl ?_
    exact k_sub [2, 1, 0] rfl (Q_X2_firstOfFewest_14 hq he N l0 v1 0 h2)
theorem con_X2_firstOfFewest (l : Launch) (G : eG) (B0 n : Nat) (N : Nat) (l0 : Nat) : e_C eI l G B0 n yX2_firstOfFewest cX2_firstOfFewest 5 (some .int) 12 301 [.ref l0] (F_X2_firstOfFewest N l0) := by
  refine e_mk (by decide) (Nat.le_of_ble_eq_true rfl) fun q r0 h0 h hq he e1 e2 e3 e4 => ?_
  subst e1; subst e2; subst e3; subst e4
  exact P_X2_firstOfFewest_0 hq he N l0 h
set_option maxRecDepth 100000 in
set_option maxHeartbeats 4000000 in
theorem P_X3_beginAnew_0 {q : eT} {r0 : Unit} {h0 : eH} (hq : e_B q yX3_beginAnew.cls cX3_beginAnew 2 1 21 none yX3_beginAnew.name) (he : e_E q) (N : Nat) (l0 : Nat) (l1 : Int32) (h : eH) : e_K eV q r0 h0 0 [(0, .ref l0), (1, .int l1)] [] h (F_X3_beginAnew N l0 l1 h) := by
  unfold F_X3_beginAnew
  refine k_aload_n hq dX3_beginAnew_0 0 rfl ?_
  refine k_iload_n hq dX3_beginAnew_1 1 rfl ?_
  refine k_p hq (C := RX3) (T := TX3) 3 8 rfl (by decide) lay_X3 tyX3 tyX3_ok nmX3 tw_227 rfl rfl rfl dX3_beginAnew_2 fun h1 => ?_
  refine k_aload_n hq dX3_beginAnew_5 0 rfl ?_
  refine k_iconst hq dX3_beginAnew_6 (v := 0) rfl ?_
  refine k_p hq (C := RX3) (T := TX3) 3 9 rfl (by decide) lay_X3 tyX3 tyX3_ok nmX3 tw_230 rfl rfl rfl dX3_beginAnew_7 fun h2 => ?_
  refine k_aload_n hq dX3_beginAnew_10 0 rfl ?_
  refine k_iconst hq dX3_beginAnew_11 (v := 0) rfl ?_
  refine k_p hq (C := RX3) (T := TX3) 3 10 rfl (by decide) lay_X3 tyX3 tyX3_ok nmX3 tw_232 rfl rfl rfl dX3_beginAnew_12 fun h3 => ?_
  refine k_aload_n hq dX3_beginAnew_15 0 rfl ?_
  refine k_gr hq (C := RX3) (T := TX3) 3 4 rfl (by decide) (lay_X3 4 (by decide)) tw_214 dX3_beginAnew_16 fun v4 => ?_
  refine k_callV hq (na := 0) (As := []) (st := []) 1 (C := RX1) (T := TX1) rfl (con_X1_empty _ _ _ _ N v4) tw_499 tw_56 tw_496 tw_497 tw_498 ⟨by decide, by decide, by decide +kernel⟩ rfl (by decide) rfl (Nat.le_of_ble_eq_true rfl) dX3_beginAnew_19 fun v5 h6 => ?_
  refine k_aload_n hq dX3_beginAnew_22 0 rfl ?_
  refine k_gr hq (C := RX3) (T := TX3) 3 5 rfl (by decide) (lay_X3 5 (by decide)) tw_218 dX3_beginAnew_23 fun v7 => ?_
  refine k_callV hq (na := 0) (As := []) (st := []) 1 (C := RX1) (T := TX1) rfl (con_X1_empty _ _ _ _ N v7) tw_499 tw_56 tw_496 tw_497 tw_498 ⟨by decide, by decide, by decide +kernel⟩ rfl (by decide) rfl (Nat.le_of_ble_eq_true rfl) dX3_beginAnew_26 fun v8 h9 => ?_
  refine k_aload_n hq dX3_beginAnew_29 0 rfl ?_
  refine k_gr hq (C := RX3) (T := TX3) 3 6 rfl (by decide) (lay_X3 6 (by decide)) tw_221 dX3_beginAnew_30 fun v10 => ?_
  refine k_callV hq (na := 0) (As := []) (st := []) 1 (C := RX1) (T := TX1) rfl (con_X1_empty _ _ _ _ N v10) tw_499 tw_56 tw_496 tw_497 tw_498 ⟨by decide, by decide, by decide +kernel⟩ rfl (by decide) rfl (Nat.le_of_ble_eq_true rfl) dX3_beginAnew_33 fun v11 h12 => ?_
  refine k_aload_n hq dX3_beginAnew_36 0 rfl ?_
  refine k_gr hq (C := RX3) (T := TX3) 3 7 rfl (by decide) (lay_X3 7 (by decide)) tw_224 dX3_beginAnew_37 fun v13 => ?_
  refine k_callV hq (na := 0) (As := []) (st := []) 1 (C := RX1) (T := TX1) rfl (con_X1_empty _ _ _ _ N v13) tw_499 tw_56 tw_496 tw_497 tw_498 ⟨by decide, by decide, by decide +kernel⟩ rfl (by decide) rfl (Nat.le_of_ble_eq_true rfl) dX3_beginAnew_40 fun v14 h15 => ?_
  exact k_vret hq dX3_beginAnew_43 he
theorem con_X3_beginAnew (l : Launch) (G : eG) (B0 n : Nat) (N : Nat) (l0 : Nat) (l1 : Int32) : e_C eV l G B0 n yX3_beginAnew cX3_beginAnew 2 none 1 21 [.ref l0, .int l1] (F_X3_beginAnew N l0 l1) := by
  refine e_mk (by decide) (Nat.le_of_ble_eq_true rfl) fun q r0 h0 h hq he e1 e2 e3 e4 => ?_
  subst e1; subst e2; subst e3; subst e4
  exact P_X3_beginAnew_0 hq he N l0 l1 h
set_option maxRecDepth 100000 in
set_option maxHeartbeats 4000000 in
theorem P_X3_has_0 {q : eT} {r0 : Int32} {h0 : eH} (hq : e_B q yX3_has.cls cX3_has 2 1 21 (some .boolean) yX3_has.name) (he : e_E q) (l0 : Nat) (l1 : Int32) (h : eH) : e_K eI q r0 h0 0 [(0, .ref l0), (1, .int l1)] [] h (F_X3_has l0 l1 h) := by
  unfold F_X3_has
  refine k_iload_n hq dX3_has_0 1 rfl ?_
  refine k_callS hq (na := 1) (As := [.int l1]) (st := []) (con_X1_isDot _ _ _ _ l1) tw_566 tw_56 tw_564 tw_565 ⟨by decide, by decide, by decide +kernel⟩ rfl (by decide) rfl (Nat.le_of_ble_eq_true rfl) dX3_has_1 fun v1 h2 => ?_
  refine k_if_eq hq (tgt := 29) dX3_has_4 (by decide) (fun _ => ?_) (fun _ => ?_)
  · refine k_iconst hq dX3_has_29 (v := 0) rfl ?_
    exact k_zret hq dX3_has_30 he
  · refine k_aload_n hq dX3_has_7 0 rfl ?_
    refine k_gi hq (C := RX3) (T := TX3) 3 9 rfl (by decide) (lay_X3 9 (by decide)) tw_230 dX3_has_8 fun v3 => ?_
    refine k_iload_n hq dX3_has_11 1 rfl ?_
    refine k_callS hq (na := 1) (As := [.int l1]) (st := [.int v3]) (con_X1_siteOf _ _ _ _ l1) tw_569 tw_56 tw_567 tw_568 ⟨by decide, by decide, by decide +kernel⟩ rfl (by decide) rfl (Nat.le_of_ble_eq_true rfl) dX3_has_12 fun v4 h5 => ?_
    refine k_callS hq (na := 2) (As := [.int v3, .int v4]) (st := []) (con_X9_number _ _ _ _ v3 v4) tw_547 tw_65 tw_552 tw_546 ⟨by decide, by decide, by decide +kernel⟩ rfl (by decide) rfl (Nat.le_of_ble_eq_true rfl) dX3_has_15 fun v6 h7 => ?_
    refine k_iload_n hq dX3_has_18 1 rfl ?_
    refine k_callS hq (na := 1) (As := [.int l1]) (st := [.int v6]) (con_X1_numberOf _ _ _ _ l1) tw_572 tw_56 tw_570 tw_571 ⟨by decide, by decide, by decide +kernel⟩ rfl (by decide) rfl (Nat.le_of_ble_eq_true rfl) dX3_has_19 fun v8 h9 => ?_
    refine k_icmp_lt hq (tgt := 29) dX3_has_22 (by decide) (fun _ => ?_) (fun _ => ?_)
    · refine k_iconst hq dX3_has_29 (v := 0) rfl ?_
      exact k_zret hq dX3_has_30 he
    · refine k_iconst hq dX3_has_25 (v := 1) rfl ?_
      refine k_goto hq (tgt := 30) dX3_has_26 (by decide) ?_
      exact k_zret hq dX3_has_30 he
theorem con_X3_has (l : Launch) (G : eG) (B0 n : Nat) (l0 : Nat) (l1 : Int32) : e_C eI l G B0 n yX3_has cX3_has 2 (some .boolean) 1 21 [.ref l0, .int l1] (F_X3_has l0 l1) := by
  refine e_mk (by decide) (Nat.le_of_ble_eq_true rfl) fun q r0 h0 h hq he e1 e2 e3 e4 => ?_
  subst e1; subst e2; subst e3; subst e4
  exact P_X3_has_0 hq he l0 l1 h
set_option maxRecDepth 100000 in
set_option maxHeartbeats 4000000 in
theorem P_X9_with_0 {q : eT} {r0 : Int32} {h0 : eH} (hq : e_B q yX9_with.cls cX9_with 3 0 0 (some .int) yX9_with.name) (he : e_E q) (l0 : Int32) (l1 : Int32) (l2 : Int32) (h : eH) : e_K eI q r0 h0 0 [(0, .int l0), (1, .int l1), (2, .int l2)] [] h (F_X9_with l0 l1 l2 h) := by
  unfold F_X9_with
  refine k_iload_n hq dX9_with_0 0 rfl ?_
  refine k_sipush hq dX9_with_1 (v := 255) rfl ?_
  refine k_bipush hq dX9_with_4 (v := 8) rfl ?_
  refine k_iload_n hq dX9_with_6 1 rfl ?_
  refine k_imul hq dX9_with_7 ?_
  refine k_ishl hq dX9_with_8 ?_
  refine k_iconst hq dX9_with_9 (v := (-1)) rfl ?_
  refine k_ixor hq dX9_with_10 ?_
  refine k_iand hq dX9_with_11 ?_
  refine k_iload_n hq dX9_with_12 2 rfl ?_
  refine k_bipush hq dX9_with_13 (v := 8) rfl ?_
  refine k_iload_n hq dX9_with_15 1 rfl ?_
  refine k_imul hq dX9_with_16 ?_
  refine k_ishl hq dX9_with_17 ?_
  refine k_ior hq dX9_with_18 ?_
  exact k_iret hq dX9_with_19 he
theorem con_X9_with (l : Launch) (G : eG) (B0 n : Nat) (l0 : Int32) (l1 : Int32) (l2 : Int32) : e_C eI l G B0 n yX9_with cX9_with 3 (some .int) 0 0 [.int l0, .int l1, .int l2] (F_X9_with l0 l1 l2) := by
  refine e_mk (by decide) (Nat.le_of_ble_eq_true rfl) fun q r0 h0 h hq he e1 e2 e3 e4 => ?_
  subst e1; subst e2; subst e3; subst e4
  exact P_X9_with_0 hq he l0 l1 l2 h
set_option maxRecDepth 100000 in
set_option maxHeartbeats 4000000 in
theorem P_X3_note_0 {q : eT} {r0 : Unit} {h0 : eH} (hq : e_B q yX3_note.cls cX3_note 7 1 22 none yX3_note.name) (he : e_E q) (l0 : Nat) (l1 : Int32) (l2 : Int64) (l4 : Int32) (l5 : Int32) (l6 : Int32) (h : eH) : e_K eV q r0 h0 0 [(0, .ref l0), (1, .int l1), (2, .long l2), (4, .int l4), (5, .int l5), (6, .int l6)] [] h (F_X3_note l0 l1 l2 l4 l5 l6 h) := by
  unfold F_X3_note
  refine k_iload_n hq dX3_note_0 1 rfl ?_
  refine k_callS hq (na := 1) (As := [.int l1]) (st := []) (con_X1_isDot _ _ _ _ l1) tw_566 tw_56 tw_564 tw_565 ⟨by decide, by decide, by decide +kernel⟩ rfl (by decide) rfl (Nat.le_of_ble_eq_true rfl) dX3_note_1 fun v1 h2 => ?_
  refine k_if_eq hq (tgt := 57) dX3_note_4 (by decide) (fun _ => ?_) (fun _ => ?_)
  · exact k_vret hq dX3_note_57 he
  · refine k_aload_n hq dX3_note_7 0 rfl ?_
    refine k_gr hq (C := RX3) (T := TX3) 3 0 rfl (by decide) (lay_X3 0 (by decide)) tw_210 dX3_note_8 fun v3 => ?_
    refine k_iload_n hq dX3_note_11 1 rfl ?_
    refine k_lload_n hq dX3_note_12 2 rfl ?_
    refine k_last hq dX3_note_13 fun h4 => ?_
    refine k_aload_n hq dX3_note_14 0 rfl ?_
    refine k_gr hq (C := RX3) (T := TX3) 3 1 rfl (by decide) (lay_X3 1 (by decide)) tw_211 dX3_note_15 fun v5 => ?_
    refine k_iload_n hq dX3_note_18 1 rfl ?_
    refine k_iload hq dX3_note_19 3 rfl ?_
    refine k_iast hq dX3_note_21 fun h6 => ?_
    refine k_aload_n hq dX3_note_22 0 rfl ?_
    refine k_gr hq (C := RX3) (T := TX3) 3 2 rfl (by decide) (lay_X3 2 (by decide)) tw_212 dX3_note_23 fun v7 => ?_
    refine k_iload_n hq dX3_note_26 1 rfl ?_
    refine k_iload hq dX3_note_27 4 rfl ?_
    refine k_iast hq dX3_note_29 fun h8 => ?_
    refine k_aload_n hq dX3_note_30 0 rfl ?_
    refine k_gr hq (C := RX3) (T := TX3) 3 3 rfl (by decide) (lay_X3 3 (by decide)) tw_213 dX3_note_31 fun v9 => ?_
    refine k_iload_n hq dX3_note_34 1 rfl ?_
    refine k_iload hq dX3_note_35 5 rfl ?_
    refine k_iast hq dX3_note_37 fun h10 => ?_
    refine k_aload_n hq dX3_note_38 0 rfl ?_
    refine k_aload_n hq dX3_note_39 0 rfl ?_
    refine k_gi hq (C := RX3) (T := TX3) 3 9 rfl (by decide) (lay_X3 9 (by decide)) tw_230 dX3_note_40 fun v11 => ?_
    refine k_iload_n hq dX3_note_43 1 rfl ?_
    refine k_callS hq (na := 1) (As := [.int l1]) (st := [.int v11, .ref l0]) (con_X1_siteOf _ _ _ _ l1) tw_569 tw_56 tw_567 tw_568 ⟨by decide, by decide, by decide +kernel⟩ rfl (by decide) rfl (Nat.le_of_ble_eq_true rfl) dX3_note_44 fun v12 h13 => ?_
    refine k_iload_n hq dX3_note_47 1 rfl ?_
    refine k_callS hq (na := 1) (As := [.int l1]) (st := [.int v12, .int v11, .ref l0]) (con_X1_numberOf _ _ _ _ l1) tw_572 tw_56 tw_570 tw_571 ⟨by decide, by decide, by decide +kernel⟩ rfl (by decide) rfl (Nat.le_of_ble_eq_true rfl) dX3_note_48 fun v14 h15 => ?_
    refine k_callS hq (na := 3) (As := [.int v11, .int v12, .int v14]) (st := [.ref l0]) (con_X9_with _ _ _ _ v11 v12 v14) tw_575 tw_65 tw_573 tw_574 ⟨by decide, by decide, by decide +kernel⟩ rfl (by decide) rfl (Nat.le_of_ble_eq_true rfl) dX3_note_51 fun v16 h17 => ?_
    refine k_p hq (C := RX3) (T := TX3) 3 9 rfl (by decide) lay_X3 tyX3 tyX3_ok nmX3 tw_230 rfl rfl rfl dX3_note_54 fun h18 => ?_
    exact k_vret hq dX3_note_57 he
theorem con_X3_note (l : Launch) (G : eG) (B0 n : Nat) (l0 : Nat) (l1 : Int32) (l2 : Int64) (l4 : Int32) (l5 : Int32) (l6 : Int32) : e_C eV l G B0 n yX3_note cX3_note 7 none 1 22 [.ref l0, .int l1, .long l2, .int l4, .int l5, .int l6] (F_X3_note l0 l1 l2 l4 l5 l6) := by
  refine e_mk (by decide) (Nat.le_of_ble_eq_true rfl) fun q r0 h0 h hq he e1 e2 e3 e4 => ?_
  subst e1; subst e2; subst e3; subst e4
  exact P_X3_note_0 hq he l0 l1 l2 l4 l5 l6 h
set_option maxRecDepth 100000 in
set_option maxHeartbeats 4000000 in
theorem P_X3_valueOf_0 {q : eT} {r0 : Int64} {h0 : eH} (hq : e_B q yX3_valueOf.cls cX3_valueOf 2 2 42 (some .long) yX3_valueOf.name) (he : e_E q) (l0 : Nat) (l1 : Int32) (h : eH) : e_K eL q r0 h0 0 [(0, .ref l0), (1, .int l1)] [] h (F_X3_valueOf l0 l1 h) := by
  unfold F_X3_valueOf
  refine k_aload_n hq dX3_valueOf_0 0 rfl ?_
  refine k_iload_n hq dX3_valueOf_1 1 rfl ?_
  refine k_callV hq (na := 1) (As := [.int l1]) (st := []) 3 (C := RX3) (T := TX3) rfl (con_X3_has _ _ _ _ l0 l1) tw_563 tw_55 tw_560 tw_561 tw_562 ⟨by decide, by decide, by decide +kernel⟩ rfl (by decide) rfl (Nat.le_of_ble_eq_true rfl) dX3_valueOf_2 fun v1 h2 => ?_
  refine k_if_eq hq (tgt := 17) dX3_valueOf_5 (by decide) (fun _ => ?_) (fun _ => ?_)
  · refine k_lconst hq dX3_valueOf_17 (v := 0) rfl ?_
    exact k_lret hq dX3_valueOf_18 he
  · refine k_aload_n hq dX3_valueOf_8 0 rfl ?_
    refine k_gr hq (C := RX3) (T := TX3) 3 0 rfl (by decide) (lay_X3 0 (by decide)) tw_210 dX3_valueOf_9 fun v3 => ?_
    refine k_iload_n hq dX3_valueOf_12 1 rfl ?_
    refine k_lald hq dX3_valueOf_13 fun v4 => ?_
    refine k_goto hq (tgt := 18) dX3_valueOf_14 (by decide) ?_
    exact k_lret hq dX3_valueOf_18 he
theorem con_X3_valueOf (l : Launch) (G : eG) (B0 n : Nat) (l0 : Nat) (l1 : Int32) : e_C eL l G B0 n yX3_valueOf cX3_valueOf 2 (some .long) 2 42 [.ref l0, .int l1] (F_X3_valueOf l0 l1) := by
  refine e_mk (by decide) (Nat.le_of_ble_eq_true rfl) fun q r0 h0 h hq he e1 e2 e3 e4 => ?_
  subst e1; subst e2; subst e3; subst e4
  exact P_X3_valueOf_0 hq he l0 l1 h
set_option maxRecDepth 100000 in
set_option maxHeartbeats 4000000 in
theorem P_X3_stampOf_0 {q : eT} {r0 : Int32} {h0 : eH} (hq : e_B q yX3_stampOf.cls cX3_stampOf 2 2 42 (some .int) yX3_stampOf.name) (he : e_E q) (l0 : Nat) (l1 : Int32) (h : eH) : e_K eI q r0 h0 0 [(0, .ref l0), (1, .int l1)] [] h (F_X3_stampOf l0 l1 h) := by
  unfold F_X3_stampOf
  refine k_aload_n hq dX3_stampOf_0 0 rfl ?_
  refine k_iload_n hq dX3_stampOf_1 1 rfl ?_
  refine k_callV hq (na := 1) (As := [.int l1]) (st := []) 3 (C := RX3) (T := TX3) rfl (con_X3_has _ _ _ _ l0 l1) tw_563 tw_55 tw_560 tw_561 tw_562 ⟨by decide, by decide, by decide +kernel⟩ rfl (by decide) rfl (Nat.le_of_ble_eq_true rfl) dX3_stampOf_2 fun v1 h2 => ?_
  refine k_if_eq hq (tgt := 17) dX3_stampOf_5 (by decide) (fun _ => ?_) (fun _ => ?_)
  · refine k_iconst hq dX3_stampOf_17 (v := 0) rfl ?_
    exact k_iret hq dX3_stampOf_18 he
  · refine k_aload_n hq dX3_stampOf_8 0 rfl ?_
    refine k_gr hq (C := RX3) (T := TX3) 3 1 rfl (by decide) (lay_X3 1 (by decide)) tw_211 dX3_stampOf_9 fun v3 => ?_
    refine k_iload_n hq dX3_stampOf_12 1 rfl ?_
    refine k_iald hq dX3_stampOf_13 fun v4 => ?_
    refine k_goto hq (tgt := 18) dX3_stampOf_14 (by decide) ?_
    exact k_iret hq dX3_stampOf_18 he
theorem con_X3_stampOf (l : Launch) (G : eG) (B0 n : Nat) (l0 : Nat) (l1 : Int32) : e_C eI l G B0 n yX3_stampOf cX3_stampOf 2 (some .int) 2 42 [.ref l0, .int l1] (F_X3_stampOf l0 l1) := by
  refine e_mk (by decide) (Nat.le_of_ble_eq_true rfl) fun q r0 h0 h hq he e1 e2 e3 e4 => ?_
  subst e1; subst e2; subst e3; subst e4
  exact P_X3_stampOf_0 hq he l0 l1 h
set_option maxRecDepth 100000 in
set_option maxHeartbeats 4000000 in
theorem P_X3_toldOf_0 {q : eT} {r0 : Int32} {h0 : eH} (hq : e_B q yX3_toldOf.cls cX3_toldOf 2 2 42 (some .int) yX3_toldOf.name) (he : e_E q) (l0 : Nat) (l1 : Int32) (h : eH) : e_K eI q r0 h0 0 [(0, .ref l0), (1, .int l1)] [] h (F_X3_toldOf l0 l1 h) := by
  unfold F_X3_toldOf
  refine k_aload_n hq dX3_toldOf_0 0 rfl ?_
  refine k_iload_n hq dX3_toldOf_1 1 rfl ?_
  refine k_callV hq (na := 1) (As := [.int l1]) (st := []) 3 (C := RX3) (T := TX3) rfl (con_X3_has _ _ _ _ l0 l1) tw_563 tw_55 tw_560 tw_561 tw_562 ⟨by decide, by decide, by decide +kernel⟩ rfl (by decide) rfl (Nat.le_of_ble_eq_true rfl) dX3_toldOf_2 fun v1 h2 => ?_
  refine k_if_eq hq (tgt := 17) dX3_toldOf_5 (by decide) (fun _ => ?_) (fun _ => ?_)
  · refine k_iconst hq dX3_toldOf_17 (v := 0) rfl ?_
    exact k_iret hq dX3_toldOf_18 he
  · refine k_aload_n hq dX3_toldOf_8 0 rfl ?_
    refine k_gr hq (C := RX3) (T := TX3) 3 2 rfl (by decide) (lay_X3 2 (by decide)) tw_212 dX3_toldOf_9 fun v3 => ?_
    refine k_iload_n hq dX3_toldOf_12 1 rfl ?_
    refine k_iald hq dX3_toldOf_13 fun v4 => ?_
    refine k_goto hq (tgt := 18) dX3_toldOf_14 (by decide) ?_
    exact k_iret hq dX3_toldOf_18 he
theorem con_X3_toldOf (l : Launch) (G : eG) (B0 n : Nat) (l0 : Nat) (l1 : Int32) : e_C eI l G B0 n yX3_toldOf cX3_toldOf 2 (some .int) 2 42 [.ref l0, .int l1] (F_X3_toldOf l0 l1) := by
  refine e_mk (by decide) (Nat.le_of_ble_eq_true rfl) fun q r0 h0 h hq he e1 e2 e3 e4 => ?_
  subst e1; subst e2; subst e3; subst e4
  exact P_X3_toldOf_0 hq he l0 l1 h
set_option maxRecDepth 100000 in
set_option maxHeartbeats 4000000 in
theorem P_X3_knownOf_0 {q : eT} {r0 : Int32} {h0 : eH} (hq : e_B q yX3_knownOf.cls cX3_knownOf 2 2 42 (some .int) yX3_knownOf.name) (he : e_E q) (l0 : Nat) (l1 : Int32) (h : eH) : e_K eI q r0 h0 0 [(0, .ref l0), (1, .int l1)] [] h (F_X3_knownOf l0 l1 h) := by
  unfold F_X3_knownOf
  refine k_aload_n hq dX3_knownOf_0 0 rfl ?_
  refine k_iload_n hq dX3_knownOf_1 1 rfl ?_
  refine k_callV hq (na := 1) (As := [.int l1]) (st := []) 3 (C := RX3) (T := TX3) rfl (con_X3_has _ _ _ _ l0 l1) tw_563 tw_55 tw_560 tw_561 tw_562 ⟨by decide, by decide, by decide +kernel⟩ rfl (by decide) rfl (Nat.le_of_ble_eq_true rfl) dX3_knownOf_2 fun v1 h2 => ?_
  refine k_if_eq hq (tgt := 17) dX3_knownOf_5 (by decide) (fun _ => ?_) (fun _ => ?_)
  · refine k_iconst hq dX3_knownOf_17 (v := 0) rfl ?_
    exact k_iret hq dX3_knownOf_18 he
  · refine k_aload_n hq dX3_knownOf_8 0 rfl ?_
    refine k_gr hq (C := RX3) (T := TX3) 3 3 rfl (by decide) (lay_X3 3 (by decide)) tw_213 dX3_knownOf_9 fun v3 => ?_
    refine k_iload_n hq dX3_knownOf_12 1 rfl ?_
    refine k_iald hq dX3_knownOf_13 fun v4 => ?_
    refine k_goto hq (tgt := 18) dX3_knownOf_14 (by decide) ?_
    exact k_iret hq dX3_knownOf_18 he
theorem con_X3_knownOf (l : Launch) (G : eG) (B0 n : Nat) (l0 : Nat) (l1 : Int32) : e_C eI l G B0 n yX3_knownOf cX3_knownOf 2 (some .int) 2 42 [.ref l0, .int l1] (F_X3_knownOf l0 l1) := by
  refine e_mk (by decide) (Nat.le_of_ble_eq_true rfl) fun q r0 h0 h hq he e1 e2 e3 e4 => ?_
  subst e1; subst e2; subst e3; subst e4
  exact P_X3_knownOf_0 hq he l0 l1 h
set_option maxRecDepth 100000 in
set_option maxHeartbeats 4000000 in
theorem P_X3_nextByStamp_54 {q : eT} {r0 : Int32} {h0 : eH} (hq : e_B q yX3_nextByStamp.cls cX3_nextByStamp 5 3 63 (some .int) yX3_nextByStamp.name) (he : e_E q) (N : Nat) (k5 : Nat → Nat → Int32 → Int32 → Int32 → eH → Option (Int32 × eH)) (hk5 : ∀ (l0 : Nat) (l1 : Nat) (l2 : Int32) (l3 : Int32) (l4 : Int32) h, e_K eI q r0 h0 5 [(0, .ref l0), (1, .ref l1), (2, .int l2), (3, .int l3), (4, .int l4)] [] h (k5 l0 l1 l2 l3 l4 h)) (l0 : Nat) (l1 : Nat) (l2 : Int32) (l3 : Int32) (l4 : Int32) (h : eH) : e_K eI q r0 h0 54 [(0, .ref l0), (1, .ref l1), (2, .int l2), (3, .int l3), (4, .int l4)] [] h (F_X3_nextByStamp_54 N k5 l0 l1 l2 l3 l4 h) := by
  unfold F_X3_nextByStamp_54
  refine k_iinc hq dX3_nextByStamp_54 4 rfl (v := l4 + 1) rfl (by decide) (ls' := [(4, .int (l4 + 1)), (0, .ref l0), (1, .ref l1), (2, .int l2), (3, .int l3)]) rfl ?_
  refine k_goto hq (tgt := 5) dX3_nextByStamp_57 (by decide) ?_
  exact k_sub [1, 2, 3, 4, 0] rfl (hk5 l0 l1 l2 l3 (l4 + 1) h)
set_option maxRecDepth 100000 in
set_option maxHeartbeats 4000000 in
theorem P_X3_nextByStamp_51 {q : eT} {r0 : Int32} {h0 : eH} (hq : e_B q yX3_nextByStamp.cls cX3_nextByStamp 5 3 63 (some .int) yX3_nextByStamp.name) (he : e_E q) (N : Nat) (k5 : Nat → Nat → Int32 → Int32 → Int32 → eH → Option (Int32 × eH)) (hk5 : ∀ (l0 : Nat) (l1 : Nat) (l2 : Int32) (l3 : Int32) (l4 : Int32) h, e_K eI q r0 h0 5 [(0, .ref l0), (1, .ref l1), (2, .int l2), (3, .int l3), (4, .int l4)] [] h (k5 l0 l1 l2 l3 l4 h)) (l0 : Nat) (l1 : Nat) (l2 : Int32) (l4 : Int32) (h : eH) : e_K eI q r0 h0 51 [(0, .ref l0), (1, .ref l1), (2, .int l2), (4, .int l4)] [] h (F_X3_nextByStamp_51 N k5 l0 l1 l2 l4 h) := by
  unfold F_X3_nextByStamp_51
  refine k_iload hq dX3_nextByStamp_51 3 rfl ?_
  refine k_istore_n hq dX3_nextByStamp_53 rfl (by decide) (ls' := [(3, .int l4), (0, .ref l0), (1, .ref l1), (2, .int l2), (4, .int l4)]) rfl ?_
  exact k_sub [1, 2, 3, 0, 4] rfl (P_X3_nextByStamp_54 hq he N k5 hk5 l0 l1 l2 l4 l4 h)
set_option maxRecDepth 100000 in
set_option maxHeartbeats 4000000 in
theorem P_X3_nextByStamp_5b {q : eT} {r0 : Int32} {h0 : eH} (hq : e_B q yX3_nextByStamp.cls cX3_nextByStamp 5 3 63 (some .int) yX3_nextByStamp.name) (he : e_E q) (N : Nat) (k5 : Nat → Nat → Int32 → Int32 → Int32 → eH → Option (Int32 × eH)) (hk5 : ∀ (l0 : Nat) (l1 : Nat) (l2 : Int32) (l3 : Int32) (l4 : Int32) h, e_K eI q r0 h0 5 [(0, .ref l0), (1, .ref l1), (2, .int l2), (3, .int l3), (4, .int l4)] [] h (k5 l0 l1 l2 l3 l4 h)) (l0 : Nat) (l1 : Nat) (l2 : Int32) (l3 : Int32) (l4 : Int32) (h : eH) : e_K eI q r0 h0 5 [(0, .ref l0), (1, .ref l1), (2, .int l2), (3, .int l3), (4, .int l4)] [] h (F_X3_nextByStamp_5b N k5 l0 l1 l2 l3 l4 h) := by
  unfold F_X3_nextByStamp_5b
  refine k_iload hq dX3_nextByStamp_5 4 rfl ?_
  refine k_sipush hq dX3_nextByStamp_7 (v := 160) rfl ?_
  refine k_icmp_ge hq (tgt := 60) dX3_nextByStamp_10 (by decide) (fun _ => ?_) (fun _ => ?_)
  · refine k_iload_n hq dX3_nextByStamp_60 3 rfl ?_
    exact k_iret hq dX3_nextByStamp_61 he
  · refine k_aload_n hq dX3_nextByStamp_13 1 rfl ?_
    refine k_iload hq dX3_nextByStamp_14 4 rfl ?_
    refine k_callV hq (na := 1) (As := [.int l4]) (st := []) 1 (C := RX1) (T := TX1) rfl (con_X1_has _ _ _ _ l1 l4) tw_656 tw_56 tw_653 tw_654 tw_655 ⟨by decide, by decide, by decide +kernel⟩ rfl (by decide) rfl (Nat.le_of_ble_eq_true rfl) dX3_nextByStamp_16 fun v1 h2 => ?_
    refine k_if_eq hq (tgt := 54) dX3_nextByStamp_19 (by decide) (fun _ => ?_) (fun _ => ?_)
    · exact k_sub [0, 1, 2, 3, 4] rfl (P_X3_nextByStamp_54 hq he N k5 hk5 l0 l1 l2 l3 l4 h2)
    · refine k_aload_n hq dX3_nextByStamp_22 0 rfl ?_
      refine k_iload hq dX3_nextByStamp_23 4 rfl ?_
      refine k_callV hq (na := 1) (As := [.int l4]) (st := []) 3 (C := RX3) (T := TX3) rfl (con_X3_stampOf _ _ _ _ l0 l4) tw_559 tw_55 tw_556 tw_557 tw_558 ⟨by decide, by decide, by decide +kernel⟩ rfl (by decide) rfl (Nat.le_of_ble_eq_true rfl) dX3_nextByStamp_25 fun v3 h4 => ?_
      refine k_iload_n hq dX3_nextByStamp_28 2 rfl ?_
      refine k_icmp_le hq (tgt := 54) dX3_nextByStamp_29 (by decide) (fun _ => ?_) (fun _ => ?_)
      · exact k_sub [0, 1, 2, 3, 4] rfl (P_X3_nextByStamp_54 hq he N k5 hk5 l0 l1 l2 l3 l4 h4)
      · refine k_iload_n hq dX3_nextByStamp_32 3 rfl ?_
        refine k_iconst hq dX3_nextByStamp_33 (v := (-1)) rfl ?_
        refine k_icmp_eq hq (tgt := 51) dX3_nextByStamp_34 (by decide) (fun _ => ?_) (fun _ => ?_)
        · exact k_sub [0, 1, 2, 4] rfl (P_X3_nextByStamp_51 hq he N k5 hk5 l0 l1 l2 l4 h4)
        · refine k_aload_n hq dX3_nextByStamp_37 0 rfl ?_
          refine k_iload hq dX3_nextByStamp_38 4 rfl ?_
          refine k_callV hq (na := 1) (As := [.int l4]) (st := []) 3 (C := RX3) (T := TX3) rfl (con_X3_stampOf _ _ _ _ l0 l4) tw_559 tw_55 tw_556 tw_557 tw_558 ⟨by decide, by decide, by decide +kernel⟩ rfl (by decide) rfl (Nat.le_of_ble_eq_true rfl) dX3_nextByStamp_40 fun v5 h6 => ?_
          refine k_aload_n hq dX3_nextByStamp_43 0 rfl ?_
          refine k_iload_n hq dX3_nextByStamp_44 3 rfl ?_
          refine k_callV hq (na := 1) (As := [.int l3]) (st := [.int v5]) 3 (C := RX3) (T := TX3) rfl (con_X3_stampOf _ _ _ _ l0 l3) tw_559 tw_55 tw_556 tw_557 tw_558 ⟨by decide, by decide, by decide +kernel⟩ rfl (by decide) rfl (Nat.le_of_ble_eq_true rfl) dX3_nextByStamp_45 fun v7 h8 => ?_
          refine k_icmp_ge hq (tgt := 54) dX3_nextByStamp_48 (by decide) (fun _ => ?_) (fun _ => ?_)
          · exact k_sub [0, 1, 2, 3, 4] rfl (P_X3_nextByStamp_54 hq he N k5 hk5 l0 l1 l2 l3 l4 h8)
          · exact k_sub [0, 1, 2, 4] rfl (P_X3_nextByStamp_51 hq he N k5 hk5 l0 l1 l2 l4 h8)
theorem Q_X3_nextByStamp_5 {q : eT} {r0 : Int32} {h0 : eH} (hq : e_B q yX3_nextByStamp.cls cX3_nextByStamp 5 3 63 (some .int) yX3_nextByStamp.name) (he : e_E q) (N : Nat) (l0 : Nat) (l1 : Nat) (l2 : Int32) (l3 : Int32) (l4 : Int32) (h : eH) : e_K eI q r0 h0 5 [(0, .ref l0), (1, .ref l1), (2, .int l2), (3, .int l3), (4, .int l4)] [] h (L_X3_nextByStamp_5 N l0 l1 l2 l3 l4 h) :=
  k_loop (mk := (fun s => [(0, .ref s.1), (1, .ref s.2.1), (2, .int s.2.2.1), (3, .int s.2.2.2.1), (4, .int s.2.2.2.2.1)])) (hp := fun s => s.2.2.2.2.2) (fun k hk s => P_X3_nextByStamp_5b hq he N (fun l0 l1 l2 l3 l4 h => k (l0, l1, l2, l3, l4, h)) (fun l0 l1 l2 l3 l4 h => hk (l0, l1, l2, l3, l4, h)) s.1 s.2.1 s.2.2.1 s.2.2.2.1 s.2.2.2.2.1 s.2.2.2.2.2) N (l0, l1, l2, l3, l4, h)
set_option maxRecDepth 100000 in
set_option maxHeartbeats 4000000 in
theorem P_X3_nextByStamp_0 {q : eT} {r0 : Int32} {h0 : eH} (hq : e_B q yX3_nextByStamp.cls cX3_nextByStamp 5 3 63 (some .int) yX3_nextByStamp.name) (he : e_E q) (N : Nat) (l0 : Nat) (l1 : Nat) (l2 : Int32) (h : eH) : e_K eI q r0 h0 0 [(0, .ref l0), (1, .ref l1), (2, .int l2)] [] h (F_X3_nextByStamp N l0 l1 l2 h) := by
  unfold F_X3_nextByStamp
  refine k_iconst hq dX3_nextByStamp_0 (v := (-1)) rfl ?_
  refine k_istore_n hq dX3_nextByStamp_1 rfl (by decide) (ls' := [(3, .int (-1)), (0, .ref l0), (1, .ref l1), (2, .int l2)]) rfl ?_
  refine k_iconst hq dX3_nextByStamp_2 (v := 0) rfl ?_
  refine k_istore hq dX3_nextByStamp_3 (by decide) (ls' := [(4, .int 0), (3, .int (-1)), (0, .ref l0), (1, .ref l1), (2, .int l2)]) rfl ?_
  exact k_sub [2, 3, 4, 1, 0] rfl (Q_X3_nextByStamp_5 hq he N l0 l1 l2 (-1) 0 h)
theorem con_X3_nextByStamp (l : Launch) (G : eG) (B0 n : Nat) (N : Nat) (l0 : Nat) (l1 : Nat) (l2 : Int32) : e_C eI l G B0 n yX3_nextByStamp cX3_nextByStamp 5 (some .int) 3 63 [.ref l0, .ref l1, .int l2] (F_X3_nextByStamp N l0 l1 l2) := by
  refine e_mk (by decide) (Nat.le_of_ble_eq_true rfl) fun q r0 h0 h hq he e1 e2 e3 e4 => ?_
  subst e1; subst e2; subst e3; subst e4
  exact P_X3_nextByStamp_0 hq he N l0 l1 l2 h
set_option maxRecDepth 100000 in
set_option maxHeartbeats 4000000 in
theorem P_X9_aboveZero_23 {q : eT} {r0 : Int32} {h0 : eH} (hq : e_B q yX9_aboveZero.cls cX9_aboveZero 3 1 21 (some .int) yX9_aboveZero.name) (he : e_E q) (N : Nat) (k4 : Int32 → Int32 → Int32 → eH → Option (Int32 × eH)) (hk4 : ∀ (l0 : Int32) (l1 : Int32) (l2 : Int32) h, e_K eI q r0 h0 4 [(0, .int l0), (1, .int l1), (2, .int l2)] [] h (k4 l0 l1 l2 h)) (l0 : Int32) (l2 : Int32) (s0 : Int32) (s1 : Int32) (h : eH) : e_K eI q r0 h0 23 [(0, .int l0), (2, .int l2)] [.int s1, .int s0] h (F_X9_aboveZero_23 N k4 l0 l2 s0 s1 h) := by
  unfold F_X9_aboveZero_23
  refine k_iadd hq dX9_aboveZero_23 ?_
  refine k_let (mk := fun z => .int z :: []) fun v1 _ => ?_
  refine k_istore_n hq dX9_aboveZero_24 rfl (by decide) (ls' := [(1, .int v1), (0, .int l0), (2, .int l2)]) rfl ?_
  refine k_iinc hq dX9_aboveZero_25 2 rfl (v := l2 + 1) rfl (by decide) (ls' := [(2, .int (l2 + 1)), (1, .int v1), (0, .int l0)]) rfl ?_
  refine k_goto hq (tgt := 4) dX9_aboveZero_28 (by decide) ?_
  exact k_sub [2, 1, 0] rfl (hk4 l0 v1 (l2 + 1) h)
set_option maxRecDepth 100000 in
set_option maxHeartbeats 4000000 in
theorem P_X9_aboveZero_4b {q : eT} {r0 : Int32} {h0 : eH} (hq : e_B q yX9_aboveZero.cls cX9_aboveZero 3 1 21 (some .int) yX9_aboveZero.name) (he : e_E q) (N : Nat) (k4 : Int32 → Int32 → Int32 → eH → Option (Int32 × eH)) (hk4 : ∀ (l0 : Int32) (l1 : Int32) (l2 : Int32) h, e_K eI q r0 h0 4 [(0, .int l0), (1, .int l1), (2, .int l2)] [] h (k4 l0 l1 l2 h)) (l0 : Int32) (l1 : Int32) (l2 : Int32) (h : eH) : e_K eI q r0 h0 4 [(0, .int l0), (1, .int l1), (2, .int l2)] [] h (F_X9_aboveZero_4b N k4 l0 l1 l2 h) := by
  unfold F_X9_aboveZero_4b
  refine k_iload_n hq dX9_aboveZero_4 2 rfl ?_
  refine k_iconst hq dX9_aboveZero_5 (v := 4) rfl ?_
  refine k_icmp_ge hq (tgt := 31) dX9_aboveZero_6 (by decide) (fun _ => ?_) (fun _ => ?_)
  · refine k_iload_n hq dX9_aboveZero_31 1 rfl ?_
    exact k_iret hq dX9_aboveZero_32 he
  · refine k_iload_n hq dX9_aboveZero_9 1 rfl ?_
    refine k_iload_n hq dX9_aboveZero_10 0 rfl ?_
    refine k_iload_n hq dX9_aboveZero_11 2 rfl ?_
    refine k_callS hq (na := 2) (As := [.int l0, .int l2]) (st := [.int l1]) (con_X9_number _ _ _ _ l0 l2) tw_547 tw_65 tw_545 tw_546 ⟨by decide, by decide, by decide +kernel⟩ rfl (by decide) rfl (Nat.le_of_ble_eq_true rfl) dX9_aboveZero_12 fun v1 h2 => ?_
    refine k_if_le hq (tgt := 22) dX9_aboveZero_15 (by decide) (fun _ => ?_) (fun _ => ?_)
    · refine k_iconst hq dX9_aboveZero_22 (v := 0) rfl ?_
      exact k_sub [0, 2] rfl (P_X9_aboveZero_23 hq he N k4 hk4 l0 l2 l1 0 h2)
    · refine k_iconst hq dX9_aboveZero_18 (v := 1) rfl ?_
      refine k_goto hq (tgt := 23) dX9_aboveZero_19 (by decide) ?_
      exact k_sub [0, 2] rfl (P_X9_aboveZero_23 hq he N k4 hk4 l0 l2 l1 1 h2)
theorem Q_X9_aboveZero_4 {q : eT} {r0 : Int32} {h0 : eH} (hq : e_B q yX9_aboveZero.cls cX9_aboveZero 3 1 21 (some .int) yX9_aboveZero.name) (he : e_E q) (N : Nat) (l0 : Int32) (l1 : Int32) (l2 : Int32) (h : eH) : e_K eI q r0 h0 4 [(0, .int l0), (1, .int l1), (2, .int l2)] [] h (L_X9_aboveZero_4 N l0 l1 l2 h) :=
  k_loop (mk := (fun s => [(0, .int s.1), (1, .int s.2.1), (2, .int s.2.2.1)])) (hp := fun s => s.2.2.2) (fun k hk s => P_X9_aboveZero_4b hq he N (fun l0 l1 l2 h => k (l0, l1, l2, h)) (fun l0 l1 l2 h => hk (l0, l1, l2, h)) s.1 s.2.1 s.2.2.1 s.2.2.2) N (l0, l1, l2, h)
set_option maxRecDepth 100000 in
set_option maxHeartbeats 4000000 in
theorem P_X9_aboveZero_0 {q : eT} {r0 : Int32} {h0 : eH} (hq : e_B q yX9_aboveZero.cls cX9_aboveZero 3 1 21 (some .int) yX9_aboveZero.name) (he : e_E q) (N : Nat) (l0 : Int32) (h : eH) : e_K eI q r0 h0 0 [(0, .int l0)] [] h (F_X9_aboveZero N l0 h) := by
  unfold F_X9_aboveZero
  refine k_iconst hq dX9_aboveZero_0 (v := 0) rfl ?_
  refine k_istore_n hq dX9_aboveZero_1 rfl (by decide) (ls' := [(1, .int 0), (0, .int l0)]) rfl ?_
  refine k_iconst hq dX9_aboveZero_2 (v := 0) rfl ?_
  refine k_istore_n hq dX9_aboveZero_3 rfl (by decide) (ls' := [(2, .int 0), (1, .int 0), (0, .int l0)]) rfl ?_
  exact k_sub [2, 1, 0] rfl (Q_X9_aboveZero_4 hq he N l0 0 0 h)
theorem con_X9_aboveZero (l : Launch) (G : eG) (B0 n : Nat) (N : Nat) (l0 : Int32) : e_C eI l G B0 n yX9_aboveZero cX9_aboveZero 3 (some .int) 1 21 [.int l0] (F_X9_aboveZero N l0) := by
  refine e_mk (by decide) (Nat.le_of_ble_eq_true rfl) fun q r0 h0 h hq he e1 e2 e3 e4 => ?_
  subst e1; subst e2; subst e3; subst e4
  exact P_X9_aboveZero_0 hq he N l0 h
set_option maxRecDepth 100000 in
set_option maxHeartbeats 4000000 in
theorem P_X3_oldestSite_64 {q : eT} {r0 : Int32} {h0 : eH} (hq : e_B q yX3_oldestSite.cls cX3_oldestSite 7 3 63 (some .int) yX3_oldestSite.name) (he : e_E q) (N : Nat) (k7 : Nat → Int32 → Int32 → Int32 → Int32 → eH → Option (Int32 × eH)) (hk7 : ∀ (l0 : Nat) (l1 : Int32) (l2 : Int32) (l3 : Int32) (l4 : Int32) h, e_K eI q r0 h0 7 [(0, .ref l0), (1, .int l1), (2, .int l2), (3, .int l3), (4, .int l4)] [] h (k7 l0 l1 l2 l3 l4 h)) (l0 : Nat) (l1 : Int32) (l2 : Int32) (l3 : Int32) (l4 : Int32) (h : eH) : e_K eI q r0 h0 64 [(0, .ref l0), (1, .int l1), (2, .int l2), (3, .int l3), (4, .int l4)] [] h (F_X3_oldestSite_64 N k7 l0 l1 l2 l3 l4 h) := by
  unfold F_X3_oldestSite_64
  refine k_iinc hq dX3_oldestSite_64 4 rfl (v := l4 + 1) rfl (by decide) (ls' := [(4, .int (l4 + 1)), (0, .ref l0), (1, .int l1), (2, .int l2), (3, .int l3)]) rfl ?_
  refine k_goto hq (tgt := 7) dX3_oldestSite_67 (by decide) ?_
  exact k_sub [1, 2, 3, 4, 0] rfl (hk7 l0 l1 l2 l3 (l4 + 1) h)
set_option maxRecDepth 100000 in
set_option maxHeartbeats 4000000 in
theorem P_X3_oldestSite_58 {q : eT} {r0 : Int32} {h0 : eH} (hq : e_B q yX3_oldestSite.cls cX3_oldestSite 7 3 63 (some .int) yX3_oldestSite.name) (he : e_E q) (N : Nat) (k7 : Nat → Int32 → Int32 → Int32 → Int32 → eH → Option (Int32 × eH)) (hk7 : ∀ (l0 : Nat) (l1 : Int32) (l2 : Int32) (l3 : Int32) (l4 : Int32) h, e_K eI q r0 h0 7 [(0, .ref l0), (1, .int l1), (2, .int l2), (3, .int l3), (4, .int l4)] [] h (k7 l0 l1 l2 l3 l4 h)) (l0 : Nat) (l1 : Int32) (l4 : Int32) (l6 : Int32) (h : eH) : e_K eI q r0 h0 58 [(0, .ref l0), (1, .int l1), (4, .int l4), (6, .int l6)] [] h (F_X3_oldestSite_58 N k7 l0 l1 l4 l6 h) := by
  unfold F_X3_oldestSite_58
  refine k_iload hq dX3_oldestSite_58 2 rfl ?_
  refine k_istore_n hq dX3_oldestSite_60 rfl (by decide) (ls' := [(2, .int l4), (0, .ref l0), (1, .int l1), (4, .int l4), (6, .int l6)]) rfl ?_
  refine k_iload hq dX3_oldestSite_61 4 rfl ?_
  refine k_istore_n hq dX3_oldestSite_63 rfl (by decide) (ls' := [(3, .int l6), (2, .int l4), (0, .ref l0), (1, .int l1), (4, .int l4), (6, .int l6)]) rfl ?_
  exact k_sub [2, 3, 1, 0, 4] rfl (P_X3_oldestSite_64 hq he N k7 hk7 l0 l1 l4 l6 l4 h)
set_option maxRecDepth 100000 in
set_option maxHeartbeats 4000000 in
theorem P_X3_oldestSite_41 {q : eT} {r0 : Int32} {h0 : eH} (hq : e_B q yX3_oldestSite.cls cX3_oldestSite 7 3 63 (some .int) yX3_oldestSite.name) (he : e_E q) (N : Nat) (k7 : Nat → Int32 → Int32 → Int32 → Int32 → eH → Option (Int32 × eH)) (hk7 : ∀ (l0 : Nat) (l1 : Int32) (l2 : Int32) (l3 : Int32) (l4 : Int32) h, e_K eI q r0 h0 7 [(0, .ref l0), (1, .int l1), (2, .int l2), (3, .int l3), (4, .int l4)] [] h (k7 l0 l1 l2 l3 l4 h)) (l0 : Nat) (l1 : Int32) (l2 : Int32) (l3 : Int32) (l4 : Int32) (s0 : Int32) (h : eH) : e_K eI q r0 h0 41 [(0, .ref l0), (1, .int l1), (2, .int l2), (3, .int l3), (4, .int l4)] [.int s0] h (F_X3_oldestSite_41 N k7 l0 l1 l2 l3 l4 s0 h) := by
  unfold F_X3_oldestSite_41
  refine k_istore hq dX3_oldestSite_41 (by decide) (ls' := [(6, .int s0), (0, .ref l0), (1, .int l1), (2, .int l2), (3, .int l3), (4, .int l4)]) rfl ?_
  refine k_iload hq dX3_oldestSite_43 0 rfl ?_
  refine k_if_le hq (tgt := 64) dX3_oldestSite_45 (by decide) (fun _ => ?_) (fun _ => ?_)
  · exact k_sub [1, 2, 3, 4, 5] rfl (P_X3_oldestSite_64 hq he N k7 hk7 l0 l1 l2 l3 l4 h)
  · refine k_iload_n hq dX3_oldestSite_48 4 rfl ?_
    refine k_if_eq hq (tgt := 58) dX3_oldestSite_49 (by decide) (fun _ => ?_) (fun _ => ?_)
    · exact k_sub [1, 2, 5, 0] rfl (P_X3_oldestSite_58 hq he N k7 hk7 l0 l1 l4 s0 h)
    · refine k_iload hq dX3_oldestSite_52 0 rfl ?_
      refine k_iload_n hq dX3_oldestSite_54 4 rfl ?_
      refine k_icmp_ge hq (tgt := 64) dX3_oldestSite_55 (by decide) (fun _ => ?_) (fun _ => ?_)
      · exact k_sub [1, 2, 3, 4, 5] rfl (P_X3_oldestSite_64 hq he N k7 hk7 l0 l1 l2 l3 l4 h)
      · exact k_sub [1, 2, 5, 0] rfl (P_X3_oldestSite_58 hq he N k7 hk7 l0 l1 l4 s0 h)
set_option maxRecDepth 100000 in
set_option maxHeartbeats 4000000 in
theorem P_X3_oldestSite_7b {q : eT} {r0 : Int32} {h0 : eH} (hq : e_B q yX3_oldestSite.cls cX3_oldestSite 7 3 63 (some .int) yX3_oldestSite.name) (he : e_E q) (N : Nat) (k7 : Nat → Int32 → Int32 → Int32 → Int32 → eH → Option (Int32 × eH)) (hk7 : ∀ (l0 : Nat) (l1 : Int32) (l2 : Int32) (l3 : Int32) (l4 : Int32) h, e_K eI q r0 h0 7 [(0, .ref l0), (1, .int l1), (2, .int l2), (3, .int l3), (4, .int l4)] [] h (k7 l0 l1 l2 l3 l4 h)) (l0 : Nat) (l1 : Int32) (l2 : Int32) (l3 : Int32) (l4 : Int32) (h : eH) : e_K eI q r0 h0 7 [(0, .ref l0), (1, .int l1), (2, .int l2), (3, .int l3), (4, .int l4)] [] h (F_X3_oldestSite_7b N k7 l0 l1 l2 l3 l4 h) := by
  unfold F_X3_oldestSite_7b
  refine k_iload hq dX3_oldestSite_7 4 rfl ?_
  refine k_iconst hq dX3_oldestSite_9 (v := 4) rfl ?_
  refine k_icmp_ge hq (tgt := 70) dX3_oldestSite_10 (by decide) (fun _ => ?_) (fun _ => ?_)
  · refine k_iload_n hq dX3_oldestSite_70 2 rfl ?_
    exact k_iret hq dX3_oldestSite_71 he
  · refine k_iload_n hq dX3_oldestSite_13 1 rfl ?_
    refine k_iload hq dX3_oldestSite_14 4 rfl ?_
    refine k_callS hq (na := 2) (As := [.int l1, .int l4]) (st := []) (con_X9_number _ _ _ _ l1 l4) tw_547 tw_65 tw_552 tw_546 ⟨by decide, by decide, by decide +kernel⟩ rfl (by decide) rfl (Nat.le_of_ble_eq_true rfl) dX3_oldestSite_16 fun v1 h2 => ?_
    refine k_istore hq dX3_oldestSite_19 (by decide) (ls' := [(5, .int v1), (0, .ref l0), (1, .int l1), (2, .int l2), (3, .int l3), (4, .int l4)]) rfl ?_
    refine k_iload hq dX3_oldestSite_21 0 rfl ?_
    refine k_if_le hq (tgt := 40) dX3_oldestSite_23 (by decide) (fun _ => ?_) (fun _ => ?_)
    · refine k_iconst hq dX3_oldestSite_40 (v := 0) rfl ?_
      exact k_sub [1, 2, 3, 4, 5] rfl (P_X3_oldestSite_41 hq he N k7 hk7 l0 l1 l2 l3 l4 0 h2)
    · refine k_aload_n hq dX3_oldestSite_26 1 rfl ?_
      refine k_iload hq dX3_oldestSite_27 5 rfl ?_
      refine k_iload hq dX3_oldestSite_29 0 rfl ?_
      refine k_callS hq (na := 2) (As := [.int l4, .int v1]) (st := [.ref l0]) (con_X1_of _ _ _ _ l4 v1) tw_555 tw_56 tw_553 tw_554 ⟨by decide, by decide, by decide +kernel⟩ rfl (by decide) rfl (Nat.le_of_ble_eq_true rfl) dX3_oldestSite_31 fun v3 h4 => ?_
      refine k_callV hq (na := 1) (As := [.int v3]) (st := []) 3 (C := RX3) (T := TX3) rfl (con_X3_stampOf _ _ _ _ l0 v3) tw_559 tw_55 tw_556 tw_557 tw_558 ⟨by decide, by decide, by decide +kernel⟩ rfl (by decide) rfl (Nat.le_of_ble_eq_true rfl) dX3_oldestSite_34 fun v5 h6 => ?_
      refine k_goto hq (tgt := 41) dX3_oldestSite_37 (by decide) ?_
      exact k_sub [1, 2, 3, 4, 5] rfl (P_X3_oldestSite_41 hq he N k7 hk7 l0 l1 l2 l3 l4 v5 h6)
theorem Q_X3_oldestSite_7 {q : eT} {r0 : Int32} {h0 : eH} (hq : e_B q yX3_oldestSite.cls cX3_oldestSite 7 3 63 (some .int) yX3_oldestSite.name) (he : e_E q) (N : Nat) (l0 : Nat) (l1 : Int32) (l2 : Int32) (l3 : Int32) (l4 : Int32) (h : eH) : e_K eI q r0 h0 7 [(0, .ref l0), (1, .int l1), (2, .int l2), (3, .int l3), (4, .int l4)] [] h (L_X3_oldestSite_7 N l0 l1 l2 l3 l4 h) :=
  k_loop (mk := (fun s => [(0, .ref s.1), (1, .int s.2.1), (2, .int s.2.2.1), (3, .int s.2.2.2.1), (4, .int s.2.2.2.2.1)])) (hp := fun s => s.2.2.2.2.2) (fun k hk s => P_X3_oldestSite_7b hq he N (fun l0 l1 l2 l3 l4 h => k (l0, l1, l2, l3, l4, h)) (fun l0 l1 l2 l3 l4 h => hk (l0, l1, l2, l3, l4, h)) s.1 s.2.1 s.2.2.1 s.2.2.2.1 s.2.2.2.2.1 s.2.2.2.2.2) N (l0, l1, l2, l3, l4, h)
set_option maxRecDepth 100000 in
set_option maxHeartbeats 4000000 in
theorem P_X3_oldestSite_0 {q : eT} {r0 : Int32} {h0 : eH} (hq : e_B q yX3_oldestSite.cls cX3_oldestSite 7 3 63 (some .int) yX3_oldestSite.name) (he : e_E q) (N : Nat) (l0 : Nat) (l1 : Int32) (h : eH) : e_K eI q r0 h0 0 [(0, .ref l0), (1, .int l1)] [] h (F_X3_oldestSite N l0 l1 h) := by
  unfold F_X3_oldestSite
  refine k_iconst hq dX3_oldestSite_0 (v := 0) rfl ?_
  refine k_istore_n hq dX3_oldestSite_1 rfl (by decide) (ls' := [(2, .int 0), (0, .ref l0), (1, .int l1)]) rfl ?_
  refine k_iconst hq dX3_oldestSite_2 (v := 0) rfl ?_
  refine k_istore_n hq dX3_oldestSite_3 rfl (by decide) (ls' := [(3, .int 0), (2, .int 0), (0, .ref l0), (1, .int l1)]) rfl ?_
  refine k_iconst hq dX3_oldestSite_4 (v := 0) rfl ?_
  refine k_istore hq dX3_oldestSite_5 (by decide) (ls' := [(4, .int 0), (3, .int 0), (2, .int 0), (0, .ref l0), (1, .int l1)]) rfl ?_
  exact k_sub [3, 4, 2, 1, 0] rfl (Q_X3_oldestSite_7 hq he N l0 l1 0 0 0 h)
theorem con_X3_oldestSite (l : Launch) (G : eG) (B0 n : Nat) (N : Nat) (l0 : Nat) (l1 : Int32) : e_C eI l G B0 n yX3_oldestSite cX3_oldestSite 7 (some .int) 3 63 [.ref l0, .int l1] (F_X3_oldestSite N l0 l1) := by
  refine e_mk (by decide) (Nat.le_of_ble_eq_true rfl) fun q r0 h0 h hq he e1 e2 e3 e4 => ?_
  subst e1; subst e2; subst e3; subst e4
  exact P_X3_oldestSite_0 hq he N l0 l1 h
set_option maxRecDepth 100000 in
set_option maxHeartbeats 4000000 in
theorem P_X3_pruned_10b {q : eT} {r0 : Int32} {h0 : eH} (hq : e_B q yX3_pruned.cls cX3_pruned 5 4 89 (some .int) yX3_pruned.name) (he : e_E q) (N : Nat) (k10 : Nat → Int32 → Int32 → eH → Option (Int32 × eH)) (hk10 : ∀ (l0 : Nat) (l3 : Int32) (l4 : Int32) h, e_K eI q r0 h0 10 [(0, .ref l0), (3, .int l3), (4, .int l4)] [] h (k10 l0 l3 l4 h)) (l0 : Nat) (l3 : Int32) (l4 : Int32) (h : eH) : e_K eI q r0 h0 10 [(0, .ref l0), (3, .int l3), (4, .int l4)] [] h (F_X3_pruned_10b N k10 l0 l3 l4 h) := by
  unfold F_X3_pruned_10b
  refine k_iload hq dX3_pruned_10 2 rfl ?_
  refine k_if_le hq (tgt := 32) dX3_pruned_12 (by decide) (fun _ => ?_) (fun _ => ?_)
  · refine k_iload_n hq dX3_pruned_32 1 rfl ?_
    exact k_iret hq dX3_pruned_33 he
  · refine k_iload_n hq dX3_pruned_15 1 rfl ?_
    refine k_aload_n hq dX3_pruned_16 0 rfl ?_
    refine k_iload_n hq dX3_pruned_17 1 rfl ?_
    refine k_callV hq (na := 1) (As := [.int l3]) (st := [.int l3]) 3 (C := RX3) (T := TX3) rfl (con_X3_oldestSite _ _ _ _ N l0 l3) tw_551 tw_55 tw_548 tw_550 tw_13 ⟨by decide, by decide, by decide +kernel⟩ rfl (by decide) rfl (Nat.le_of_ble_eq_true rfl) dX3_pruned_18 fun v1 h2 => ?_
    refine k_iconst hq dX3_pruned_21 (v := 0) rfl ?_
    refine k_callS hq (na := 3) (As := [.int l3, .int v1, .int 0]) (st := []) (con_X9_with _ _ _ _ l3 v1 0) tw_575 tw_65 tw_573 tw_574 ⟨by decide, by decide, by decide +kernel⟩ rfl (by decide) rfl (Nat.le_of_ble_eq_true rfl) dX3_pruned_22 fun v3 h4 => ?_
    refine k_istore_n hq dX3_pruned_25 rfl (by decide) (ls' := [(3, .int v3), (0, .ref l0), (4, .int l4)]) rfl ?_
    refine k_iinc hq dX3_pruned_26 2 rfl (v := l4 + (-1)) rfl (by decide) (ls' := [(4, .int (l4 + (-1))), (3, .int v3), (0, .ref l0)]) rfl ?_
    refine k_goto hq (tgt := 10) dX3_pruned_29 (by decide) ?_
    exact k_sub [2, 1, 0] rfl (hk10 l0 v3 (l4 + (-1)) h4)
theorem Q_X3_pruned_10 {q : eT} {r0 : Int32} {h0 : eH} (hq : e_B q yX3_pruned.cls cX3_pruned 5 4 89 (some .int) yX3_pruned.name) (he : e_E q) (N : Nat) (l0 : Nat) (l3 : Int32) (l4 : Int32) (h : eH) : e_K eI q r0 h0 10 [(0, .ref l0), (3, .int l3), (4, .int l4)] [] h (L_X3_pruned_10 N l0 l3 l4 h) :=
  k_loop (mk := (fun s => [(0, .ref s.1), (3, .int s.2.1), (4, .int s.2.2.1)])) (hp := fun s => s.2.2.2) (fun k hk s => P_X3_pruned_10b hq he N (fun l0 l3 l4 h => k (l0, l3, l4, h)) (fun l0 l3 l4 h => hk (l0, l3, l4, h)) s.1 s.2.1 s.2.2.1 s.2.2.2) N (l0, l3, l4, h)
set_option maxRecDepth 100000 in
set_option maxHeartbeats 4000000 in
theorem P_X3_pruned_0 {q : eT} {r0 : Int32} {h0 : eH} (hq : e_B q yX3_pruned.cls cX3_pruned 5 4 89 (some .int) yX3_pruned.name) (he : e_E q) (N : Nat) (l0 : Nat) (l1 : Int32) (l2 : Int32) (h : eH) : e_K eI q r0 h0 0 [(0, .ref l0), (1, .int l1), (2, .int l2)] [] h (F_X3_pruned N l0 l1 l2 h) := by
  unfold F_X3_pruned
  refine k_iload_n hq dX3_pruned_0 1 rfl ?_
  refine k_istore_n hq dX3_pruned_1 rfl (by decide) (ls' := [(3, .int l1), (0, .ref l0), (1, .int l1), (2, .int l2)]) rfl ?_
  refine k_iload_n hq dX3_pruned_2 2 rfl ?_
  refine k_callS hq (na := 1) (As := [.int l1]) (st := []) (con_X9_aboveZero _ _ _ _ N l1) tw_544 tw_65 tw_542 tw_543 ⟨by decide, by decide, by decide +kernel⟩ rfl (by decide) rfl (Nat.le_of_ble_eq_true rfl) dX3_pruned_3 fun v1 h2 => ?_
  refine k_iload_n hq dX3_pruned_6 3 rfl ?_
  refine k_isub hq dX3_pruned_7 ?_
  refine k_let (mk := fun z => .int z :: []) fun v3 _ => ?_
  refine k_istore hq dX3_pruned_8 (by decide) (ls' := [(4, .int v3), (3, .int l1), (0, .ref l0), (1, .int l1), (2, .int l2)]) rfl ?_
  exact k_sub [2, 1, 0] rfl (Q_X3_pruned_10 hq he N l0 l1 v3 h2)
theorem con_X3_pruned (l : Launch) (G : eG) (B0 n : Nat) (N : Nat) (l0 : Nat) (l1 : Int32) (l2 : Int32) : e_C eI l G B0 n yX3_pruned cX3_pruned 5 (some .int) 4 89 [.ref l0, .int l1, .int l2] (F_X3_pruned N l0 l1 l2) := by
  refine e_mk (by decide) (Nat.le_of_ble_eq_true rfl) fun q r0 h0 h hq he e1 e2 e3 e4 => ?_
  subst e1; subst e2; subst e3; subst e4
  exact P_X3_pruned_0 hq he N l0 l1 l2 h
set_option maxRecDepth 100000 in
set_option maxHeartbeats 4000000 in
theorem P_X8_beginAnew_0 {q : eT} {r0 : Unit} {h0 : eH} (hq : e_B q yX8_beginAnew.cls cX8_beginAnew 1 1 21 none yX8_beginAnew.name) (he : e_E q) (N : Nat) (l0 : Nat) (h : eH) : e_K eV q r0 h0 0 [(0, .ref l0)] [] h (F_X8_beginAnew N l0 h) := by
  unfold F_X8_beginAnew
  refine k_aload_n hq dX8_beginAnew_0 0 rfl ?_
  refine k_iconst hq dX8_beginAnew_1 (v := 0) rfl ?_
  refine k_p hq (C := RX8) (T := TX8) 8 3 rfl (by decide) lay_X8 tyX8 tyX8_ok nmX8 tw_273 rfl rfl rfl dX8_beginAnew_2 fun h1 => ?_
  refine k_aload_n hq dX8_beginAnew_5 0 rfl ?_
  refine k_gr hq (C := RX8) (T := TX8) 8 2 rfl (by decide) (lay_X8 2 (by decide)) tw_270 dX8_beginAnew_6 fun v2 => ?_
  refine k_callV hq (na := 0) (As := []) (st := []) 1 (C := RX1) (T := TX1) rfl (con_X1_empty _ _ _ _ N v2) tw_499 tw_56 tw_504 tw_497 tw_498 ⟨by decide, by decide, by decide +kernel⟩ rfl (by decide) rfl (Nat.le_of_ble_eq_true rfl) dX8_beginAnew_9 fun v3 h4 => ?_
  exact k_vret hq dX8_beginAnew_12 he
theorem con_X8_beginAnew (l : Launch) (G : eG) (B0 n : Nat) (N : Nat) (l0 : Nat) : e_C eV l G B0 n yX8_beginAnew cX8_beginAnew 1 none 1 21 [.ref l0] (F_X8_beginAnew N l0) := by
  refine e_mk (by decide) (Nat.le_of_ble_eq_true rfl) fun q r0 h0 h hq he e1 e2 e3 e4 => ?_
  subst e1; subst e2; subst e3; subst e4
  exact P_X8_beginAnew_0 hq he N l0 h
set_option maxRecDepth 100000 in
set_option maxHeartbeats 4000000 in
theorem P_X4_beginAnew_10b {q : eT} {r0 : Unit} {h0 : eH} (hq : e_B q yX4_beginAnew.cls cX4_beginAnew 3 2 42 none yX4_beginAnew.name) (he : e_E q) (N : Nat) (k10 : Nat → Int32 → eH → Option (Unit × eH)) (hk10 : ∀ (l0 : Nat) (l2 : Int32) h, e_K eV q r0 h0 10 [(0, .ref l0), (2, .int l2)] [] h (k10 l0 l2 h)) (l0 : Nat) (l2 : Int32) (h : eH) : e_K eV q r0 h0 10 [(0, .ref l0), (2, .int l2)] [] h (F_X4_beginAnew_10b N k10 l0 l2 h) := by
  unfold F_X4_beginAnew_10b
  refine k_iload_n hq dX4_beginAnew_10 1 rfl ?_
  refine k_aload_n hq dX4_beginAnew_11 0 rfl ?_
  refine k_gr hq (C := RX4) (T := TX4) 4 1 rfl (by decide) (lay_X4 1 (by decide)) tw_287 dX4_beginAnew_12 fun v1 => ?_
  refine k_alen hq dX4_beginAnew_15 fun v2 => ?_
  refine k_icmp_ge hq (tgt := 34) dX4_beginAnew_16 (by decide) (fun _ => ?_) (fun _ => ?_)
  · exact k_vret hq dX4_beginAnew_34 he
  · refine k_aload_n hq dX4_beginAnew_19 0 rfl ?_
    refine k_gr hq (C := RX4) (T := TX4) 4 1 rfl (by decide) (lay_X4 1 (by decide)) tw_287 dX4_beginAnew_20 fun v3 => ?_
    refine k_iload_n hq dX4_beginAnew_23 1 rfl ?_
    refine k_aald hq 4 (fun _ => rfl) dX4_beginAnew_24 fun v4 => ?_
    refine k_callV hq (na := 0) (As := []) (st := []) 8 (C := RX8) (T := TX8) rfl (con_X8_beginAnew _ _ _ _ N v4) tw_503 tw_57 tw_500 tw_501 tw_502 ⟨by decide, by decide, by decide +kernel⟩ rfl (by decide) rfl (Nat.le_of_ble_eq_true rfl) dX4_beginAnew_25 fun v5 h6 => ?_
    refine k_iinc hq dX4_beginAnew_28 1 rfl (v := l2 + 1) rfl (by decide) (ls' := [(2, .int (l2 + 1)), (0, .ref l0)]) rfl ?_
    refine k_goto hq (tgt := 10) dX4_beginAnew_31 (by decide) ?_
    exact k_sub [1, 0] rfl (hk10 l0 (l2 + 1) h6)
theorem Q_X4_beginAnew_10 {q : eT} {r0 : Unit} {h0 : eH} (hq : e_B q yX4_beginAnew.cls cX4_beginAnew 3 2 42 none yX4_beginAnew.name) (he : e_E q) (N : Nat) (l0 : Nat) (l2 : Int32) (h : eH) : e_K eV q r0 h0 10 [(0, .ref l0), (2, .int l2)] [] h (L_X4_beginAnew_10 N l0 l2 h) :=
  k_loop (mk := (fun s => [(0, .ref s.1), (2, .int s.2.1)])) (hp := fun s => s.2.2) (fun k hk s => P_X4_beginAnew_10b hq he N (fun l0 l2 h => k (l0, l2, h)) (fun l0 l2 h => hk (l0, l2, h)) s.1 s.2.1 s.2.2) N (l0, l2, h)
set_option maxRecDepth 100000 in
set_option maxHeartbeats 4000000 in
theorem P_X4_beginAnew_0 {q : eT} {r0 : Unit} {h0 : eH} (hq : e_B q yX4_beginAnew.cls cX4_beginAnew 3 2 42 none yX4_beginAnew.name) (he : e_E q) (N : Nat) (l0 : Nat) (l1 : Int32) (h : eH) : e_K eV q r0 h0 0 [(0, .ref l0), (1, .int l1)] [] h (F_X4_beginAnew N l0 l1 h) := by
  unfold F_X4_beginAnew
  refine k_aload_n hq dX4_beginAnew_0 0 rfl ?_
  refine k_gr hq (C := RX4) (T := TX4) 4 0 rfl (by decide) (lay_X4 0 (by decide)) tw_285 dX4_beginAnew_1 fun v1 => ?_
  refine k_iload_n hq dX4_beginAnew_4 1 rfl ?_
  refine k_callV hq (na := 1) (As := [.int l1]) (st := []) 3 (C := RX3) (T := TX3) rfl (con_X3_beginAnew _ _ _ _ N v1 l1) tw_495 tw_55 tw_492 tw_493 tw_494 ⟨by decide, by decide, by decide +kernel⟩ rfl (by decide) rfl (Nat.le_of_ble_eq_true rfl) dX4_beginAnew_5 fun v2 h3 => ?_
  refine k_iconst hq dX4_beginAnew_8 (v := 0) rfl ?_
  refine k_istore_n hq dX4_beginAnew_9 rfl (by decide) (ls' := [(2, .int 0), (0, .ref l0), (1, .int l1)]) rfl ?_
  exact k_sub [1, 0] rfl (Q_X4_beginAnew_10 hq he N l0 0 h3)
theorem con_X4_beginAnew (l : Launch) (G : eG) (B0 n : Nat) (N : Nat) (l0 : Nat) (l1 : Int32) : e_C eV l G B0 n yX4_beginAnew cX4_beginAnew 3 none 2 42 [.ref l0, .int l1] (F_X4_beginAnew N l0 l1) := by
  refine e_mk (by decide) (Nat.le_of_ble_eq_true rfl) fun q r0 h0 h hq he e1 e2 e3 e4 => ?_
  subst e1; subst e2; subst e3; subst e4
  exact P_X4_beginAnew_0 hq he N l0 l1 h
set_option maxRecDepth 100000 in
set_option maxHeartbeats 4000000 in
theorem P_X9_greater_4b {q : eT} {r0 : Int32} {h0 : eH} (hq : e_B q yX9_greater.cls cX9_greater 4 1 31 (some .int) yX9_greater.name) (he : e_E q) (N : Nat) (k4 : Int32 → Int32 → Int32 → Int32 → eH → Option (Int32 × eH)) (hk4 : ∀ (l0 : Int32) (l1 : Int32) (l2 : Int32) (l3 : Int32) h, e_K eI q r0 h0 4 [(0, .int l0), (1, .int l1), (2, .int l2), (3, .int l3)] [] h (k4 l0 l1 l2 l3 h)) (l0 : Int32) (l1 : Int32) (l2 : Int32) (l3 : Int32) (h : eH) : e_K eI q r0 h0 4 [(0, .int l0), (1, .int l1), (2, .int l2), (3, .int l3)] [] h (F_X9_greater_4b N k4 l0 l1 l2 l3 h) := by
  unfold F_X9_greater_4b
  refine k_iload_n hq dX9_greater_4 3 rfl ?_
  refine k_iconst hq dX9_greater_5 (v := 4) rfl ?_
  refine k_icmp_ge hq (tgt := 34) dX9_greater_6 (by decide) (fun _ => ?_) (fun _ => ?_)
  · refine k_iload_n hq dX9_greater_34 2 rfl ?_
    exact k_iret hq dX9_greater_35 he
  · refine k_iload_n hq dX9_greater_9 2 rfl ?_
    refine k_iload_n hq dX9_greater_10 3 rfl ?_
    refine k_iload_n hq dX9_greater_11 0 rfl ?_
    refine k_iload_n hq dX9_greater_12 3 rfl ?_
    refine k_callS hq (na := 2) (As := [.int l0, .int l3]) (st := [.int l3, .int l2]) (con_X9_number _ _ _ _ l0 l3) tw_547 tw_65 tw_545 tw_546 ⟨by decide, by decide, by decide +kernel⟩ rfl (by decide) rfl (Nat.le_of_ble_eq_true rfl) dX9_greater_13 fun v1 h2 => ?_
    refine k_iload_n hq dX9_greater_16 1 rfl ?_
    refine k_iload_n hq dX9_greater_17 3 rfl ?_
    refine k_callS hq (na := 2) (As := [.int l1, .int l3]) (st := [.int v1, .int l3, .int l2]) (con_X9_number _ _ _ _ l1 l3) tw_547 tw_65 tw_545 tw_546 ⟨by decide, by decide, by decide +kernel⟩ rfl (by decide) rfl (Nat.le_of_ble_eq_true rfl) dX9_greater_18 fun v3 h4 => ?_
    refine k_mmax hq tw_625 tw_626 tw_60 tw_627 (by decide) (Nat.le_of_ble_eq_true rfl) dX9_greater_21 ?_
    refine k_callS hq (na := 3) (As := [.int l2, .int l3, .int (e_max v1 v3)]) (st := []) (con_X9_with _ _ _ _ l2 l3 (e_max v1 v3)) tw_575 tw_65 tw_628 tw_574 ⟨by decide, by decide, by decide +kernel⟩ rfl (by decide) rfl (Nat.le_of_ble_eq_true rfl) dX9_greater_24 fun v5 h6 => ?_
    refine k_istore_n hq dX9_greater_27 rfl (by decide) (ls' := [(2, .int v5), (0, .int l0), (1, .int l1), (3, .int l3)]) rfl ?_
    refine k_iinc hq dX9_greater_28 3 rfl (v := l3 + 1) rfl (by decide) (ls' := [(3, .int (l3 + 1)), (2, .int v5), (0, .int l0), (1, .int l1)]) rfl ?_
    refine k_goto hq (tgt := 4) dX9_greater_31 (by decide) ?_
    exact k_sub [2, 3, 1, 0] rfl (hk4 l0 l1 v5 (l3 + 1) h6)
theorem Q_X9_greater_4 {q : eT} {r0 : Int32} {h0 : eH} (hq : e_B q yX9_greater.cls cX9_greater 4 1 31 (some .int) yX9_greater.name) (he : e_E q) (N : Nat) (l0 : Int32) (l1 : Int32) (l2 : Int32) (l3 : Int32) (h : eH) : e_K eI q r0 h0 4 [(0, .int l0), (1, .int l1), (2, .int l2), (3, .int l3)] [] h (L_X9_greater_4 N l0 l1 l2 l3 h) :=
  k_loop (mk := (fun s => [(0, .int s.1), (1, .int s.2.1), (2, .int s.2.2.1), (3, .int s.2.2.2.1)])) (hp := fun s => s.2.2.2.2) (fun k hk s => P_X9_greater_4b hq he N (fun l0 l1 l2 l3 h => k (l0, l1, l2, l3, h)) (fun l0 l1 l2 l3 h => hk (l0, l1, l2, l3, h)) s.1 s.2.1 s.2.2.1 s.2.2.2.1 s.2.2.2.2) N (l0, l1, l2, l3, h)
set_option maxRecDepth 100000 in
set_option maxHeartbeats 4000000 in
theorem P_X9_greater_0 {q : eT} {r0 : Int32} {h0 : eH} (hq : e_B q yX9_greater.cls cX9_greater 4 1 31 (some .int) yX9_greater.name) (he : e_E q) (N : Nat) (l0 : Int32) (l1 : Int32) (h : eH) : e_K eI q r0 h0 0 [(0, .int l0), (1, .int l1)] [] h (F_X9_greater N l0 l1 h) := by
  unfold F_X9_greater
  refine k_iconst hq dX9_greater_0 (v := 0) rfl ?_
  refine k_istore_n hq dX9_greater_1 rfl (by decide) (ls' := [(2, .int 0), (0, .int l0), (1, .int l1)]) rfl ?_
  refine k_iconst hq dX9_greater_2 (v := 0) rfl ?_
  refine k_istore_n hq dX9_greater_3 rfl (by decide) (ls' := [(3, .int 0), (2, .int 0), (0, .int l0), (1, .int l1)]) rfl ?_
  exact k_sub [2, 3, 1, 0] rfl (Q_X9_greater_4 hq he N l0 l1 0 0 h)
theorem con_X9_greater (l : Launch) (G : eG) (B0 n : Nat) (N : Nat) (l0 : Int32) (l1 : Int32) : e_C eI l G B0 n yX9_greater cX9_greater 4 (some .int) 1 31 [.int l0, .int l1] (F_X9_greater N l0 l1) := by
  refine e_mk (by decide) (Nat.le_of_ble_eq_true rfl) fun q r0 h0 h hq he e1 e2 e3 e4 => ?_
  subst e1; subst e2; subst e3; subst e4
  exact P_X9_greater_0 hq he N l0 l1 h
set_option maxRecDepth 100000 in
set_option maxHeartbeats 4000000 in
theorem P_X4_greatestRow_4b {q : eT} {r0 : Int32} {h0 : eH} (hq : e_B q yX4_greatestRow.cls cX4_greatestRow 3 2 54 (some .int) yX4_greatestRow.name) (he : e_E q) (N : Nat) (k4 : Nat → Int32 → Int32 → eH → Option (Int32 × eH)) (hk4 : ∀ (l0 : Nat) (l1 : Int32) (l2 : Int32) h, e_K eI q r0 h0 4 [(0, .ref l0), (1, .int l1), (2, .int l2)] [] h (k4 l0 l1 l2 h)) (l0 : Nat) (l1 : Int32) (l2 : Int32) (h : eH) : e_K eI q r0 h0 4 [(0, .ref l0), (1, .int l1), (2, .int l2)] [] h (F_X4_greatestRow_4b N k4 l0 l1 l2 h) := by
  unfold F_X4_greatestRow_4b
  refine k_iload_n hq dX4_greatestRow_4 2 rfl ?_
  refine k_aload_n hq dX4_greatestRow_5 0 rfl ?_
  refine k_gr hq (C := RX4) (T := TX4) 4 1 rfl (by decide) (lay_X4 1 (by decide)) tw_287 dX4_greatestRow_6 fun v1 => ?_
  refine k_alen hq dX4_greatestRow_9 fun v2 => ?_
  refine k_icmp_ge hq (tgt := 33) dX4_greatestRow_10 (by decide) (fun _ => ?_) (fun _ => ?_)
  · refine k_iload_n hq dX4_greatestRow_33 1 rfl ?_
    exact k_iret hq dX4_greatestRow_34 he
  · refine k_iload_n hq dX4_greatestRow_13 1 rfl ?_
    refine k_aload_n hq dX4_greatestRow_14 0 rfl ?_
    refine k_gr hq (C := RX4) (T := TX4) 4 1 rfl (by decide) (lay_X4 1 (by decide)) tw_287 dX4_greatestRow_15 fun v3 => ?_
    refine k_iload_n hq dX4_greatestRow_18 2 rfl ?_
    refine k_aald hq 4 (fun _ => rfl) dX4_greatestRow_19 fun v4 => ?_
    refine k_giN hq (C := RX8) (T := TX8) 8 3 rfl (by decide) (lay_X8 3 (by decide)) tw_274 dX4_greatestRow_20 fun v5 => ?_
    refine k_callS hq (na := 2) (As := [.int l1, .int v5]) (st := []) (con_X9_greater _ _ _ _ N l1 v5) tw_624 tw_65 tw_834 tw_623 ⟨by decide, by decide, by decide +kernel⟩ rfl (by decide) rfl (Nat.le_of_ble_eq_true rfl) dX4_greatestRow_23 fun v6 h7 => ?_
    refine k_istore_n hq dX4_greatestRow_26 rfl (by decide) (ls' := [(1, .int v6), (0, .ref l0), (2, .int l2)]) rfl ?_
    refine k_iinc hq dX4_greatestRow_27 2 rfl (v := l2 + 1) rfl (by decide) (ls' := [(2, .int (l2 + 1)), (1, .int v6), (0, .ref l0)]) rfl ?_
    refine k_goto hq (tgt := 4) dX4_greatestRow_30 (by decide) ?_
    exact k_sub [2, 1, 0] rfl (hk4 l0 v6 (l2 + 1) h7)
theorem Q_X4_greatestRow_4 {q : eT} {r0 : Int32} {h0 : eH} (hq : e_B q yX4_greatestRow.cls cX4_greatestRow 3 2 54 (some .int) yX4_greatestRow.name) (he : e_E q) (N : Nat) (l0 : Nat) (l1 : Int32) (l2 : Int32) (h : eH) : e_K eI q r0 h0 4 [(0, .ref l0), (1, .int l1), (2, .int l2)] [] h (L_X4_greatestRow_4 N l0 l1 l2 h) :=
  k_loop (mk := (fun s => [(0, .ref s.1), (1, .int s.2.1), (2, .int s.2.2.1)])) (hp := fun s => s.2.2.2) (fun k hk s => P_X4_greatestRow_4b hq he N (fun l0 l1 l2 h => k (l0, l1, l2, h)) (fun l0 l1 l2 h => hk (l0, l1, l2, h)) s.1 s.2.1 s.2.2.1 s.2.2.2) N (l0, l1, l2, h)
set_option maxRecDepth 100000 in
set_option maxHeartbeats 4000000 in
theorem P_X4_greatestRow_0 {q : eT} {r0 : Int32} {h0 : eH} (hq : e_B q yX4_greatestRow.cls cX4_greatestRow 3 2 54 (some .int) yX4_greatestRow.name) (he : e_E q) (N : Nat) (l0 : Nat) (h : eH) : e_K eI q r0 h0 0 [(0, .ref l0)] [] h (F_X4_greatestRow N l0 h) := by
  unfold F_X4_greatestRow
  refine k_iconst hq dX4_greatestRow_0 (v := 0) rfl ?_
  refine k_istore_n hq dX4_greatestRow_1 rfl (by decide) (ls' := [(1, .int 0), (0, .ref l0)]) rfl ?_
  refine k_iconst hq dX4_greatestRow_2 (v := 0) rfl ?_
  refine k_istore_n hq dX4_greatestRow_3 rfl (by decide) (ls' := [(2, .int 0), (1, .int 0), (0, .ref l0)]) rfl ?_
  exact k_sub [2, 1, 0] rfl (Q_X4_greatestRow_4 hq he N l0 0 0 h)
theorem con_X4_greatestRow (l : Launch) (G : eG) (B0 n : Nat) (N : Nat) (l0 : Nat) : e_C eI l G B0 n yX4_greatestRow cX4_greatestRow 3 (some .int) 2 54 [.ref l0] (F_X4_greatestRow N l0) := by
  refine e_mk (by decide) (Nat.le_of_ble_eq_true rfl) fun q r0 h0 h hq he e1 e2 e3 e4 => ?_
  subst e1; subst e2; subst e3; subst e4
  exact P_X4_greatestRow_0 hq he N l0 h
set_option maxRecDepth 100000 in
set_option maxHeartbeats 4000000 in
theorem P_X4_holders_4b {q : eT} {r0 : Int32} {h0 : eH} (hq : e_B q yX4_holders.cls cX4_holders 4 3 61 (some .int) yX4_holders.name) (he : e_E q) (N : Nat) (k4 : Nat → Int32 → Int32 → Int32 → eH → Option (Int32 × eH)) (hk4 : ∀ (l0 : Nat) (l1 : Int32) (l2 : Int32) (l3 : Int32) h, e_K eI q r0 h0 4 [(0, .ref l0), (1, .int l1), (2, .int l2), (3, .int l3)] [] h (k4 l0 l1 l2 l3 h)) (l0 : Nat) (l1 : Int32) (l2 : Int32) (l3 : Int32) (h : eH) : e_K eI q r0 h0 4 [(0, .ref l0), (1, .int l1), (2, .int l2), (3, .int l3)] [] h (F_X4_holders_4b N k4 l0 l1 l2 l3 h) := by
  unfold F_X4_holders_4b
  refine k_iload_n hq dX4_holders_4 3 rfl ?_
  refine k_aload_n hq dX4_holders_5 0 rfl ?_
  refine k_gr hq (C := RX4) (T := TX4) 4 1 rfl (by decide) (lay_X4 1 (by decide)) tw_287 dX4_holders_6 fun v1 => ?_
  refine k_alen hq dX4_holders_9 fun v2 => ?_
  refine k_icmp_ge hq (tgt := 40) dX4_holders_10 (by decide) (fun _ => ?_) (fun _ => ?_)
  · refine k_iload_n hq dX4_holders_40 2 rfl ?_
    exact k_iret hq dX4_holders_41 he
  · refine k_iload_n hq dX4_holders_13 2 rfl ?_
    refine k_aload_n hq dX4_holders_14 0 rfl ?_
    refine k_gr hq (C := RX4) (T := TX4) 4 1 rfl (by decide) (lay_X4 1 (by decide)) tw_287 dX4_holders_15 fun v3 => ?_
    refine k_iload_n hq dX4_holders_18 3 rfl ?_
    refine k_aald hq 4 (fun _ => rfl) dX4_holders_19 fun v4 => ?_
    refine k_grN hq (C := RX8) (T := TX8) 8 2 rfl (by decide) (lay_X8 2 (by decide)) tw_271 dX4_holders_20 fun v5 => ?_
    refine k_iload_n hq dX4_holders_23 1 rfl ?_
    refine k_callV hq (na := 1) (As := [.int l1]) (st := [.int l2]) 1 (C := RX1) (T := TX1) rfl (con_X1_has _ _ _ _ v5 l1) tw_656 tw_56 tw_798 tw_654 tw_655 ⟨by decide, by decide, by decide +kernel⟩ rfl (by decide) rfl (Nat.le_of_ble_eq_true rfl) dX4_holders_24 fun v6 h7 => ?_
    refine k_callSN hq (na := 1) (As := [.int v6]) (st := [.int l2]) (con_X11_bit _ _ _ _ v6) tw_793 tw_48 tw_799 tw_792 ⟨by decide, by decide, by decide +kernel⟩ rfl (by decide) rfl (Nat.le_of_ble_eq_true rfl) dX4_holders_27 fun v8 h9 => ?_
    refine k_iload_n hq dX4_holders_30 3 rfl ?_
    refine k_ishl hq dX4_holders_31 ?_
    refine k_ior hq dX4_holders_32 ?_
    refine k_let (mk := fun z => .int z :: []) fun v10 _ => ?_
    refine k_istore_n hq dX4_holders_33 rfl (by decide) (ls' := [(2, .int v10), (0, .ref l0), (1, .int l1), (3, .int l3)]) rfl ?_
    refine k_iinc hq dX4_holders_34 3 rfl (v := l3 + 1) rfl (by decide) (ls' := [(3, .int (l3 + 1)), (2, .int v10), (0, .ref l0), (1, .int l1)]) rfl ?_
    refine k_goto hq (tgt := 4) dX4_holders_37 (by decide) ?_
    exact k_sub [2, 3, 1, 0] rfl (hk4 l0 l1 v10 (l3 + 1) h9)
theorem Q_X4_holders_4 {q : eT} {r0 : Int32} {h0 : eH} (hq : e_B q yX4_holders.cls cX4_holders 4 3 61 (some .int) yX4_holders.name) (he : e_E q) (N : Nat) (l0 : Nat) (l1 : Int32) (l2 : Int32) (l3 : Int32) (h : eH) : e_K eI q r0 h0 4 [(0, .ref l0), (1, .int l1), (2, .int l2), (3, .int l3)] [] h (L_X4_holders_4 N l0 l1 l2 l3 h) :=
  k_loop (mk := (fun s => [(0, .ref s.1), (1, .int s.2.1), (2, .int s.2.2.1), (3, .int s.2.2.2.1)])) (hp := fun s => s.2.2.2.2) (fun k hk s => P_X4_holders_4b hq he N (fun l0 l1 l2 l3 h => k (l0, l1, l2, l3, h)) (fun l0 l1 l2 l3 h => hk (l0, l1, l2, l3, h)) s.1 s.2.1 s.2.2.1 s.2.2.2.1 s.2.2.2.2) N (l0, l1, l2, l3, h)
set_option maxRecDepth 100000 in
set_option maxHeartbeats 4000000 in
theorem P_X4_holders_0 {q : eT} {r0 : Int32} {h0 : eH} (hq : e_B q yX4_holders.cls cX4_holders 4 3 61 (some .int) yX4_holders.name) (he : e_E q) (N : Nat) (l0 : Nat) (l1 : Int32) (h : eH) : e_K eI q r0 h0 0 [(0, .ref l0), (1, .int l1)] [] h (F_X4_holders N l0 l1 h) := by
  unfold F_X4_holders
  refine k_iconst hq dX4_holders_0 (v := 0) rfl ?_
  refine k_istore_n hq dX4_holders_1 rfl (by decide) (ls' := [(2, .int 0), (0, .ref l0), (1, .int l1)]) rfl ?_
  refine k_iconst hq dX4_holders_2 (v := 0) rfl ?_
  refine k_istore_n hq dX4_holders_3 rfl (by decide) (ls' := [(3, .int 0), (2, .int 0), (0, .ref l0), (1, .int l1)]) rfl ?_
  exact k_sub [2, 3, 1, 0] rfl (Q_X4_holders_4 hq he N l0 l1 0 0 h)
theorem con_X4_holders (l : Launch) (G : eG) (B0 n : Nat) (N : Nat) (l0 : Nat) (l1 : Int32) : e_C eI l G B0 n yX4_holders cX4_holders 4 (some .int) 3 61 [.ref l0, .int l1] (F_X4_holders N l0 l1) := by
  refine e_mk (by decide) (Nat.le_of_ble_eq_true rfl) fun q r0 h0 h hq he e1 e2 e3 e4 => ?_
  subst e1; subst e2; subst e3; subst e4
  exact P_X4_holders_0 hq he N l0 l1 h
set_option maxRecDepth 100000 in
set_option maxHeartbeats 4000000 in
theorem P_X4_isLost_0 {q : eT} {r0 : Int32} {h0 : eH} (hq : e_B q yX4_isLost.cls cX4_isLost 2 4 84 (some .boolean) yX4_isLost.name) (he : e_E q) (N : Nat) (l0 : Nat) (l1 : Int32) (h : eH) : e_K eI q r0 h0 0 [(0, .ref l0), (1, .int l1)] [] h (F_X4_isLost N l0 l1 h) := by
  unfold F_X4_isLost
  refine k_aload_n hq dX4_isLost_0 0 rfl ?_
  refine k_gr hq (C := RX4) (T := TX4) 4 0 rfl (by decide) (lay_X4 0 (by decide)) tw_285 dX4_isLost_1 fun v1 => ?_
  refine k_iload_n hq dX4_isLost_4 1 rfl ?_
  refine k_callV hq (na := 1) (As := [.int l1]) (st := []) 3 (C := RX3) (T := TX3) rfl (con_X3_has _ _ _ _ v1 l1) tw_563 tw_55 tw_804 tw_561 tw_562 ⟨by decide, by decide, by decide +kernel⟩ rfl (by decide) rfl (Nat.le_of_ble_eq_true rfl) dX4_isLost_5 fun v2 h3 => ?_
  refine k_if_eq hq (tgt := 37) dX4_isLost_8 (by decide) (fun _ => ?_) (fun _ => ?_)
  · refine k_iconst hq dX4_isLost_37 (v := 0) rfl ?_
    exact k_zret hq dX4_isLost_38 he
  · refine k_aload_n hq dX4_isLost_11 0 rfl ?_
    refine k_gr hq (C := RX4) (T := TX4) 4 0 rfl (by decide) (lay_X4 0 (by decide)) tw_285 dX4_isLost_12 fun v4 => ?_
    refine k_grN hq (C := RX3) (T := TX3) 3 4 rfl (by decide) (lay_X3 4 (by decide)) tw_216 dX4_isLost_15 fun v5 => ?_
    refine k_iload_n hq dX4_isLost_18 1 rfl ?_
    refine k_callV hq (na := 1) (As := [.int l1]) (st := []) 1 (C := RX1) (T := TX1) rfl (con_X1_has _ _ _ _ v5 l1) tw_656 tw_56 tw_798 tw_654 tw_655 ⟨by decide, by decide, by decide +kernel⟩ rfl (by decide) rfl (Nat.le_of_ble_eq_true rfl) dX4_isLost_19 fun v6 h7 => ?_
    refine k_if_ne hq (tgt := 37) dX4_isLost_22 (by decide) (fun _ => ?_) (fun _ => ?_)
    · refine k_aload_n hq dX4_isLost_25 0 rfl ?_
      refine k_iload_n hq dX4_isLost_26 1 rfl ?_
      refine k_callV hq (na := 1) (As := [.int l1]) (st := []) 4 (C := RX4) (T := TX4) rfl (con_X4_holders _ _ _ _ N l0 l1) tw_797 tw_54 tw_805 tw_795 tw_796 ⟨by decide, by decide, by decide +kernel⟩ rfl (by decide) rfl (Nat.le_of_ble_eq_true rfl) dX4_isLost_27 fun v8 h9 => ?_
      refine k_if_ne hq (tgt := 37) dX4_isLost_30 (by decide) (fun _ => ?_) (fun _ => ?_)
      · refine k_iconst hq dX4_isLost_33 (v := 1) rfl ?_
        refine k_goto hq (tgt := 38) dX4_isLost_34 (by decide) ?_
        exact k_zret hq dX4_isLost_38 he
      · refine k_iconst hq dX4_isLost_37 (v := 0) rfl ?_
        exact k_zret hq dX4_isLost_38 he
    · refine k_iconst hq dX4_isLost_37 (v := 0) rfl ?_
      exact k_zret hq dX4_isLost_38 he
theorem con_X4_isLost (l : Launch) (G : eG) (B0 n : Nat) (N : Nat) (l0 : Nat) (l1 : Int32) : e_C eI l G B0 n yX4_isLost cX4_isLost 2 (some .boolean) 4 84 [.ref l0, .int l1] (F_X4_isLost N l0 l1) := by
  refine e_mk (by decide) (Nat.le_of_ble_eq_true rfl) fun q r0 h0 h hq he e1 e2 e3 e4 => ?_
  subst e1; subst e2; subst e3; subst e4
  exact P_X4_isLost_0 hq he N l0 l1 h
set_option maxRecDepth 100000 in
set_option maxHeartbeats 4000000 in
theorem P_X4_lostTotal_4b {q : eT} {r0 : Int32} {h0 : eH} (hq : e_B q yX4_lostTotal.cls cX4_lostTotal 3 5 105 (some .int) yX4_lostTotal.name) (he : e_E q) (N : Nat) (k4 : Nat → Int32 → Int32 → eH → Option (Int32 × eH)) (hk4 : ∀ (l0 : Nat) (l1 : Int32) (l2 : Int32) h, e_K eI q r0 h0 4 [(0, .ref l0), (1, .int l1), (2, .int l2)] [] h (k4 l0 l1 l2 h)) (l0 : Nat) (l1 : Int32) (l2 : Int32) (h : eH) : e_K eI q r0 h0 4 [(0, .ref l0), (1, .int l1), (2, .int l2)] [] h (F_X4_lostTotal_4b N k4 l0 l1 l2 h) := by
  unfold F_X4_lostTotal_4b
  refine k_iload_n hq dX4_lostTotal_4 2 rfl ?_
  refine k_sipush hq dX4_lostTotal_5 (v := 160) rfl ?_
  refine k_icmp_ge hq (tgt := 28) dX4_lostTotal_8 (by decide) (fun _ => ?_) (fun _ => ?_)
  · refine k_iload_n hq dX4_lostTotal_28 1 rfl ?_
    exact k_iret hq dX4_lostTotal_29 he
  · refine k_iload_n hq dX4_lostTotal_11 1 rfl ?_
    refine k_aload_n hq dX4_lostTotal_12 0 rfl ?_
    refine k_iload_n hq dX4_lostTotal_13 2 rfl ?_
    refine k_callV hq (na := 1) (As := [.int l2]) (st := [.int l1]) 4 (C := RX4) (T := TX4) rfl (con_X4_isLost _ _ _ _ N l0 l2) tw_803 tw_54 tw_907 tw_801 tw_802 ⟨by decide, by decide, by decide +kernel⟩ rfl (by decide) rfl (Nat.le_of_ble_eq_true rfl) dX4_lostTotal_14 fun v1 h2 => ?_
    refine k_callSN hq (na := 1) (As := [.int v1]) (st := [.int l1]) (con_X11_bit _ _ _ _ v1) tw_793 tw_48 tw_799 tw_792 ⟨by decide, by decide, by decide +kernel⟩ rfl (by decide) rfl (Nat.le_of_ble_eq_true rfl) dX4_lostTotal_17 fun v3 h4 => ?_
    refine k_iadd hq dX4_lostTotal_20 ?_
    refine k_let (mk := fun z => .int z :: []) fun v5 _ => ?_
    refine k_istore_n hq dX4_lostTotal_21 rfl (by decide) (ls' := [(1, .int v5), (0, .ref l0), (2, .int l2)]) rfl ?_
    refine k_iinc hq dX4_lostTotal_22 2 rfl (v := l2 + 1) rfl (by decide) (ls' := [(2, .int (l2 + 1)), (1, .int v5), (0, .ref l0)]) rfl ?_
    refine k_goto hq (tgt := 4) dX4_lostTotal_25 (by decide) ?_
    exact k_sub [2, 1, 0] rfl (hk4 l0 v5 (l2 + 1) h4)
theorem Q_X4_lostTotal_4 {q : eT} {r0 : Int32} {h0 : eH} (hq : e_B q yX4_lostTotal.cls cX4_lostTotal 3 5 105 (some .int) yX4_lostTotal.name) (he : e_E q) (N : Nat) (l0 : Nat) (l1 : Int32) (l2 : Int32) (h : eH) : e_K eI q r0 h0 4 [(0, .ref l0), (1, .int l1), (2, .int l2)] [] h (L_X4_lostTotal_4 N l0 l1 l2 h) :=
  k_loop (mk := (fun s => [(0, .ref s.1), (1, .int s.2.1), (2, .int s.2.2.1)])) (hp := fun s => s.2.2.2) (fun k hk s => P_X4_lostTotal_4b hq he N (fun l0 l1 l2 h => k (l0, l1, l2, h)) (fun l0 l1 l2 h => hk (l0, l1, l2, h)) s.1 s.2.1 s.2.2.1 s.2.2.2) N (l0, l1, l2, h)
set_option maxRecDepth 100000 in
set_option maxHeartbeats 4000000 in
theorem P_X4_lostTotal_0 {q : eT} {r0 : Int32} {h0 : eH} (hq : e_B q yX4_lostTotal.cls cX4_lostTotal 3 5 105 (some .int) yX4_lostTotal.name) (he : e_E q) (N : Nat) (l0 : Nat) (h : eH) : e_K eI q r0 h0 0 [(0, .ref l0)] [] h (F_X4_lostTotal N l0 h) := by
  unfold F_X4_lostTotal
  refine k_iconst hq dX4_lostTotal_0 (v := 0) rfl ?_
  refine k_istore_n hq dX4_lostTotal_1 rfl (by decide) (ls' := [(1, .int 0), (0, .ref l0)]) rfl ?_
  refine k_iconst hq dX4_lostTotal_2 (v := 0) rfl ?_
  refine k_istore_n hq dX4_lostTotal_3 rfl (by decide) (ls' := [(2, .int 0), (1, .int 0), (0, .ref l0)]) rfl ?_
  exact k_sub [2, 1, 0] rfl (Q_X4_lostTotal_4 hq he N l0 0 0 h)
theorem con_X4_lostTotal (l : Launch) (G : eG) (B0 n : Nat) (N : Nat) (l0 : Nat) : e_C eI l G B0 n yX4_lostTotal cX4_lostTotal 3 (some .int) 5 105 [.ref l0] (F_X4_lostTotal N l0) := by
  refine e_mk (by decide) (Nat.le_of_ble_eq_true rfl) fun q r0 h0 h hq he e1 e2 e3 e4 => ?_
  subst e1; subst e2; subst e3; subst e4
  exact P_X4_lostTotal_0 hq he N l0 h
set_option maxRecDepth 100000 in
set_option maxHeartbeats 4000000 in
theorem P_X5_forget_0 {q : eT} {r0 : Unit} {h0 : eH} (hq : e_B q yX5_forget.cls cX5_forget 1 0 0 none yX5_forget.name) (he : e_E q) (l0 : Nat) (h : eH) : e_K eV q r0 h0 0 [(0, .ref l0)] [] h (F_X5_forget l0 h) := by
  unfold F_X5_forget
  refine k_aload_n hq dX5_forget_0 0 rfl ?_
  refine k_iconst hq dX5_forget_1 (v := 0) rfl ?_
  refine k_p hq (C := RX5) (T := TX5) 5 2 rfl (by decide) lay_X5 tyX5 tyX5_ok nmX5 tw_143 rfl rfl rfl dX5_forget_2 fun h1 => ?_
  exact k_vret hq dX5_forget_5 he
theorem con_X5_forget (l : Launch) (G : eG) (B0 n : Nat) (l0 : Nat) : e_C eV l G B0 n yX5_forget cX5_forget 1 none 0 0 [.ref l0] (F_X5_forget l0) := by
  refine e_mk (by decide) (Nat.le_of_ble_eq_true rfl) fun q r0 h0 h hq he e1 e2 e3 e4 => ?_
  subst e1; subst e2; subst e3; subst e4
  exact P_X5_forget_0 hq he l0 h
