set_option maxRecDepth 100000 in
set_option maxHeartbeats 4000000 in
theorem P_X12_tells_80b {q : eT} {r0 : Int32} {h0 : eH} (hq : e_B q yX12_tells.cls cX12_tells 3 5 112 (some .int) yX12_tells.name) (he : e_E q) (N : Nat) (k51 : Nat → Int32 → eH → Option (Int32 × eH)) (k80 : Nat → Int32 → eH → Option (Int32 × eH)) (hk51 : ∀ (l0 : Nat) (l1 : Int32) h, e_K eI q r0 h0 51 [(0, .ref l0), (1, .int l1)] [] h (k51 l0 l1 h)) (hk80 : ∀ (l0 : Nat) (l1 : Int32) h, e_K eI q r0 h0 80 [(0, .ref l0), (1, .int l1)] [] h (k80 l0 l1 h)) (l0 : Nat) (l1 : Int32) (h : eH) : e_K eI q r0 h0 80 [(0, .ref l0), (1, .int l1)] [] h (F_X12_tells_80b N k51 k80 l0 l1 h) := by
  unfold F_X12_tells_80b
  refine k_aload_n hq dX12_tells_80 0 rfl ?_
  refine k_bipush hq dX12_tells_81 (v := 32) rfl ?_
  refine k_bipush hq dX12_tells_83 (v := 32) rfl ?_
  refine k_callV hq (na := 2) (As := [.int 32, .int 32]) (st := []) 11 (C := RX12) (T := TX12) rfl (con_X12_isBetween _ _ _ _ l0 32 32) tw_1071 tw_59 tw_1068 tw_1070 tw_23 ⟨by decide, by decide, by decide +kernel⟩ rfl (by decide) rfl (Nat.le_of_ble_eq_true rfl) dX12_tells_85 fun v1 h2 => ?_
  refine k_if_eq hq (tgt := 51) dX12_tells_88 (by decide) (fun _ => ?_) (fun _ => ?_)
  · exact k_sub [0, 1] rfl (hk51 l0 l1 h2)
  · refine k_aload_n hq dX12_tells_91 0 rfl ?_
    refine k_dup hq dX12_tells_92 rfl ?_
    refine k_gi hq (C := RX12) (T := TX12) 11 26 rfl (by decide) (lay_X12 26 (by decide)) tw_953 dX12_tells_93 fun v3 => ?_
    refine k_iconst hq dX12_tells_96 (v := 1) rfl ?_
    refine k_iadd hq dX12_tells_97 ?_
    refine k_p hq (C := RX12) (T := TX12) 11 26 rfl (by decide) lay_X12 tyX12 tyX12_ok nmX12 tw_953 rfl rfl rfl dX12_tells_98 fun h4 => ?_
    refine k_goto hq (tgt := 80) dX12_tells_101 (by decide) ?_
    exact k_sub [0, 1] rfl (hk80 l0 l1 h4)
theorem Q_X12_tells_80 {q : eT} {r0 : Int32} {h0 : eH} (hq : e_B q yX12_tells.cls cX12_tells 3 5 112 (some .int) yX12_tells.name) (he : e_E q) (N : Nat) (k51 : Nat → Int32 → eH → Option (Int32 × eH)) (hk51 : ∀ (l0 : Nat) (l1 : Int32) h, e_K eI q r0 h0 51 [(0, .ref l0), (1, .int l1)] [] h (k51 l0 l1 h)) (l0 : Nat) (l1 : Int32) (h : eH) : e_K eI q r0 h0 80 [(0, .ref l0), (1, .int l1)] [] h (L_X12_tells_80 N k51 l0 l1 h) :=
  k_loop (mk := (fun s => [(0, .ref s.1), (1, .int s.2.1)])) (hp := fun s => s.2.2) (fun k hk s => P_X12_tells_80b hq he N k51 (fun l0 l1 h => k (l0, l1, h)) hk51 (fun l0 l1 h => hk (l0, l1, h)) s.1 s.2.1 s.2.2) N (l0, l1, h)
set_option maxRecDepth 100000 in
set_option maxHeartbeats 4000000 in
theorem P_X12_tells_180b {q : eT} {r0 : Int32} {h0 : eH} (hq : e_B q yX12_tells.cls cX12_tells 3 5 112 (some .int) yX12_tells.name) (he : e_E q) (N : Nat) (k180 : Nat → Int32 → Int32 → eH → Option (Int32 × eH)) (hk180 : ∀ (l0 : Nat) (l1 : Int32) (l2 : Int32) h, e_K eI q r0 h0 180 [(0, .ref l0), (1, .int l1), (2, .int l2)] [] h (k180 l0 l1 l2 h)) (l0 : Nat) (l1 : Int32) (l2 : Int32) (h : eH) : e_K eI q r0 h0 180 [(0, .ref l0), (1, .int l1), (2, .int l2)] [] h (F_X12_tells_180b N k180 l0 l1 l2 h) := by
  unfold F_X12_tells_180b
  refine k_iload_n hq dX12_tells_180 2 rfl ?_
  refine k_aload_n hq dX12_tells_181 0 rfl ?_
  refine k_gi hq (C := RX12) (T := TX12) 11 3 rfl (by decide) (lay_X12 3 (by decide)) tw_930 dX12_tells_182 fun v1 => ?_
  refine k_icmp_ge hq (tgt := 206) dX12_tells_185 (by decide) (fun _ => ?_) (fun _ => ?_)
  · refine k_iload_n hq dX12_tells_206 1 rfl ?_
    exact k_iret hq dX12_tells_207 he
  · refine k_aload_n hq dX12_tells_188 0 rfl ?_
    refine k_gr hq (C := RX12) (T := TX12) 11 4 rfl (by decide) (lay_X12 4 (by decide)) tw_931 dX12_tells_189 fun v2 => ?_
    refine k_iload_n hq dX12_tells_192 2 rfl ?_
    refine k_aload_n hq dX12_tells_193 0 rfl ?_
    refine k_gr hq (C := RX12) (T := TX12) 11 34 rfl (by decide) (lay_X12 34 (by decide)) tw_961 dX12_tells_194 fun v3 => ?_
    refine k_iload_n hq dX12_tells_197 2 rfl ?_
    refine k_iald hq dX12_tells_198 fun v4 => ?_
    refine k_iast hq dX12_tells_199 fun h5 => ?_
    refine k_iinc hq dX12_tells_200 2 rfl (v := l2 + 1) rfl (by decide) (ls' := [(2, .int (l2 + 1)), (0, .ref l0), (1, .int l1)]) rfl ?_
    refine k_goto hq (tgt := 180) dX12_tells_203 (by decide) ?_
    exact k_sub [1, 2, 0] rfl (hk180 l0 l1 (l2 + 1) h5)
theorem Q_X12_tells_180 {q : eT} {r0 : Int32} {h0 : eH} (hq : e_B q yX12_tells.cls cX12_tells 3 5 112 (some .int) yX12_tells.name) (he : e_E q) (N : Nat) (l0 : Nat) (l1 : Int32) (l2 : Int32) (h : eH) : e_K eI q r0 h0 180 [(0, .ref l0), (1, .int l1), (2, .int l2)] [] h (L_X12_tells_180 N l0 l1 l2 h) :=
  k_loop (mk := (fun s => [(0, .ref s.1), (1, .int s.2.1), (2, .int s.2.2.1)])) (hp := fun s => s.2.2.2) (fun k hk s => P_X12_tells_180b hq he N (fun l0 l1 l2 h => k (l0, l1, l2, h)) (fun l0 l1 l2 h => hk (l0, l1, l2, h)) s.1 s.2.1 s.2.2.1 s.2.2.2) N (l0, l1, l2, h)
set_option maxRecDepth 100000 in
set_option maxHeartbeats 4000000 in
theorem P_X12_tells_167 {q : eT} {r0 : Int32} {h0 : eH} (hq : e_B q yX12_tells.cls cX12_tells 3 5 112 (some .int) yX12_tells.name) (he : e_E q) (N : Nat) (l0 : Nat) (l1 : Int32) (s0 : Nat) (s1 : Int32) (h : eH) : e_K eI q r0 h0 167 [(0, .ref l0), (1, .int l1)] [.int s1, .ref s0] h (F_X12_tells_167 N l0 l1 s0 s1 h) := by
  unfold F_X12_tells_167
  refine k_p hq (C := RX12) (T := TX12) 11 2 rfl (by decide) lay_X12 tyX12 tyX12_ok nmX12 tw_929 rfl rfl rfl dX12_tells_167 fun h1 => ?_
  refine k_aload_n hq dX12_tells_170 0 rfl ?_
  refine k_aload_n hq dX12_tells_171 0 rfl ?_
  refine k_gi hq (C := RX12) (T := TX12) 11 33 rfl (by decide) (lay_X12 33 (by decide)) tw_960 dX12_tells_172 fun v2 => ?_
  refine k_p hq (C := RX12) (T := TX12) 11 3 rfl (by decide) lay_X12 tyX12 tyX12_ok nmX12 tw_930 rfl rfl rfl dX12_tells_175 fun h3 => ?_
  refine k_iconst hq dX12_tells_178 (v := 0) rfl ?_
  refine k_istore_n hq dX12_tells_179 rfl (by decide) (ls' := [(2, .int 0), (0, .ref l0), (1, .int l1)]) rfl ?_
  exact k_sub [1, 2, 0] rfl (Q_X12_tells_180 hq he N l0 l1 0 h3)
set_option maxRecDepth 100000 in
set_option maxHeartbeats 4000000 in
theorem P_X12_tells_148 {q : eT} {r0 : Int32} {h0 : eH} (hq : e_B q yX12_tells.cls cX12_tells 3 5 112 (some .int) yX12_tells.name) (he : e_E q) (N : Nat) (l0 : Nat) (l1 : Int32) (s0 : Nat) (s1 : Int32) (h : eH) : e_K eI q r0 h0 148 [(0, .ref l0), (1, .int l1)] [.int s1, .ref s0] h (F_X12_tells_148 N l0 l1 s0 s1 h) := by
  unfold F_X12_tells_148
  refine k_p hq (C := RX12) (T := TX12) 11 1 rfl (by decide) lay_X12 tyX12 tyX12_ok nmX12 tw_928 rfl rfl rfl dX12_tells_148 fun h1 => ?_
  refine k_aload_n hq dX12_tells_151 0 rfl ?_
  refine k_aload_n hq dX12_tells_152 0 rfl ?_
  refine k_gi hq (C := RX12) (T := TX12) 11 32 rfl (by decide) (lay_X12 32 (by decide)) tw_959 dX12_tells_153 fun v2 => ?_
  refine k_if_ne hq (tgt := 163) dX12_tells_156 (by decide) (fun _ => ?_) (fun _ => ?_)
  · refine k_iconst hq dX12_tells_159 (v := 4) rfl ?_
    refine k_goto hq (tgt := 167) dX12_tells_160 (by decide) ?_
    exact k_sub [0, 1] rfl (P_X12_tells_167 hq he N l0 l1 l0 4 h1)
  · refine k_aload_n hq dX12_tells_163 0 rfl ?_
    refine k_gi hq (C := RX12) (T := TX12) 11 32 rfl (by decide) (lay_X12 32 (by decide)) tw_959 dX12_tells_164 fun v3 => ?_
    exact k_sub [0, 1] rfl (P_X12_tells_167 hq he N l0 l1 l0 v3 h1)
set_option maxRecDepth 100000 in
set_option maxHeartbeats 4000000 in
theorem P_X12_tells_129 {q : eT} {r0 : Int32} {h0 : eH} (hq : e_B q yX12_tells.cls cX12_tells 3 5 112 (some .int) yX12_tells.name) (he : e_E q) (N : Nat) (l0 : Nat) (l1 : Int32) (s0 : Nat) (s1 : Int32) (h : eH) : e_K eI q r0 h0 129 [(0, .ref l0), (1, .int l1)] [.int s1, .ref s0] h (F_X12_tells_129 N l0 l1 s0 s1 h) := by
  unfold F_X12_tells_129
  refine k_p hq (C := RX12) (T := TX12) 11 0 rfl (by decide) lay_X12 tyX12 tyX12_ok nmX12 tw_927 rfl rfl rfl dX12_tells_129 fun h1 => ?_
  refine k_aload_n hq dX12_tells_132 0 rfl ?_
  refine k_aload_n hq dX12_tells_133 0 rfl ?_
  refine k_gi hq (C := RX12) (T := TX12) 11 31 rfl (by decide) (lay_X12 31 (by decide)) tw_958 dX12_tells_134 fun v2 => ?_
  refine k_if_ne hq (tgt := 144) dX12_tells_137 (by decide) (fun _ => ?_) (fun _ => ?_)
  · refine k_iconst hq dX12_tells_140 (v := 4) rfl ?_
    refine k_goto hq (tgt := 148) dX12_tells_141 (by decide) ?_
    exact k_sub [0, 1] rfl (P_X12_tells_148 hq he N l0 l1 l0 4 h1)
  · refine k_aload_n hq dX12_tells_144 0 rfl ?_
    refine k_gi hq (C := RX12) (T := TX12) 11 31 rfl (by decide) (lay_X12 31 (by decide)) tw_958 dX12_tells_145 fun v3 => ?_
    exact k_sub [0, 1] rfl (P_X12_tells_148 hq he N l0 l1 l0 v3 h1)
set_option maxRecDepth 100000 in
set_option maxHeartbeats 4000000 in
theorem P_X12_tells_51b {q : eT} {r0 : Int32} {h0 : eH} (hq : e_B q yX12_tells.cls cX12_tells 3 5 112 (some .int) yX12_tells.name) (he : e_E q) (N : Nat) (k51 : Nat → Int32 → eH → Option (Int32 × eH)) (hk51 : ∀ (l0 : Nat) (l1 : Int32) h, e_K eI q r0 h0 51 [(0, .ref l0), (1, .int l1)] [] h (k51 l0 l1 h)) (l0 : Nat) (l1 : Int32) (h : eH) : e_K eI q r0 h0 51 [(0, .ref l0), (1, .int l1)] [] h (F_X12_tells_51b N k51 l0 l1 h) := by
  unfold F_X12_tells_51b
  refine k_aload_n hq dX12_tells_51 0 rfl ?_
  refine k_gi hq (C := RX12) (T := TX12) 11 26 rfl (by decide) (lay_X12 26 (by decide)) tw_953 dX12_tells_52 fun v1 => ?_
  refine k_aload_n hq dX12_tells_55 0 rfl ?_
  refine k_gi hq (C := RX12) (T := TX12) 11 24 rfl (by decide) (lay_X12 24 (by decide)) tw_951 dX12_tells_56 fun v2 => ?_
  refine k_icmp_ge hq (tgt := 104) dX12_tells_59 (by decide) (fun _ => ?_) (fun _ => ?_)
  · refine k_aload_n hq dX12_tells_104 0 rfl ?_
    refine k_iconst hq dX12_tells_105 (v := 0) rfl ?_
    refine k_p hq (C := RX12) (T := TX12) 11 24 rfl (by decide) lay_X12 tyX12 tyX12_ok nmX12 tw_951 rfl rfl rfl dX12_tells_106 fun h3 => ?_
    refine k_aload_n hq dX12_tells_109 0 rfl ?_
    refine k_callV hq (na := 0) (As := []) (st := []) 11 (C := RX12) (T := TX12) rfl (con_X12_forgets _ _ _ _ N l0) tw_926 tw_59 tw_923 tw_925 tw_22 ⟨by decide, by decide, by decide +kernel⟩ rfl (by decide) rfl (Nat.le_of_ble_eq_true rfl) dX12_tells_110 fun v4 h5 => ?_
    refine k_aload_n hq dX12_tells_113 0 rfl ?_
    refine k_aload_n hq dX12_tells_114 0 rfl ?_
    refine k_gi hq (C := RX12) (T := TX12) 11 30 rfl (by decide) (lay_X12 30 (by decide)) tw_957 dX12_tells_115 fun v6 => ?_
    refine k_if_ne hq (tgt := 125) dX12_tells_118 (by decide) (fun _ => ?_) (fun _ => ?_)
    · refine k_iconst hq dX12_tells_121 (v := 3) rfl ?_
      refine k_goto hq (tgt := 129) dX12_tells_122 (by decide) ?_
      exact k_sub [0, 1] rfl (P_X12_tells_129 hq he N l0 l1 l0 3 h5)
    · refine k_aload_n hq dX12_tells_125 0 rfl ?_
      refine k_gi hq (C := RX12) (T := TX12) 11 30 rfl (by decide) (lay_X12 30 (by decide)) tw_957 dX12_tells_126 fun v7 => ?_
      exact k_sub [0, 1] rfl (P_X12_tells_129 hq he N l0 l1 l0 v7 h5)
  · refine k_aload_n hq dX12_tells_62 0 rfl ?_
    refine k_callV hq (na := 0) (As := []) (st := []) 11 (C := RX12) (T := TX12) rfl (con_X12_readsItem _ _ _ _ N l0) tw_1075 tw_59 tw_1072 tw_1074 tw_24 ⟨by decide, by decide, by decide +kernel⟩ rfl (by decide) rfl (Nat.le_of_ble_eq_true rfl) dX12_tells_63 fun v8 h9 => ?_
    refine k_if_ne hq (tgt := 77) dX12_tells_66 (by decide) (fun _ => ?_) (fun _ => ?_)
    · refine k_bipush hq dX12_tells_69 (v := (-10)) rfl ?_
      refine k_aload_n hq dX12_tells_71 0 rfl ?_
      refine k_gi hq (C := RX12) (T := TX12) 11 27 rfl (by decide) (lay_X12 27 (by decide)) tw_954 dX12_tells_72 fun v10 => ?_
      refine k_isub hq dX12_tells_75 ?_
      exact k_iret hq dX12_tells_76 he
    · refine k_iinc hq dX12_tells_77 1 rfl (v := l1 + 1) rfl (by decide) (ls' := [(1, .int (l1 + 1)), (0, .ref l0)]) rfl ?_
      exact k_sub [1, 0] rfl (Q_X12_tells_80 hq he N k51 hk51 l0 (l1 + 1) h9)
theorem Q_X12_tells_51 {q : eT} {r0 : Int32} {h0 : eH} (hq : e_B q yX12_tells.cls cX12_tells 3 5 112 (some .int) yX12_tells.name) (he : e_E q) (N : Nat) (l0 : Nat) (l1 : Int32) (h : eH) : e_K eI q r0 h0 51 [(0, .ref l0), (1, .int l1)] [] h (L_X12_tells_51 N l0 l1 h) :=
  k_loop (mk := (fun s => [(0, .ref s.1), (1, .int s.2.1)])) (hp := fun s => s.2.2) (fun k hk s => P_X12_tells_51b hq he N (fun l0 l1 h => k (l0, l1, h)) (fun l0 l1 h => hk (l0, l1, h)) s.1 s.2.1 s.2.2) N (l0, l1, h)
set_option maxRecDepth 100000 in
set_option maxHeartbeats 4000000 in
theorem P_X12_tells_27b {q : eT} {r0 : Int32} {h0 : eH} (hq : e_B q yX12_tells.cls cX12_tells 3 5 112 (some .int) yX12_tells.name) (he : e_E q) (N : Nat) (k27 : Nat → Int32 → eH → Option (Int32 × eH)) (hk27 : ∀ (l0 : Nat) (l1 : Int32) h, e_K eI q r0 h0 27 [(0, .ref l0), (1, .int l1)] [] h (k27 l0 l1 h)) (l0 : Nat) (l1 : Int32) (h : eH) : e_K eI q r0 h0 27 [(0, .ref l0), (1, .int l1)] [] h (F_X12_tells_27b N k27 l0 l1 h) := by
  unfold F_X12_tells_27b
  refine k_aload_n hq dX12_tells_27 0 rfl ?_
  refine k_bipush hq dX12_tells_28 (v := 32) rfl ?_
  refine k_bipush hq dX12_tells_30 (v := 32) rfl ?_
  refine k_callV hq (na := 2) (As := [.int 32, .int 32]) (st := []) 11 (C := RX12) (T := TX12) rfl (con_X12_isBetween _ _ _ _ l0 32 32) tw_1071 tw_59 tw_1068 tw_1070 tw_23 ⟨by decide, by decide, by decide +kernel⟩ rfl (by decide) rfl (Nat.le_of_ble_eq_true rfl) dX12_tells_32 fun v1 h2 => ?_
  refine k_if_eq hq (tgt := 51) dX12_tells_35 (by decide) (fun _ => ?_) (fun _ => ?_)
  · exact k_sub [0, 1] rfl (Q_X12_tells_51 hq he N l0 l1 h2)
  · refine k_aload_n hq dX12_tells_38 0 rfl ?_
    refine k_dup hq dX12_tells_39 rfl ?_
    refine k_gi hq (C := RX12) (T := TX12) 11 26 rfl (by decide) (lay_X12 26 (by decide)) tw_953 dX12_tells_40 fun v3 => ?_
    refine k_iconst hq dX12_tells_43 (v := 1) rfl ?_
    refine k_iadd hq dX12_tells_44 ?_
    refine k_p hq (C := RX12) (T := TX12) 11 26 rfl (by decide) lay_X12 tyX12 tyX12_ok nmX12 tw_953 rfl rfl rfl dX12_tells_45 fun h4 => ?_
    refine k_goto hq (tgt := 27) dX12_tells_48 (by decide) ?_
    exact k_sub [0, 1] rfl (hk27 l0 l1 h4)
theorem Q_X12_tells_27 {q : eT} {r0 : Int32} {h0 : eH} (hq : e_B q yX12_tells.cls cX12_tells 3 5 112 (some .int) yX12_tells.name) (he : e_E q) (N : Nat) (l0 : Nat) (l1 : Int32) (h : eH) : e_K eI q r0 h0 27 [(0, .ref l0), (1, .int l1)] [] h (L_X12_tells_27 N l0 l1 h) :=
  k_loop (mk := (fun s => [(0, .ref s.1), (1, .int s.2.1)])) (hp := fun s => s.2.2) (fun k hk s => P_X12_tells_27b hq he N (fun l0 l1 h => k (l0, l1, h)) (fun l0 l1 h => hk (l0, l1, h)) s.1 s.2.1 s.2.2) N (l0, l1, h)
set_option maxRecDepth 100000 in
set_option maxHeartbeats 4000000 in
theorem P_X12_tells_0 {q : eT} {r0 : Int32} {h0 : eH} (hq : e_B q yX12_tells.cls cX12_tells 3 5 112 (some .int) yX12_tells.name) (he : e_E q) (N : Nat) (l0 : Nat) (h : eH) : e_K eI q r0 h0 0 [(0, .ref l0)] [] h (F_X12_tells N l0 h) := by
  unfold F_X12_tells
  refine k_aload_n hq dX12_tells_0 0 rfl ?_
  refine k_iconst hq dX12_tells_1 (v := 0) rfl ?_
  refine k_p hq (C := RX12) (T := TX12) 11 26 rfl (by decide) lay_X12 tyX12 tyX12_ok nmX12 tw_953 rfl rfl rfl dX12_tells_2 fun h1 => ?_
  refine k_aload_n hq dX12_tells_5 0 rfl ?_
  refine k_iconst hq dX12_tells_6 (v := 0) rfl ?_
  refine k_p hq (C := RX12) (T := TX12) 11 30 rfl (by decide) lay_X12 tyX12 tyX12_ok nmX12 tw_957 rfl rfl rfl dX12_tells_7 fun h2 => ?_
  refine k_aload_n hq dX12_tells_10 0 rfl ?_
  refine k_iconst hq dX12_tells_11 (v := 0) rfl ?_
  refine k_p hq (C := RX12) (T := TX12) 11 31 rfl (by decide) lay_X12 tyX12 tyX12_ok nmX12 tw_958 rfl rfl rfl dX12_tells_12 fun h3 => ?_
  refine k_aload_n hq dX12_tells_15 0 rfl ?_
  refine k_iconst hq dX12_tells_16 (v := 0) rfl ?_
  refine k_p hq (C := RX12) (T := TX12) 11 32 rfl (by decide) lay_X12 tyX12 tyX12_ok nmX12 tw_959 rfl rfl rfl dX12_tells_17 fun h4 => ?_
  refine k_aload_n hq dX12_tells_20 0 rfl ?_
  refine k_iconst hq dX12_tells_21 (v := 0) rfl ?_
  refine k_p hq (C := RX12) (T := TX12) 11 33 rfl (by decide) lay_X12 tyX12 tyX12_ok nmX12 tw_960 rfl rfl rfl dX12_tells_22 fun h5 => ?_
  refine k_iconst hq dX12_tells_25 (v := 0) rfl ?_
  refine k_istore_n hq dX12_tells_26 rfl (by decide) (ls' := [(1, .int 0), (0, .ref l0)]) rfl ?_
  exact k_sub [1, 0] rfl (Q_X12_tells_27 hq he N l0 0 h5)
theorem con_X12_tells (l : Launch) (G : eG) (B0 n : Nat) (N : Nat) (l0 : Nat) : e_C eI l G B0 n yX12_tells cX12_tells 3 (some .int) 5 112 [.ref l0] (F_X12_tells N l0) := by
  refine e_mk (by decide) (Nat.le_of_ble_eq_true rfl) fun q r0 h0 h hq he e1 e2 e3 e4 => ?_
  subst e1; subst e2; subst e3; subst e4
  exact P_X12_tells_0 hq he N l0 h
set_option maxRecDepth 100000 in
set_option maxHeartbeats 4000000 in
theorem P_X12_siblings_43 {q : eT} {r0 : Int32} {h0 : eH} (hq : e_B q yX12_siblings.cls cX12_siblings 5 1 21 (some .int) yX12_siblings.name) (he : e_E q) (N : Nat) (k9 : Nat → Int32 → Int32 → Int32 → Int32 → eH → Option (Int32 × eH)) (hk9 : ∀ (l0 : Nat) (l1 : Int32) (l2 : Int32) (l3 : Int32) (l4 : Int32) h, e_K eI q r0 h0 9 [(0, .ref l0), (1, .int l1), (2, .int l2), (3, .int l3), (4, .int l4)] [] h (k9 l0 l1 l2 l3 l4 h)) (l0 : Nat) (l1 : Int32) (l2 : Int32) (l4 : Int32) (s0 : Int32) (s1 : Int32) (h : eH) : e_K eI q r0 h0 43 [(0, .ref l0), (1, .int l1), (2, .int l2), (4, .int l4)] [.int s1, .int s0] h (F_X12_siblings_43 N k9 l0 l1 l2 l4 s0 s1 h) := by
  unfold F_X12_siblings_43
  refine k_iadd hq dX12_siblings_43 ?_
  refine k_let (mk := fun z => .int z :: []) fun v1 _ => ?_
  refine k_istore_n hq dX12_siblings_44 rfl (by decide) (ls' := [(3, .int v1), (0, .ref l0), (1, .int l1), (2, .int l2), (4, .int l4)]) rfl ?_
  refine k_iinc hq dX12_siblings_45 4 rfl (v := l4 + 1) rfl (by decide) (ls' := [(4, .int (l4 + 1)), (3, .int v1), (0, .ref l0), (1, .int l1), (2, .int l2)]) rfl ?_
  refine k_goto hq (tgt := 9) dX12_siblings_48 (by decide) ?_
  exact k_sub [2, 3, 4, 1, 0] rfl (hk9 l0 l1 l2 v1 (l4 + 1) h)
set_option maxRecDepth 100000 in
set_option maxHeartbeats 4000000 in
theorem P_X12_siblings_9b {q : eT} {r0 : Int32} {h0 : eH} (hq : e_B q yX12_siblings.cls cX12_siblings 5 1 21 (some .int) yX12_siblings.name) (he : e_E q) (N : Nat) (k9 : Nat → Int32 → Int32 → Int32 → Int32 → eH → Option (Int32 × eH)) (hk9 : ∀ (l0 : Nat) (l1 : Int32) (l2 : Int32) (l3 : Int32) (l4 : Int32) h, e_K eI q r0 h0 9 [(0, .ref l0), (1, .int l1), (2, .int l2), (3, .int l3), (4, .int l4)] [] h (k9 l0 l1 l2 l3 l4 h)) (l0 : Nat) (l1 : Int32) (l2 : Int32) (l3 : Int32) (l4 : Int32) (h : eH) : e_K eI q r0 h0 9 [(0, .ref l0), (1, .int l1), (2, .int l2), (3, .int l3), (4, .int l4)] [] h (F_X12_siblings_9b N k9 l0 l1 l2 l3 l4 h) := by
  unfold F_X12_siblings_9b
  refine k_iload hq dX12_siblings_9 4 rfl ?_
  refine k_sipush hq dX12_siblings_11 (v := 164) rfl ?_
  refine k_iload_n hq dX12_siblings_14 2 rfl ?_
  refine k_imul hq dX12_siblings_15 ?_
  refine k_sipush hq dX12_siblings_16 (v := 164) rfl ?_
  refine k_iadd hq dX12_siblings_19 ?_
  refine k_icmp_ge hq (tgt := 51) dX12_siblings_20 (by decide) (fun _ => ?_) (fun _ => ?_)
  · refine k_iload_n hq dX12_siblings_51 3 rfl ?_
    exact k_iret hq dX12_siblings_52 he
  · refine k_iload_n hq dX12_siblings_23 3 rfl ?_
    refine k_aload_n hq dX12_siblings_24 0 rfl ?_
    refine k_gr hq (C := RX12) (T := TX12) 11 14 rfl (by decide) (lay_X12 14 (by decide)) tw_941 dX12_siblings_25 fun v1 => ?_
    refine k_iload hq dX12_siblings_28 4 rfl ?_
    refine k_iald hq dX12_siblings_30 fun v2 => ?_
    refine k_iload_n hq dX12_siblings_31 1 rfl ?_
    refine k_callS hq (na := 2) (As := [.int v2, .int l1]) (st := [.int l3]) (con_X12_has _ _ _ _ v2 l1) tw_1118 tw_59 tw_1116 tw_1117 ⟨by decide, by decide, by decide +kernel⟩ rfl (by decide) rfl (Nat.le_of_ble_eq_true rfl) dX12_siblings_32 fun v3 h4 => ?_
    refine k_if_eq hq (tgt := 42) dX12_siblings_35 (by decide) (fun _ => ?_) (fun _ => ?_)
    · refine k_iconst hq dX12_siblings_42 (v := 0) rfl ?_
      exact k_sub [0, 1, 2, 4] rfl (P_X12_siblings_43 hq he N k9 hk9 l0 l1 l2 l4 l3 0 h4)
    · refine k_iconst hq dX12_siblings_38 (v := 1) rfl ?_
      refine k_goto hq (tgt := 43) dX12_siblings_39 (by decide) ?_
      exact k_sub [0, 1, 2, 4] rfl (P_X12_siblings_43 hq he N k9 hk9 l0 l1 l2 l4 l3 1 h4)
theorem Q_X12_siblings_9 {q : eT} {r0 : Int32} {h0 : eH} (hq : e_B q yX12_siblings.cls cX12_siblings 5 1 21 (some .int) yX12_siblings.name) (he : e_E q) (N : Nat) (l0 : Nat) (l1 : Int32) (l2 : Int32) (l3 : Int32) (l4 : Int32) (h : eH) : e_K eI q r0 h0 9 [(0, .ref l0), (1, .int l1), (2, .int l2), (3, .int l3), (4, .int l4)] [] h (L_X12_siblings_9 N l0 l1 l2 l3 l4 h) :=
  k_loop (mk := (fun s => [(0, .ref s.1), (1, .int s.2.1), (2, .int s.2.2.1), (3, .int s.2.2.2.1), (4, .int s.2.2.2.2.1)])) (hp := fun s => s.2.2.2.2.2) (fun k hk s => P_X12_siblings_9b hq he N (fun l0 l1 l2 l3 l4 h => k (l0, l1, l2, l3, l4, h)) (fun l0 l1 l2 l3 l4 h => hk (l0, l1, l2, l3, l4, h)) s.1 s.2.1 s.2.2.1 s.2.2.2.1 s.2.2.2.2.1 s.2.2.2.2.2) N (l0, l1, l2, l3, l4, h)
set_option maxRecDepth 100000 in
set_option maxHeartbeats 4000000 in
theorem P_X12_siblings_0 {q : eT} {r0 : Int32} {h0 : eH} (hq : e_B q yX12_siblings.cls cX12_siblings 5 1 21 (some .int) yX12_siblings.name) (he : e_E q) (N : Nat) (l0 : Nat) (l1 : Int32) (l2 : Int32) (h : eH) : e_K eI q r0 h0 0 [(0, .ref l0), (1, .int l1), (2, .int l2)] [] h (F_X12_siblings N l0 l1 l2 h) := by
  unfold F_X12_siblings
  refine k_iconst hq dX12_siblings_0 (v := 0) rfl ?_
  refine k_istore_n hq dX12_siblings_1 rfl (by decide) (ls' := [(3, .int 0), (0, .ref l0), (1, .int l1), (2, .int l2)]) rfl ?_
  refine k_sipush hq dX12_siblings_2 (v := 164) rfl ?_
  refine k_iload_n hq dX12_siblings_5 3 rfl ?_
  refine k_imul hq dX12_siblings_6 ?_
  refine k_let (mk := fun z => .int z :: []) fun v1 _ => ?_
  refine k_istore hq dX12_siblings_7 (by decide) (ls' := [(4, .int v1), (3, .int 0), (0, .ref l0), (1, .int l1), (2, .int l2)]) rfl ?_
  exact k_sub [2, 3, 4, 1, 0] rfl (Q_X12_siblings_9 hq he N l0 l1 l2 0 v1 h)
theorem con_X12_siblings (l : Launch) (G : eG) (B0 n : Nat) (N : Nat) (l0 : Nat) (l1 : Int32) (l2 : Int32) : e_C eI l G B0 n yX12_siblings cX12_siblings 5 (some .int) 1 21 [.ref l0, .int l1, .int l2] (F_X12_siblings N l0 l1 l2) := by
  refine e_mk (by decide) (Nat.le_of_ble_eq_true rfl) fun q r0 h0 h hq he e1 e2 e3 e4 => ?_
  subst e1; subst e2; subst e3; subst e4
  exact P_X12_siblings_0 hq he N l0 l1 l2 h
set_option maxRecDepth 100000 in
set_option maxHeartbeats 4000000 in
theorem P_X12_eldest_66 {q : eT} {r0 : Int32} {h0 : eH} (hq : e_B q yX12_eldest.cls cX12_eldest 5 1 21 (some .int) yX12_eldest.name) (he : e_E q) (N : Nat) (k10 : Nat → Int32 → Int32 → Int32 → Int32 → eH → Option (Int32 × eH)) (hk10 : ∀ (l0 : Nat) (l1 : Int32) (l2 : Int32) (l3 : Int32) (l4 : Int32) h, e_K eI q r0 h0 10 [(0, .ref l0), (1, .int l1), (2, .int l2), (3, .int l3), (4, .int l4)] [] h (k10 l0 l1 l2 l3 l4 h)) (l0 : Nat) (l1 : Int32) (l2 : Int32) (l4 : Int32) (s0 : Int32) (h : eH) : e_K eI q r0 h0 66 [(0, .ref l0), (1, .int l1), (2, .int l2), (4, .int l4)] [.int s0] h (F_X12_eldest_66 N k10 l0 l1 l2 l4 s0 h) := by
  unfold F_X12_eldest_66
  refine k_istore_n hq dX12_eldest_66 rfl (by decide) (ls' := [(3, .int s0), (0, .ref l0), (1, .int l1), (2, .int l2), (4, .int l4)]) rfl ?_
  refine k_iinc hq dX12_eldest_67 4 rfl (v := l4 + 1) rfl (by decide) (ls' := [(4, .int (l4 + 1)), (3, .int s0), (0, .ref l0), (1, .int l1), (2, .int l2)]) rfl ?_
  refine k_goto hq (tgt := 10) dX12_eldest_70 (by decide) ?_
  exact k_sub [2, 3, 4, 1, 0] rfl (hk10 l0 l1 l2 s0 (l4 + 1) h)
set_option maxRecDepth 100000 in
set_option maxHeartbeats 4000000 in
theorem P_X12_eldest_60 {q : eT} {r0 : Int32} {h0 : eH} (hq : e_B q yX12_eldest.cls cX12_eldest 5 1 21 (some .int) yX12_eldest.name) (he : e_E q) (N : Nat) (k10 : Nat → Int32 → Int32 → Int32 → Int32 → eH → Option (Int32 × eH)) (hk10 : ∀ (l0 : Nat) (l1 : Int32) (l2 : Int32) (l3 : Int32) (l4 : Int32) h, e_K eI q r0 h0 10 [(0, .ref l0), (1, .int l1), (2, .int l2), (3, .int l3), (4, .int l4)] [] h (k10 l0 l1 l2 l3 l4 h)) (l0 : Nat) (l1 : Int32) (l2 : Int32) (l4 : Int32) (h : eH) : e_K eI q r0 h0 60 [(0, .ref l0), (1, .int l1), (2, .int l2), (4, .int l4)] [] h (F_X12_eldest_60 N k10 l0 l1 l2 l4 h) := by
  unfold F_X12_eldest_60
  refine k_iload hq dX12_eldest_60 3 rfl ?_
  refine k_goto hq (tgt := 66) dX12_eldest_62 (by decide) ?_
  exact k_sub [0, 1, 2, 3] rfl (P_X12_eldest_66 hq he N k10 hk10 l0 l1 l2 l4 l4 h)
set_option maxRecDepth 100000 in
set_option maxHeartbeats 4000000 in
theorem P_X12_eldest_65 {q : eT} {r0 : Int32} {h0 : eH} (hq : e_B q yX12_eldest.cls cX12_eldest 5 1 21 (some .int) yX12_eldest.name) (he : e_E q) (N : Nat) (k10 : Nat → Int32 → Int32 → Int32 → Int32 → eH → Option (Int32 × eH)) (hk10 : ∀ (l0 : Nat) (l1 : Int32) (l2 : Int32) (l3 : Int32) (l4 : Int32) h, e_K eI q r0 h0 10 [(0, .ref l0), (1, .int l1), (2, .int l2), (3, .int l3), (4, .int l4)] [] h (k10 l0 l1 l2 l3 l4 h)) (l0 : Nat) (l1 : Int32) (l2 : Int32) (l3 : Int32) (l4 : Int32) (h : eH) : e_K eI q r0 h0 65 [(0, .ref l0), (1, .int l1), (2, .int l2), (3, .int l3), (4, .int l4)] [] h (F_X12_eldest_65 N k10 l0 l1 l2 l3 l4 h) := by
  unfold F_X12_eldest_65
  refine k_iload_n hq dX12_eldest_65 3 rfl ?_
  exact k_sub [0, 1, 2, 4] rfl (P_X12_eldest_66 hq he N k10 hk10 l0 l1 l2 l4 l3 h)
set_option maxRecDepth 100000 in
set_option maxHeartbeats 4000000 in
theorem P_X12_eldest_10b {q : eT} {r0 : Int32} {h0 : eH} (hq : e_B q yX12_eldest.cls cX12_eldest 5 1 21 (some .int) yX12_eldest.name) (he : e_E q) (N : Nat) (k10 : Nat → Int32 → Int32 → Int32 → Int32 → eH → Option (Int32 × eH)) (hk10 : ∀ (l0 : Nat) (l1 : Int32) (l2 : Int32) (l3 : Int32) (l4 : Int32) h, e_K eI q r0 h0 10 [(0, .ref l0), (1, .int l1), (2, .int l2), (3, .int l3), (4, .int l4)] [] h (k10 l0 l1 l2 l3 l4 h)) (l0 : Nat) (l1 : Int32) (l2 : Int32) (l3 : Int32) (l4 : Int32) (h : eH) : e_K eI q r0 h0 10 [(0, .ref l0), (1, .int l1), (2, .int l2), (3, .int l3), (4, .int l4)] [] h (F_X12_eldest_10b N k10 l0 l1 l2 l3 l4 h) := by
  unfold F_X12_eldest_10b
  refine k_iload hq dX12_eldest_10 4 rfl ?_
  refine k_sipush hq dX12_eldest_12 (v := 164) rfl ?_
  refine k_iload_n hq dX12_eldest_15 2 rfl ?_
  refine k_imul hq dX12_eldest_16 ?_
  refine k_sipush hq dX12_eldest_17 (v := 164) rfl ?_
  refine k_iadd hq dX12_eldest_20 ?_
  refine k_icmp_ge hq (tgt := 73) dX12_eldest_21 (by decide) (fun _ => ?_) (fun _ => ?_)
  · refine k_iload_n hq dX12_eldest_73 3 rfl ?_
    exact k_iret hq dX12_eldest_74 he
  · refine k_aload_n hq dX12_eldest_24 0 rfl ?_
    refine k_gr hq (C := RX12) (T := TX12) 11 14 rfl (by decide) (lay_X12 14 (by decide)) tw_941 dX12_eldest_25 fun v1 => ?_
    refine k_iload hq dX12_eldest_28 4 rfl ?_
    refine k_iald hq dX12_eldest_30 fun v2 => ?_
    refine k_iload_n hq dX12_eldest_31 1 rfl ?_
    refine k_callS hq (na := 2) (As := [.int v2, .int l1]) (st := []) (con_X12_has _ _ _ _ v2 l1) tw_1118 tw_59 tw_1116 tw_1117 ⟨by decide, by decide, by decide +kernel⟩ rfl (by decide) rfl (Nat.le_of_ble_eq_true rfl) dX12_eldest_32 fun v3 h4 => ?_
    refine k_if_eq hq (tgt := 65) dX12_eldest_35 (by decide) (fun _ => ?_) (fun _ => ?_)
    · exact k_sub [0, 1, 2, 3, 4] rfl (P_X12_eldest_65 hq he N k10 hk10 l0 l1 l2 l3 l4 h4)
    · refine k_iload_n hq dX12_eldest_38 3 rfl ?_
      refine k_bipush hq dX12_eldest_39 (v := (-9)) rfl ?_
      refine k_icmp_eq hq (tgt := 60) dX12_eldest_41 (by decide) (fun _ => ?_) (fun _ => ?_)
      · exact k_sub [0, 1, 2, 4] rfl (P_X12_eldest_60 hq he N k10 hk10 l0 l1 l2 l4 h4)
      · refine k_aload_n hq dX12_eldest_44 0 rfl ?_
        refine k_gr hq (C := RX12) (T := TX12) 11 7 rfl (by decide) (lay_X12 7 (by decide)) tw_934 dX12_eldest_45 fun v5 => ?_
        refine k_iload hq dX12_eldest_48 4 rfl ?_
        refine k_iald hq dX12_eldest_50 fun v6 => ?_
        refine k_aload_n hq dX12_eldest_51 0 rfl ?_
        refine k_gr hq (C := RX12) (T := TX12) 11 7 rfl (by decide) (lay_X12 7 (by decide)) tw_934 dX12_eldest_52 fun v7 => ?_
        refine k_iload_n hq dX12_eldest_55 3 rfl ?_
        refine k_iald hq dX12_eldest_56 fun v8 => ?_
        refine k_icmp_ge hq (tgt := 65) dX12_eldest_57 (by decide) (fun _ => ?_) (fun _ => ?_)
        · exact k_sub [0, 1, 2, 3, 4] rfl (P_X12_eldest_65 hq he N k10 hk10 l0 l1 l2 l3 l4 h4)
        · exact k_sub [0, 1, 2, 4] rfl (P_X12_eldest_60 hq he N k10 hk10 l0 l1 l2 l4 h4)
theorem Q_X12_eldest_10 {q : eT} {r0 : Int32} {h0 : eH} (hq : e_B q yX12_eldest.cls cX12_eldest 5 1 21 (some .int) yX12_eldest.name) (he : e_E q) (N : Nat) (l0 : Nat) (l1 : Int32) (l2 : Int32) (l3 : Int32) (l4 : Int32) (h : eH) : e_K eI q r0 h0 10 [(0, .ref l0), (1, .int l1), (2, .int l2), (3, .int l3), (4, .int l4)] [] h (L_X12_eldest_10 N l0 l1 l2 l3 l4 h) :=
  k_loop (mk := (fun s => [(0, .ref s.1), (1, .int s.2.1), (2, .int s.2.2.1), (3, .int s.2.2.2.1), (4, .int s.2.2.2.2.1)])) (hp := fun s => s.2.2.2.2.2) (fun k hk s => P_X12_eldest_10b hq he N (fun l0 l1 l2 l3 l4 h => k (l0, l1, l2, l3, l4, h)) (fun l0 l1 l2 l3 l4 h => hk (l0, l1, l2, l3, l4, h)) s.1 s.2.1 s.2.2.1 s.2.2.2.1 s.2.2.2.2.1 s.2.2.2.2.2) N (l0, l1, l2, l3, l4, h)
set_option maxRecDepth 100000 in
set_option maxHeartbeats 4000000 in
theorem P_X12_eldest_0 {q : eT} {r0 : Int32} {h0 : eH} (hq : e_B q yX12_eldest.cls cX12_eldest 5 1 21 (some .int) yX12_eldest.name) (he : e_E q) (N : Nat) (l0 : Nat) (l1 : Int32) (l2 : Int32) (h : eH) : e_K eI q r0 h0 0 [(0, .ref l0), (1, .int l1), (2, .int l2)] [] h (F_X12_eldest N l0 l1 l2 h) := by
  unfold F_X12_eldest
  refine k_bipush hq dX12_eldest_0 (v := (-9)) rfl ?_
  refine k_istore_n hq dX12_eldest_2 rfl (by decide) (ls' := [(3, .int (-9)), (0, .ref l0), (1, .int l1), (2, .int l2)]) rfl ?_
  refine k_sipush hq dX12_eldest_3 (v := 164) rfl ?_
  refine k_iload_n hq dX12_eldest_6 3 rfl ?_
  refine k_imul hq dX12_eldest_7 ?_
  refine k_let (mk := fun z => .int z :: []) fun v1 _ => ?_
  refine k_istore hq dX12_eldest_8 (by decide) (ls' := [(4, .int v1), (3, .int (-9)), (0, .ref l0), (1, .int l1), (2, .int l2)]) rfl ?_
  exact k_sub [2, 3, 4, 1, 0] rfl (Q_X12_eldest_10 hq he N l0 l1 l2 (-9) v1 h)
theorem con_X12_eldest (l : Launch) (G : eG) (B0 n : Nat) (N : Nat) (l0 : Nat) (l1 : Int32) (l2 : Int32) : e_C eI l G B0 n yX12_eldest cX12_eldest 5 (some .int) 1 21 [.ref l0, .int l1, .int l2] (F_X12_eldest N l0 l1 l2) := by
  refine e_mk (by decide) (Nat.le_of_ble_eq_true rfl) fun q r0 h0 h hq he e1 e2 e3 e4 => ?_
  subst e1; subst e2; subst e3; subst e4
  exact P_X12_eldest_0 hq he N l0 l1 l2 h
set_option maxRecDepth 100000 in
set_option maxHeartbeats 4000000 in
theorem P_X12_bounds_0b {q : eT} {r0 : Unit} {h0 : eH} (hq : e_B q yX12_bounds.cls cX12_bounds 4 2 45 none yX12_bounds.name) (he : e_E q) (N : Nat) (k0 : Nat → Int32 → Int32 → eH → Option (Unit × eH)) (hk0 : ∀ (l0 : Nat) (l1 : Int32) (l2 : Int32) h, e_K eV q r0 h0 0 [(0, .ref l0), (1, .int l1), (2, .int l2)] [] h (k0 l0 l1 l2 h)) (l0 : Nat) (l1 : Int32) (l2 : Int32) (h : eH) : e_K eV q r0 h0 0 [(0, .ref l0), (1, .int l1), (2, .int l2)] [] h (F_X12_bounds_0b N k0 l0 l1 l2 h) := by
  unfold F_X12_bounds_0b
  refine k_aload_n hq dX12_bounds_0 0 rfl ?_
  refine k_iload_n hq dX12_bounds_1 1 rfl ?_
  refine k_iload_n hq dX12_bounds_2 2 rfl ?_
  refine k_callV hq (na := 2) (As := [.int l1, .int l2]) (st := []) 11 (C := RX12) (T := TX12) rfl (con_X12_siblings _ _ _ _ N l0 l1 l2) tw_1122 tw_59 tw_1119 tw_1121 tw_30 ⟨by decide, by decide, by decide +kernel⟩ rfl (by decide) rfl (Nat.le_of_ble_eq_true rfl) dX12_bounds_3 fun v1 h2 => ?_
  refine k_aload_n hq dX12_bounds_6 0 rfl ?_
  refine k_gi hq (C := RX12) (T := TX12) 11 1 rfl (by decide) (lay_X12 1 (by decide)) tw_928 dX12_bounds_7 fun v3 => ?_
  refine k_icmp_le hq (tgt := 44) dX12_bounds_10 (by decide) (fun _ => ?_) (fun _ => ?_)
  · exact k_vret hq dX12_bounds_44 he
  · refine k_aload_n hq dX12_bounds_13 0 rfl ?_
    refine k_iload_n hq dX12_bounds_14 1 rfl ?_
    refine k_iload_n hq dX12_bounds_15 2 rfl ?_
    refine k_callV hq (na := 2) (As := [.int l1, .int l2]) (st := []) 11 (C := RX12) (T := TX12) rfl (con_X12_eldest _ _ _ _ N l0 l1 l2) tw_1138 tw_59 tw_1135 tw_1137 tw_33 ⟨by decide, by decide, by decide +kernel⟩ rfl (by decide) rfl (Nat.le_of_ble_eq_true rfl) dX12_bounds_16 fun v4 h5 => ?_
    refine k_istore_n hq dX12_bounds_19 rfl (by decide) (ls' := [(3, .int v4), (0, .ref l0), (1, .int l1), (2, .int l2)]) rfl ?_
    refine k_aload_n hq dX12_bounds_20 1 rfl ?_
    refine k_gr hq (C := RX12) (T := TX12) 11 14 rfl (by decide) (lay_X12 14 (by decide)) tw_941 dX12_bounds_21 fun v6 => ?_
    refine k_iload_n hq dX12_bounds_24 0 rfl ?_
    refine k_dup2_11 hq dX12_bounds_25 rfl rfl ?_
    refine k_iald hq dX12_bounds_26 fun v7 => ?_
    refine k_iconst hq dX12_bounds_27 (v := 1) rfl ?_
    refine k_iload_n hq dX12_bounds_28 2 rfl ?_
    refine k_ishl hq dX12_bounds_29 ?_
    refine k_iconst hq dX12_bounds_30 (v := (-1)) rfl ?_
    refine k_ixor hq dX12_bounds_31 ?_
    refine k_iand hq dX12_bounds_32 ?_
    refine k_iast hq dX12_bounds_33 fun h8 => ?_
    refine k_aload_n hq dX12_bounds_34 1 rfl ?_
    refine k_gr hq (C := RX12) (T := TX12) 11 11 rfl (by decide) (lay_X12 11 (by decide)) tw_938 dX12_bounds_35 fun v9 => ?_
    refine k_iload_n hq dX12_bounds_38 0 rfl ?_
    refine k_iconst hq dX12_bounds_39 (v := 1) rfl ?_
    refine k_zast hq dX12_bounds_40 fun h10 => ?_
    refine k_goto hq (tgt := 0) dX12_bounds_41 (by decide) ?_
    exact k_sub [1, 2, 3] rfl (hk0 l0 l1 l2 h10)
theorem Q_X12_bounds_0 {q : eT} {r0 : Unit} {h0 : eH} (hq : e_B q yX12_bounds.cls cX12_bounds 4 2 45 none yX12_bounds.name) (he : e_E q) (N : Nat) (l0 : Nat) (l1 : Int32) (l2 : Int32) (h : eH) : e_K eV q r0 h0 0 [(0, .ref l0), (1, .int l1), (2, .int l2)] [] h (L_X12_bounds_0 N l0 l1 l2 h) :=
  k_loop (mk := (fun s => [(0, .ref s.1), (1, .int s.2.1), (2, .int s.2.2.1)])) (hp := fun s => s.2.2.2) (fun k hk s => P_X12_bounds_0b hq he N (fun l0 l1 l2 h => k (l0, l1, l2, h)) (fun l0 l1 l2 h => hk (l0, l1, l2, h)) s.1 s.2.1 s.2.2.1 s.2.2.2) N (l0, l1, l2, h)
theorem con_X12_bounds (l : Launch) (G : eG) (B0 n : Nat) (N : Nat) (l0 : Nat) (l1 : Int32) (l2 : Int32) : e_C eV l G B0 n yX12_bounds cX12_bounds 4 none 2 45 [.ref l0, .int l1, .int l2] (F_X12_bounds N l0 l1 l2) := by
  refine e_mk (by decide) (Nat.le_of_ble_eq_true rfl) fun q r0 h0 h hq he e1 e2 e3 e4 => ?_
  subst e1; subst e2; subst e3; subst e4
  exact Q_X12_bounds_0 hq he N l0 l1 l2 h
set_option maxRecDepth 100000 in
set_option maxHeartbeats 4000000 in
theorem P_X12_reads_110 {q : eT} {r0 : Int32} {h0 : eH} (hq : e_B q yX12_reads.cls cX12_reads 9 2 46 (some .int) yX12_reads.name) (he : e_E q) (N : Nat) (k38 : Nat → Int32 → Int32 → Int32 → Int32 → Int32 → eH → Option (Int32 × eH)) (hk38 : ∀ (l0 : Nat) (l1 : Int32) (l2 : Int32) (l3 : Int32) (l4 : Int32) (l5 : Int32) h, e_K eI q r0 h0 38 [(0, .ref l0), (1, .int l1), (2, .int l2), (3, .int l3), (4, .int l4), (5, .int l5)] [] h (k38 l0 l1 l2 l3 l4 l5 h)) (l0 : Nat) (l1 : Int32) (l2 : Int32) (l3 : Int32) (l5 : Int32) (s0 : Int32) (s1 : Int32) (h : eH) : e_K eI q r0 h0 110 [(0, .ref l0), (1, .int l1), (2, .int l2), (3, .int l3), (5, .int l5)] [.int s1, .int s0] h (F_X12_reads_110 N k38 l0 l1 l2 l3 l5 s0 s1 h) := by
  unfold F_X12_reads_110
  refine k_iadd hq dX12_reads_110 ?_
  refine k_let (mk := fun z => .int z :: []) fun v1 _ => ?_
  refine k_istore hq dX12_reads_111 (by decide) (ls' := [(4, .int v1), (0, .ref l0), (1, .int l1), (2, .int l2), (3, .int l3), (5, .int l5)]) rfl ?_
  refine k_iinc hq dX12_reads_113 5 rfl (v := l5 + 1) rfl (by decide) (ls' := [(5, .int (l5 + 1)), (4, .int v1), (0, .ref l0), (1, .int l1), (2, .int l2), (3, .int l3)]) rfl ?_
  refine k_goto hq (tgt := 38) dX12_reads_116 (by decide) ?_
  exact k_sub [2, 3, 4, 5, 1, 0] rfl (hk38 l0 l1 l2 l3 v1 (l5 + 1) h)
set_option maxRecDepth 100000 in
set_option maxHeartbeats 4000000 in
theorem P_X12_reads_70 {q : eT} {r0 : Int32} {h0 : eH} (hq : e_B q yX12_reads.cls cX12_reads 9 2 46 (some .int) yX12_reads.name) (he : e_E q) (N : Nat) (k38 : Nat → Int32 → Int32 → Int32 → Int32 → Int32 → eH → Option (Int32 × eH)) (hk38 : ∀ (l0 : Nat) (l1 : Int32) (l2 : Int32) (l3 : Int32) (l4 : Int32) (l5 : Int32) h, e_K eI q r0 h0 38 [(0, .ref l0), (1, .int l1), (2, .int l2), (3, .int l3), (4, .int l4), (5, .int l5)] [] h (k38 l0 l1 l2 l3 l4 l5 h)) (l0 : Nat) (l1 : Int32) (l2 : Int32) (l3 : Int32) (l4 : Int32) (l5 : Int32) (s0 : Int32) (h : eH) : e_K eI q r0 h0 70 [(0, .ref l0), (1, .int l1), (2, .int l2), (3, .int l3), (4, .int l4), (5, .int l5)] [.int s0] h (F_X12_reads_70 N k38 l0 l1 l2 l3 l4 l5 s0 h) := by
  unfold F_X12_reads_70
  refine k_istore hq dX12_reads_70 (by decide) (ls' := [(6, .int s0), (0, .ref l0), (1, .int l1), (2, .int l2), (3, .int l3), (4, .int l4), (5, .int l5)]) rfl ?_
  refine k_aload_n hq dX12_reads_72 1 rfl ?_
  refine k_gr hq (C := RX12) (T := TX12) 11 19 rfl (by decide) (lay_X12 19 (by decide)) tw_946 dX12_reads_73 fun v1 => ?_
  refine k_iconst hq dX12_reads_76 (v := 4) rfl ?_
  refine k_iload_n hq dX12_reads_77 2 rfl ?_
  refine k_imul hq dX12_reads_78 ?_
  refine k_iload hq dX12_reads_79 6 rfl ?_
  refine k_iadd hq dX12_reads_81 ?_
  refine k_iload hq dX12_reads_82 0 rfl ?_
  refine k_iast hq dX12_reads_84 fun h2 => ?_
  refine k_aload_n hq dX12_reads_85 1 rfl ?_
  refine k_gr hq (C := RX12) (T := TX12) 11 20 rfl (by decide) (lay_X12 20 (by decide)) tw_947 dX12_reads_86 fun v3 => ?_
  refine k_iconst hq dX12_reads_89 (v := 4) rfl ?_
  refine k_iload_n hq dX12_reads_90 2 rfl ?_
  refine k_imul hq dX12_reads_91 ?_
  refine k_iload hq dX12_reads_92 6 rfl ?_
  refine k_iadd hq dX12_reads_94 ?_
  refine k_iload hq dX12_reads_95 0 rfl ?_
  refine k_iast hq dX12_reads_97 fun h4 => ?_
  refine k_iload hq dX12_reads_98 5 rfl ?_
  refine k_iload hq dX12_reads_100 0 rfl ?_
  refine k_if_le hq (tgt := 109) dX12_reads_102 (by decide) (fun _ => ?_) (fun _ => ?_)
  · refine k_iconst hq dX12_reads_109 (v := 0) rfl ?_
    exact k_sub [1, 2, 3, 4, 6] rfl (P_X12_reads_110 hq he N k38 hk38 l0 l1 l2 l3 l5 l4 0 h4)
  · refine k_iconst hq dX12_reads_105 (v := 1) rfl ?_
    refine k_goto hq (tgt := 110) dX12_reads_106 (by decide) ?_
    exact k_sub [1, 2, 3, 4, 6] rfl (P_X12_reads_110 hq he N k38 hk38 l0 l1 l2 l3 l5 l4 1 h4)
set_option maxRecDepth 100000 in
set_option maxHeartbeats 4000000 in
theorem P_X12_reads_226 {q : eT} {r0 : Int32} {h0 : eH} (hq : e_B q yX12_reads.cls cX12_reads 9 2 46 (some .int) yX12_reads.name) (he : e_E q) (N : Nat) (k119 : Nat → Int32 → Int32 → Int32 → Int32 → eH → Option (Int32 × eH)) (k135 : Nat → Int32 → Int32 → Int32 → Int32 → Int32 → Int32 → eH → Option (Int32 × eH)) (hk119 : ∀ (l0 : Nat) (l1 : Int32) (l2 : Int32) (l3 : Int32) (l4 : Int32) h, e_K eI q r0 h0 119 [(0, .ref l0), (1, .int l1), (2, .int l2), (3, .int l3), (4, .int l4)] [] h (k119 l0 l1 l2 l3 l4 h)) (hk135 : ∀ (l0 : Nat) (l1 : Int32) (l2 : Int32) (l3 : Int32) (l4 : Int32) (l5 : Int32) (l6 : Int32) h, e_K eI q r0 h0 135 [(0, .ref l0), (1, .int l1), (2, .int l2), (3, .int l3), (4, .int l4), (5, .int l5), (6, .int l6)] [] h (k135 l0 l1 l2 l3 l4 l5 l6 h)) (l0 : Nat) (l1 : Int32) (l2 : Int32) (l3 : Int32) (l4 : Int32) (l6 : Int32) (s0 : Int32) (h : eH) : e_K eI q r0 h0 226 [(0, .ref l0), (1, .int l1), (2, .int l2), (3, .int l3), (4, .int l4), (6, .int l6)] [.int s0] h (F_X12_reads_226 N k119 k135 l0 l1 l2 l3 l4 l6 s0 h) := by
  unfold F_X12_reads_226
  refine k_istore hq dX12_reads_226 (by decide) (ls' := [(5, .int s0), (0, .ref l0), (1, .int l1), (2, .int l2), (3, .int l3), (4, .int l4), (6, .int l6)]) rfl ?_
  refine k_iinc hq dX12_reads_228 6 rfl (v := l6 + 1) rfl (by decide) (ls' := [(6, .int (l6 + 1)), (5, .int s0), (0, .ref l0), (1, .int l1), (2, .int l2), (3, .int l3), (4, .int l4)]) rfl ?_
  refine k_goto hq (tgt := 135) dX12_reads_231 (by decide) ?_
  exact k_sub [2, 3, 4, 5, 6, 1, 0] rfl (hk135 l0 l1 l2 l3 l4 s0 (l6 + 1) h)
set_option maxRecDepth 100000 in
set_option maxHeartbeats 4000000 in
theorem P_X12_reads_212 {q : eT} {r0 : Int32} {h0 : eH} (hq : e_B q yX12_reads.cls cX12_reads 9 2 46 (some .int) yX12_reads.name) (he : e_E q) (N : Nat) (k119 : Nat → Int32 → Int32 → Int32 → Int32 → eH → Option (Int32 × eH)) (k135 : Nat → Int32 → Int32 → Int32 → Int32 → Int32 → Int32 → eH → Option (Int32 × eH)) (hk119 : ∀ (l0 : Nat) (l1 : Int32) (l2 : Int32) (l3 : Int32) (l4 : Int32) h, e_K eI q r0 h0 119 [(0, .ref l0), (1, .int l1), (2, .int l2), (3, .int l3), (4, .int l4)] [] h (k119 l0 l1 l2 l3 l4 h)) (hk135 : ∀ (l0 : Nat) (l1 : Int32) (l2 : Int32) (l3 : Int32) (l4 : Int32) (l5 : Int32) (l6 : Int32) h, e_K eI q r0 h0 135 [(0, .ref l0), (1, .int l1), (2, .int l2), (3, .int l3), (4, .int l4), (5, .int l5), (6, .int l6)] [] h (k135 l0 l1 l2 l3 l4 l5 l6 h)) (l0 : Nat) (l1 : Int32) (l2 : Int32) (l3 : Int32) (l4 : Int32) (l5 : Int32) (l6 : Int32) (s0 : Int32) (h : eH) : e_K eI q r0 h0 212 [(0, .ref l0), (1, .int l1), (2, .int l2), (3, .int l3), (4, .int l4), (5, .int l5), (6, .int l6)] [.int s0] h (F_X12_reads_212 N k119 k135 l0 l1 l2 l3 l4 l5 l6 s0 h) := by
  unfold F_X12_reads_212
  refine k_istore hq dX12_reads_212 (by decide) (ls' := [(8, .int s0), (0, .ref l0), (1, .int l1), (2, .int l2), (3, .int l3), (4, .int l4), (5, .int l5), (6, .int l6)]) rfl ?_
  refine k_iload hq dX12_reads_214 0 rfl ?_
  refine k_if_eq hq (tgt := 224) dX12_reads_216 (by decide) (fun _ => ?_) (fun _ => ?_)
  · refine k_iload hq dX12_reads_224 6 rfl ?_
    exact k_sub [1, 2, 3, 4, 5, 7] rfl (P_X12_reads_226 hq he N k119 k135 hk119 hk135 l0 l1 l2 l3 l4 l6 l5 h)
  · refine k_iload hq dX12_reads_219 7 rfl ?_
    refine k_goto hq (tgt := 226) dX12_reads_221 (by decide) ?_
    exact k_sub [1, 2, 3, 4, 5, 7] rfl (P_X12_reads_226 hq he N k119 k135 hk119 hk135 l0 l1 l2 l3 l4 l6 l6 h)
set_option maxRecDepth 100000 in
set_option maxHeartbeats 4000000 in
theorem P_X12_reads_207 {q : eT} {r0 : Int32} {h0 : eH} (hq : e_B q yX12_reads.cls cX12_reads 9 2 46 (some .int) yX12_reads.name) (he : e_E q) (N : Nat) (k119 : Nat → Int32 → Int32 → Int32 → Int32 → eH → Option (Int32 × eH)) (k135 : Nat → Int32 → Int32 → Int32 → Int32 → Int32 → Int32 → eH → Option (Int32 × eH)) (hk119 : ∀ (l0 : Nat) (l1 : Int32) (l2 : Int32) (l3 : Int32) (l4 : Int32) h, e_K eI q r0 h0 119 [(0, .ref l0), (1, .int l1), (2, .int l2), (3, .int l3), (4, .int l4)] [] h (k119 l0 l1 l2 l3 l4 h)) (hk135 : ∀ (l0 : Nat) (l1 : Int32) (l2 : Int32) (l3 : Int32) (l4 : Int32) (l5 : Int32) (l6 : Int32) h, e_K eI q r0 h0 135 [(0, .ref l0), (1, .int l1), (2, .int l2), (3, .int l3), (4, .int l4), (5, .int l5), (6, .int l6)] [] h (k135 l0 l1 l2 l3 l4 l5 l6 h)) (l0 : Nat) (l1 : Int32) (l2 : Int32) (l3 : Int32) (l4 : Int32) (l5 : Int32) (l6 : Int32) (h : eH) : e_K eI q r0 h0 207 [(0, .ref l0), (1, .int l1), (2, .int l2), (3, .int l3), (4, .int l4), (5, .int l5), (6, .int l6)] [] h (F_X12_reads_207 N k119 k135 l0 l1 l2 l3 l4 l5 l6 h) := by
  unfold F_X12_reads_207
  refine k_iconst hq dX12_reads_207 (v := 1) rfl ?_
  refine k_goto hq (tgt := 212) dX12_reads_208 (by decide) ?_
  exact k_sub [0, 1, 2, 3, 4, 5, 6] rfl (P_X12_reads_212 hq he N k119 k135 hk119 hk135 l0 l1 l2 l3 l4 l5 l6 1 h)
set_option maxRecDepth 100000 in
set_option maxHeartbeats 4000000 in
theorem P_X12_reads_211 {q : eT} {r0 : Int32} {h0 : eH} (hq : e_B q yX12_reads.cls cX12_reads 9 2 46 (some .int) yX12_reads.name) (he : e_E q) (N : Nat) (k119 : Nat → Int32 → Int32 → Int32 → Int32 → eH → Option (Int32 × eH)) (k135 : Nat → Int32 → Int32 → Int32 → Int32 → Int32 → Int32 → eH → Option (Int32 × eH)) (hk119 : ∀ (l0 : Nat) (l1 : Int32) (l2 : Int32) (l3 : Int32) (l4 : Int32) h, e_K eI q r0 h0 119 [(0, .ref l0), (1, .int l1), (2, .int l2), (3, .int l3), (4, .int l4)] [] h (k119 l0 l1 l2 l3 l4 h)) (hk135 : ∀ (l0 : Nat) (l1 : Int32) (l2 : Int32) (l3 : Int32) (l4 : Int32) (l5 : Int32) (l6 : Int32) h, e_K eI q r0 h0 135 [(0, .ref l0), (1, .int l1), (2, .int l2), (3, .int l3), (4, .int l4), (5, .int l5), (6, .int l6)] [] h (k135 l0 l1 l2 l3 l4 l5 l6 h)) (l0 : Nat) (l1 : Int32) (l2 : Int32) (l3 : Int32) (l4 : Int32) (l5 : Int32) (l6 : Int32) (h : eH) : e_K eI q r0 h0 211 [(0, .ref l0), (1, .int l1), (2, .int l2), (3, .int l3), (4, .int l4), (5, .int l5), (6, .int l6)] [] h (F_X12_reads_211 N k119 k135 l0 l1 l2 l3 l4 l5 l6 h) := by
  unfold F_X12_reads_211
  refine k_iconst hq dX12_reads_211 (v := 0) rfl ?_
  exact k_sub [0, 1, 2, 3, 4, 5, 6] rfl (P_X12_reads_212 hq he N k119 k135 hk119 hk135 l0 l1 l2 l3 l4 l5 l6 0 h)
set_option maxRecDepth 100000 in
set_option maxHeartbeats 4000000 in
theorem P_X12_reads_135b {q : eT} {r0 : Int32} {h0 : eH} (hq : e_B q yX12_reads.cls cX12_reads 9 2 46 (some .int) yX12_reads.name) (he : e_E q) (N : Nat) (k119 : Nat → Int32 → Int32 → Int32 → Int32 → eH → Option (Int32 × eH)) (k135 : Nat → Int32 → Int32 → Int32 → Int32 → Int32 → Int32 → eH → Option (Int32 × eH)) (hk119 : ∀ (l0 : Nat) (l1 : Int32) (l2 : Int32) (l3 : Int32) (l4 : Int32) h, e_K eI q r0 h0 119 [(0, .ref l0), (1, .int l1), (2, .int l2), (3, .int l3), (4, .int l4)] [] h (k119 l0 l1 l2 l3 l4 h)) (hk135 : ∀ (l0 : Nat) (l1 : Int32) (l2 : Int32) (l3 : Int32) (l4 : Int32) (l5 : Int32) (l6 : Int32) h, e_K eI q r0 h0 135 [(0, .ref l0), (1, .int l1), (2, .int l2), (3, .int l3), (4, .int l4), (5, .int l5), (6, .int l6)] [] h (k135 l0 l1 l2 l3 l4 l5 l6 h)) (l0 : Nat) (l1 : Int32) (l2 : Int32) (l3 : Int32) (l4 : Int32) (l5 : Int32) (l6 : Int32) (h : eH) : e_K eI q r0 h0 135 [(0, .ref l0), (1, .int l1), (2, .int l2), (3, .int l3), (4, .int l4), (5, .int l5), (6, .int l6)] [] h (F_X12_reads_135b N k119 k135 l0 l1 l2 l3 l4 l5 l6 h) := by
  unfold F_X12_reads_135b
  refine k_iload hq dX12_reads_135 6 rfl ?_
  refine k_aload_n hq dX12_reads_137 0 rfl ?_
  refine k_gi hq (C := RX12) (T := TX12) 11 0 rfl (by decide) (lay_X12 0 (by decide)) tw_927 dX12_reads_138 fun v1 => ?_
  refine k_icmp_ge hq (tgt := 234) dX12_reads_141 (by decide) (fun _ => ?_) (fun _ => ?_)
  · refine k_aload_n hq dX12_reads_234 0 rfl ?_
    refine k_gr hq (C := RX12) (T := TX12) 11 20 rfl (by decide) (lay_X12 20 (by decide)) tw_947 dX12_reads_235 fun v2 => ?_
    refine k_iconst hq dX12_reads_238 (v := 4) rfl ?_
    refine k_iload_n hq dX12_reads_239 1 rfl ?_
    refine k_imul hq dX12_reads_240 ?_
    refine k_iload hq dX12_reads_241 5 rfl ?_
    refine k_iadd hq dX12_reads_243 ?_
    refine k_iconst hq dX12_reads_244 (v := 0) rfl ?_
    refine k_iast hq dX12_reads_245 fun h3 => ?_
    refine k_iinc hq dX12_reads_246 4 rfl (v := l4 + (-1)) rfl (by decide) (ls' := [(4, .int (l4 + (-1))), (0, .ref l0), (1, .int l1), (2, .int l2), (3, .int l3), (5, .int l5), (6, .int l6)]) rfl ?_
    refine k_goto hq (tgt := 119) dX12_reads_249 (by decide) ?_
    exact k_sub [1, 2, 3, 4, 0] rfl (hk119 l0 l1 l2 l3 (l4 + (-1)) h3)
  · refine k_aload_n hq dX12_reads_144 0 rfl ?_
    refine k_gr hq (C := RX12) (T := TX12) 11 20 rfl (by decide) (lay_X12 20 (by decide)) tw_947 dX12_reads_145 fun v4 => ?_
    refine k_iconst hq dX12_reads_148 (v := 4) rfl ?_
    refine k_iload_n hq dX12_reads_149 1 rfl ?_
    refine k_imul hq dX12_reads_150 ?_
    refine k_iload hq dX12_reads_151 6 rfl ?_
    refine k_iadd hq dX12_reads_153 ?_
    refine k_iald hq dX12_reads_154 fun v5 => ?_
    refine k_istore hq dX12_reads_155 (by decide) (ls' := [(7, .int v5), (0, .ref l0), (1, .int l1), (2, .int l2), (3, .int l3), (4, .int l4), (5, .int l5), (6, .int l6)]) rfl ?_
    refine k_iload hq dX12_reads_157 0 rfl ?_
    refine k_if_le hq (tgt := 211) dX12_reads_159 (by decide) (fun _ => ?_) (fun _ => ?_)
    · exact k_sub [1, 2, 3, 4, 5, 6, 7] rfl (P_X12_reads_211 hq he N k119 k135 hk119 hk135 l0 l1 l2 l3 l4 l5 l6 h)
    · refine k_iload hq dX12_reads_162 6 rfl ?_
      refine k_bipush hq dX12_reads_164 (v := (-9)) rfl ?_
      refine k_icmp_eq hq (tgt := 207) dX12_reads_166 (by decide) (fun _ => ?_) (fun _ => ?_)
      · exact k_sub [1, 2, 3, 4, 5, 6, 7] rfl (P_X12_reads_207 hq he N k119 k135 hk119 hk135 l0 l1 l2 l3 l4 l5 l6 h)
      · refine k_aload_n hq dX12_reads_169 1 rfl ?_
        refine k_gr hq (C := RX12) (T := TX12) 11 7 rfl (by decide) (lay_X12 7 (by decide)) tw_934 dX12_reads_170 fun v6 => ?_
        refine k_iload_n hq dX12_reads_173 4 rfl ?_
        refine k_iload hq dX12_reads_174 7 rfl ?_
        refine k_iload hq dX12_reads_176 0 rfl ?_
        refine k_callS hq (na := 3) (As := [.int l3, .int l6, .int v5]) (st := [.ref v6]) (con_X12_at _ _ _ _ l3 l6 v5) tw_1115 tw_59 tw_1113 tw_1114 ⟨by decide, by decide, by decide +kernel⟩ rfl (by decide) rfl (Nat.le_of_ble_eq_true rfl) dX12_reads_178 fun v7 h8 => ?_
        refine k_iald hq dX12_reads_181 fun v9 => ?_
        refine k_aload_n hq dX12_reads_182 1 rfl ?_
        refine k_gr hq (C := RX12) (T := TX12) 11 7 rfl (by decide) (lay_X12 7 (by decide)) tw_934 dX12_reads_183 fun v10 => ?_
        refine k_iload_n hq dX12_reads_186 4 rfl ?_
        refine k_iload hq dX12_reads_187 6 rfl ?_
        refine k_aload_n hq dX12_reads_189 1 rfl ?_
        refine k_gr hq (C := RX12) (T := TX12) 11 20 rfl (by decide) (lay_X12 20 (by decide)) tw_947 dX12_reads_190 fun v11 => ?_
        refine k_iconst hq dX12_reads_193 (v := 4) rfl ?_
        refine k_iload_n hq dX12_reads_194 2 rfl ?_
        refine k_imul hq dX12_reads_195 ?_
        refine k_iload hq dX12_reads_196 6 rfl ?_
        refine k_iadd hq dX12_reads_198 ?_
        refine k_iald hq dX12_reads_199 fun v12 => ?_
        refine k_callS hq (na := 3) (As := [.int l3, .int l5, .int v12]) (st := [.ref v10, .int v9]) (con_X12_at _ _ _ _ l3 l5 v12) tw_1115 tw_59 tw_1113 tw_1114 ⟨by decide, by decide, by decide +kernel⟩ rfl (by decide) rfl (Nat.le_of_ble_eq_true rfl) dX12_reads_200 fun v13 h14 => ?_
        refine k_iald hq dX12_reads_203 fun v15 => ?_
        refine k_icmp_ge hq (tgt := 211) dX12_reads_204 (by decide) (fun _ => ?_) (fun _ => ?_)
        · exact k_sub [1, 2, 3, 4, 5, 6, 7] rfl (P_X12_reads_211 hq he N k119 k135 hk119 hk135 l0 l1 l2 l3 l4 l5 l6 h14)
        · exact k_sub [1, 2, 3, 4, 5, 6, 7] rfl (P_X12_reads_207 hq he N k119 k135 hk119 hk135 l0 l1 l2 l3 l4 l5 l6 h14)
theorem Q_X12_reads_135 {q : eT} {r0 : Int32} {h0 : eH} (hq : e_B q yX12_reads.cls cX12_reads 9 2 46 (some .int) yX12_reads.name) (he : e_E q) (N : Nat) (k119 : Nat → Int32 → Int32 → Int32 → Int32 → eH → Option (Int32 × eH)) (hk119 : ∀ (l0 : Nat) (l1 : Int32) (l2 : Int32) (l3 : Int32) (l4 : Int32) h, e_K eI q r0 h0 119 [(0, .ref l0), (1, .int l1), (2, .int l2), (3, .int l3), (4, .int l4)] [] h (k119 l0 l1 l2 l3 l4 h)) (l0 : Nat) (l1 : Int32) (l2 : Int32) (l3 : Int32) (l4 : Int32) (l5 : Int32) (l6 : Int32) (h : eH) : e_K eI q r0 h0 135 [(0, .ref l0), (1, .int l1), (2, .int l2), (3, .int l3), (4, .int l4), (5, .int l5), (6, .int l6)] [] h (L_X12_reads_135 N k119 l0 l1 l2 l3 l4 l5 l6 h) :=
  k_loop (mk := (fun s => [(0, .ref s.1), (1, .int s.2.1), (2, .int s.2.2.1), (3, .int s.2.2.2.1), (4, .int s.2.2.2.2.1), (5, .int s.2.2.2.2.2.1), (6, .int s.2.2.2.2.2.2.1)])) (hp := fun s => s.2.2.2.2.2.2.2) (fun k hk s => P_X12_reads_135b hq he N k119 (fun l0 l1 l2 l3 l4 l5 l6 h => k (l0, l1, l2, l3, l4, l5, l6, h)) hk119 (fun l0 l1 l2 l3 l4 l5 l6 h => hk (l0, l1, l2, l3, l4, l5, l6, h)) s.1 s.2.1 s.2.2.1 s.2.2.2.1 s.2.2.2.2.1 s.2.2.2.2.2.1 s.2.2.2.2.2.2.1 s.2.2.2.2.2.2.2) N (l0, l1, l2, l3, l4, l5, l6, h)
set_option maxRecDepth 100000 in
set_option maxHeartbeats 4000000 in
theorem P_X12_reads_308 {q : eT} {r0 : Int32} {h0 : eH} (hq : e_B q yX12_reads.cls cX12_reads 9 2 46 (some .int) yX12_reads.name) (he : e_E q) (N : Nat) (k259 : Nat → Int32 → Int32 → Int32 → eH → Option (Int32 × eH)) (hk259 : ∀ (l0 : Nat) (l2 : Int32) (l3 : Int32) (l5 : Int32) h, e_K eI q r0 h0 259 [(0, .ref l0), (2, .int l2), (3, .int l3), (5, .int l5)] [] h (k259 l0 l2 l3 l5 h)) (l0 : Nat) (l2 : Int32) (l3 : Int32) (l5 : Int32) (s0 : Nat) (s1 : Int32) (s2 : Int32) (h : eH) : e_K eI q r0 h0 308 [(0, .ref l0), (2, .int l2), (3, .int l3), (5, .int l5)] [.int s2, .int s1, .ref s0] h (F_X12_reads_308 N k259 l0 l2 l3 l5 s0 s1 s2 h) := by
  unfold F_X12_reads_308
  refine k_zast hq dX12_reads_308 fun h1 => ?_
  refine k_iinc hq dX12_reads_309 3 rfl (v := l5 + 1) rfl (by decide) (ls' := [(5, .int (l5 + 1)), (0, .ref l0), (2, .int l2), (3, .int l3)]) rfl ?_
  refine k_goto hq (tgt := 259) dX12_reads_312 (by decide) ?_
  exact k_sub [1, 2, 3, 0] rfl (hk259 l0 l2 l3 (l5 + 1) h1)
set_option maxRecDepth 100000 in
set_option maxHeartbeats 4000000 in
theorem P_X12_reads_303 {q : eT} {r0 : Int32} {h0 : eH} (hq : e_B q yX12_reads.cls cX12_reads 9 2 46 (some .int) yX12_reads.name) (he : e_E q) (N : Nat) (k259 : Nat → Int32 → Int32 → Int32 → eH → Option (Int32 × eH)) (hk259 : ∀ (l0 : Nat) (l2 : Int32) (l3 : Int32) (l5 : Int32) h, e_K eI q r0 h0 259 [(0, .ref l0), (2, .int l2), (3, .int l3), (5, .int l5)] [] h (k259 l0 l2 l3 l5 h)) (l0 : Nat) (l2 : Int32) (l3 : Int32) (l5 : Int32) (s0 : Nat) (s1 : Int32) (h : eH) : e_K eI q r0 h0 303 [(0, .ref l0), (2, .int l2), (3, .int l3), (5, .int l5)] [.int s1, .ref s0] h (F_X12_reads_303 N k259 l0 l2 l3 l5 s0 s1 h) := by
  unfold F_X12_reads_303
  refine k_iconst hq dX12_reads_303 (v := 1) rfl ?_
  refine k_goto hq (tgt := 308) dX12_reads_304 (by decide) ?_
  exact k_sub [0, 1, 2, 3] rfl (P_X12_reads_308 hq he N k259 hk259 l0 l2 l3 l5 s0 s1 1 h)
set_option maxRecDepth 100000 in
set_option maxHeartbeats 4000000 in
theorem P_X12_reads_259b {q : eT} {r0 : Int32} {h0 : eH} (hq : e_B q yX12_reads.cls cX12_reads 9 2 46 (some .int) yX12_reads.name) (he : e_E q) (N : Nat) (k259 : Nat → Int32 → Int32 → Int32 → eH → Option (Int32 × eH)) (hk259 : ∀ (l0 : Nat) (l2 : Int32) (l3 : Int32) (l5 : Int32) h, e_K eI q r0 h0 259 [(0, .ref l0), (2, .int l2), (3, .int l3), (5, .int l5)] [] h (k259 l0 l2 l3 l5 h)) (l0 : Nat) (l2 : Int32) (l3 : Int32) (l5 : Int32) (h : eH) : e_K eI q r0 h0 259 [(0, .ref l0), (2, .int l2), (3, .int l3), (5, .int l5)] [] h (F_X12_reads_259b N k259 l0 l2 l3 l5 h) := by
  unfold F_X12_reads_259b
  refine k_iload hq dX12_reads_259 3 rfl ?_
  refine k_sipush hq dX12_reads_261 (v := 164) rfl ?_
  refine k_iload_n hq dX12_reads_264 2 rfl ?_
  refine k_imul hq dX12_reads_265 ?_
  refine k_sipush hq dX12_reads_266 (v := 164) rfl ?_
  refine k_iadd hq dX12_reads_269 ?_
  refine k_icmp_ge hq (tgt := 315) dX12_reads_270 (by decide) (fun _ => ?_) (fun _ => ?_)
  · refine k_aload_n hq dX12_reads_315 0 rfl ?_
    refine k_iload_n hq dX12_reads_316 1 rfl ?_
    refine k_iload_n hq dX12_reads_317 2 rfl ?_
    refine k_callV hq (na := 2) (As := [.int l2, .int l3]) (st := []) 11 (C := RX12) (T := TX12) rfl (con_X12_siblings _ _ _ _ N l0 l2 l3) tw_1122 tw_59 tw_1119 tw_1121 tw_30 ⟨by decide, by decide, by decide +kernel⟩ rfl (by decide) rfl (Nat.le_of_ble_eq_true rfl) dX12_reads_318 fun v1 h2 => ?_
    exact k_iret hq dX12_reads_321 he
  · refine k_aload_n hq dX12_reads_273 0 rfl ?_
    refine k_gr hq (C := RX12) (T := TX12) 11 10 rfl (by decide) (lay_X12 10 (by decide)) tw_937 dX12_reads_274 fun v3 => ?_
    refine k_iload hq dX12_reads_277 3 rfl ?_
    refine k_aload_n hq dX12_reads_279 0 rfl ?_
    refine k_gr hq (C := RX12) (T := TX12) 11 10 rfl (by decide) (lay_X12 10 (by decide)) tw_937 dX12_reads_280 fun v4 => ?_
    refine k_iload hq dX12_reads_283 3 rfl ?_
    refine k_zald hq dX12_reads_285 fun v5 => ?_
    refine k_if_ne hq (tgt := 303) dX12_reads_286 (by decide) (fun _ => ?_) (fun _ => ?_)
    · refine k_aload_n hq dX12_reads_289 0 rfl ?_
      refine k_gr hq (C := RX12) (T := TX12) 11 14 rfl (by decide) (lay_X12 14 (by decide)) tw_941 dX12_reads_290 fun v6 => ?_
      refine k_iload hq dX12_reads_293 3 rfl ?_
      refine k_iald hq dX12_reads_295 fun v7 => ?_
      refine k_iload_n hq dX12_reads_296 1 rfl ?_
      refine k_callS hq (na := 2) (As := [.int v7, .int l2]) (st := [.int l5, .ref v3]) (con_X12_has _ _ _ _ v7 l2) tw_1118 tw_59 tw_1116 tw_1117 ⟨by decide, by decide, by decide +kernel⟩ rfl (by decide) rfl (Nat.le_of_ble_eq_true rfl) dX12_reads_297 fun v8 h9 => ?_
      refine k_if_eq hq (tgt := 307) dX12_reads_300 (by decide) (fun _ => ?_) (fun _ => ?_)
      · refine k_iconst hq dX12_reads_307 (v := 0) rfl ?_
        exact k_sub [0, 1, 2, 3] rfl (P_X12_reads_308 hq he N k259 hk259 l0 l2 l3 l5 v3 l5 0 h9)
      · exact k_sub [0, 1, 2, 3] rfl (P_X12_reads_303 hq he N k259 hk259 l0 l2 l3 l5 v3 l5 h9)
    · exact k_sub [0, 1, 2, 3] rfl (P_X12_reads_303 hq he N k259 hk259 l0 l2 l3 l5 v3 l5 h)
theorem Q_X12_reads_259 {q : eT} {r0 : Int32} {h0 : eH} (hq : e_B q yX12_reads.cls cX12_reads 9 2 46 (some .int) yX12_reads.name) (he : e_E q) (N : Nat) (l0 : Nat) (l2 : Int32) (l3 : Int32) (l5 : Int32) (h : eH) : e_K eI q r0 h0 259 [(0, .ref l0), (2, .int l2), (3, .int l3), (5, .int l5)] [] h (L_X12_reads_259 N l0 l2 l3 l5 h) :=
  k_loop (mk := (fun s => [(0, .ref s.1), (2, .int s.2.1), (3, .int s.2.2.1), (5, .int s.2.2.2.1)])) (hp := fun s => s.2.2.2.2) (fun k hk s => P_X12_reads_259b hq he N (fun l0 l2 l3 l5 h => k (l0, l2, l3, l5, h)) (fun l0 l2 l3 l5 h => hk (l0, l2, l3, l5, h)) s.1 s.2.1 s.2.2.1 s.2.2.2.1 s.2.2.2.2) N (l0, l2, l3, l5, h)
set_option maxRecDepth 100000 in
set_option maxHeartbeats 4000000 in
theorem P_X12_reads_119b {q : eT} {r0 : Int32} {h0 : eH} (hq : e_B q yX12_reads.cls cX12_reads 9 2 46 (some .int) yX12_reads.name) (he : e_E q) (N : Nat) (k119 : Nat → Int32 → Int32 → Int32 → Int32 → eH → Option (Int32 × eH)) (hk119 : ∀ (l0 : Nat) (l1 : Int32) (l2 : Int32) (l3 : Int32) (l4 : Int32) h, e_K eI q r0 h0 119 [(0, .ref l0), (1, .int l1), (2, .int l2), (3, .int l3), (4, .int l4)] [] h (k119 l0 l1 l2 l3 l4 h)) (l0 : Nat) (l1 : Int32) (l2 : Int32) (l3 : Int32) (l4 : Int32) (h : eH) : e_K eI q r0 h0 119 [(0, .ref l0), (1, .int l1), (2, .int l2), (3, .int l3), (4, .int l4)] [] h (F_X12_reads_119b N k119 l0 l1 l2 l3 l4 h) := by
  unfold F_X12_reads_119b
  refine k_iload hq dX12_reads_119 4 rfl ?_
  refine k_aload_n hq dX12_reads_121 0 rfl ?_
  refine k_gi hq (C := RX12) (T := TX12) 11 2 rfl (by decide) (lay_X12 2 (by decide)) tw_929 dX12_reads_122 fun v1 => ?_
  refine k_icmp_le hq (tgt := 252) dX12_reads_125 (by decide) (fun _ => ?_) (fun _ => ?_)
  · refine k_sipush hq dX12_reads_252 (v := 164) rfl ?_
    refine k_iload_n hq dX12_reads_255 3 rfl ?_
    refine k_imul hq dX12_reads_256 ?_
    refine k_let (mk := fun z => .int z :: []) fun v2 _ => ?_
    refine k_istore hq dX12_reads_257 (by decide) (ls' := [(5, .int v2), (0, .ref l0), (1, .int l1), (2, .int l2), (3, .int l3), (4, .int l4)]) rfl ?_
    exact k_sub [1, 3, 4, 0] rfl (Q_X12_reads_259 hq he N l0 l2 l3 v2 h)
  · refine k_bipush hq dX12_reads_128 (v := (-9)) rfl ?_
    refine k_istore hq dX12_reads_130 (by decide) (ls' := [(5, .int (-9)), (0, .ref l0), (1, .int l1), (2, .int l2), (3, .int l3), (4, .int l4)]) rfl ?_
    refine k_iconst hq dX12_reads_132 (v := 0) rfl ?_
    refine k_istore hq dX12_reads_133 (by decide) (ls' := [(6, .int 0), (5, .int (-9)), (0, .ref l0), (1, .int l1), (2, .int l2), (3, .int l3), (4, .int l4)]) rfl ?_
    exact k_sub [2, 3, 4, 5, 6, 1, 0] rfl (Q_X12_reads_135 hq he N k119 hk119 l0 l1 l2 l3 l4 (-9) 0 h)
theorem Q_X12_reads_119 {q : eT} {r0 : Int32} {h0 : eH} (hq : e_B q yX12_reads.cls cX12_reads 9 2 46 (some .int) yX12_reads.name) (he : e_E q) (N : Nat) (l0 : Nat) (l1 : Int32) (l2 : Int32) (l3 : Int32) (l4 : Int32) (h : eH) : e_K eI q r0 h0 119 [(0, .ref l0), (1, .int l1), (2, .int l2), (3, .int l3), (4, .int l4)] [] h (L_X12_reads_119 N l0 l1 l2 l3 l4 h) :=
  k_loop (mk := (fun s => [(0, .ref s.1), (1, .int s.2.1), (2, .int s.2.2.1), (3, .int s.2.2.2.1), (4, .int s.2.2.2.2.1)])) (hp := fun s => s.2.2.2.2.2) (fun k hk s => P_X12_reads_119b hq he N (fun l0 l1 l2 l3 l4 h => k (l0, l1, l2, l3, l4, h)) (fun l0 l1 l2 l3 l4 h => hk (l0, l1, l2, l3, l4, h)) s.1 s.2.1 s.2.2.1 s.2.2.2.1 s.2.2.2.2.1 s.2.2.2.2.2) N (l0, l1, l2, l3, l4, h)
set_option maxRecDepth 100000 in
set_option maxHeartbeats 4000000 in
theorem P_X12_reads_38b {q : eT} {r0 : Int32} {h0 : eH} (hq : e_B q yX12_reads.cls cX12_reads 9 2 46 (some .int) yX12_reads.name) (he : e_E q) (N : Nat) (k38 : Nat → Int32 → Int32 → Int32 → Int32 → Int32 → eH → Option (Int32 × eH)) (hk38 : ∀ (l0 : Nat) (l1 : Int32) (l2 : Int32) (l3 : Int32) (l4 : Int32) (l5 : Int32) h, e_K eI q r0 h0 38 [(0, .ref l0), (1, .int l1), (2, .int l2), (3, .int l3), (4, .int l4), (5, .int l5)] [] h (k38 l0 l1 l2 l3 l4 l5 h)) (l0 : Nat) (l1 : Int32) (l2 : Int32) (l3 : Int32) (l4 : Int32) (l5 : Int32) (h : eH) : e_K eI q r0 h0 38 [(0, .ref l0), (1, .int l1), (2, .int l2), (3, .int l3), (4, .int l4), (5, .int l5)] [] h (F_X12_reads_38b N k38 l0 l1 l2 l3 l4 l5 h) := by
  unfold F_X12_reads_38b
  refine k_iload hq dX12_reads_38 5 rfl ?_
  refine k_iconst hq dX12_reads_40 (v := 4) rfl ?_
  refine k_icmp_ge hq (tgt := 119) dX12_reads_41 (by decide) (fun _ => ?_) (fun _ => ?_)
  · exact k_sub [0, 1, 2, 3, 4] rfl (Q_X12_reads_119 hq he N l0 l1 l2 l3 l4 h)
  · refine k_iload hq dX12_reads_44 5 rfl ?_
    refine k_aload_n hq dX12_reads_46 0 rfl ?_
    refine k_gi hq (C := RX12) (T := TX12) 11 0 rfl (by decide) (lay_X12 0 (by decide)) tw_927 dX12_reads_47 fun v1 => ?_
    refine k_icmp_ge hq (tgt := 69) dX12_reads_50 (by decide) (fun _ => ?_) (fun _ => ?_)
    · refine k_iconst hq dX12_reads_69 (v := 0) rfl ?_
      exact k_sub [0, 1, 2, 3, 4, 5] rfl (P_X12_reads_70 hq he N k38 hk38 l0 l1 l2 l3 l4 l5 0 h)
    · refine k_aload_n hq dX12_reads_53 0 rfl ?_
      refine k_gr hq (C := RX12) (T := TX12) 11 16 rfl (by decide) (lay_X12 16 (by decide)) tw_943 dX12_reads_54 fun v2 => ?_
      refine k_iload_n hq dX12_reads_57 3 rfl ?_
      refine k_iload_n hq dX12_reads_58 2 rfl ?_
      refine k_callS hq (na := 2) (As := [.int l3, .int l2]) (st := [.ref v2]) (con_X12_rowAt _ _ _ _ l3 l2) tw_1112 tw_59 tw_1110 tw_1111 ⟨by decide, by decide, by decide +kernel⟩ rfl (by decide) rfl (Nat.le_of_ble_eq_true rfl) dX12_reads_59 fun v3 h4 => ?_
      refine k_iload hq dX12_reads_62 5 rfl ?_
      refine k_iadd hq dX12_reads_64 ?_
      refine k_iald hq dX12_reads_65 fun v5 => ?_
      refine k_goto hq (tgt := 70) dX12_reads_66 (by decide) ?_
      exact k_sub [0, 1, 2, 3, 4, 5] rfl (P_X12_reads_70 hq he N k38 hk38 l0 l1 l2 l3 l4 l5 v5 h4)
theorem Q_X12_reads_38 {q : eT} {r0 : Int32} {h0 : eH} (hq : e_B q yX12_reads.cls cX12_reads 9 2 46 (some .int) yX12_reads.name) (he : e_E q) (N : Nat) (l0 : Nat) (l1 : Int32) (l2 : Int32) (l3 : Int32) (l4 : Int32) (l5 : Int32) (h : eH) : e_K eI q r0 h0 38 [(0, .ref l0), (1, .int l1), (2, .int l2), (3, .int l3), (4, .int l4), (5, .int l5)] [] h (L_X12_reads_38 N l0 l1 l2 l3 l4 l5 h) :=
  k_loop (mk := (fun s => [(0, .ref s.1), (1, .int s.2.1), (2, .int s.2.2.1), (3, .int s.2.2.2.1), (4, .int s.2.2.2.2.1), (5, .int s.2.2.2.2.2.1)])) (hp := fun s => s.2.2.2.2.2.2) (fun k hk s => P_X12_reads_38b hq he N (fun l0 l1 l2 l3 l4 l5 h => k (l0, l1, l2, l3, l4, l5, h)) (fun l0 l1 l2 l3 l4 l5 h => hk (l0, l1, l2, l3, l4, l5, h)) s.1 s.2.1 s.2.2.1 s.2.2.2.1 s.2.2.2.2.1 s.2.2.2.2.2.1 s.2.2.2.2.2.2) N (l0, l1, l2, l3, l4, l5, h)
set_option maxRecDepth 100000 in
set_option maxHeartbeats 4000000 in
theorem P_X12_reads_0 {q : eT} {r0 : Int32} {h0 : eH} (hq : e_B q yX12_reads.cls cX12_reads 9 2 46 (some .int) yX12_reads.name) (he : e_E q) (N : Nat) (l0 : Nat) (l1 : Int32) (l2 : Int32) (l3 : Int32) (h : eH) : e_K eI q r0 h0 0 [(0, .ref l0), (1, .int l1), (2, .int l2), (3, .int l3)] [] h (F_X12_reads N l0 l1 l2 l3 h) := by
  unfold F_X12_reads
  refine k_iload_n hq dX12_reads_0 1 rfl ?_
  refine k_callS hq (na := 1) (As := [.int l1]) (st := []) (con_X12_isClient _ _ _ _ l1) tw_1100 tw_59 tw_1098 tw_1099 ⟨by decide, by decide, by decide +kernel⟩ rfl (by decide) rfl (Nat.le_of_ble_eq_true rfl) dX12_reads_1 fun v1 h2 => ?_
  refine k_if_eq hq (tgt := 23) dX12_reads_4 (by decide) (fun _ => ?_) (fun _ => ?_)
  · refine k_iconst hq dX12_reads_23 (v := (-1)) rfl ?_
    exact k_iret hq dX12_reads_24 he
  · refine k_aload_n hq dX12_reads_7 0 rfl ?_
    refine k_iload_n hq dX12_reads_8 2 rfl ?_
    refine k_callV hq (na := 1) (As := [.int l2]) (st := []) 11 (C := RX12) (T := TX12) rfl (con_X12_isSite _ _ _ _ l0 l2) tw_1105 tw_59 tw_1102 tw_1104 tw_28 ⟨by decide, by decide, by decide +kernel⟩ rfl (by decide) rfl (Nat.le_of_ble_eq_true rfl) dX12_reads_9 fun v3 h4 => ?_
    refine k_if_eq hq (tgt := 23) dX12_reads_12 (by decide) (fun _ => ?_) (fun _ => ?_)
    · refine k_iconst hq dX12_reads_23 (v := (-1)) rfl ?_
      exact k_iret hq dX12_reads_24 he
    · refine k_aload_n hq dX12_reads_15 0 rfl ?_
      refine k_iload_n hq dX12_reads_16 3 rfl ?_
      refine k_callV hq (na := 1) (As := [.int l3]) (st := []) 11 (C := RX12) (T := TX12) rfl (con_X12_isKey _ _ _ _ l0 l3) tw_1109 tw_59 tw_1106 tw_1108 tw_29 ⟨by decide, by decide, by decide +kernel⟩ rfl (by decide) rfl (Nat.le_of_ble_eq_true rfl) dX12_reads_17 fun v5 h6 => ?_
      refine k_if_ne hq (tgt := 25) dX12_reads_20 (by decide) (fun _ => ?_) (fun _ => ?_)
      · refine k_iconst hq dX12_reads_23 (v := (-1)) rfl ?_
        exact k_iret hq dX12_reads_24 he
      · refine k_aload_n hq dX12_reads_25 0 rfl ?_
        refine k_gr hq (C := RX12) (T := TX12) 11 18 rfl (by decide) (lay_X12 18 (by decide)) tw_945 dX12_reads_26 fun v7 => ?_
        refine k_iload_n hq dX12_reads_29 1 rfl ?_
        refine k_iload_n hq dX12_reads_30 3 rfl ?_
        refine k_iast hq dX12_reads_31 fun h8 => ?_
        refine k_iconst hq dX12_reads_32 (v := 0) rfl ?_
        refine k_istore hq dX12_reads_33 (by decide) (ls' := [(4, .int 0), (0, .ref l0), (1, .int l1), (2, .int l2), (3, .int l3)]) rfl ?_
        refine k_iconst hq dX12_reads_35 (v := 0) rfl ?_
        refine k_istore hq dX12_reads_36 (by decide) (ls' := [(5, .int 0), (4, .int 0), (0, .ref l0), (1, .int l1), (2, .int l2), (3, .int l3)]) rfl ?_
        exact k_sub [2, 3, 4, 5, 1, 0] rfl (Q_X12_reads_38 hq he N l0 l1 l2 l3 0 0 h8)
theorem con_X12_reads (l : Launch) (G : eG) (B0 n : Nat) (N : Nat) (l0 : Nat) (l1 : Int32) (l2 : Int32) (l3 : Int32) : e_C eI l G B0 n yX12_reads cX12_reads 9 (some .int) 2 46 [.ref l0, .int l1, .int l2, .int l3] (F_X12_reads N l0 l1 l2 l3) := by
  refine e_mk (by decide) (Nat.le_of_ble_eq_true rfl) fun q r0 h0 h hq he e1 e2 e3 e4 => ?_
  subst e1; subst e2; subst e3; subst e4
  exact P_X12_reads_0 hq he N l0 l1 l2 l3 h
set_option maxRecDepth 100000 in
set_option maxHeartbeats 4000000 in
theorem P_X12_comes_150 {q : eT} {r0 : Int32} {h0 : eH} (hq : e_B q yX12_comes.cls cX12_comes 9 3 68 (some .int) yX12_comes.name) (he : e_E q) (N : Nat) (k74 : Nat → Int32 → Int32 → Int32 → Int32 → Int32 → Int32 → eH → Option (Int32 × eH)) (hk74 : ∀ (l0 : Nat) (l1 : Int32) (l2 : Int32) (l5 : Int32) (l6 : Int32) (l7 : Int32) (l8 : Int32) h, e_K eI q r0 h0 74 [(0, .ref l0), (1, .int l1), (2, .int l2), (5, .int l5), (6, .int l6), (7, .int l7), (8, .int l8)] [] h (k74 l0 l1 l2 l5 l6 l7 l8 h)) (l0 : Nat) (l1 : Int32) (l2 : Int32) (l5 : Int32) (l6 : Int32) (l7 : Int32) (l8 : Int32) (s0 : Nat) (s1 : Int32) (s2 : Int32) (h : eH) : e_K eI q r0 h0 150 [(0, .ref l0), (1, .int l1), (2, .int l2), (5, .int l5), (6, .int l6), (7, .int l7), (8, .int l8)] [.int s2, .int s1, .ref s0] h (F_X12_comes_150 N k74 l0 l1 l2 l5 l6 l7 l8 s0 s1 s2 h) := by
  unfold F_X12_comes_150
  refine k_iast hq dX12_comes_150 fun h1 => ?_
  refine k_iinc hq dX12_comes_151 6 rfl (v := l8 + 1) rfl (by decide) (ls' := [(8, .int (l8 + 1)), (0, .ref l0), (1, .int l1), (2, .int l2), (5, .int l5), (6, .int l6), (7, .int l7)]) rfl ?_
  refine k_goto hq (tgt := 74) dX12_comes_154 (by decide) ?_
  exact k_sub [1, 2, 3, 4, 5, 6, 0] rfl (hk74 l0 l1 l2 l5 l6 l7 (l8 + 1) h1)
set_option maxRecDepth 100000 in
set_option maxHeartbeats 4000000 in
theorem P_X12_comes_74b {q : eT} {r0 : Int32} {h0 : eH} (hq : e_B q yX12_comes.cls cX12_comes 9 3 68 (some .int) yX12_comes.name) (he : e_E q) (N : Nat) (k74 : Nat → Int32 → Int32 → Int32 → Int32 → Int32 → Int32 → eH → Option (Int32 × eH)) (hk74 : ∀ (l0 : Nat) (l1 : Int32) (l2 : Int32) (l5 : Int32) (l6 : Int32) (l7 : Int32) (l8 : Int32) h, e_K eI q r0 h0 74 [(0, .ref l0), (1, .int l1), (2, .int l2), (5, .int l5), (6, .int l6), (7, .int l7), (8, .int l8)] [] h (k74 l0 l1 l2 l5 l6 l7 l8 h)) (l0 : Nat) (l1 : Int32) (l2 : Int32) (l5 : Int32) (l6 : Int32) (l7 : Int32) (l8 : Int32) (h : eH) : e_K eI q r0 h0 74 [(0, .ref l0), (1, .int l1), (2, .int l2), (5, .int l5), (6, .int l6), (7, .int l7), (8, .int l8)] [] h (F_X12_comes_74b N k74 l0 l1 l2 l5 l6 l7 l8 h) := by
  unfold F_X12_comes_74b
  refine k_iload hq dX12_comes_74 6 rfl ?_
  refine k_iconst hq dX12_comes_76 (v := 4) rfl ?_
  refine k_icmp_ge hq (tgt := 157) dX12_comes_77 (by decide) (fun _ => ?_) (fun _ => ?_)
  · refine k_aload_n hq dX12_comes_157 0 rfl ?_
    refine k_gr hq (C := RX12) (T := TX12) 11 14 rfl (by decide) (lay_X12 14 (by decide)) tw_941 dX12_comes_158 fun v1 => ?_
    refine k_iload hq dX12_comes_161 5 rfl ?_
    refine k_iconst hq dX12_comes_163 (v := 1) rfl ?_
    refine k_iload_n hq dX12_comes_164 2 rfl ?_
    refine k_ishl hq dX12_comes_165 ?_
    refine k_iast hq dX12_comes_166 fun h2 => ?_
    refine k_aload_n hq dX12_comes_167 0 rfl ?_
    refine k_iload_n hq dX12_comes_168 2 rfl ?_
    refine k_iload_n hq dX12_comes_169 1 rfl ?_
    refine k_callV hq (na := 2) (As := [.int l2, .int l1]) (st := []) 11 (C := RX12) (T := TX12) rfl (con_X12_bounds _ _ _ _ N l0 l2 l1) tw_1134 tw_59 tw_1131 tw_1133 tw_32 ⟨by decide, by decide, by decide +kernel⟩ rfl (by decide) rfl (Nat.le_of_ble_eq_true rfl) dX12_comes_170 fun v3 h4 => ?_
    refine k_iload hq dX12_comes_173 4 rfl ?_
    exact k_iret hq dX12_comes_175 he
  · refine k_aload_n hq dX12_comes_80 0 rfl ?_
    refine k_gr hq (C := RX12) (T := TX12) 11 16 rfl (by decide) (lay_X12 16 (by decide)) tw_943 dX12_comes_81 fun v5 => ?_
    refine k_iload hq dX12_comes_84 3 rfl ?_
    refine k_iload hq dX12_comes_86 6 rfl ?_
    refine k_iadd hq dX12_comes_88 ?_
    refine k_iload hq dX12_comes_89 6 rfl ?_
    refine k_iload_n hq dX12_comes_91 2 rfl ?_
    refine k_icmp_ne hq (tgt := 100) dX12_comes_92 (by decide) (fun _ => ?_) (fun _ => ?_)
    · refine k_iload hq dX12_comes_95 4 rfl ?_
      refine k_goto hq (tgt := 150) dX12_comes_97 (by decide) ?_
      exact k_sub [0, 1, 2, 3, 4, 5, 6] rfl (P_X12_comes_150 hq he N k74 hk74 l0 l1 l2 l5 l6 l7 l8 v5 (l5 + l8) l6 h)
    · refine k_aload_n hq dX12_comes_100 0 rfl ?_
      refine k_gr hq (C := RX12) (T := TX12) 11 8 rfl (by decide) (lay_X12 8 (by decide)) tw_935 dX12_comes_101 fun v6 => ?_
      refine k_iconst hq dX12_comes_104 (v := 4) rfl ?_
      refine k_iload hq dX12_comes_105 5 rfl ?_
      refine k_imul hq dX12_comes_107 ?_
      refine k_iload hq dX12_comes_108 6 rfl ?_
      refine k_iadd hq dX12_comes_110 ?_
      refine k_iald hq dX12_comes_111 fun v7 => ?_
      refine k_aload_n hq dX12_comes_112 0 rfl ?_
      refine k_gr hq (C := RX12) (T := TX12) 11 16 rfl (by decide) (lay_X12 16 (by decide)) tw_943 dX12_comes_113 fun v8 => ?_
      refine k_iload hq dX12_comes_116 3 rfl ?_
      refine k_iload hq dX12_comes_118 6 rfl ?_
      refine k_iadd hq dX12_comes_120 ?_
      refine k_iald hq dX12_comes_121 fun v9 => ?_
      refine k_icmp_le hq (tgt := 140) dX12_comes_122 (by decide) (fun _ => ?_) (fun _ => ?_)
      · refine k_aload_n hq dX12_comes_140 0 rfl ?_
        refine k_gr hq (C := RX12) (T := TX12) 11 16 rfl (by decide) (lay_X12 16 (by decide)) tw_943 dX12_comes_141 fun v10 => ?_
        refine k_iload hq dX12_comes_144 3 rfl ?_
        refine k_iload hq dX12_comes_146 6 rfl ?_
        refine k_iadd hq dX12_comes_148 ?_
        refine k_iald hq dX12_comes_149 fun v11 => ?_
        exact k_sub [0, 1, 2, 3, 4, 5, 6] rfl (P_X12_comes_150 hq he N k74 hk74 l0 l1 l2 l5 l6 l7 l8 v5 (l5 + l8) v11 h)
      · refine k_aload_n hq dX12_comes_125 0 rfl ?_
        refine k_gr hq (C := RX12) (T := TX12) 11 8 rfl (by decide) (lay_X12 8 (by decide)) tw_935 dX12_comes_126 fun v12 => ?_
        refine k_iconst hq dX12_comes_129 (v := 4) rfl ?_
        refine k_iload hq dX12_comes_130 5 rfl ?_
        refine k_imul hq dX12_comes_132 ?_
        refine k_iload hq dX12_comes_133 6 rfl ?_
        refine k_iadd hq dX12_comes_135 ?_
        refine k_iald hq dX12_comes_136 fun v13 => ?_
        refine k_goto hq (tgt := 150) dX12_comes_137 (by decide) ?_
        exact k_sub [0, 1, 2, 3, 4, 5, 6] rfl (P_X12_comes_150 hq he N k74 hk74 l0 l1 l2 l5 l6 l7 l8 v5 (l5 + l8) v13 h)
theorem Q_X12_comes_74 {q : eT} {r0 : Int32} {h0 : eH} (hq : e_B q yX12_comes.cls cX12_comes 9 3 68 (some .int) yX12_comes.name) (he : e_E q) (N : Nat) (l0 : Nat) (l1 : Int32) (l2 : Int32) (l5 : Int32) (l6 : Int32) (l7 : Int32) (l8 : Int32) (h : eH) : e_K eI q r0 h0 74 [(0, .ref l0), (1, .int l1), (2, .int l2), (5, .int l5), (6, .int l6), (7, .int l7), (8, .int l8)] [] h (L_X12_comes_74 N l0 l1 l2 l5 l6 l7 l8 h) :=
  k_loop (mk := (fun s => [(0, .ref s.1), (1, .int s.2.1), (2, .int s.2.2.1), (5, .int s.2.2.2.1), (6, .int s.2.2.2.2.1), (7, .int s.2.2.2.2.2.1), (8, .int s.2.2.2.2.2.2.1)])) (hp := fun s => s.2.2.2.2.2.2.2) (fun k hk s => P_X12_comes_74b hq he N (fun l0 l1 l2 l5 l6 l7 l8 h => k (l0, l1, l2, l5, l6, l7, l8, h)) (fun l0 l1 l2 l5 l6 l7 l8 h => hk (l0, l1, l2, l5, l6, l7, l8, h)) s.1 s.2.1 s.2.2.1 s.2.2.2.1 s.2.2.2.2.1 s.2.2.2.2.2.1 s.2.2.2.2.2.2.1 s.2.2.2.2.2.2.2) N (l0, l1, l2, l5, l6, l7, l8, h)
set_option maxRecDepth 100000 in
set_option maxHeartbeats 4000000 in
theorem P_X12_comes_0 {q : eT} {r0 : Int32} {h0 : eH} (hq : e_B q yX12_comes.cls cX12_comes 9 3 68 (some .int) yX12_comes.name) (he : e_E q) (N : Nat) (l0 : Nat) (l1 : Int32) (l2 : Int32) (l3 : Int64) (h : eH) : e_K eI q r0 h0 0 [(0, .ref l0), (1, .int l1), (2, .int l2), (3, .long l3)] [] h (F_X12_comes N l0 l1 l2 l3 h) := by
  unfold F_X12_comes
  refine k_iload_n hq dX12_comes_0 1 rfl ?_
  refine k_iload_n hq dX12_comes_1 2 rfl ?_
  refine k_callS hq (na := 2) (As := [.int l1, .int l2]) (st := []) (con_X12_rowAt _ _ _ _ l1 l2) tw_1112 tw_59 tw_1110 tw_1111 ⟨by decide, by decide, by decide +kernel⟩ rfl (by decide) rfl (Nat.le_of_ble_eq_true rfl) dX12_comes_2 fun v1 h2 => ?_
  refine k_istore hq dX12_comes_5 (by decide) (ls' := [(5, .int v1), (0, .ref l0), (1, .int l1), (2, .int l2), (3, .long l3)]) rfl ?_
  refine k_aload_n hq dX12_comes_7 1 rfl ?_
  refine k_gr hq (C := RX12) (T := TX12) 11 15 rfl (by decide) (lay_X12 15 (by decide)) tw_942 dX12_comes_8 fun v3 => ?_
  refine k_iconst hq dX12_comes_11 (v := 4) rfl ?_
  refine k_iload_n hq dX12_comes_12 2 rfl ?_
  refine k_imul hq dX12_comes_13 ?_
  refine k_iload_n hq dX12_comes_14 3 rfl ?_
  refine k_iadd hq dX12_comes_15 ?_
  refine k_dup2_11 hq dX12_comes_16 rfl rfl ?_
  refine k_iald hq dX12_comes_17 fun v4 => ?_
  refine k_iconst hq dX12_comes_18 (v := 1) rfl ?_
  refine k_iadd hq dX12_comes_19 ?_
  refine k_iast hq dX12_comes_20 fun h5 => ?_
  refine k_aload_n hq dX12_comes_21 1 rfl ?_
  refine k_gr hq (C := RX12) (T := TX12) 11 15 rfl (by decide) (lay_X12 15 (by decide)) tw_942 dX12_comes_22 fun v6 => ?_
  refine k_iconst hq dX12_comes_25 (v := 4) rfl ?_
  refine k_iload_n hq dX12_comes_26 2 rfl ?_
  refine k_imul hq dX12_comes_27 ?_
  refine k_iload_n hq dX12_comes_28 3 rfl ?_
  refine k_iadd hq dX12_comes_29 ?_
  refine k_iald hq dX12_comes_30 fun v7 => ?_
  refine k_istore hq dX12_comes_31 (by decide) (ls' := [(6, .int v7), (5, .int v1), (0, .ref l0), (1, .int l1), (2, .int l2), (3, .long l3)]) rfl ?_
  refine k_iload_n hq dX12_comes_33 3 rfl ?_
  refine k_iload_n hq dX12_comes_34 4 rfl ?_
  refine k_iload hq dX12_comes_35 0 rfl ?_
  refine k_callS hq (na := 3) (As := [.int l1, .int l2, .int v7]) (st := []) (con_X12_at _ _ _ _ l1 l2 v7) tw_1115 tw_59 tw_1113 tw_1114 ⟨by decide, by decide, by decide +kernel⟩ rfl (by decide) rfl (Nat.le_of_ble_eq_true rfl) dX12_comes_37 fun v8 h9 => ?_
  refine k_istore hq dX12_comes_40 (by decide) (ls' := [(7, .int v8), (6, .int v7), (5, .int v1), (0, .ref l0), (1, .int l1), (2, .int l2), (3, .long l3)]) rfl ?_
  refine k_aload_n hq dX12_comes_42 3 rfl ?_
  refine k_dup hq dX12_comes_43 rfl ?_
  refine k_gi hq (C := RX12) (T := TX12) 11 5 rfl (by decide) (lay_X12 5 (by decide)) tw_932 dX12_comes_44 fun v10 => ?_
  refine k_iconst hq dX12_comes_47 (v := 1) rfl ?_
  refine k_iadd hq dX12_comes_48 ?_
  refine k_p hq (C := RX12) (T := TX12) 11 5 rfl (by decide) lay_X12 tyX12 tyX12_ok nmX12 tw_932 rfl rfl rfl dX12_comes_49 fun h11 => ?_
  refine k_aload_n hq dX12_comes_52 3 rfl ?_
  refine k_gr hq (C := RX12) (T := TX12) 11 7 rfl (by decide) (lay_X12 7 (by decide)) tw_934 dX12_comes_53 fun v12 => ?_
  refine k_iload hq dX12_comes_56 0 rfl ?_
  refine k_aload_n hq dX12_comes_58 3 rfl ?_
  refine k_gi hq (C := RX12) (T := TX12) 11 5 rfl (by decide) (lay_X12 5 (by decide)) tw_932 dX12_comes_59 fun v13 => ?_
  refine k_iast hq dX12_comes_62 fun h14 => ?_
  refine k_aload_n hq dX12_comes_63 3 rfl ?_
  refine k_gr hq (C := RX12) (T := TX12) 11 6 rfl (by decide) (lay_X12 6 (by decide)) tw_933 dX12_comes_64 fun v15 => ?_
  refine k_iload hq dX12_comes_67 0 rfl ?_
  refine k_lload_n hq dX12_comes_69 6 rfl ?_
  refine k_last hq dX12_comes_70 fun h16 => ?_
  refine k_iconst hq dX12_comes_71 (v := 0) rfl ?_
  refine k_istore hq dX12_comes_72 (by decide) (ls' := [(8, .int 0), (7, .int v8), (6, .int v7), (5, .int v1), (0, .ref l0), (1, .int l1), (2, .int l2), (3, .long l3)]) rfl ?_
  exact k_sub [4, 5, 6, 3, 2, 1, 0] rfl (Q_X12_comes_74 hq he N l0 l1 l2 v1 v7 v8 0 h16)
theorem con_X12_comes (l : Launch) (G : eG) (B0 n : Nat) (N : Nat) (l0 : Nat) (l1 : Int32) (l2 : Int32) (l3 : Int64) : e_C eI l G B0 n yX12_comes cX12_comes 9 (some .int) 3 68 [.ref l0, .int l1, .int l2, .long l3] (F_X12_comes N l0 l1 l2 l3) := by
  refine e_mk (by decide) (Nat.le_of_ble_eq_true rfl) fun q r0 h0 h hq he e1 e2 e3 e4 => ?_
  subst e1; subst e2; subst e3; subst e4
  exact P_X12_comes_0 hq he N l0 l1 l2 l3 h
