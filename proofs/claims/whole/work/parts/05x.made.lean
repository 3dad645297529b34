set_option maxRecDepth 100000 in
set_option maxHeartbeats 4000000 in
theorem P_X1_init_0 {q : eT} {r0 : Unit} {h0 : eH} {n0 : Nat} (hb : ∀ c s, c ≤ 1 → s ≤ 4 → e_B (e_mv q (n0 + c) c s) yX1_init.cls cX1_init 1 1 28 none yX1_init.name) (he : e_E (e_mv q (n0 + 1) 1 4)) (hRc : (e_R q).cells = 1) (hRs : (e_R q).slots = 4) (l0 : Nat) (h : eH) : e_K eV (e_mv q (n0 + 0) 0 0) r0 h0 0 [(0, .ref l0)] [] h (F_X1_init n0 l0 h) := by
  unfold F_X1_init
  refine k_aload_n (hb 0 0 (by omega) (by omega)) dX1_init_0 0 rfl ?_
  refine k_objInit (hb 0 0 (by omega) (by omega)) tw_204 tw_73 tw_74 (by decide) (Nat.le_of_ble_eq_true rfl) dX1_init_1 ?_
  refine k_aload_n (hb 0 0 (by omega) (by omega)) dX1_init_4 0 rfl ?_
  refine k_iconst (hb 0 0 (by omega) (by omega)) dX1_init_5 (v := 4) rfl ?_
  refine k_newL (hb 0 0 (by omega) (by omega)) (K := 4) (by decide) (by decide) (by decide) tw_209 (show 0 + 1 ≤ (e_R q).cells by rw [hRc]; omega) (show 0 + 4 ≤ (e_R q).slots by rw [hRs]; omega) dX1_init_6 ?_
  show e_K _ (e_mv q (n0 + 1) 1 4) _ _ _ _ _ (h_set h (n0 + 0) (oL 1 4 (fun _ => 0))) _
  refine k_leth fun h1 _ => ?_
  refine k_pF (hb 1 4 (by omega) (by omega)) (C := RX1) (T := TX1) 1 0 rfl (by decide) lay_X1 tyX1 tyX1_ok nmX1 tw_205 rfl rfl rfl rfl rfl dX1_init_8 fun h2 => ?_
  exact k_vret (hb 1 4 (by omega) (by omega)) dX1_init_11 he
theorem con_X1_init (l : Launch) (G : eG) (B0 n : Nat) (l0 : Nat) : e_CA eV l G B0 n yX1_init cX1_init 1 none 1 28 1 4 [.ref l0] (F_X1_init n l0) := by
  refine e_mkA (by decide) (Nat.le_of_ble_eq_true rfl) fun q r0 h0 h hq he e1 e2 e3 e4 e5 e6 => ?_
  subst e1; subst e2; subst e3
  obtain ⟨hRc, hRs⟩ := e_E_room he
  have hz := P_X1_init_0 (n0 := n) (r0 := r0) (h0 := h0) (fun c s hc hs => e_B.mv hq (by rw [hRc]; exact hc) (by rw [hRs]; exact hs)) he hRc hRs l0 h
  rwa [e_mv_self e4 e5 e6] at hz
set_option maxRecDepth 100000 in
set_option maxHeartbeats 4000000 in
theorem P_X2_init_0 {q : eT} {r0 : Unit} {h0 : eH} {n0 : Nat} (hb : ∀ c s, c ≤ 1 → s ≤ 16 → e_B (e_mv q (n0 + c) c s) yX2_init.cls cX2_init 1 1 28 none yX2_init.name) (he : e_E (e_mv q (n0 + 1) 1 16)) (hRc : (e_R q).cells = 1) (hRs : (e_R q).slots = 16) (l0 : Nat) (h : eH) : e_K eV (e_mv q (n0 + 0) 0 0) r0 h0 0 [(0, .ref l0)] [] h (F_X2_init n0 l0 h) := by
  unfold F_X2_init
  refine k_aload_n (hb 0 0 (by omega) (by omega)) dX2_init_0 0 rfl ?_
  refine k_objInit (hb 0 0 (by omega) (by omega)) tw_177 tw_73 tw_74 (by decide) (Nat.le_of_ble_eq_true rfl) dX2_init_1 ?_
  refine k_aload_n (hb 0 0 (by omega) (by omega)) dX2_init_4 0 rfl ?_
  refine k_bipush (hb 0 0 (by omega) (by omega)) dX2_init_5 (v := 16) rfl ?_
  refine k_newI (hb 0 0 (by omega) (by omega)) (K := 16) (by decide) (by decide) (by decide) tw_100 (show 0 + 1 ≤ (e_R q).cells by rw [hRc]; omega) (show 0 + 16 ≤ (e_R q).slots by rw [hRs]; omega) dX2_init_7 ?_
  show e_K _ (e_mv q (n0 + 1) 1 16) _ _ _ _ _ (h_set h (n0 + 0) (oI 0 16 (fun _ => 0))) _
  refine k_leth fun h1 _ => ?_
  refine k_pF (hb 1 16 (by omega) (by omega)) (C := RX2) (T := TX2) 2 0 rfl (by decide) lay_X2 tyX2 tyX2_ok nmX2 tw_178 rfl rfl rfl rfl rfl dX2_init_9 fun h2 => ?_
  exact k_vret (hb 1 16 (by omega) (by omega)) dX2_init_12 he
theorem con_X2_init (l : Launch) (G : eG) (B0 n : Nat) (l0 : Nat) : e_CA eV l G B0 n yX2_init cX2_init 1 none 1 28 1 16 [.ref l0] (F_X2_init n l0) := by
  refine e_mkA (by decide) (Nat.le_of_ble_eq_true rfl) fun q r0 h0 h hq he e1 e2 e3 e4 e5 e6 => ?_
  subst e1; subst e2; subst e3
  obtain ⟨hRc, hRs⟩ := e_E_room he
  have hz := P_X2_init_0 (n0 := n) (r0 := r0) (h0 := h0) (fun c s hc hs => e_B.mv hq (by rw [hRc]; exact hc) (by rw [hRs]; exact hs)) he hRc hRs l0 h
  rwa [e_mv_self e4 e5 e6] at hz
set_option maxRecDepth 100000 in
set_option maxHeartbeats 4000000 in
theorem P_X3_init_0 {q : eT} {r0 : Unit} {h0 : eH} {n0 : Nat} (hb : ∀ c s, c ≤ 12 → s ≤ 660 → e_B (e_mv q (n0 + c) c s) yX3_init.cls cX3_init 1 2 48 none yX3_init.name) (he : e_E (e_mv q (n0 + 12) 12 660)) (hRc : (e_R q).cells = 12) (hRs : (e_R q).slots = 660) (l0 : Nat) (h : eH) : e_K eV (e_mv q (n0 + 0) 0 0) r0 h0 0 [(0, .ref l0)] [] h (F_X3_init n0 l0 h) := by
  unfold F_X3_init
  refine k_aload_n (hb 0 0 (by omega) (by omega)) dX3_init_0 0 rfl ?_
  refine k_objInit (hb 0 0 (by omega) (by omega)) tw_198 tw_73 tw_74 (by decide) (Nat.le_of_ble_eq_true rfl) dX3_init_1 ?_
  refine k_aload_n (hb 0 0 (by omega) (by omega)) dX3_init_4 0 rfl ?_
  refine k_sipush (hb 0 0 (by omega) (by omega)) dX3_init_5 (v := 160) rfl ?_
  refine k_newL (hb 0 0 (by omega) (by omega)) (K := 160) (by decide) (by decide) (by decide) tw_209 (show 0 + 1 ≤ (e_R q).cells by rw [hRc]; omega) (show 0 + 160 ≤ (e_R q).slots by rw [hRs]; omega) dX3_init_8 ?_
  show e_K _ (e_mv q (n0 + 1) 1 160) _ _ _ _ _ (h_set h (n0 + 0) (oL 1 160 (fun _ => 0))) _
  refine k_leth fun h1 _ => ?_
  refine k_pF (hb 1 160 (by omega) (by omega)) (C := RX3) (T := TX3) 3 0 rfl (by decide) lay_X3 tyX3 tyX3_ok nmX3 tw_210 rfl rfl rfl rfl rfl dX3_init_10 fun h2 => ?_
  refine k_aload_n (hb 1 160 (by omega) (by omega)) dX3_init_13 0 rfl ?_
  refine k_sipush (hb 1 160 (by omega) (by omega)) dX3_init_14 (v := 160) rfl ?_
  refine k_newI (hb 1 160 (by omega) (by omega)) (K := 160) (by decide) (by decide) (by decide) tw_100 (show 1 + 1 ≤ (e_R q).cells by rw [hRc]; omega) (show 160 + 160 ≤ (e_R q).slots by rw [hRs]; omega) dX3_init_17 ?_
  show e_K _ (e_mv q (n0 + 2) 2 320) _ _ _ _ _ (h_set h2 (n0 + 1) (oI 0 160 (fun _ => 0))) _
  refine k_leth fun h3 _ => ?_
  refine k_pF (hb 2 320 (by omega) (by omega)) (C := RX3) (T := TX3) 3 1 rfl (by decide) lay_X3 tyX3 tyX3_ok nmX3 tw_211 rfl rfl rfl rfl rfl dX3_init_19 fun h4 => ?_
  refine k_aload_n (hb 2 320 (by omega) (by omega)) dX3_init_22 0 rfl ?_
  refine k_sipush (hb 2 320 (by omega) (by omega)) dX3_init_23 (v := 160) rfl ?_
  refine k_newI (hb 2 320 (by omega) (by omega)) (K := 160) (by decide) (by decide) (by decide) tw_100 (show 2 + 1 ≤ (e_R q).cells by rw [hRc]; omega) (show 320 + 160 ≤ (e_R q).slots by rw [hRs]; omega) dX3_init_26 ?_
  show e_K _ (e_mv q (n0 + 3) 3 480) _ _ _ _ _ (h_set h4 (n0 + 2) (oI 0 160 (fun _ => 0))) _
  refine k_leth fun h5 _ => ?_
  refine k_pF (hb 3 480 (by omega) (by omega)) (C := RX3) (T := TX3) 3 2 rfl (by decide) lay_X3 tyX3 tyX3_ok nmX3 tw_212 rfl rfl rfl rfl rfl dX3_init_28 fun h6 => ?_
  refine k_aload_n (hb 3 480 (by omega) (by omega)) dX3_init_31 0 rfl ?_
  refine k_sipush (hb 3 480 (by omega) (by omega)) dX3_init_32 (v := 160) rfl ?_
  refine k_newI (hb 3 480 (by omega) (by omega)) (K := 160) (by decide) (by decide) (by decide) tw_100 (show 3 + 1 ≤ (e_R q).cells by rw [hRc]; omega) (show 480 + 160 ≤ (e_R q).slots by rw [hRs]; omega) dX3_init_35 ?_
  show e_K _ (e_mv q (n0 + 4) 4 640) _ _ _ _ _ (h_set h6 (n0 + 3) (oI 0 160 (fun _ => 0))) _
  refine k_leth fun h7 _ => ?_
  refine k_pF (hb 4 640 (by omega) (by omega)) (C := RX3) (T := TX3) 3 3 rfl (by decide) lay_X3 tyX3 tyX3_ok nmX3 tw_213 rfl rfl rfl rfl rfl dX3_init_37 fun h8 => ?_
  refine k_aload_n (hb 4 640 (by omega) (by omega)) dX3_init_40 0 rfl ?_
  refine k_new (hb 4 640 (by omega) (by omega)) (C := RX1) (T := TX1) 1 rfl lay_X1 tyX1 tyX1_ok tw_199 tw_200 tw_56 (show 4 + 1 ≤ (e_R q).cells by rw [hRc]; omega) (show 640 + 1 ≤ (e_R q).slots by rw [hRs]; omega) dX3_init_41 ?_
  show e_K _ (e_mv q (n0 + 5) 5 641) _ _ _ _ _ (h_set h8 (n0 + 4) (oB 1 (fun k => defaultValue (tyX1 k)))) _
  refine k_leth fun h9 _ => ?_
  refine k_dup (hb 5 641 (by omega) (by omega)) dX3_init_44 rfl ?_
  refine k_callINA (hb 5 641 (by omega) (by omega)) (na := 0) (As := []) (st := [.ref (n0 + 4), .ref l0]) (con_X1_init _ _ _ _ (n0 + 4)) tw_203 tw_56 tw_201 tw_202 rfl ⟨by decide, by decide, by decide +kernel⟩ rfl (by decide) rfl (Nat.le_of_ble_eq_true rfl) (show 5 + 1 ≤ (e_R q).cells by rw [hRc]; omega) (show 641 + 4 ≤ (e_R q).slots by rw [hRs]; omega) dX3_init_45 fun _ h10 => ?_
  show e_K _ (e_mv q (n0 + 6) 6 645) _ _ _ _ _ _ _
  refine k_pF (hb 6 645 (by omega) (by omega)) (C := RX3) (T := TX3) 3 4 rfl (by decide) lay_X3 tyX3 tyX3_ok nmX3 tw_214 rfl rfl rfl rfl rfl dX3_init_48 fun h11 => ?_
  refine k_aload_n (hb 6 645 (by omega) (by omega)) dX3_init_51 0 rfl ?_
  refine k_new (hb 6 645 (by omega) (by omega)) (C := RX1) (T := TX1) 1 rfl lay_X1 tyX1 tyX1_ok tw_199 tw_200 tw_56 (show 6 + 1 ≤ (e_R q).cells by rw [hRc]; omega) (show 645 + 1 ≤ (e_R q).slots by rw [hRs]; omega) dX3_init_52 ?_
  show e_K _ (e_mv q (n0 + 7) 7 646) _ _ _ _ _ (h_set h11 (n0 + 6) (oB 1 (fun k => defaultValue (tyX1 k)))) _
  refine k_leth fun h12 _ => ?_
  refine k_dup (hb 7 646 (by omega) (by omega)) dX3_init_55 rfl ?_
  refine k_callINA (hb 7 646 (by omega) (by omega)) (na := 0) (As := []) (st := [.ref (n0 + 6), .ref l0]) (con_X1_init _ _ _ _ (n0 + 6)) tw_203 tw_56 tw_201 tw_202 rfl ⟨by decide, by decide, by decide +kernel⟩ rfl (by decide) rfl (Nat.le_of_ble_eq_true rfl) (show 7 + 1 ≤ (e_R q).cells by rw [hRc]; omega) (show 646 + 4 ≤ (e_R q).slots by rw [hRs]; omega) dX3_init_56 fun _ h13 => ?_
  show e_K _ (e_mv q (n0 + 8) 8 650) _ _ _ _ _ _ _
  refine k_pF (hb 8 650 (by omega) (by omega)) (C := RX3) (T := TX3) 3 5 rfl (by decide) lay_X3 tyX3 tyX3_ok nmX3 tw_218 rfl rfl rfl rfl rfl dX3_init_59 fun h14 => ?_
  refine k_aload_n (hb 8 650 (by omega) (by omega)) dX3_init_62 0 rfl ?_
  refine k_new (hb 8 650 (by omega) (by omega)) (C := RX1) (T := TX1) 1 rfl lay_X1 tyX1 tyX1_ok tw_199 tw_200 tw_56 (show 8 + 1 ≤ (e_R q).cells by rw [hRc]; omega) (show 650 + 1 ≤ (e_R q).slots by rw [hRs]; omega) dX3_init_63 ?_
  show e_K _ (e_mv q (n0 + 9) 9 651) _ _ _ _ _ (h_set h14 (n0 + 8) (oB 1 (fun k => defaultValue (tyX1 k)))) _
  refine k_leth fun h15 _ => ?_
  refine k_dup (hb 9 651 (by omega) (by omega)) dX3_init_66 rfl ?_
  refine k_callINA (hb 9 651 (by omega) (by omega)) (na := 0) (As := []) (st := [.ref (n0 + 8), .ref l0]) (con_X1_init _ _ _ _ (n0 + 8)) tw_203 tw_56 tw_201 tw_202 rfl ⟨by decide, by decide, by decide +kernel⟩ rfl (by decide) rfl (Nat.le_of_ble_eq_true rfl) (show 9 + 1 ≤ (e_R q).cells by rw [hRc]; omega) (show 651 + 4 ≤ (e_R q).slots by rw [hRs]; omega) dX3_init_67 fun _ h16 => ?_
  show e_K _ (e_mv q (n0 + 10) 10 655) _ _ _ _ _ _ _
  refine k_pF (hb 10 655 (by omega) (by omega)) (C := RX3) (T := TX3) 3 6 rfl (by decide) lay_X3 tyX3 tyX3_ok nmX3 tw_221 rfl rfl rfl rfl rfl dX3_init_70 fun h17 => ?_
  refine k_aload_n (hb 10 655 (by omega) (by omega)) dX3_init_73 0 rfl ?_
  refine k_new (hb 10 655 (by omega) (by omega)) (C := RX1) (T := TX1) 1 rfl lay_X1 tyX1 tyX1_ok tw_199 tw_200 tw_56 (show 10 + 1 ≤ (e_R q).cells by rw [hRc]; omega) (show 655 + 1 ≤ (e_R q).slots by rw [hRs]; omega) dX3_init_74 ?_
  show e_K _ (e_mv q (n0 + 11) 11 656) _ _ _ _ _ (h_set h17 (n0 + 10) (oB 1 (fun k => defaultValue (tyX1 k)))) _
  refine k_leth fun h18 _ => ?_
  refine k_dup (hb 11 656 (by omega) (by omega)) dX3_init_77 rfl ?_
  refine k_callINA (hb 11 656 (by omega) (by omega)) (na := 0) (As := []) (st := [.ref (n0 + 10), .ref l0]) (con_X1_init _ _ _ _ (n0 + 10)) tw_203 tw_56 tw_201 tw_202 rfl ⟨by decide, by decide, by decide +kernel⟩ rfl (by decide) rfl (Nat.le_of_ble_eq_true rfl) (show 11 + 1 ≤ (e_R q).cells by rw [hRc]; omega) (show 656 + 4 ≤ (e_R q).slots by rw [hRs]; omega) dX3_init_78 fun _ h19 => ?_
  show e_K _ (e_mv q (n0 + 12) 12 660) _ _ _ _ _ _ _
  refine k_pF (hb 12 660 (by omega) (by omega)) (C := RX3) (T := TX3) 3 7 rfl (by decide) lay_X3 tyX3 tyX3_ok nmX3 tw_224 rfl rfl rfl rfl rfl dX3_init_81 fun h20 => ?_
  exact k_vret (hb 12 660 (by omega) (by omega)) dX3_init_84 he
theorem con_X3_init (l : Launch) (G : eG) (B0 n : Nat) (l0 : Nat) : e_CA eV l G B0 n yX3_init cX3_init 1 none 2 48 12 660 [.ref l0] (F_X3_init n l0) := by
  refine e_mkA (by decide) (Nat.le_of_ble_eq_true rfl) fun q r0 h0 h hq he e1 e2 e3 e4 e5 e6 => ?_
  subst e1; subst e2; subst e3
  obtain ⟨hRc, hRs⟩ := e_E_room he
  have hz := P_X3_init_0 (n0 := n) (r0 := r0) (h0 := h0) (fun c s hc hs => e_B.mv hq (by rw [hRc]; exact hc) (by rw [hRs]; exact hs)) he hRc hRs l0 h
  rwa [e_mv_self e4 e5 e6] at hz
set_option maxRecDepth 100000 in
set_option maxHeartbeats 4000000 in
theorem P_X8_init_0 {q : eT} {r0 : Unit} {h0 : eH} {n0 : Nat} (hb : ∀ c s, c ≤ 2 → s ≤ 5 → e_B (e_mv q (n0 + c) c s) yX8_init.cls cX8_init 3 2 48 none yX8_init.name) (he : e_E (e_mv q (n0 + 2) 2 5)) (hRc : (e_R q).cells = 2) (hRs : (e_R q).slots = 5) (l0 : Nat) (l1 : Int32) (l2 : Nat) (h : eH) : e_K eV (e_mv q (n0 + 0) 0 0) r0 h0 0 [(0, .ref l0), (1, .int l1), (2, .ref l2)] [] h (F_X8_init n0 l0 l1 l2 h) := by
  unfold F_X8_init
  refine k_aload_n (hb 0 0 (by omega) (by omega)) dX8_init_0 0 rfl ?_
  refine k_objInit (hb 0 0 (by omega) (by omega)) tw_264 tw_73 tw_74 (by decide) (Nat.le_of_ble_eq_true rfl) dX8_init_1 ?_
  refine k_aload_n (hb 0 0 (by omega) (by omega)) dX8_init_4 0 rfl ?_
  refine k_new (hb 0 0 (by omega) (by omega)) (C := RX1) (T := TX1) 1 rfl lay_X1 tyX1 tyX1_ok tw_265 tw_200 tw_56 (show 0 + 1 ≤ (e_R q).cells by rw [hRc]; omega) (show 0 + 1 ≤ (e_R q).slots by rw [hRs]; omega) dX8_init_5 ?_
  show e_K _ (e_mv q (n0 + 1) 1 1) _ _ _ _ _ (h_set h (n0 + 0) (oB 1 (fun k => defaultValue (tyX1 k)))) _
  refine k_leth fun h1 _ => ?_
  refine k_dup (hb 1 1 (by omega) (by omega)) dX8_init_8 rfl ?_
  refine k_callINA (hb 1 1 (by omega) (by omega)) (na := 0) (As := []) (st := [.ref (n0 + 0), .ref l0]) (con_X1_init _ _ _ _ (n0 + 0)) tw_203 tw_56 tw_266 tw_202 rfl ⟨by decide, by decide, by decide +kernel⟩ rfl (by decide) rfl (Nat.le_of_ble_eq_true rfl) (show 1 + 1 ≤ (e_R q).cells by rw [hRc]; omega) (show 1 + 4 ≤ (e_R q).slots by rw [hRs]; omega) dX8_init_9 fun _ h2 => ?_
  show e_K _ (e_mv q (n0 + 2) 2 5) _ _ _ _ _ _ _
  refine k_pF (hb 2 5 (by omega) (by omega)) (C := RX8) (T := TX8) 8 2 rfl (by decide) lay_X8 tyX8 tyX8_ok nmX8 tw_270 rfl rfl rfl rfl rfl dX8_init_12 fun h3 => ?_
  refine k_aload_n (hb 2 5 (by omega) (by omega)) dX8_init_15 0 rfl ?_
  refine k_iload_n (hb 2 5 (by omega) (by omega)) dX8_init_16 1 rfl ?_
  refine k_pF (hb 2 5 (by omega) (by omega)) (C := RX8) (T := TX8) 8 0 rfl (by decide) lay_X8 tyX8 tyX8_ok nmX8 tw_267 rfl rfl rfl rfl rfl dX8_init_17 fun h4 => ?_
  refine k_aload_n (hb 2 5 (by omega) (by omega)) dX8_init_20 0 rfl ?_
  refine k_aload_n (hb 2 5 (by omega) (by omega)) dX8_init_21 2 rfl ?_
  refine k_pF (hb 2 5 (by omega) (by omega)) (C := RX8) (T := TX8) 8 1 rfl (by decide) lay_X8 tyX8 tyX8_ok nmX8 tw_268 rfl rfl rfl rfl rfl dX8_init_22 fun h5 => ?_
  exact k_vret (hb 2 5 (by omega) (by omega)) dX8_init_25 he
theorem con_X8_init (l : Launch) (G : eG) (B0 n : Nat) (l0 : Nat) (l1 : Int32) (l2 : Nat) : e_CA eV l G B0 n yX8_init cX8_init 3 none 2 48 2 5 [.ref l0, .int l1, .ref l2] (F_X8_init n l0 l1 l2) := by
  refine e_mkA (by decide) (Nat.le_of_ble_eq_true rfl) fun q r0 h0 h hq he e1 e2 e3 e4 e5 e6 => ?_
  subst e1; subst e2; subst e3
  obtain ⟨hRc, hRs⟩ := e_E_room he
  have hz := P_X8_init_0 (n0 := n) (r0 := r0) (h0 := h0) (fun c s hc hs => e_B.mv hq (by rw [hRc]; exact hc) (by rw [hRs]; exact hs)) he hRc hRs l0 l1 l2 h
  rwa [e_mv_self e4 e5 e6] at hz
set_option maxRecDepth 100000 in
set_option maxHeartbeats 4000000 in
theorem P_X4_init_25b {q : eT} {r0 : Unit} {h0 : eH} {n0 : Nat} (hb : ∀ c s, c ≤ 26 → s ≤ 711 → e_B (e_mv q (n0 + c) c s) yX4_init.cls cX4_init 2 3 70 none yX4_init.name) (he : e_E (e_mv q (n0 + 26) 26 711)) (hRc : (e_R q).cells = 26) (hRs : (e_R q).slots = 711) (N : Nat) (k25 : Nat → Nat → Nat → Int32 → eH → Option (Unit × eH)) (hk25 : ∀ (c s : Nat) (l0 : Nat) (l1 : Int32) h, e_K eV (e_mv q (n0 + c) c s) r0 h0 25 [(0, .ref l0), (1, .int l1)] [] h (k25 c s l0 l1 h)) (c s : Nat) (l0 : Nat) (l1 : Int32) (h : eH) : e_K eV (e_mv q (n0 + c) c s) r0 h0 25 [(0, .ref l0), (1, .int l1)] [] h (F_X4_init_25b N n0 k25 c s l0 l1 h) := by
  unfold F_X4_init_25b
  refine k_ite (fun hg0 => ?_) (fun _ => k_none rfl)
  refine k_iload_n (hb c s (by omega) (by omega)) dX4_init_25 1 rfl ?_
  refine k_aload_n (hb c s (by omega) (by omega)) dX4_init_26 0 rfl ?_
  refine k_gr (hb c s (by omega) (by omega)) (C := RX4) (T := TX4) 4 1 rfl (by decide) (lay_X4 1 (by decide)) tw_287 dX4_init_27 fun v1 => ?_
  refine k_alen (hb c s (by omega) (by omega)) dX4_init_30 fun v2 => ?_
  refine k_icmp_ge (hb c s (by omega) (by omega)) (tgt := 58) dX4_init_31 (by decide) (fun _ => ?_) (fun _ => ?_)
  · refine k_ite (fun hg9 => ?_) (fun _ => k_none rfl)
    obtain ⟨rfl, rfl⟩ := hg9
    exact k_vret (hb 26 711 (by omega) (by omega)) dX4_init_58 he
  · refine k_aload_n (hb c s (by omega) (by omega)) dX4_init_34 0 rfl ?_
    refine k_gr (hb c s (by omega) (by omega)) (C := RX4) (T := TX4) 4 1 rfl (by decide) (lay_X4 1 (by decide)) tw_287 dX4_init_35 fun v3 => ?_
    refine k_iload_n (hb c s (by omega) (by omega)) dX4_init_38 1 rfl ?_
    refine k_ite (fun hg => ?_) (fun _ => k_none rfl)
    refine k_new (hb c s (by omega) (by omega)) (C := RX8) (T := TX8) 8 rfl lay_X8 tyX8 tyX8_ok tw_258 tw_260 tw_57 (show c + 1 ≤ (e_R q).cells by rw [hRc]; omega) (show s + 4 ≤ (e_R q).slots by rw [hRs]; omega) dX4_init_39 ?_
    show e_K _ (e_mv q (n0 + (c + 1)) (c + 1) (s + 4)) _ _ _ _ _ (h_set h (n0 + c) (oB 8 (fun k => defaultValue (tyX8 k)))) _
    refine k_leth fun h4 _ => ?_
    refine k_dup (hb (c + 1) (s + 4) (by omega) (by omega)) dX4_init_42 rfl ?_
    refine k_iload_n (hb (c + 1) (s + 4) (by omega) (by omega)) dX4_init_43 1 rfl ?_
    refine k_aload_n (hb (c + 1) (s + 4) (by omega) (by omega)) dX4_init_44 0 rfl ?_
    refine k_gr (hb (c + 1) (s + 4) (by omega) (by omega)) (C := RX4) (T := TX4) 4 0 rfl (by decide) (lay_X4 0 (by decide)) tw_285 dX4_init_45 fun v5 => ?_
    refine k_ite (fun hg => ?_) (fun _ => k_none rfl)
    refine k_callIA (hb (c + 1) (s + 4) (by omega) (by omega)) (na := 2) (As := [.int l1, .ref v5]) (st := [.ref (n0 + c), .int l1, .ref v3]) (con_X8_init _ _ _ _ (n0 + c) l1 v5) tw_263 tw_57 tw_261 tw_262 rfl ⟨by decide, by decide, by decide +kernel⟩ rfl (by decide) rfl (Nat.le_of_ble_eq_true rfl) (show (c + 1) + 2 ≤ (e_R q).cells by rw [hRc]; omega) (show (s + 4) + 5 ≤ (e_R q).slots by rw [hRs]; omega) dX4_init_48 fun _ h6 => ?_
    show e_K _ (e_mv q (n0 + (c + 3)) (c + 3) (s + 9)) _ _ _ _ _ _ _
    refine k_aast (hb (c + 3) (s + 9) (by omega) (by omega)) (r1 := (RX8, TX8, 4)) 4 8 (fun _ => rfl) rfl dX4_init_51 fun h7 => ?_
    refine k_iinc (hb (c + 3) (s + 9) (by omega) (by omega)) dX4_init_52 1 rfl (v := l1 + 1) rfl (by decide) (ls' := [(1, .int (l1 + 1)), (0, .ref l0)]) rfl ?_
    refine k_goto (hb (c + 3) (s + 9) (by omega) (by omega)) (tgt := 25) dX4_init_55 (by decide) ?_
    exact k_sub [1, 0] rfl (hk25 (c + 3) (s + 9) l0 (l1 + 1) h7)
theorem Q_X4_init_25 {q : eT} {r0 : Unit} {h0 : eH} {n0 : Nat} (hb : ∀ c s, c ≤ 26 → s ≤ 711 → e_B (e_mv q (n0 + c) c s) yX4_init.cls cX4_init 2 3 70 none yX4_init.name) (he : e_E (e_mv q (n0 + 26) 26 711)) (hRc : (e_R q).cells = 26) (hRs : (e_R q).slots = 711) (N : Nat) (c s : Nat) (l0 : Nat) (l1 : Int32) (h : eH) : e_K eV (e_mv q (n0 + c) c s) r0 h0 25 [(0, .ref l0), (1, .int l1)] [] h (L_X4_init_25 N n0 c s l0 l1 h) :=
  k_loopA (qq := fun s => e_mv q (n0 + s.1) s.1 s.2.1) (mk := (fun s => [(0, .ref s.2.2.1), (1, .int s.2.2.2.1)])) (hp := fun s => s.2.2.2.2) (fun k hk s => P_X4_init_25b hb he hRc hRs N (fun c s l0 l1 h => k (c, s, l0, l1, h)) (fun c s l0 l1 h => hk (c, s, l0, l1, h)) s.1 s.2.1 s.2.2.1 s.2.2.2.1 s.2.2.2.2) N (c, s, l0, l1, h)
set_option maxRecDepth 100000 in
set_option maxHeartbeats 4000000 in
theorem P_X4_init_0 {q : eT} {r0 : Unit} {h0 : eH} {n0 : Nat} (hb : ∀ c s, c ≤ 26 → s ≤ 711 → e_B (e_mv q (n0 + c) c s) yX4_init.cls cX4_init 2 3 70 none yX4_init.name) (he : e_E (e_mv q (n0 + 26) 26 711)) (hRc : (e_R q).cells = 26) (hRs : (e_R q).slots = 711) (N : Nat) (l0 : Nat) (h : eH) : e_K eV (e_mv q (n0 + 0) 0 0) r0 h0 0 [(0, .ref l0)] [] h (F_X4_init N n0 l0 h) := by
  unfold F_X4_init
  refine k_aload_n (hb 0 0 (by omega) (by omega)) dX4_init_0 0 rfl ?_
  refine k_objInit (hb 0 0 (by omega) (by omega)) tw_192 tw_73 tw_74 (by decide) (Nat.le_of_ble_eq_true rfl) dX4_init_1 ?_
  refine k_aload_n (hb 0 0 (by omega) (by omega)) dX4_init_4 0 rfl ?_
  refine k_new (hb 0 0 (by omega) (by omega)) (C := RX3) (T := TX3) 3 rfl lay_X3 tyX3 tyX3_ok tw_193 tw_194 tw_55 (show 0 + 1 ≤ (e_R q).cells by rw [hRc]; omega) (show 0 + 11 ≤ (e_R q).slots by rw [hRs]; omega) dX4_init_5 ?_
  show e_K _ (e_mv q (n0 + 1) 1 11) _ _ _ _ _ (h_set h (n0 + 0) (oB 3 (fun k => defaultValue (tyX3 k)))) _
  refine k_leth fun h1 _ => ?_
  refine k_dup (hb 1 11 (by omega) (by omega)) dX4_init_8 rfl ?_
  refine k_callINA (hb 1 11 (by omega) (by omega)) (na := 0) (As := []) (st := [.ref (n0 + 0), .ref l0]) (con_X3_init _ _ _ _ (n0 + 0)) tw_197 tw_55 tw_195 tw_196 rfl ⟨by decide, by decide, by decide +kernel⟩ rfl (by decide) rfl (Nat.le_of_ble_eq_true rfl) (show 1 + 12 ≤ (e_R q).cells by rw [hRc]; omega) (show 11 + 660 ≤ (e_R q).slots by rw [hRs]; omega) dX4_init_9 fun _ h2 => ?_
  show e_K _ (e_mv q (n0 + 13) 13 671) _ _ _ _ _ _ _
  refine k_pF (hb 13 671 (by omega) (by omega)) (C := RX4) (T := TX4) 4 0 rfl (by decide) lay_X4 tyX4 tyX4_ok nmX4 tw_285 rfl rfl rfl rfl rfl dX4_init_12 fun h3 => ?_
  refine k_aload_n (hb 13 671 (by omega) (by omega)) dX4_init_15 0 rfl ?_
  refine k_iconst (hb 13 671 (by omega) (by omega)) dX4_init_16 (v := 4) rfl ?_
  refine k_newR (hb 13 671 (by omega) (by omega)) 4 (fun _ => rfl) (K := 4) (by decide) (by decide) (by decide) tw_258 tw_259 (show 13 + 1 ≤ (e_R q).cells by rw [hRc]; omega) (show 671 + 4 ≤ (e_R q).slots by rw [hRs]; omega) dX4_init_17 ?_
  show e_K _ (e_mv q (n0 + 14) 14 675) _ _ _ _ _ (h_set h3 (n0 + 13) (oR 4 4 (fun _ => none))) _
  refine k_leth fun h4 _ => ?_
  refine k_pF (hb 14 675 (by omega) (by omega)) (C := RX4) (T := TX4) 4 1 rfl (by decide) lay_X4 tyX4 tyX4_ok nmX4 tw_287 rfl rfl rfl rfl rfl dX4_init_20 fun h5 => ?_
  refine k_iconst (hb 14 675 (by omega) (by omega)) dX4_init_23 (v := 0) rfl ?_
  refine k_istore_n (hb 14 675 (by omega) (by omega)) dX4_init_24 rfl (by decide) (ls' := [(1, .int 0), (0, .ref l0)]) rfl ?_
  exact k_sub [1, 0] rfl (Q_X4_init_25 hb he hRc hRs N 14 675 l0 0 h5)
theorem con_X4_init (l : Launch) (G : eG) (B0 n : Nat) (N : Nat) (l0 : Nat) : e_CA eV l G B0 n yX4_init cX4_init 2 none 3 70 26 711 [.ref l0] (F_X4_init N n l0) := by
  refine e_mkA (by decide) (Nat.le_of_ble_eq_true rfl) fun q r0 h0 h hq he e1 e2 e3 e4 e5 e6 => ?_
  subst e1; subst e2; subst e3
  obtain ⟨hRc, hRs⟩ := e_E_room he
  have hz := P_X4_init_0 (n0 := n) (r0 := r0) (h0 := h0) (fun c s hc hs => e_B.mv hq (by rw [hRc]; exact hc) (by rw [hRs]; exact hs)) he hRc hRs N l0 h
  rwa [e_mv_self e4 e5 e6] at hz
set_option maxRecDepth 100000 in
set_option maxHeartbeats 4000000 in
theorem P_X5_init_0 {q : eT} {r0 : Unit} {h0 : eH} {n0 : Nat} (hb : ∀ c s, c ≤ 2 → s ≤ 4 → e_B (e_mv q (n0 + c) c s) yX5_init.cls cX5_init 1 1 28 none yX5_init.name) (he : e_E (e_mv q (n0 + 2) 2 4)) (hRc : (e_R q).cells = 2) (hRs : (e_R q).slots = 4) (l0 : Nat) (h : eH) : e_K eV (e_mv q (n0 + 0) 0 0) r0 h0 0 [(0, .ref l0)] [] h (F_X5_init n0 l0 h) := by
  unfold F_X5_init
  refine k_aload_n (hb 0 0 (by omega) (by omega)) dX5_init_0 0 rfl ?_
  refine k_objInit (hb 0 0 (by omega) (by omega)) tw_140 tw_73 tw_74 (by decide) (Nat.le_of_ble_eq_true rfl) dX5_init_1 ?_
  refine k_aload_n (hb 0 0 (by omega) (by omega)) dX5_init_4 0 rfl ?_
  refine k_iconst (hb 0 0 (by omega) (by omega)) dX5_init_5 (v := 2) rfl ?_
  refine k_newI (hb 0 0 (by omega) (by omega)) (K := 2) (by decide) (by decide) (by decide) tw_100 (show 0 + 1 ≤ (e_R q).cells by rw [hRc]; omega) (show 0 + 2 ≤ (e_R q).slots by rw [hRs]; omega) dX5_init_6 ?_
  show e_K _ (e_mv q (n0 + 1) 1 2) _ _ _ _ _ (h_set h (n0 + 0) (oI 0 2 (fun _ => 0))) _
  refine k_leth fun h1 _ => ?_
  refine k_pF (hb 1 2 (by omega) (by omega)) (C := RX5) (T := TX5) 5 0 rfl (by decide) lay_X5 tyX5 tyX5_ok nmX5 tw_141 rfl rfl rfl rfl rfl dX5_init_8 fun h2 => ?_
  refine k_aload_n (hb 1 2 (by omega) (by omega)) dX5_init_11 0 rfl ?_
  refine k_iconst (hb 1 2 (by omega) (by omega)) dX5_init_12 (v := 2) rfl ?_
  refine k_newI (hb 1 2 (by omega) (by omega)) (K := 2) (by decide) (by decide) (by decide) tw_100 (show 1 + 1 ≤ (e_R q).cells by rw [hRc]; omega) (show 2 + 2 ≤ (e_R q).slots by rw [hRs]; omega) dX5_init_13 ?_
  show e_K _ (e_mv q (n0 + 2) 2 4) _ _ _ _ _ (h_set h2 (n0 + 1) (oI 0 2 (fun _ => 0))) _
  refine k_leth fun h3 _ => ?_
  refine k_pF (hb 2 4 (by omega) (by omega)) (C := RX5) (T := TX5) 5 1 rfl (by decide) lay_X5 tyX5 tyX5_ok nmX5 tw_142 rfl rfl rfl rfl rfl dX5_init_15 fun h4 => ?_
  exact k_vret (hb 2 4 (by omega) (by omega)) dX5_init_18 he
theorem con_X5_init (l : Launch) (G : eG) (B0 n : Nat) (l0 : Nat) : e_CA eV l G B0 n yX5_init cX5_init 1 none 1 28 2 4 [.ref l0] (F_X5_init n l0) := by
  refine e_mkA (by decide) (Nat.le_of_ble_eq_true rfl) fun q r0 h0 h hq he e1 e2 e3 e4 e5 e6 => ?_
  subst e1; subst e2; subst e3
  obtain ⟨hRc, hRs⟩ := e_E_room he
  have hz := P_X5_init_0 (n0 := n) (r0 := r0) (h0 := h0) (fun c s hc hs => e_B.mv hq (by rw [hRc]; exact hc) (by rw [hRs]; exact hs)) he hRc hRs l0 h
  rwa [e_mv_self e4 e5 e6] at hz
set_option maxRecDepth 100000 in
set_option maxHeartbeats 4000000 in
theorem P_X7_init_0 {q : eT} {r0 : Unit} {h0 : eH} {n0 : Nat} (hb : ∀ c s, c ≤ 1 → s ≤ 4 → e_B (e_mv q (n0 + c) c s) yX7_init.cls cX7_init 1 1 28 none yX7_init.name) (he : e_E (e_mv q (n0 + 1) 1 4)) (hRc : (e_R q).cells = 1) (hRs : (e_R q).slots = 4) (l0 : Nat) (h : eH) : e_K eV (e_mv q (n0 + 0) 0 0) r0 h0 0 [(0, .ref l0)] [] h (F_X7_init n0 l0 h) := by
  unfold F_X7_init
  refine k_aload_n (hb 0 0 (by omega) (by omega)) dX7_init_0 0 rfl ?_
  refine k_objInit (hb 0 0 (by omega) (by omega)) tw_106 tw_73 tw_74 (by decide) (Nat.le_of_ble_eq_true rfl) dX7_init_1 ?_
  refine k_aload_n (hb 0 0 (by omega) (by omega)) dX7_init_4 0 rfl ?_
  refine k_iconst (hb 0 0 (by omega) (by omega)) dX7_init_5 (v := 4) rfl ?_
  refine k_newI (hb 0 0 (by omega) (by omega)) (K := 4) (by decide) (by decide) (by decide) tw_100 (show 0 + 1 ≤ (e_R q).cells by rw [hRc]; omega) (show 0 + 4 ≤ (e_R q).slots by rw [hRs]; omega) dX7_init_6 ?_
  show e_K _ (e_mv q (n0 + 1) 1 4) _ _ _ _ _ (h_set h (n0 + 0) (oI 0 4 (fun _ => 0))) _
  refine k_leth fun h1 _ => ?_
  refine k_pF (hb 1 4 (by omega) (by omega)) (C := RX7) (T := TX7) 7 0 rfl (by decide) lay_X7 tyX7 tyX7_ok nmX7 tw_107 rfl rfl rfl rfl rfl dX7_init_8 fun h2 => ?_
  exact k_vret (hb 1 4 (by omega) (by omega)) dX7_init_11 he
theorem con_X7_init (l : Launch) (G : eG) (B0 n : Nat) (l0 : Nat) : e_CA eV l G B0 n yX7_init cX7_init 1 none 1 28 1 4 [.ref l0] (F_X7_init n l0) := by
  refine e_mkA (by decide) (Nat.le_of_ble_eq_true rfl) fun q r0 h0 h hq he e1 e2 e3 e4 e5 e6 => ?_
  subst e1; subst e2; subst e3
  obtain ⟨hRc, hRs⟩ := e_E_room he
  have hz := P_X7_init_0 (n0 := n) (r0 := r0) (h0 := h0) (fun c s hc hs => e_B.mv hq (by rw [hRc]; exact hc) (by rw [hRs]; exact hs)) he hRc hRs l0 h
  rwa [e_mv_self e4 e5 e6] at hz
set_option maxRecDepth 100000 in
set_option maxHeartbeats 4000000 in
theorem P_X10_init_0 {q : eT} {r0 : Unit} {h0 : eH} {n0 : Nat} (hb : ∀ c s, c ≤ 1 → s ≤ 100 → e_B (e_mv q (n0 + c) c s) yX10_init.cls cX10_init 1 1 28 none yX10_init.name) (he : e_E (e_mv q (n0 + 1) 1 100)) (hRc : (e_R q).cells = 1) (hRs : (e_R q).slots = 100) (l0 : Nat) (h : eH) : e_K eV (e_mv q (n0 + 0) 0 0) r0 h0 0 [(0, .ref l0)] [] h (F_X10_init n0 l0 h) := by
  unfold F_X10_init
  refine k_aload_n (hb 0 0 (by omega) (by omega)) dX10_init_0 0 rfl ?_
  refine k_objInit (hb 0 0 (by omega) (by omega)) tw_80 tw_73 tw_74 (by decide) (Nat.le_of_ble_eq_true rfl) dX10_init_1 ?_
  refine k_aload_n (hb 0 0 (by omega) (by omega)) dX10_init_4 0 rfl ?_
  refine k_bipush (hb 0 0 (by omega) (by omega)) dX10_init_5 (v := 100) rfl ?_
  refine k_newI (hb 0 0 (by omega) (by omega)) (K := 100) (by decide) (by decide) (by decide) tw_100 (show 0 + 1 ≤ (e_R q).cells by rw [hRc]; omega) (show 0 + 100 ≤ (e_R q).slots by rw [hRs]; omega) dX10_init_7 ?_
  show e_K _ (e_mv q (n0 + 1) 1 100) _ _ _ _ _ (h_set h (n0 + 0) (oI 0 100 (fun _ => 0))) _
  refine k_leth fun h1 _ => ?_
  refine k_pF (hb 1 100 (by omega) (by omega)) (C := RX10) (T := TX10) 9 0 rfl (by decide) lay_X10 tyX10 tyX10_ok nmX10 tw_81 rfl rfl rfl rfl rfl dX10_init_9 fun h2 => ?_
  exact k_vret (hb 1 100 (by omega) (by omega)) dX10_init_12 he
theorem con_X10_init (l : Launch) (G : eG) (B0 n : Nat) (l0 : Nat) : e_CA eV l G B0 n yX10_init cX10_init 1 none 1 28 1 100 [.ref l0] (F_X10_init n l0) := by
  refine e_mkA (by decide) (Nat.le_of_ble_eq_true rfl) fun q r0 h0 h hq he e1 e2 e3 e4 e5 e6 => ?_
  subst e1; subst e2; subst e3
  obtain ⟨hRc, hRs⟩ := e_E_room he
  have hz := P_X10_init_0 (n0 := n) (r0 := r0) (h0 := h0) (fun c s hc hs => e_B.mv hq (by rw [hRc]; exact hc) (by rw [hRs]; exact hs)) he hRc hRs l0 h
  rwa [e_mv_self e4 e5 e6] at hz
set_option maxRecDepth 100000 in
set_option maxHeartbeats 4000000 in
theorem P_X11_init_122b {q : eT} {r0 : Unit} {h0 : eH} {n0 : Nat} (hb : ∀ c s, c ≤ 124 → s ≤ 3017 → e_B (e_mv q (n0 + c) c s) yX11_init.cls cX11_init 2 4 91 none yX11_init.name) (he : e_E (e_mv q (n0 + 124) 124 3017)) (hRc : (e_R q).cells = 124) (hRs : (e_R q).slots = 3017) (N : Nat) (k122 : Nat → Nat → Nat → Int32 → eH → Option (Unit × eH)) (hk122 : ∀ (c s : Nat) (l0 : Nat) (l1 : Int32) h, e_K eV (e_mv q (n0 + c) c s) r0 h0 122 [(0, .ref l0), (1, .int l1)] [] h (k122 c s l0 l1 h)) (c s : Nat) (l0 : Nat) (l1 : Int32) (h : eH) : e_K eV (e_mv q (n0 + c) c s) r0 h0 122 [(0, .ref l0), (1, .int l1)] [] h (F_X11_init_122b N n0 k122 c s l0 l1 h) := by
  unfold F_X11_init_122b
  refine k_ite (fun hg0 => ?_) (fun _ => k_none rfl)
  refine k_iload_n (hb c s (by omega) (by omega)) dX11_init_122 1 rfl ?_
  refine k_aload_n (hb c s (by omega) (by omega)) dX11_init_123 0 rfl ?_
  refine k_gr (hb c s (by omega) (by omega)) (C := RX11) (T := TX11) 10 3 rfl (by decide) (lay_X11 3 (by decide)) tw_314 dX11_init_124 fun v1 => ?_
  refine k_alen (hb c s (by omega) (by omega)) dX11_init_127 fun v2 => ?_
  refine k_icmp_ge (hb c s (by omega) (by omega)) (tgt := 150) dX11_init_128 (by decide) (fun _ => ?_) (fun _ => ?_)
  · refine k_ite (fun hg9 => ?_) (fun _ => k_none rfl)
    obtain ⟨rfl, rfl⟩ := hg9
    exact k_vret (hb 124 3017 (by omega) (by omega)) dX11_init_150 he
  · refine k_aload_n (hb c s (by omega) (by omega)) dX11_init_131 0 rfl ?_
    refine k_gr (hb c s (by omega) (by omega)) (C := RX11) (T := TX11) 10 3 rfl (by decide) (lay_X11 3 (by decide)) tw_314 dX11_init_132 fun v3 => ?_
    refine k_iload_n (hb c s (by omega) (by omega)) dX11_init_135 1 rfl ?_
    refine k_ite (fun hg => ?_) (fun _ => k_none rfl)
    refine k_new (hb c s (by omega) (by omega)) (C := RX0) (T := TX0) 0 rfl lay_X0 tyX0 tyX0_ok tw_133 tw_293 tw_58 (show c + 1 ≤ (e_R q).cells by rw [hRc]; omega) (show s + 3 ≤ (e_R q).slots by rw [hRs]; omega) dX11_init_136 ?_
    show e_K _ (e_mv q (n0 + (c + 1)) (c + 1) (s + 3)) _ _ _ _ _ (h_set h (n0 + c) (oB 0 (fun k => defaultValue (tyX0 k)))) _
    refine k_leth fun h4 _ => ?_
    refine k_dup (hb (c + 1) (s + 3) (by omega) (by omega)) dX11_init_139 rfl ?_
    refine k_callIN (hb (c + 1) (s + 3) (by omega) (by omega)) (na := 0) (As := []) (st := [.ref (n0 + c), .int l1, .ref v3]) (con_X0_init _ _ _ _ (n0 + c)) tw_296 tw_58 tw_294 tw_295 rfl ⟨by decide, by decide, by decide +kernel⟩ rfl (by decide) rfl (Nat.le_of_ble_eq_true rfl) dX11_init_140 fun v5 h6 => ?_
    refine k_aast (hb (c + 1) (s + 3) (by omega) (by omega)) (r1 := (RX0, TX0, 3)) 5 0 (fun _ => rfl) rfl dX11_init_143 fun h7 => ?_
    refine k_iinc (hb (c + 1) (s + 3) (by omega) (by omega)) dX11_init_144 1 rfl (v := l1 + 1) rfl (by decide) (ls' := [(1, .int (l1 + 1)), (0, .ref l0)]) rfl ?_
    refine k_goto (hb (c + 1) (s + 3) (by omega) (by omega)) (tgt := 122) dX11_init_147 (by decide) ?_
    exact k_sub [1, 0] rfl (hk122 (c + 1) (s + 3) l0 (l1 + 1) h7)
theorem Q_X11_init_122 {q : eT} {r0 : Unit} {h0 : eH} {n0 : Nat} (hb : ∀ c s, c ≤ 124 → s ≤ 3017 → e_B (e_mv q (n0 + c) c s) yX11_init.cls cX11_init 2 4 91 none yX11_init.name) (he : e_E (e_mv q (n0 + 124) 124 3017)) (hRc : (e_R q).cells = 124) (hRs : (e_R q).slots = 3017) (N : Nat) (c s : Nat) (l0 : Nat) (l1 : Int32) (h : eH) : e_K eV (e_mv q (n0 + c) c s) r0 h0 122 [(0, .ref l0), (1, .int l1)] [] h (L_X11_init_122 N n0 c s l0 l1 h) :=
  k_loopA (qq := fun s => e_mv q (n0 + s.1) s.1 s.2.1) (mk := (fun s => [(0, .ref s.2.2.1), (1, .int s.2.2.2.1)])) (hp := fun s => s.2.2.2.2) (fun k hk s => P_X11_init_122b hb he hRc hRs N (fun c s l0 l1 h => k (c, s, l0, l1, h)) (fun c s l0 l1 h => hk (c, s, l0, l1, h)) s.1 s.2.1 s.2.2.1 s.2.2.2.1 s.2.2.2.2) N (c, s, l0, l1, h)
set_option maxRecDepth 100000 in
set_option maxHeartbeats 4000000 in
theorem P_X11_init_92b {q : eT} {r0 : Unit} {h0 : eH} {n0 : Nat} (hb : ∀ c s, c ≤ 124 → s ≤ 3017 → e_B (e_mv q (n0 + c) c s) yX11_init.cls cX11_init 2 4 91 none yX11_init.name) (he : e_E (e_mv q (n0 + 124) 124 3017)) (hRc : (e_R q).cells = 124) (hRs : (e_R q).slots = 3017) (N : Nat) (k92 : Nat → Nat → Nat → Int32 → eH → Option (Unit × eH)) (hk92 : ∀ (c s : Nat) (l0 : Nat) (l1 : Int32) h, e_K eV (e_mv q (n0 + c) c s) r0 h0 92 [(0, .ref l0), (1, .int l1)] [] h (k92 c s l0 l1 h)) (c s : Nat) (l0 : Nat) (l1 : Int32) (h : eH) : e_K eV (e_mv q (n0 + c) c s) r0 h0 92 [(0, .ref l0), (1, .int l1)] [] h (F_X11_init_92b N n0 k92 c s l0 l1 h) := by
  unfold F_X11_init_92b
  refine k_ite (fun hg0 => ?_) (fun _ => k_none rfl)
  refine k_iload_n (hb c s (by omega) (by omega)) dX11_init_92 1 rfl ?_
  refine k_aload_n (hb c s (by omega) (by omega)) dX11_init_93 0 rfl ?_
  refine k_gr (hb c s (by omega) (by omega)) (C := RX11) (T := TX11) 10 2 rfl (by decide) (lay_X11 2 (by decide)) tw_313 dX11_init_94 fun v1 => ?_
  refine k_alen (hb c s (by omega) (by omega)) dX11_init_97 fun v2 => ?_
  refine k_icmp_ge (hb c s (by omega) (by omega)) (tgt := 120) dX11_init_98 (by decide) (fun _ => ?_) (fun _ => ?_)
  · refine k_iconst (hb c s (by omega) (by omega)) dX11_init_120 (v := 0) rfl ?_
    refine k_istore_n (hb c s (by omega) (by omega)) dX11_init_121 rfl (by decide) (ls' := [(1, .int 0), (0, .ref l0)]) rfl ?_
    exact k_sub [1, 0] rfl (Q_X11_init_122 hb he hRc hRs N c s l0 0 h)
  · refine k_aload_n (hb c s (by omega) (by omega)) dX11_init_101 0 rfl ?_
    refine k_gr (hb c s (by omega) (by omega)) (C := RX11) (T := TX11) 10 2 rfl (by decide) (lay_X11 2 (by decide)) tw_313 dX11_init_102 fun v3 => ?_
    refine k_iload_n (hb c s (by omega) (by omega)) dX11_init_105 1 rfl ?_
    refine k_ite (fun hg => ?_) (fun _ => k_none rfl)
    refine k_new (hb c s (by omega) (by omega)) (C := RX4) (T := TX4) 4 rfl lay_X4 tyX4 tyX4_ok tw_131 tw_188 tw_54 (show c + 1 ≤ (e_R q).cells by rw [hRc]; omega) (show s + 2 ≤ (e_R q).slots by rw [hRs]; omega) dX11_init_106 ?_
    show e_K _ (e_mv q (n0 + (c + 1)) (c + 1) (s + 2)) _ _ _ _ _ (h_set h (n0 + c) (oB 4 (fun k => defaultValue (tyX4 k)))) _
    refine k_leth fun h4 _ => ?_
    refine k_dup (hb (c + 1) (s + 2) (by omega) (by omega)) dX11_init_109 rfl ?_
    refine k_ite (fun hg => ?_) (fun _ => k_none rfl)
    refine k_callIA (hb (c + 1) (s + 2) (by omega) (by omega)) (na := 0) (As := []) (st := [.ref (n0 + c), .int l1, .ref v3]) (con_X4_init _ _ _ _ N (n0 + c)) tw_191 tw_54 tw_189 tw_190 rfl ⟨by decide, by decide, by decide +kernel⟩ rfl (by decide) rfl (Nat.le_of_ble_eq_true rfl) (show (c + 1) + 26 ≤ (e_R q).cells by rw [hRc]; omega) (show (s + 2) + 711 ≤ (e_R q).slots by rw [hRs]; omega) dX11_init_110 fun _ h5 => ?_
    show e_K _ (e_mv q (n0 + (c + 27)) (c + 27) (s + 713)) _ _ _ _ _ _ _
    refine k_aast (hb (c + 27) (s + 713) (by omega) (by omega)) (r1 := (RX4, TX4, 2)) 3 4 (fun _ => rfl) rfl dX11_init_113 fun h6 => ?_
    refine k_iinc (hb (c + 27) (s + 713) (by omega) (by omega)) dX11_init_114 1 rfl (v := l1 + 1) rfl (by decide) (ls' := [(1, .int (l1 + 1)), (0, .ref l0)]) rfl ?_
    refine k_goto (hb (c + 27) (s + 713) (by omega) (by omega)) (tgt := 92) dX11_init_117 (by decide) ?_
    exact k_sub [1, 0] rfl (hk92 (c + 27) (s + 713) l0 (l1 + 1) h6)
theorem Q_X11_init_92 {q : eT} {r0 : Unit} {h0 : eH} {n0 : Nat} (hb : ∀ c s, c ≤ 124 → s ≤ 3017 → e_B (e_mv q (n0 + c) c s) yX11_init.cls cX11_init 2 4 91 none yX11_init.name) (he : e_E (e_mv q (n0 + 124) 124 3017)) (hRc : (e_R q).cells = 124) (hRs : (e_R q).slots = 3017) (N : Nat) (c s : Nat) (l0 : Nat) (l1 : Int32) (h : eH) : e_K eV (e_mv q (n0 + c) c s) r0 h0 92 [(0, .ref l0), (1, .int l1)] [] h (L_X11_init_92 N n0 c s l0 l1 h) :=
  k_loopA (qq := fun s => e_mv q (n0 + s.1) s.1 s.2.1) (mk := (fun s => [(0, .ref s.2.2.1), (1, .int s.2.2.2.1)])) (hp := fun s => s.2.2.2.2) (fun k hk s => P_X11_init_92b hb he hRc hRs N (fun c s l0 l1 h => k (c, s, l0, l1, h)) (fun c s l0 l1 h => hk (c, s, l0, l1, h)) s.1 s.2.1 s.2.2.1 s.2.2.2.1 s.2.2.2.2) N (c, s, l0, l1, h)
set_option maxRecDepth 100000 in
set_option maxHeartbeats 4000000 in
theorem P_X11_init_0 {q : eT} {r0 : Unit} {h0 : eH} {n0 : Nat} (hb : ∀ c s, c ≤ 124 → s ≤ 3017 → e_B (e_mv q (n0 + c) c s) yX11_init.cls cX11_init 2 4 91 none yX11_init.name) (he : e_E (e_mv q (n0 + 124) 124 3017)) (hRc : (e_R q).cells = 124) (hRs : (e_R q).slots = 3017) (N : Nat) (l0 : Nat) (h : eH) : e_K eV (e_mv q (n0 + 0) 0 0) r0 h0 0 [(0, .ref l0)] [] h (F_X11_init N n0 l0 h) := by
  unfold F_X11_init
  refine k_aload_n (hb 0 0 (by omega) (by omega)) dX11_init_0 0 rfl ?_
  refine k_objInit (hb 0 0 (by omega) (by omega)) tw_72 tw_73 tw_74 (by decide) (Nat.le_of_ble_eq_true rfl) dX11_init_1 ?_
  refine k_aload_n (hb 0 0 (by omega) (by omega)) dX11_init_4 0 rfl ?_
  refine k_new (hb 0 0 (by omega) (by omega)) (C := RX10) (T := TX10) 9 rfl lay_X10 tyX10 tyX10_ok tw_75 tw_76 tw_49 (show 0 + 1 ≤ (e_R q).cells by rw [hRc]; omega) (show 0 + 5 ≤ (e_R q).slots by rw [hRs]; omega) dX11_init_5 ?_
  show e_K _ (e_mv q (n0 + 1) 1 5) _ _ _ _ _ (h_set h (n0 + 0) (oB 9 (fun k => defaultValue (tyX10 k)))) _
  refine k_leth fun h1 _ => ?_
  refine k_dup (hb 1 5 (by omega) (by omega)) dX11_init_8 rfl ?_
  refine k_callINA (hb 1 5 (by omega) (by omega)) (na := 0) (As := []) (st := [.ref (n0 + 0), .ref l0]) (con_X10_init _ _ _ _ (n0 + 0)) tw_79 tw_49 tw_77 tw_78 rfl ⟨by decide, by decide, by decide +kernel⟩ rfl (by decide) rfl (Nat.le_of_ble_eq_true rfl) (show 1 + 1 ≤ (e_R q).cells by rw [hRc]; omega) (show 5 + 100 ≤ (e_R q).slots by rw [hRs]; omega) dX11_init_9 fun _ h2 => ?_
  show e_K _ (e_mv q (n0 + 2) 2 105) _ _ _ _ _ _ _
  refine k_pF (hb 2 105 (by omega) (by omega)) (C := RX11) (T := TX11) 10 0 rfl (by decide) lay_X11 tyX11 tyX11_ok nmX11 tw_311 rfl rfl rfl rfl rfl dX11_init_12 fun h3 => ?_
  refine k_aload_n (hb 2 105 (by omega) (by omega)) dX11_init_15 0 rfl ?_
  refine k_new (hb 2 105 (by omega) (by omega)) (C := RX7) (T := TX7) 7 rfl lay_X7 tyX7 tyX7_ok tw_101 tw_102 tw_50 (show 2 + 1 ≤ (e_R q).cells by rw [hRc]; omega) (show 105 + 6 ≤ (e_R q).slots by rw [hRs]; omega) dX11_init_16 ?_
  show e_K _ (e_mv q (n0 + 3) 3 111) _ _ _ _ _ (h_set h3 (n0 + 2) (oB 7 (fun k => defaultValue (tyX7 k)))) _
  refine k_leth fun h4 _ => ?_
  refine k_dup (hb 3 111 (by omega) (by omega)) dX11_init_19 rfl ?_
  refine k_callINA (hb 3 111 (by omega) (by omega)) (na := 0) (As := []) (st := [.ref (n0 + 2), .ref l0]) (con_X7_init _ _ _ _ (n0 + 2)) tw_105 tw_50 tw_103 tw_104 rfl ⟨by decide, by decide, by decide +kernel⟩ rfl (by decide) rfl (Nat.le_of_ble_eq_true rfl) (show 3 + 1 ≤ (e_R q).cells by rw [hRc]; omega) (show 111 + 4 ≤ (e_R q).slots by rw [hRs]; omega) dX11_init_20 fun _ h5 => ?_
  show e_K _ (e_mv q (n0 + 4) 4 115) _ _ _ _ _ _ _
  refine k_pF (hb 4 115 (by omega) (by omega)) (C := RX11) (T := TX11) 10 1 rfl (by decide) lay_X11 tyX11 tyX11_ok nmX11 tw_312 rfl rfl rfl rfl rfl dX11_init_23 fun h6 => ?_
  refine k_aload_n (hb 4 115 (by omega) (by omega)) dX11_init_26 0 rfl ?_
  refine k_iconst (hb 4 115 (by omega) (by omega)) dX11_init_27 (v := 4) rfl ?_
  refine k_newR (hb 4 115 (by omega) (by omega)) 3 (fun _ => rfl) (K := 4) (by decide) (by decide) (by decide) tw_131 tw_132 (show 4 + 1 ≤ (e_R q).cells by rw [hRc]; omega) (show 115 + 4 ≤ (e_R q).slots by rw [hRs]; omega) dX11_init_28 ?_
  show e_K _ (e_mv q (n0 + 5) 5 119) _ _ _ _ _ (h_set h6 (n0 + 4) (oR 3 4 (fun _ => none))) _
  refine k_leth fun h7 _ => ?_
  refine k_pF (hb 5 119 (by omega) (by omega)) (C := RX11) (T := TX11) 10 2 rfl (by decide) lay_X11 tyX11 tyX11_ok nmX11 tw_313 rfl rfl rfl rfl rfl dX11_init_31 fun h8 => ?_
  refine k_aload_n (hb 5 119 (by omega) (by omega)) dX11_init_34 0 rfl ?_
  refine k_iconst (hb 5 119 (by omega) (by omega)) dX11_init_35 (v := 4) rfl ?_
  refine k_newR (hb 5 119 (by omega) (by omega)) 5 (fun _ => rfl) (K := 4) (by decide) (by decide) (by decide) tw_133 tw_134 (show 5 + 1 ≤ (e_R q).cells by rw [hRc]; omega) (show 119 + 4 ≤ (e_R q).slots by rw [hRs]; omega) dX11_init_36 ?_
  show e_K _ (e_mv q (n0 + 6) 6 123) _ _ _ _ _ (h_set h8 (n0 + 5) (oR 5 4 (fun _ => none))) _
  refine k_leth fun h9 _ => ?_
  refine k_pF (hb 6 123 (by omega) (by omega)) (C := RX11) (T := TX11) 10 3 rfl (by decide) lay_X11 tyX11 tyX11_ok nmX11 tw_314 rfl rfl rfl rfl rfl dX11_init_39 fun h10 => ?_
  refine k_aload_n (hb 6 123 (by omega) (by omega)) dX11_init_42 0 rfl ?_
  refine k_new (hb 6 123 (by omega) (by omega)) (C := RX5) (T := TX5) 5 rfl lay_X5 tyX5 tyX5_ok tw_135 tw_136 tw_51 (show 6 + 1 ≤ (e_R q).cells by rw [hRc]; omega) (show 123 + 3 ≤ (e_R q).slots by rw [hRs]; omega) dX11_init_43 ?_
  show e_K _ (e_mv q (n0 + 7) 7 126) _ _ _ _ _ (h_set h10 (n0 + 6) (oB 5 (fun k => defaultValue (tyX5 k)))) _
  refine k_leth fun h11 _ => ?_
  refine k_dup (hb 7 126 (by omega) (by omega)) dX11_init_46 rfl ?_
  refine k_callINA (hb 7 126 (by omega) (by omega)) (na := 0) (As := []) (st := [.ref (n0 + 6), .ref l0]) (con_X5_init _ _ _ _ (n0 + 6)) tw_139 tw_51 tw_137 tw_138 rfl ⟨by decide, by decide, by decide +kernel⟩ rfl (by decide) rfl (Nat.le_of_ble_eq_true rfl) (show 7 + 2 ≤ (e_R q).cells by rw [hRc]; omega) (show 126 + 4 ≤ (e_R q).slots by rw [hRs]; omega) dX11_init_47 fun _ h12 => ?_
  show e_K _ (e_mv q (n0 + 9) 9 130) _ _ _ _ _ _ _
  refine k_pF (hb 9 130 (by omega) (by omega)) (C := RX11) (T := TX11) 10 4 rfl (by decide) lay_X11 tyX11 tyX11_ok nmX11 tw_315 rfl rfl rfl rfl rfl dX11_init_50 fun h13 => ?_
  refine k_aload_n (hb 9 130 (by omega) (by omega)) dX11_init_53 0 rfl ?_
  refine k_new (hb 9 130 (by omega) (by omega)) (C := RX6) (T := TX6) 6 rfl lay_X6 tyX6 tyX6_ok tw_151 tw_152 tw_52 (show 9 + 1 ≤ (e_R q).cells by rw [hRc]; omega) (show 130 + 4 ≤ (e_R q).slots by rw [hRs]; omega) dX11_init_54 ?_
  show e_K _ (e_mv q (n0 + 10) 10 134) _ _ _ _ _ (h_set h13 (n0 + 9) (oB 6 (fun k => defaultValue (tyX6 k)))) _
  refine k_leth fun h14 _ => ?_
  refine k_dup (hb 10 134 (by omega) (by omega)) dX11_init_57 rfl ?_
  refine k_callIN (hb 10 134 (by omega) (by omega)) (na := 0) (As := []) (st := [.ref (n0 + 9), .ref l0]) (con_X6_init _ _ _ _ (n0 + 9)) tw_155 tw_52 tw_153 tw_154 rfl ⟨by decide, by decide, by decide +kernel⟩ rfl (by decide) rfl (Nat.le_of_ble_eq_true rfl) dX11_init_58 fun v15 h16 => ?_
  refine k_pF (hb 10 134 (by omega) (by omega)) (C := RX11) (T := TX11) 10 5 rfl (by decide) lay_X11 tyX11 tyX11_ok nmX11 tw_316 rfl rfl rfl rfl rfl dX11_init_61 fun h17 => ?_
  refine k_aload_n (hb 10 134 (by omega) (by omega)) dX11_init_64 0 rfl ?_
  refine k_new (hb 10 134 (by omega) (by omega)) (C := RX2) (T := TX2) 2 rfl lay_X2 tyX2 tyX2_ok tw_172 tw_173 tw_53 (show 10 + 1 ≤ (e_R q).cells by rw [hRc]; omega) (show 134 + 3 ≤ (e_R q).slots by rw [hRs]; omega) dX11_init_65 ?_
  show e_K _ (e_mv q (n0 + 11) 11 137) _ _ _ _ _ (h_set h17 (n0 + 10) (oB 2 (fun k => defaultValue (tyX2 k)))) _
  refine k_leth fun h18 _ => ?_
  refine k_dup (hb 11 137 (by omega) (by omega)) dX11_init_68 rfl ?_
  refine k_callINA (hb 11 137 (by omega) (by omega)) (na := 0) (As := []) (st := [.ref (n0 + 10), .ref l0]) (con_X2_init _ _ _ _ (n0 + 10)) tw_176 tw_53 tw_174 tw_175 rfl ⟨by decide, by decide, by decide +kernel⟩ rfl (by decide) rfl (Nat.le_of_ble_eq_true rfl) (show 11 + 1 ≤ (e_R q).cells by rw [hRc]; omega) (show 137 + 16 ≤ (e_R q).slots by rw [hRs]; omega) dX11_init_69 fun _ h19 => ?_
  show e_K _ (e_mv q (n0 + 12) 12 153) _ _ _ _ _ _ _
  refine k_pF (hb 12 153 (by omega) (by omega)) (C := RX11) (T := TX11) 10 6 rfl (by decide) lay_X11 tyX11 tyX11_ok nmX11 tw_317 rfl rfl rfl rfl rfl dX11_init_72 fun h20 => ?_
  refine k_aload_n (hb 12 153 (by omega) (by omega)) dX11_init_75 0 rfl ?_
  refine k_iconst (hb 12 153 (by omega) (by omega)) dX11_init_76 (v := 3) rfl ?_
  refine k_p (hb 12 153 (by omega) (by omega)) (C := RX11) (T := TX11) 10 7 rfl (by decide) lay_X11 tyX11 tyX11_ok nmX11 tw_318 rfl rfl rfl dX11_init_77 fun h21 => ?_
  refine k_aload_n (hb 12 153 (by omega) (by omega)) dX11_init_80 0 rfl ?_
  refine k_iconst (hb 12 153 (by omega) (by omega)) dX11_init_81 (v := 4) rfl ?_
  refine k_p (hb 12 153 (by omega) (by omega)) (C := RX11) (T := TX11) 10 8 rfl (by decide) lay_X11 tyX11 tyX11_ok nmX11 tw_319 rfl rfl rfl dX11_init_82 fun h22 => ?_
  refine k_aload_n (hb 12 153 (by omega) (by omega)) dX11_init_85 0 rfl ?_
  refine k_iconst (hb 12 153 (by omega) (by omega)) dX11_init_86 (v := 4) rfl ?_
  refine k_p (hb 12 153 (by omega) (by omega)) (C := RX11) (T := TX11) 10 9 rfl (by decide) lay_X11 tyX11 tyX11_ok nmX11 tw_320 rfl rfl rfl dX11_init_87 fun h23 => ?_
  refine k_iconst (hb 12 153 (by omega) (by omega)) dX11_init_90 (v := 0) rfl ?_
  refine k_istore_n (hb 12 153 (by omega) (by omega)) dX11_init_91 rfl (by decide) (ls' := [(1, .int 0), (0, .ref l0)]) rfl ?_
  exact k_sub [1, 0] rfl (Q_X11_init_92 hb he hRc hRs N 12 153 l0 0 h23)
theorem con_X11_init (l : Launch) (G : eG) (B0 n : Nat) (N : Nat) (l0 : Nat) : e_CA eV l G B0 n yX11_init cX11_init 2 none 4 91 124 3017 [.ref l0] (F_X11_init N n l0) := by
  refine e_mkA (by decide) (Nat.le_of_ble_eq_true rfl) fun q r0 h0 h hq he e1 e2 e3 e4 e5 e6 => ?_
  subst e1; subst e2; subst e3
  obtain ⟨hRc, hRs⟩ := e_E_room he
  have hz := P_X11_init_0 (n0 := n) (r0 := r0) (h0 := h0) (fun c s hc hs => e_B.mv hq (by rw [hRc]; exact hc) (by rw [hRs]; exact hs)) he hRc hRs N l0 h
  rwa [e_mv_self e4 e5 e6] at hz
set_option maxRecDepth 100000 in
set_option maxHeartbeats 4000000 in
theorem P_X12_init_0 {q : eT} {r0 : Unit} {h0 : eH} {n0 : Nat} (hb : ∀ c s, c ≤ 25 → s ≤ 141288 → e_B (e_mv q (n0 + c) c s) yX12_init.cls cX12_init 1 2 41 none yX12_init.name) (he : e_E (e_mv q (n0 + 25) 25 141288)) (hRc : (e_R q).cells = 25) (hRs : (e_R q).slots = 141288) (N : Nat) (l0 : Nat) (h : eH) : e_K eV (e_mv q (n0 + 0) 0 0) r0 h0 0 [(0, .ref l0)] [] h (F_X12_init N n0 l0 h) := by
  unfold F_X12_init
  refine k_aload_n (hb 0 0 (by omega) (by omega)) dX12_init_0 0 rfl ?_
  refine k_objInit (hb 0 0 (by omega) (by omega)) tw_917 tw_73 tw_74 (by decide) (Nat.le_of_ble_eq_true rfl) dX12_init_1 ?_
  refine k_aload_n (hb 0 0 (by omega) (by omega)) dX12_init_4 0 rfl ?_
  refine k_iconst (hb 0 0 (by omega) (by omega)) dX12_init_5 (v := 4) rfl ?_
  refine k_newI (hb 0 0 (by omega) (by omega)) (K := 4) (by decide) (by decide) (by decide) tw_100 (show 0 + 1 ≤ (e_R q).cells by rw [hRc]; omega) (show 0 + 4 ≤ (e_R q).slots by rw [hRs]; omega) dX12_init_6 ?_
  show e_K _ (e_mv q (n0 + 1) 1 4) _ _ _ _ _ (h_set h (n0 + 0) (oI 0 4 (fun _ => 0))) _
  refine k_leth fun h1 _ => ?_
  refine k_pF (hb 1 4 (by omega) (by omega)) (C := RX12) (T := TX12) 11 4 rfl (by decide) lay_X12 tyX12 tyX12_ok nmX12 tw_931 rfl rfl rfl rfl rfl dX12_init_8 fun h2 => ?_
  refine k_aload_n (hb 1 4 (by omega) (by omega)) dX12_init_11 0 rfl ?_
  refine k_sipush (hb 1 4 (by omega) (by omega)) dX12_init_12 (v := 656) rfl ?_
  refine k_newL (hb 1 4 (by omega) (by omega)) (K := 656) (by decide) (by decide) (by decide) tw_209 (show 1 + 1 ≤ (e_R q).cells by rw [hRc]; omega) (show 4 + 656 ≤ (e_R q).slots by rw [hRs]; omega) dX12_init_15 ?_
  show e_K _ (e_mv q (n0 + 2) 2 660) _ _ _ _ _ (h_set h2 (n0 + 1) (oL 1 656 (fun _ => 0))) _
  refine k_leth fun h3 _ => ?_
  refine k_pF (hb 2 660 (by omega) (by omega)) (C := RX12) (T := TX12) 11 6 rfl (by decide) lay_X12 tyX12 tyX12_ok nmX12 tw_933 rfl rfl rfl rfl rfl dX12_init_17 fun h4 => ?_
  refine k_aload_n (hb 2 660 (by omega) (by omega)) dX12_init_20 0 rfl ?_
  refine k_sipush (hb 2 660 (by omega) (by omega)) dX12_init_21 (v := 656) rfl ?_
  refine k_newI (hb 2 660 (by omega) (by omega)) (K := 656) (by decide) (by decide) (by decide) tw_100 (show 2 + 1 ≤ (e_R q).cells by rw [hRc]; omega) (show 660 + 656 ≤ (e_R q).slots by rw [hRs]; omega) dX12_init_24 ?_
  show e_K _ (e_mv q (n0 + 3) 3 1316) _ _ _ _ _ (h_set h4 (n0 + 2) (oI 0 656 (fun _ => 0))) _
  refine k_leth fun h5 _ => ?_
  refine k_pF (hb 3 1316 (by omega) (by omega)) (C := RX12) (T := TX12) 11 7 rfl (by decide) lay_X12 tyX12 tyX12_ok nmX12 tw_934 rfl rfl rfl rfl rfl dX12_init_26 fun h6 => ?_
  refine k_aload_n (hb 3 1316 (by omega) (by omega)) dX12_init_29 0 rfl ?_
  refine k_sipush (hb 3 1316 (by omega) (by omega)) dX12_init_30 (v := 2624) rfl ?_
  refine k_newI (hb 3 1316 (by omega) (by omega)) (K := 2624) (by decide) (by decide) (by decide) tw_100 (show 3 + 1 ≤ (e_R q).cells by rw [hRc]; omega) (show 1316 + 2624 ≤ (e_R q).slots by rw [hRs]; omega) dX12_init_33 ?_
  show e_K _ (e_mv q (n0 + 4) 4 3940) _ _ _ _ _ (h_set h6 (n0 + 3) (oI 0 2624 (fun _ => 0))) _
  refine k_leth fun h7 _ => ?_
  refine k_pF (hb 4 3940 (by omega) (by omega)) (C := RX12) (T := TX12) 11 8 rfl (by decide) lay_X12 tyX12 tyX12_ok nmX12 tw_935 rfl rfl rfl rfl rfl dX12_init_35 fun h8 => ?_
  refine k_aload_n (hb 4 3940 (by omega) (by omega)) dX12_init_38 0 rfl ?_
  refine k_sipush (hb 4 3940 (by omega) (by omega)) dX12_init_39 (v := 2624) rfl ?_
  refine k_newI (hb 4 3940 (by omega) (by omega)) (K := 2624) (by decide) (by decide) (by decide) tw_100 (show 4 + 1 ≤ (e_R q).cells by rw [hRc]; omega) (show 3940 + 2624 ≤ (e_R q).slots by rw [hRs]; omega) dX12_init_42 ?_
  show e_K _ (e_mv q (n0 + 5) 5 6564) _ _ _ _ _ (h_set h8 (n0 + 4) (oI 0 2624 (fun _ => 0))) _
  refine k_leth fun h9 _ => ?_
  refine k_pF (hb 5 6564 (by omega) (by omega)) (C := RX12) (T := TX12) 11 9 rfl (by decide) lay_X12 tyX12 tyX12_ok nmX12 tw_936 rfl rfl rfl rfl rfl dX12_init_44 fun h10 => ?_
  refine k_aload_n (hb 5 6564 (by omega) (by omega)) dX12_init_47 0 rfl ?_
  refine k_sipush (hb 5 6564 (by omega) (by omega)) dX12_init_48 (v := 656) rfl ?_
  refine k_newZ (hb 5 6564 (by omega) (by omega)) (K := 656) (by decide) (by decide) (by decide) tw_1051 (show 5 + 1 ≤ (e_R q).cells by rw [hRc]; omega) (show 6564 + 656 ≤ (e_R q).slots by rw [hRs]; omega) dX12_init_51 ?_
  show e_K _ (e_mv q (n0 + 6) 6 7220) _ _ _ _ _ (h_set h10 (n0 + 5) (oI 2 656 (fun _ => 0))) _
  refine k_leth fun h11 _ => ?_
  refine k_pF (hb 6 7220 (by omega) (by omega)) (C := RX12) (T := TX12) 11 10 rfl (by decide) lay_X12 tyX12 tyX12_ok nmX12 tw_937 rfl rfl rfl rfl rfl dX12_init_53 fun h12 => ?_
  refine k_aload_n (hb 6 7220 (by omega) (by omega)) dX12_init_56 0 rfl ?_
  refine k_sipush (hb 6 7220 (by omega) (by omega)) dX12_init_57 (v := 656) rfl ?_
  refine k_newZ (hb 6 7220 (by omega) (by omega)) (K := 656) (by decide) (by decide) (by decide) tw_1051 (show 6 + 1 ≤ (e_R q).cells by rw [hRc]; omega) (show 7220 + 656 ≤ (e_R q).slots by rw [hRs]; omega) dX12_init_60 ?_
  show e_K _ (e_mv q (n0 + 7) 7 7876) _ _ _ _ _ (h_set h12 (n0 + 6) (oI 2 656 (fun _ => 0))) _
  refine k_leth fun h13 _ => ?_
  refine k_pF (hb 7 7876 (by omega) (by omega)) (C := RX12) (T := TX12) 11 11 rfl (by decide) lay_X12 tyX12 tyX12_ok nmX12 tw_938 rfl rfl rfl rfl rfl dX12_init_62 fun h14 => ?_
  refine k_aload_n (hb 7 7876 (by omega) (by omega)) dX12_init_65 0 rfl ?_
  refine k_sipush (hb 7 7876 (by omega) (by omega)) dX12_init_66 (v := 656) rfl ?_
  refine k_newZ (hb 7 7876 (by omega) (by omega)) (K := 656) (by decide) (by decide) (by decide) tw_1051 (show 7 + 1 ≤ (e_R q).cells by rw [hRc]; omega) (show 7876 + 656 ≤ (e_R q).slots by rw [hRs]; omega) dX12_init_69 ?_
  show e_K _ (e_mv q (n0 + 8) 8 8532) _ _ _ _ _ (h_set h14 (n0 + 7) (oI 2 656 (fun _ => 0))) _
  refine k_leth fun h15 _ => ?_
  refine k_pF (hb 8 8532 (by omega) (by omega)) (C := RX12) (T := TX12) 11 12 rfl (by decide) lay_X12 tyX12 tyX12_ok nmX12 tw_939 rfl rfl rfl rfl rfl dX12_init_71 fun h16 => ?_
  refine k_aload_n (hb 8 8532 (by omega) (by omega)) dX12_init_74 0 rfl ?_
  refine k_sipush (hb 8 8532 (by omega) (by omega)) dX12_init_75 (v := 656) rfl ?_
  refine k_newZ (hb 8 8532 (by omega) (by omega)) (K := 656) (by decide) (by decide) (by decide) tw_1051 (show 8 + 1 ≤ (e_R q).cells by rw [hRc]; omega) (show 8532 + 656 ≤ (e_R q).slots by rw [hRs]; omega) dX12_init_78 ?_
  show e_K _ (e_mv q (n0 + 9) 9 9188) _ _ _ _ _ (h_set h16 (n0 + 8) (oI 2 656 (fun _ => 0))) _
  refine k_leth fun h17 _ => ?_
  refine k_pF (hb 9 9188 (by omega) (by omega)) (C := RX12) (T := TX12) 11 13 rfl (by decide) lay_X12 tyX12 tyX12_ok nmX12 tw_940 rfl rfl rfl rfl rfl dX12_init_80 fun h18 => ?_
  refine k_aload_n (hb 9 9188 (by omega) (by omega)) dX12_init_83 0 rfl ?_
  refine k_sipush (hb 9 9188 (by omega) (by omega)) dX12_init_84 (v := 656) rfl ?_
  refine k_newI (hb 9 9188 (by omega) (by omega)) (K := 656) (by decide) (by decide) (by decide) tw_100 (show 9 + 1 ≤ (e_R q).cells by rw [hRc]; omega) (show 9188 + 656 ≤ (e_R q).slots by rw [hRs]; omega) dX12_init_87 ?_
  show e_K _ (e_mv q (n0 + 10) 10 9844) _ _ _ _ _ (h_set h18 (n0 + 9) (oI 0 656 (fun _ => 0))) _
  refine k_leth fun h19 _ => ?_
  refine k_pF (hb 10 9844 (by omega) (by omega)) (C := RX12) (T := TX12) 11 14 rfl (by decide) lay_X12 tyX12 tyX12_ok nmX12 tw_941 rfl rfl rfl rfl rfl dX12_init_89 fun h20 => ?_
  refine k_aload_n (hb 10 9844 (by omega) (by omega)) dX12_init_92 0 rfl ?_
  refine k_bipush (hb 10 9844 (by omega) (by omega)) dX12_init_93 (v := 16) rfl ?_
  refine k_newI (hb 10 9844 (by omega) (by omega)) (K := 16) (by decide) (by decide) (by decide) tw_100 (show 10 + 1 ≤ (e_R q).cells by rw [hRc]; omega) (show 9844 + 16 ≤ (e_R q).slots by rw [hRs]; omega) dX12_init_95 ?_
  show e_K _ (e_mv q (n0 + 11) 11 9860) _ _ _ _ _ (h_set h20 (n0 + 10) (oI 0 16 (fun _ => 0))) _
  refine k_leth fun h21 _ => ?_
  refine k_pF (hb 11 9860 (by omega) (by omega)) (C := RX12) (T := TX12) 11 15 rfl (by decide) lay_X12 tyX12 tyX12_ok nmX12 tw_942 rfl rfl rfl rfl rfl dX12_init_97 fun h22 => ?_
  refine k_aload_n (hb 11 9860 (by omega) (by omega)) dX12_init_100 0 rfl ?_
  refine k_bipush (hb 11 9860 (by omega) (by omega)) dX12_init_101 (v := 64) rfl ?_
  refine k_newI (hb 11 9860 (by omega) (by omega)) (K := 64) (by decide) (by decide) (by decide) tw_100 (show 11 + 1 ≤ (e_R q).cells by rw [hRc]; omega) (show 9860 + 64 ≤ (e_R q).slots by rw [hRs]; omega) dX12_init_103 ?_
  show e_K _ (e_mv q (n0 + 12) 12 9924) _ _ _ _ _ (h_set h22 (n0 + 11) (oI 0 64 (fun _ => 0))) _
  refine k_leth fun h23 _ => ?_
  refine k_pF (hb 12 9924 (by omega) (by omega)) (C := RX12) (T := TX12) 11 16 rfl (by decide) lay_X12 tyX12 tyX12_ok nmX12 tw_943 rfl rfl rfl rfl rfl dX12_init_105 fun h24 => ?_
  refine k_aload_n (hb 12 9924 (by omega) (by omega)) dX12_init_108 0 rfl ?_
  refine k_iconst (hb 12 9924 (by omega) (by omega)) dX12_init_109 (v := 4) rfl ?_
  refine k_newI (hb 12 9924 (by omega) (by omega)) (K := 4) (by decide) (by decide) (by decide) tw_100 (show 12 + 1 ≤ (e_R q).cells by rw [hRc]; omega) (show 9924 + 4 ≤ (e_R q).slots by rw [hRs]; omega) dX12_init_110 ?_
  show e_K _ (e_mv q (n0 + 13) 13 9928) _ _ _ _ _ (h_set h24 (n0 + 12) (oI 0 4 (fun _ => 0))) _
  refine k_leth fun h25 _ => ?_
  refine k_pF (hb 13 9928 (by omega) (by omega)) (C := RX12) (T := TX12) 11 17 rfl (by decide) lay_X12 tyX12 tyX12_ok nmX12 tw_944 rfl rfl rfl rfl rfl dX12_init_112 fun h26 => ?_
  refine k_aload_n (hb 13 9928 (by omega) (by omega)) dX12_init_115 0 rfl ?_
  refine k_iconst (hb 13 9928 (by omega) (by omega)) dX12_init_116 (v := 4) rfl ?_
  refine k_newI (hb 13 9928 (by omega) (by omega)) (K := 4) (by decide) (by decide) (by decide) tw_100 (show 13 + 1 ≤ (e_R q).cells by rw [hRc]; omega) (show 9928 + 4 ≤ (e_R q).slots by rw [hRs]; omega) dX12_init_117 ?_
  show e_K _ (e_mv q (n0 + 14) 14 9932) _ _ _ _ _ (h_set h26 (n0 + 13) (oI 0 4 (fun _ => 0))) _
  refine k_leth fun h27 _ => ?_
  refine k_pF (hb 14 9932 (by omega) (by omega)) (C := RX12) (T := TX12) 11 18 rfl (by decide) lay_X12 tyX12 tyX12_ok nmX12 tw_945 rfl rfl rfl rfl rfl dX12_init_119 fun h28 => ?_
  refine k_aload_n (hb 14 9932 (by omega) (by omega)) dX12_init_122 0 rfl ?_
  refine k_bipush (hb 14 9932 (by omega) (by omega)) dX12_init_123 (v := 16) rfl ?_
  refine k_newI (hb 14 9932 (by omega) (by omega)) (K := 16) (by decide) (by decide) (by decide) tw_100 (show 14 + 1 ≤ (e_R q).cells by rw [hRc]; omega) (show 9932 + 16 ≤ (e_R q).slots by rw [hRs]; omega) dX12_init_125 ?_
  show e_K _ (e_mv q (n0 + 15) 15 9948) _ _ _ _ _ (h_set h28 (n0 + 14) (oI 0 16 (fun _ => 0))) _
  refine k_leth fun h29 _ => ?_
  refine k_pF (hb 15 9948 (by omega) (by omega)) (C := RX12) (T := TX12) 11 19 rfl (by decide) lay_X12 tyX12 tyX12_ok nmX12 tw_946 rfl rfl rfl rfl rfl dX12_init_127 fun h30 => ?_
  refine k_aload_n (hb 15 9948 (by omega) (by omega)) dX12_init_130 0 rfl ?_
  refine k_bipush (hb 15 9948 (by omega) (by omega)) dX12_init_131 (v := 16) rfl ?_
  refine k_newI (hb 15 9948 (by omega) (by omega)) (K := 16) (by decide) (by decide) (by decide) tw_100 (show 15 + 1 ≤ (e_R q).cells by rw [hRc]; omega) (show 9948 + 16 ≤ (e_R q).slots by rw [hRs]; omega) dX12_init_133 ?_
  show e_K _ (e_mv q (n0 + 16) 16 9964) _ _ _ _ _ (h_set h30 (n0 + 15) (oI 0 16 (fun _ => 0))) _
  refine k_leth fun h31 _ => ?_
  refine k_pF (hb 16 9964 (by omega) (by omega)) (C := RX12) (T := TX12) 11 20 rfl (by decide) lay_X12 tyX12 tyX12_ok nmX12 tw_947 rfl rfl rfl rfl rfl dX12_init_135 fun h32 => ?_
  refine k_aload_n (hb 16 9964 (by omega) (by omega)) dX12_init_138 0 rfl ?_
  refine k_iconst (hb 16 9964 (by omega) (by omega)) dX12_init_139 (v := 2) rfl ?_
  refine k_newI (hb 16 9964 (by omega) (by omega)) (K := 2) (by decide) (by decide) (by decide) tw_100 (show 16 + 1 ≤ (e_R q).cells by rw [hRc]; omega) (show 9964 + 2 ≤ (e_R q).slots by rw [hRs]; omega) dX12_init_140 ?_
  show e_K _ (e_mv q (n0 + 17) 17 9966) _ _ _ _ _ (h_set h32 (n0 + 16) (oI 0 2 (fun _ => 0))) _
  refine k_leth fun h33 _ => ?_
  refine k_pF (hb 17 9966 (by omega) (by omega)) (C := RX12) (T := TX12) 11 22 rfl (by decide) lay_X12 tyX12 tyX12_ok nmX12 tw_949 rfl rfl rfl rfl rfl dX12_init_142 fun h34 => ?_
  refine k_aload_n (hb 17 9966 (by omega) (by omega)) dX12_init_145 0 rfl ?_
  refine k_iconst (hb 17 9966 (by omega) (by omega)) dX12_init_146 (v := 2) rfl ?_
  refine k_newI (hb 17 9966 (by omega) (by omega)) (K := 2) (by decide) (by decide) (by decide) tw_100 (show 17 + 1 ≤ (e_R q).cells by rw [hRc]; omega) (show 9966 + 2 ≤ (e_R q).slots by rw [hRs]; omega) dX12_init_147 ?_
  show e_K _ (e_mv q (n0 + 18) 18 9968) _ _ _ _ _ (h_set h34 (n0 + 17) (oI 0 2 (fun _ => 0))) _
  refine k_leth fun h35 _ => ?_
  refine k_pF (hb 18 9968 (by omega) (by omega)) (C := RX12) (T := TX12) 11 23 rfl (by decide) lay_X12 tyX12 tyX12_ok nmX12 tw_950 rfl rfl rfl rfl rfl dX12_init_149 fun h36 => ?_
  refine k_aload_n (hb 18 9968 (by omega) (by omega)) dX12_init_152 0 rfl ?_
  refine k_bipush (hb 18 9968 (by omega) (by omega)) dX12_init_153 (v := 100) rfl ?_
  refine k_newI (hb 18 9968 (by omega) (by omega)) (K := 100) (by decide) (by decide) (by decide) tw_100 (show 18 + 1 ≤ (e_R q).cells by rw [hRc]; omega) (show 9968 + 100 ≤ (e_R q).slots by rw [hRs]; omega) dX12_init_155 ?_
  show e_K _ (e_mv q (n0 + 19) 19 10068) _ _ _ _ _ (h_set h36 (n0 + 18) (oI 0 100 (fun _ => 0))) _
  refine k_leth fun h37 _ => ?_
  refine k_pF (hb 19 10068 (by omega) (by omega)) (C := RX12) (T := TX12) 11 25 rfl (by decide) lay_X12 tyX12 tyX12_ok nmX12 tw_952 rfl rfl rfl rfl rfl dX12_init_157 fun h38 => ?_
  refine k_aload_n (hb 19 10068 (by omega) (by omega)) dX12_init_160 0 rfl ?_
  refine k_iconst (hb 19 10068 (by omega) (by omega)) dX12_init_161 (v := 4) rfl ?_
  refine k_newI (hb 19 10068 (by omega) (by omega)) (K := 4) (by decide) (by decide) (by decide) tw_100 (show 19 + 1 ≤ (e_R q).cells by rw [hRc]; omega) (show 10068 + 4 ≤ (e_R q).slots by rw [hRs]; omega) dX12_init_162 ?_
  show e_K _ (e_mv q (n0 + 20) 20 10072) _ _ _ _ _ (h_set h38 (n0 + 19) (oI 0 4 (fun _ => 0))) _
  refine k_leth fun h39 _ => ?_
  refine k_pF (hb 20 10072 (by omega) (by omega)) (C := RX12) (T := TX12) 11 34 rfl (by decide) lay_X12 tyX12 tyX12_ok nmX12 tw_961 rfl rfl rfl rfl rfl dX12_init_164 fun h40 => ?_
  refine k_aload_n (hb 20 10072 (by omega) (by omega)) dX12_init_167 0 rfl ?_
  refine k_bipush (hb 20 10072 (by omega) (by omega)) dX12_init_168 (v := 64) rfl ?_
  refine k_newI (hb 20 10072 (by omega) (by omega)) (K := 64) (by decide) (by decide) (by decide) tw_100 (show 20 + 1 ≤ (e_R q).cells by rw [hRc]; omega) (show 10072 + 64 ≤ (e_R q).slots by rw [hRs]; omega) dX12_init_170 ?_
  show e_K _ (e_mv q (n0 + 21) 21 10136) _ _ _ _ _ (h_set h40 (n0 + 20) (oI 0 64 (fun _ => 0))) _
  refine k_leth fun h41 _ => ?_
  refine k_pF (hb 21 10136 (by omega) (by omega)) (C := RX12) (T := TX12) 11 36 rfl (by decide) lay_X12 tyX12 tyX12_ok nmX12 tw_963 rfl rfl rfl rfl rfl dX12_init_172 fun h42 => ?_
  refine k_aload_n (hb 21 10136 (by omega) (by omega)) dX12_init_175 0 rfl ?_
  refine k_bipush (hb 21 10136 (by omega) (by omega)) dX12_init_176 (v := 64) rfl ?_
  refine k_newL (hb 21 10136 (by omega) (by omega)) (K := 64) (by decide) (by decide) (by decide) tw_209 (show 21 + 1 ≤ (e_R q).cells by rw [hRc]; omega) (show 10136 + 64 ≤ (e_R q).slots by rw [hRs]; omega) dX12_init_178 ?_
  show e_K _ (e_mv q (n0 + 22) 22 10200) _ _ _ _ _ (h_set h42 (n0 + 21) (oL 1 64 (fun _ => 0))) _
  refine k_leth fun h43 _ => ?_
  refine k_pF (hb 22 10200 (by omega) (by omega)) (C := RX12) (T := TX12) 11 37 rfl (by decide) lay_X12 tyX12 tyX12_ok nmX12 tw_964 rfl rfl rfl rfl rfl dX12_init_180 fun h44 => ?_
  refine k_aload_n (hb 22 10200 (by omega) (by omega)) dX12_init_183 0 rfl ?_
  refine k_bipush (hb 22 10200 (by omega) (by omega)) dX12_init_184 (v := 16) rfl ?_
  refine k_newI (hb 22 10200 (by omega) (by omega)) (K := 16) (by decide) (by decide) (by decide) tw_100 (show 22 + 1 ≤ (e_R q).cells by rw [hRc]; omega) (show 10200 + 16 ≤ (e_R q).slots by rw [hRs]; omega) dX12_init_186 ?_
  show e_K _ (e_mv q (n0 + 23) 23 10216) _ _ _ _ _ (h_set h44 (n0 + 22) (oI 0 16 (fun _ => 0))) _
  refine k_leth fun h45 _ => ?_
  refine k_pF (hb 23 10216 (by omega) (by omega)) (C := RX12) (T := TX12) 11 38 rfl (by decide) lay_X12 tyX12 tyX12_ok nmX12 tw_965 rfl rfl rfl rfl rfl dX12_init_188 fun h46 => ?_
  refine k_aload_n (hb 23 10216 (by omega) (by omega)) dX12_init_191 0 rfl ?_
  refine k_ldc (hb 23 10216 (by omega) (by omega)) (v := 65536) tw_918 dX12_init_192 ?_
  refine k_newI (hb 23 10216 (by omega) (by omega)) (K := 65536) (by decide) (by decide) (by decide) tw_100 (show 23 + 1 ≤ (e_R q).cells by rw [hRc]; omega) (show 10216 + 65536 ≤ (e_R q).slots by rw [hRs]; omega) dX12_init_194 ?_
  show e_K _ (e_mv q (n0 + 24) 24 75752) _ _ _ _ _ (h_set h46 (n0 + 23) (oI 0 65536 (fun _ => 0))) _
  refine k_leth fun h47 _ => ?_
  refine k_pF (hb 24 75752 (by omega) (by omega)) (C := RX12) (T := TX12) 11 39 rfl (by decide) lay_X12 tyX12 tyX12_ok nmX12 tw_966 rfl rfl rfl rfl rfl dX12_init_196 fun h48 => ?_
  refine k_aload_n (hb 24 75752 (by omega) (by omega)) dX12_init_199 0 rfl ?_
  refine k_ldc (hb 24 75752 (by omega) (by omega)) (v := 65536) tw_918 dX12_init_200 ?_
  refine k_newI (hb 24 75752 (by omega) (by omega)) (K := 65536) (by decide) (by decide) (by decide) tw_100 (show 24 + 1 ≤ (e_R q).cells by rw [hRc]; omega) (show 75752 + 65536 ≤ (e_R q).slots by rw [hRs]; omega) dX12_init_202 ?_
  show e_K _ (e_mv q (n0 + 25) 25 141288) _ _ _ _ _ (h_set h48 (n0 + 24) (oI 0 65536 (fun _ => 0))) _
  refine k_leth fun h49 _ => ?_
  refine k_pF (hb 25 141288 (by omega) (by omega)) (C := RX12) (T := TX12) 11 40 rfl (by decide) lay_X12 tyX12 tyX12_ok nmX12 tw_967 rfl rfl rfl rfl rfl dX12_init_204 fun h50 => ?_
  refine k_aload_n (hb 25 141288 (by omega) (by omega)) dX12_init_207 0 rfl ?_
  refine k_callV (hb 25 141288 (by omega) (by omega)) (na := 0) (As := []) (st := []) 11 (C := RX12) (T := TX12) rfl (con_X12_begins _ _ _ _ N l0) tw_922 tw_59 tw_919 tw_921 tw_21 ⟨by decide, by decide, by decide +kernel⟩ rfl (by decide) rfl (Nat.le_of_ble_eq_true rfl) dX12_init_208 fun v51 h52 => ?_
  exact k_vret (hb 25 141288 (by omega) (by omega)) dX12_init_211 he
theorem con_X12_init (l : Launch) (G : eG) (B0 n : Nat) (N : Nat) (l0 : Nat) : e_CA eV l G B0 n yX12_init cX12_init 1 none 2 41 25 141288 [.ref l0] (F_X12_init N n l0) := by
  refine e_mkA (by decide) (Nat.le_of_ble_eq_true rfl) fun q r0 h0 h hq he e1 e2 e3 e4 e5 e6 => ?_
  subst e1; subst e2; subst e3
  obtain ⟨hRc, hRs⟩ := e_E_room he
  have hz := P_X12_init_0 (n0 := n) (r0 := r0) (h0 := h0) (fun c s hc hs => e_B.mv hq (by rw [hRc]; exact hc) (by rw [hRs]; exact hs)) he hRc hRs N l0 h
  rwa [e_mv_self e4 e5 e6] at hz
