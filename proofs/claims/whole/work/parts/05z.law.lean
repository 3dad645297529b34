set_option maxRecDepth 100000 in
set_option maxHeartbeats 4000000 in
theorem P_L_law_904 {q : eT} {lb : Nat}  {h0 : eH} {n0 : Nat} {nm : String} {L : Nat} {xs : Nat → Int32} (hb : ∀ c s, c ≤ 600000 → s ≤ 7302250 → e_B (e_mv q (n0 + c) c s) RL cL_law 4 2048 84000 ret nm) (hX : e_X q lb L xs) (hF : e_F q) (N : Nat) (k18 : Nat → Nat → Nat → Nat → Int32 → eH → Option (Int32 × eH)) (hk18 : ∀ (c s : Nat) (l1 : Nat) (l2 : Nat) (l3 : Int32) h, e_K eI (e_mv q (n0 + c) c s) 1 h0 18 [(0, .ref lb), (1, .ref l1), (2, .ref l2), (3, .int l3)] [] h (k18 c s l1 l2 l3 h)) (c s : Nat) (l1 : Nat) (l2 : Nat) (l3 : Int32) (h : eH) : e_K eI (e_mv q (n0 + c) c s) 1 h0 904 [(0, .ref lb), (1, .ref l1), (2, .ref l2), (3, .int l3)] [] h (F_L_law_904 N (e_G q) n0 L xs k18 c s l1 l2 l3 h) := by
  unfold F_L_law_904
  refine k_ite (fun hg0 => ?_) (fun _ => k_none rfl)
  refine k_iinc (hb c s (by omega) (by omega)) dL_law_904 3 rfl (v := l3 + 7) rfl (by decide) (ls' := [(3, .int (l3 + 7)), (0, .ref lb), (1, .ref l1), (2, .ref l2)]) rfl ?_
  refine k_goto (hb c s (by omega) (by omega)) (tgt := 18) dL_law_907 (by decide) ?_
  exact k_sub [1, 2, 3, 0] rfl (hk18 c s l1 l2 (l3 + 7) h)
set_option maxRecDepth 100000 in
set_option maxHeartbeats 4000000 in
theorem P_L_law_18b {q : eT} {lb : Nat}  {h0 : eH} {n0 : Nat} {nm : String} {L : Nat} {xs : Nat → Int32} (hb : ∀ c s, c ≤ 600000 → s ≤ 7302250 → e_B (e_mv q (n0 + c) c s) RL cL_law 4 2048 84000 ret nm) (hX : e_X q lb L xs) (hF : e_F q) (N : Nat) (k18 : Nat → Nat → Nat → Nat → Int32 → eH → Option (Int32 × eH)) (hk18 : ∀ (c s : Nat) (l1 : Nat) (l2 : Nat) (l3 : Int32) h, e_K eI (e_mv q (n0 + c) c s) 1 h0 18 [(0, .ref lb), (1, .ref l1), (2, .ref l2), (3, .int l3)] [] h (k18 c s l1 l2 l3 h)) (c s : Nat) (l1 : Nat) (l2 : Nat) (l3 : Int32) (h : eH) : e_K eI (e_mv q (n0 + c) c s) 1 h0 18 [(0, .ref lb), (1, .ref l1), (2, .ref l2), (3, .int l3)] [] h (F_L_law_18b N (e_G q) n0 L xs k18 c s l1 l2 l3 h) := by
  unfold F_L_law_18b
  refine k_ite (fun hg0 => ?_) (fun _ => k_none rfl)
  refine k_iload_n (hb c s (by omega) (by omega)) dL_law_18 3 rfl ?_
  refine k_aload_n (hb c s (by omega) (by omega)) dL_law_19 0 rfl ?_
  refine k_slen (hb c s (by omega) (by omega)) hX dL_law_20 ?_
  refine k_bipush (hb c s (by omega) (by omega)) dL_law_21 (v := 7) rfl ?_
  refine k_isub (hb c s (by omega) (by omega)) dL_law_23 ?_
  refine k_icmp_gt (hb c s (by omega) (by omega)) (tgt := 910) dL_law_24 (by decide) (fun _ => ?_) (fun _ => ?_)
  · refine k_iconst (hb c s (by omega) (by omega)) dL_law_910 (v := 1) rfl ?_
    exact k_lawret (hb c s (by omega) (by omega)) dL_law_911 hF
  · refine k_aload_n (hb c s (by omega) (by omega)) dL_law_27 0 rfl ?_
    refine k_iload_n (hb c s (by omega) (by omega)) dL_law_28 3 rfl ?_
    refine k_sld (hb c s (by omega) (by omega)) hX dL_law_29 fun v1 => ?_
    refine k_bipush (hb c s (by omega) (by omega)) dL_law_30 (v := 31) rfl ?_
    refine k_iand (hb c s (by omega) (by omega)) dL_law_32 ?_
    refine k_ite (fun e0 => ?_) (fun n0 => ?_)
    · refine k_tableIn (hb c s (by omega) (by omega)) (tgt := 128) dL_law_33 (by rw [e0]; decide) (by rw [e0]; decide) (off := 95) (by rw [e0]; rfl) (by decide) ?_
      refine k_aload_n (hb c s (by omega) (by omega)) dL_law_128 1 rfl ?_
      refine k_aload_n (hb c s (by omega) (by omega)) dL_law_129 0 rfl ?_
      refine k_iload_n (hb c s (by omega) (by omega)) dL_law_130 3 rfl ?_
      refine k_iconst (hb c s (by omega) (by omega)) dL_law_131 (v := 1) rfl ?_
      refine k_iadd (hb c s (by omega) (by omega)) dL_law_132 ?_
      refine k_sld (hb c s (by omega) (by omega)) hX dL_law_133 fun v2 => ?_
      refine k_callV (hb c s (by omega) (by omega)) (na := 1) (As := [.int v2]) (st := []) 10 (C := RX11) (T := TX11) rfl (con_X11_type _ _ _ _ l1 v2) tw_351 tw_48 tw_348 tw_349 tw_350 ⟨by decide, by decide, by decide +kernel⟩ rfl (by decide) rfl (Nat.le_of_ble_eq_true rfl) dL_law_134 fun v3 h4 => ?_
      refine k_aload_n (hb c s (by omega) (by omega)) dL_law_137 2 rfl ?_
      refine k_aload_n (hb c s (by omega) (by omega)) dL_law_138 0 rfl ?_
      refine k_iload_n (hb c s (by omega) (by omega)) dL_law_139 3 rfl ?_
      refine k_iconst (hb c s (by omega) (by omega)) dL_law_140 (v := 1) rfl ?_
      refine k_iadd (hb c s (by omega) (by omega)) dL_law_141 ?_
      refine k_sld (hb c s (by omega) (by omega)) hX dL_law_142 fun v5 => ?_
      refine k_callV (hb c s (by omega) (by omega)) (na := 1) (As := [.int v5]) (st := [.int v3]) 11 (C := RX12) (T := TX12) rfl (con_X12_type _ _ _ _ l2 v5) tw_1055 tw_59 tw_1052 tw_1053 tw_1054 ⟨by decide, by decide, by decide +kernel⟩ rfl (by decide) rfl (Nat.le_of_ble_eq_true rfl) dL_law_143 fun v6 h7 => ?_
      refine k_icmp_eq (hb c s (by omega) (by omega)) (tgt := 904) dL_law_146 (by decide) (fun _ => ?_) (fun _ => ?_)
      · exact k_sub [0, 1, 2, 3] rfl (P_L_law_904 hb hX hF N k18 hk18 c s l1 l2 l3 h7)
      · refine k_iconst (hb c s (by omega) (by omega)) dL_law_149 (v := 0) rfl ?_
        exact k_lawret0
    refine k_ite (fun e0 => ?_) (fun n1 => ?_)
    · refine k_tableIn (hb c s (by omega) (by omega)) (tgt := 151) dL_law_33 (by rw [e0]; decide) (by rw [e0]; decide) (off := 118) (by rw [e0]; rfl) (by decide) ?_
      refine k_aload_n (hb c s (by omega) (by omega)) dL_law_151 1 rfl ?_
      refine k_callV (hb c s (by omega) (by omega)) (na := 0) (As := []) (st := []) 10 (C := RX11) (T := TX11) rfl (con_X11_clear _ _ _ _ l1) tw_363 tw_48 tw_360 tw_361 tw_362 ⟨by decide, by decide, by decide +kernel⟩ rfl (by decide) rfl (Nat.le_of_ble_eq_true rfl) dL_law_152 fun v8 h9 => ?_
      refine k_aload_n (hb c s (by omega) (by omega)) dL_law_155 2 rfl ?_
      refine k_callV (hb c s (by omega) (by omega)) (na := 0) (As := []) (st := [.int v8]) 11 (C := RX12) (T := TX12) rfl (con_X12_clear _ _ _ _ l2) tw_1063 tw_59 tw_1060 tw_1061 tw_1062 ⟨by decide, by decide, by decide +kernel⟩ rfl (by decide) rfl (Nat.le_of_ble_eq_true rfl) dL_law_156 fun v10 h11 => ?_
      refine k_icmp_eq (hb c s (by omega) (by omega)) (tgt := 904) dL_law_159 (by decide) (fun _ => ?_) (fun _ => ?_)
      · exact k_sub [0, 1, 2, 3] rfl (P_L_law_904 hb hX hF N k18 hk18 c s l1 l2 l3 h11)
      · refine k_iconst (hb c s (by omega) (by omega)) dL_law_162 (v := 0) rfl ?_
        exact k_lawret0
    refine k_ite (fun e0 => ?_) (fun n2 => ?_)
    · refine k_tableIn (hb c s (by omega) (by omega)) (tgt := 164) dL_law_33 (by rw [e0]; decide) (by rw [e0]; decide) (off := 131) (by rw [e0]; rfl) (by decide) ?_
      refine k_aload_n (hb c s (by omega) (by omega)) dL_law_164 1 rfl ?_
      refine k_callV (hb c s (by omega) (by omega)) (na := 0) (As := []) (st := []) 10 (C := RX11) (T := TX11) rfl (con_X11_tells _ _ _ _ N l1) tw_371 tw_48 tw_368 tw_369 tw_370 ⟨by decide, by decide, by decide +kernel⟩ rfl (by decide) rfl (Nat.le_of_ble_eq_true rfl) dL_law_165 fun v12 h13 => ?_
      refine k_aload_n (hb c s (by omega) (by omega)) dL_law_168 2 rfl ?_
      refine k_callV (hb c s (by omega) (by omega)) (na := 0) (As := []) (st := [.int v12]) 11 (C := RX12) (T := TX12) rfl (con_X12_tells _ _ _ _ N l2) tw_1067 tw_59 tw_1064 tw_1065 tw_1066 ⟨by decide, by decide, by decide +kernel⟩ rfl (by decide) rfl (Nat.le_of_ble_eq_true rfl) dL_law_169 fun v14 h15 => ?_
      refine k_icmp_eq (hb c s (by omega) (by omega)) (tgt := 904) dL_law_172 (by decide) (fun _ => ?_) (fun _ => ?_)
      · exact k_sub [0, 1, 2, 3] rfl (P_L_law_904 hb hX hF N k18 hk18 c s l1 l2 l3 h15)
      · refine k_iconst (hb c s (by omega) (by omega)) dL_law_175 (v := 0) rfl ?_
        exact k_lawret0
    refine k_ite (fun e0 => ?_) (fun n3 => ?_)
    · refine k_tableIn (hb c s (by omega) (by omega)) (tgt := 177) dL_law_33 (by rw [e0]; decide) (by rw [e0]; decide) (off := 144) (by rw [e0]; rfl) (by decide) ?_
      refine k_aload_n (hb c s (by omega) (by omega)) dL_law_177 1 rfl ?_
      refine k_aload_n (hb c s (by omega) (by omega)) dL_law_178 0 rfl ?_
      refine k_iload_n (hb c s (by omega) (by omega)) dL_law_179 3 rfl ?_
      refine k_iconst (hb c s (by omega) (by omega)) dL_law_180 (v := 1) rfl ?_
      refine k_iadd (hb c s (by omega) (by omega)) dL_law_181 ?_
      refine k_sld (hb c s (by omega) (by omega)) hX dL_law_182 fun v16 => ?_
      refine k_aload_n (hb c s (by omega) (by omega)) dL_law_183 0 rfl ?_
      refine k_iload_n (hb c s (by omega) (by omega)) dL_law_184 3 rfl ?_
      refine k_iconst (hb c s (by omega) (by omega)) dL_law_185 (v := 2) rfl ?_
      refine k_iadd (hb c s (by omega) (by omega)) dL_law_186 ?_
      refine k_sld (hb c s (by omega) (by omega)) hX dL_law_187 fun v17 => ?_
      refine k_aload_n (hb c s (by omega) (by omega)) dL_law_188 0 rfl ?_
      refine k_iload_n (hb c s (by omega) (by omega)) dL_law_189 3 rfl ?_
      refine k_iconst (hb c s (by omega) (by omega)) dL_law_190 (v := 3) rfl ?_
      refine k_iadd (hb c s (by omega) (by omega)) dL_law_191 ?_
      refine k_sld (hb c s (by omega) (by omega)) hX dL_law_192 fun v18 => ?_
      refine k_callV (hb c s (by omega) (by omega)) (na := 3) (As := [.int v16, .int v17, .int v18]) (st := []) 10 (C := RX11) (T := TX11) rfl (con_X11_reads _ _ _ _ N l1 v16 v17 v18) tw_517 tw_48 tw_514 tw_515 tw_516 ⟨by decide, by decide, by decide +kernel⟩ rfl (by decide) rfl (Nat.le_of_ble_eq_true rfl) dL_law_193 fun v19 h20 => ?_
      refine k_aload_n (hb c s (by omega) (by omega)) dL_law_196 2 rfl ?_
      refine k_aload_n (hb c s (by omega) (by omega)) dL_law_197 0 rfl ?_
      refine k_iload_n (hb c s (by omega) (by omega)) dL_law_198 3 rfl ?_
      refine k_iconst (hb c s (by omega) (by omega)) dL_law_199 (v := 1) rfl ?_
      refine k_iadd (hb c s (by omega) (by omega)) dL_law_200 ?_
      refine k_sld (hb c s (by omega) (by omega)) hX dL_law_201 fun v21 => ?_
      refine k_aload_n (hb c s (by omega) (by omega)) dL_law_202 0 rfl ?_
      refine k_iload_n (hb c s (by omega) (by omega)) dL_law_203 3 rfl ?_
      refine k_iconst (hb c s (by omega) (by omega)) dL_law_204 (v := 2) rfl ?_
      refine k_iadd (hb c s (by omega) (by omega)) dL_law_205 ?_
      refine k_sld (hb c s (by omega) (by omega)) hX dL_law_206 fun v22 => ?_
      refine k_aload_n (hb c s (by omega) (by omega)) dL_law_207 0 rfl ?_
      refine k_iload_n (hb c s (by omega) (by omega)) dL_law_208 3 rfl ?_
      refine k_iconst (hb c s (by omega) (by omega)) dL_law_209 (v := 3) rfl ?_
      refine k_iadd (hb c s (by omega) (by omega)) dL_law_210 ?_
      refine k_sld (hb c s (by omega) (by omega)) hX dL_law_211 fun v23 => ?_
      refine k_callV (hb c s (by omega) (by omega)) (na := 3) (As := [.int v21, .int v22, .int v23]) (st := [.int v19]) 11 (C := RX12) (T := TX12) rfl (con_X12_reads _ _ _ _ N l2 v21 v22 v23) tw_1097 tw_59 tw_1094 tw_1095 tw_1096 ⟨by decide, by decide, by decide +kernel⟩ rfl (by decide) rfl (Nat.le_of_ble_eq_true rfl) dL_law_212 fun v24 h25 => ?_
      refine k_icmp_eq (hb c s (by omega) (by omega)) (tgt := 904) dL_law_215 (by decide) (fun _ => ?_) (fun _ => ?_)
      · exact k_sub [0, 1, 2, 3] rfl (P_L_law_904 hb hX hF N k18 hk18 c s l1 l2 l3 h25)
      · refine k_iconst (hb c s (by omega) (by omega)) dL_law_218 (v := 0) rfl ?_
        exact k_lawret0
    refine k_ite (fun e0 => ?_) (fun n4 => ?_)
    · refine k_tableIn (hb c s (by omega) (by omega)) (tgt := 220) dL_law_33 (by rw [e0]; decide) (by rw [e0]; decide) (off := 187) (by rw [e0]; rfl) (by decide) ?_
      refine k_aload_n (hb c s (by omega) (by omega)) dL_law_220 1 rfl ?_
      refine k_aload_n (hb c s (by omega) (by omega)) dL_law_221 0 rfl ?_
      refine k_iload_n (hb c s (by omega) (by omega)) dL_law_222 3 rfl ?_
      refine k_iconst (hb c s (by omega) (by omega)) dL_law_223 (v := 1) rfl ?_
      refine k_iadd (hb c s (by omega) (by omega)) dL_law_224 ?_
      refine k_sld (hb c s (by omega) (by omega)) hX dL_law_225 fun v26 => ?_
      refine k_aload_n (hb c s (by omega) (by omega)) dL_law_226 0 rfl ?_
      refine k_iload_n (hb c s (by omega) (by omega)) dL_law_227 3 rfl ?_
      refine k_iconst (hb c s (by omega) (by omega)) dL_law_228 (v := 2) rfl ?_
      refine k_iadd (hb c s (by omega) (by omega)) dL_law_229 ?_
      refine k_sld (hb c s (by omega) (by omega)) hX dL_law_230 fun v27 => ?_
      refine k_aload_n (hb c s (by omega) (by omega)) dL_law_231 0 rfl ?_
      refine k_iload_n (hb c s (by omega) (by omega)) dL_law_232 3 rfl ?_
      refine k_iconst (hb c s (by omega) (by omega)) dL_law_233 (v := 3) rfl ?_
      refine k_iadd (hb c s (by omega) (by omega)) dL_law_234 ?_
      refine k_sld (hb c s (by omega) (by omega)) hX dL_law_235 fun v28 => ?_
      refine k_aload_n (hb c s (by omega) (by omega)) dL_law_236 0 rfl ?_
      refine k_iload_n (hb c s (by omega) (by omega)) dL_law_237 3 rfl ?_
      refine k_iconst (hb c s (by omega) (by omega)) dL_law_238 (v := 4) rfl ?_
      refine k_iadd (hb c s (by omega) (by omega)) dL_law_239 ?_
      refine k_sld (hb c s (by omega) (by omega)) hX dL_law_240 fun v29 => ?_
      refine k_aload_n (hb c s (by omega) (by omega)) dL_law_241 0 rfl ?_
      refine k_iload_n (hb c s (by omega) (by omega)) dL_law_242 3 rfl ?_
      refine k_iconst (hb c s (by omega) (by omega)) dL_law_243 (v := 5) rfl ?_
      refine k_iadd (hb c s (by omega) (by omega)) dL_law_244 ?_
      refine k_sld (hb c s (by omega) (by omega)) hX dL_law_245 fun v30 => ?_
      refine k_i2l (hb c s (by omega) (by omega)) dL_law_246 ?_
      refine k_bipush (hb c s (by omega) (by omega)) dL_law_247 (v := 32) rfl ?_
      refine k_lshl (hb c s (by omega) (by omega)) dL_law_249 ?_
      refine k_aload_n (hb c s (by omega) (by omega)) dL_law_250 0 rfl ?_
      refine k_iload_n (hb c s (by omega) (by omega)) dL_law_251 3 rfl ?_
      refine k_bipush (hb c s (by omega) (by omega)) dL_law_252 (v := 6) rfl ?_
      refine k_iadd (hb c s (by omega) (by omega)) dL_law_254 ?_
      refine k_sld (hb c s (by omega) (by omega)) hX dL_law_255 fun v31 => ?_
      refine k_i2l (hb c s (by omega) (by omega)) dL_law_256 ?_
      refine k_ldc2 (hb c s (by omega) (by omega)) (v := 4294967295) tw_1268 dL_law_257 ?_
      refine k_land (hb c s (by omega) (by omega)) dL_law_260 ?_
      refine k_lor (hb c s (by omega) (by omega)) dL_law_261 ?_
      refine k_callV (hb c s (by omega) (by omega)) (na := 5) (As := [.int v26, .int v27, .int v28, .int v29, .long (((v30.toInt64) <<< ((32 : Int32).toInt64 &&& 63)) ||| ((v31.toInt64) &&& 4294967295))]) (st := []) 10 (C := RX11) (T := TX11) rfl (con_X11_writes _ _ _ _ N l1 v26 v27 v28 v29 (((v30.toInt64) <<< ((32 : Int32).toInt64 &&& 63)) ||| ((v31.toInt64) &&& 4294967295))) tw_593 tw_48 tw_590 tw_591 tw_592 ⟨by decide, by decide, by decide +kernel⟩ rfl (by decide) rfl (Nat.le_of_ble_eq_true rfl) dL_law_262 fun v32 h33 => ?_
      refine k_aload_n (hb c s (by omega) (by omega)) dL_law_265 2 rfl ?_
      refine k_aload_n (hb c s (by omega) (by omega)) dL_law_266 0 rfl ?_
      refine k_iload_n (hb c s (by omega) (by omega)) dL_law_267 3 rfl ?_
      refine k_iconst (hb c s (by omega) (by omega)) dL_law_268 (v := 1) rfl ?_
      refine k_iadd (hb c s (by omega) (by omega)) dL_law_269 ?_
      refine k_sld (hb c s (by omega) (by omega)) hX dL_law_270 fun v34 => ?_
      refine k_aload_n (hb c s (by omega) (by omega)) dL_law_271 0 rfl ?_
      refine k_iload_n (hb c s (by omega) (by omega)) dL_law_272 3 rfl ?_
      refine k_iconst (hb c s (by omega) (by omega)) dL_law_273 (v := 2) rfl ?_
      refine k_iadd (hb c s (by omega) (by omega)) dL_law_274 ?_
      refine k_sld (hb c s (by omega) (by omega)) hX dL_law_275 fun v35 => ?_
      refine k_aload_n (hb c s (by omega) (by omega)) dL_law_276 0 rfl ?_
      refine k_iload_n (hb c s (by omega) (by omega)) dL_law_277 3 rfl ?_
      refine k_iconst (hb c s (by omega) (by omega)) dL_law_278 (v := 3) rfl ?_
      refine k_iadd (hb c s (by omega) (by omega)) dL_law_279 ?_
      refine k_sld (hb c s (by omega) (by omega)) hX dL_law_280 fun v36 => ?_
      refine k_aload_n (hb c s (by omega) (by omega)) dL_law_281 0 rfl ?_
      refine k_iload_n (hb c s (by omega) (by omega)) dL_law_282 3 rfl ?_
      refine k_iconst (hb c s (by omega) (by omega)) dL_law_283 (v := 4) rfl ?_
      refine k_iadd (hb c s (by omega) (by omega)) dL_law_284 ?_
      refine k_sld (hb c s (by omega) (by omega)) hX dL_law_285 fun v37 => ?_
      refine k_aload_n (hb c s (by omega) (by omega)) dL_law_286 0 rfl ?_
      refine k_iload_n (hb c s (by omega) (by omega)) dL_law_287 3 rfl ?_
      refine k_iconst (hb c s (by omega) (by omega)) dL_law_288 (v := 5) rfl ?_
      refine k_iadd (hb c s (by omega) (by omega)) dL_law_289 ?_
      refine k_sld (hb c s (by omega) (by omega)) hX dL_law_290 fun v38 => ?_
      refine k_i2l (hb c s (by omega) (by omega)) dL_law_291 ?_
      refine k_bipush (hb c s (by omega) (by omega)) dL_law_292 (v := 32) rfl ?_
      refine k_lshl (hb c s (by omega) (by omega)) dL_law_294 ?_
      refine k_aload_n (hb c s (by omega) (by omega)) dL_law_295 0 rfl ?_
      refine k_iload_n (hb c s (by omega) (by omega)) dL_law_296 3 rfl ?_
      refine k_bipush (hb c s (by omega) (by omega)) dL_law_297 (v := 6) rfl ?_
      refine k_iadd (hb c s (by omega) (by omega)) dL_law_299 ?_
      refine k_sld (hb c s (by omega) (by omega)) hX dL_law_300 fun v39 => ?_
      refine k_i2l (hb c s (by omega) (by omega)) dL_law_301 ?_
      refine k_ldc2 (hb c s (by omega) (by omega)) (v := 4294967295) tw_1268 dL_law_302 ?_
      refine k_land (hb c s (by omega) (by omega)) dL_law_305 ?_
      refine k_lor (hb c s (by omega) (by omega)) dL_law_306 ?_
      refine k_callV (hb c s (by omega) (by omega)) (na := 5) (As := [.int v34, .int v35, .int v36, .int v37, .long (((v38.toInt64) <<< ((32 : Int32).toInt64 &&& 63)) ||| ((v39.toInt64) &&& 4294967295))]) (st := [.int v32]) 11 (C := RX12) (T := TX12) rfl (con_X12_writes _ _ _ _ N l2 v34 v35 v36 v37 (((v38.toInt64) <<< ((32 : Int32).toInt64 &&& 63)) ||| ((v39.toInt64) &&& 4294967295))) tw_1126 tw_59 tw_1123 tw_1124 tw_1125 ⟨by decide, by decide, by decide +kernel⟩ rfl (by decide) rfl (Nat.le_of_ble_eq_true rfl) dL_law_307 fun v40 h41 => ?_
      refine k_icmp_eq (hb c s (by omega) (by omega)) (tgt := 904) dL_law_310 (by decide) (fun _ => ?_) (fun _ => ?_)
      · exact k_sub [0, 1, 2, 3] rfl (P_L_law_904 hb hX hF N k18 hk18 c s l1 l2 l3 h41)
      · refine k_iconst (hb c s (by omega) (by omega)) dL_law_313 (v := 0) rfl ?_
        exact k_lawret0
    refine k_ite (fun e0 => ?_) (fun n5 => ?_)
    · refine k_tableIn (hb c s (by omega) (by omega)) (tgt := 315) dL_law_33 (by rw [e0]; decide) (by rw [e0]; decide) (off := 282) (by rw [e0]; rfl) (by decide) ?_
      refine k_aload_n (hb c s (by omega) (by omega)) dL_law_315 1 rfl ?_
      refine k_aload_n (hb c s (by omega) (by omega)) dL_law_316 0 rfl ?_
      refine k_iload_n (hb c s (by omega) (by omega)) dL_law_317 3 rfl ?_
      refine k_iconst (hb c s (by omega) (by omega)) dL_law_318 (v := 1) rfl ?_
      refine k_iadd (hb c s (by omega) (by omega)) dL_law_319 ?_
      refine k_sld (hb c s (by omega) (by omega)) hX dL_law_320 fun v42 => ?_
      refine k_callV (hb c s (by omega) (by omega)) (na := 1) (As := [.int v42]) (st := []) 10 (C := RX11) (T := TX11) rfl (con_X11_blinds _ _ _ _ l1 v42) tw_664 tw_48 tw_661 tw_662 tw_663 ⟨by decide, by decide, by decide +kernel⟩ rfl (by decide) rfl (Nat.le_of_ble_eq_true rfl) dL_law_321 fun v43 h44 => ?_
      refine k_aload_n (hb c s (by omega) (by omega)) dL_law_324 2 rfl ?_
      refine k_aload_n (hb c s (by omega) (by omega)) dL_law_325 0 rfl ?_
      refine k_iload_n (hb c s (by omega) (by omega)) dL_law_326 3 rfl ?_
      refine k_iconst (hb c s (by omega) (by omega)) dL_law_327 (v := 1) rfl ?_
      refine k_iadd (hb c s (by omega) (by omega)) dL_law_328 ?_
      refine k_sld (hb c s (by omega) (by omega)) hX dL_law_329 fun v45 => ?_
      refine k_callV (hb c s (by omega) (by omega)) (na := 1) (As := [.int v45]) (st := [.int v43]) 11 (C := RX12) (T := TX12) rfl (con_X12_blinds _ _ _ _ l2 v45) tw_1142 tw_59 tw_1139 tw_1140 tw_1141 ⟨by decide, by decide, by decide +kernel⟩ rfl (by decide) rfl (Nat.le_of_ble_eq_true rfl) dL_law_330 fun v46 h47 => ?_
      refine k_icmp_eq (hb c s (by omega) (by omega)) (tgt := 904) dL_law_333 (by decide) (fun _ => ?_) (fun _ => ?_)
      · exact k_sub [0, 1, 2, 3] rfl (P_L_law_904 hb hX hF N k18 hk18 c s l1 l2 l3 h47)
      · refine k_iconst (hb c s (by omega) (by omega)) dL_law_336 (v := 0) rfl ?_
        exact k_lawret0
    refine k_ite (fun e0 => ?_) (fun n6 => ?_)
    · refine k_tableIn (hb c s (by omega) (by omega)) (tgt := 338) dL_law_33 (by rw [e0]; decide) (by rw [e0]; decide) (off := 305) (by rw [e0]; rfl) (by decide) ?_
      refine k_aload_n (hb c s (by omega) (by omega)) dL_law_338 1 rfl ?_
      refine k_aload_n (hb c s (by omega) (by omega)) dL_law_339 0 rfl ?_
      refine k_iload_n (hb c s (by omega) (by omega)) dL_law_340 3 rfl ?_
      refine k_iconst (hb c s (by omega) (by omega)) dL_law_341 (v := 1) rfl ?_
      refine k_iadd (hb c s (by omega) (by omega)) dL_law_342 ?_
      refine k_sld (hb c s (by omega) (by omega)) hX dL_law_343 fun v48 => ?_
      refine k_aload_n (hb c s (by omega) (by omega)) dL_law_344 0 rfl ?_
      refine k_iload_n (hb c s (by omega) (by omega)) dL_law_345 3 rfl ?_
      refine k_iconst (hb c s (by omega) (by omega)) dL_law_346 (v := 2) rfl ?_
      refine k_iadd (hb c s (by omega) (by omega)) dL_law_347 ?_
      refine k_sld (hb c s (by omega) (by omega)) hX dL_law_348 fun v49 => ?_
      refine k_aload_n (hb c s (by omega) (by omega)) dL_law_349 0 rfl ?_
      refine k_iload_n (hb c s (by omega) (by omega)) dL_law_350 3 rfl ?_
      refine k_iconst (hb c s (by omega) (by omega)) dL_law_351 (v := 3) rfl ?_
      refine k_iadd (hb c s (by omega) (by omega)) dL_law_352 ?_
      refine k_sld (hb c s (by omega) (by omega)) hX dL_law_353 fun v50 => ?_
      refine k_callV (hb c s (by omega) (by omega)) (na := 3) (As := [.int v48, .int v49, .int v50]) (st := []) 10 (C := RX11) (T := TX11) rfl (con_X11_sends _ _ _ _ N l1 v48 v49 v50) tw_672 tw_48 tw_669 tw_670 tw_671 ⟨by decide, by decide, by decide +kernel⟩ rfl (by decide) rfl (Nat.le_of_ble_eq_true rfl) dL_law_354 fun v51 h52 => ?_
      refine k_aload_n (hb c s (by omega) (by omega)) dL_law_357 2 rfl ?_
      refine k_aload_n (hb c s (by omega) (by omega)) dL_law_358 0 rfl ?_
      refine k_iload_n (hb c s (by omega) (by omega)) dL_law_359 3 rfl ?_
      refine k_iconst (hb c s (by omega) (by omega)) dL_law_360 (v := 1) rfl ?_
      refine k_iadd (hb c s (by omega) (by omega)) dL_law_361 ?_
      refine k_sld (hb c s (by omega) (by omega)) hX dL_law_362 fun v53 => ?_
      refine k_aload_n (hb c s (by omega) (by omega)) dL_law_363 0 rfl ?_
      refine k_iload_n (hb c s (by omega) (by omega)) dL_law_364 3 rfl ?_
      refine k_iconst (hb c s (by omega) (by omega)) dL_law_365 (v := 2) rfl ?_
      refine k_iadd (hb c s (by omega) (by omega)) dL_law_366 ?_
      refine k_sld (hb c s (by omega) (by omega)) hX dL_law_367 fun v54 => ?_
      refine k_aload_n (hb c s (by omega) (by omega)) dL_law_368 0 rfl ?_
      refine k_iload_n (hb c s (by omega) (by omega)) dL_law_369 3 rfl ?_
      refine k_iconst (hb c s (by omega) (by omega)) dL_law_370 (v := 3) rfl ?_
      refine k_iadd (hb c s (by omega) (by omega)) dL_law_371 ?_
      refine k_sld (hb c s (by omega) (by omega)) hX dL_law_372 fun v55 => ?_
      refine k_callV (hb c s (by omega) (by omega)) (na := 3) (As := [.int v53, .int v54, .int v55]) (st := [.int v51]) 11 (C := RX12) (T := TX12) rfl (con_X12_sends _ _ _ _ N l2 v53 v54 v55) tw_1146 tw_59 tw_1143 tw_1144 tw_1145 ⟨by decide, by decide, by decide +kernel⟩ rfl (by decide) rfl (Nat.le_of_ble_eq_true rfl) dL_law_373 fun v56 h57 => ?_
      refine k_icmp_eq (hb c s (by omega) (by omega)) (tgt := 904) dL_law_376 (by decide) (fun _ => ?_) (fun _ => ?_)
      · exact k_sub [0, 1, 2, 3] rfl (P_L_law_904 hb hX hF N k18 hk18 c s l1 l2 l3 h57)
      · refine k_iconst (hb c s (by omega) (by omega)) dL_law_379 (v := 0) rfl ?_
        exact k_lawret0
    refine k_ite (fun e0 => ?_) (fun n7 => ?_)
    · refine k_tableIn (hb c s (by omega) (by omega)) (tgt := 381) dL_law_33 (by rw [e0]; decide) (by rw [e0]; decide) (off := 348) (by rw [e0]; rfl) (by decide) ?_
      refine k_aload_n (hb c s (by omega) (by omega)) dL_law_381 1 rfl ?_
      refine k_aload_n (hb c s (by omega) (by omega)) dL_law_382 0 rfl ?_
      refine k_iload_n (hb c s (by omega) (by omega)) dL_law_383 3 rfl ?_
      refine k_iconst (hb c s (by omega) (by omega)) dL_law_384 (v := 1) rfl ?_
      refine k_iadd (hb c s (by omega) (by omega)) dL_law_385 ?_
      refine k_sld (hb c s (by omega) (by omega)) hX dL_law_386 fun v58 => ?_
      refine k_aload_n (hb c s (by omega) (by omega)) dL_law_387 0 rfl ?_
      refine k_iload_n (hb c s (by omega) (by omega)) dL_law_388 3 rfl ?_
      refine k_iconst (hb c s (by omega) (by omega)) dL_law_389 (v := 2) rfl ?_
      refine k_iadd (hb c s (by omega) (by omega)) dL_law_390 ?_
      refine k_sld (hb c s (by omega) (by omega)) hX dL_law_391 fun v59 => ?_
      refine k_callV (hb c s (by omega) (by omega)) (na := 2) (As := [.int v58, .int v59]) (st := []) 10 (C := RX11) (T := TX11) rfl (con_X11_merges _ _ _ _ N l1 v58 v59) tw_684 tw_48 tw_681 tw_682 tw_683 ⟨by decide, by decide, by decide +kernel⟩ rfl (by decide) rfl (Nat.le_of_ble_eq_true rfl) dL_law_392 fun v60 h61 => ?_
      refine k_aload_n (hb c s (by omega) (by omega)) dL_law_395 2 rfl ?_
      refine k_aload_n (hb c s (by omega) (by omega)) dL_law_396 0 rfl ?_
      refine k_iload_n (hb c s (by omega) (by omega)) dL_law_397 3 rfl ?_
      refine k_iconst (hb c s (by omega) (by omega)) dL_law_398 (v := 1) rfl ?_
      refine k_iadd (hb c s (by omega) (by omega)) dL_law_399 ?_
      refine k_sld (hb c s (by omega) (by omega)) hX dL_law_400 fun v62 => ?_
      refine k_aload_n (hb c s (by omega) (by omega)) dL_law_401 0 rfl ?_
      refine k_iload_n (hb c s (by omega) (by omega)) dL_law_402 3 rfl ?_
      refine k_iconst (hb c s (by omega) (by omega)) dL_law_403 (v := 2) rfl ?_
      refine k_iadd (hb c s (by omega) (by omega)) dL_law_404 ?_
      refine k_sld (hb c s (by omega) (by omega)) hX dL_law_405 fun v63 => ?_
      refine k_callV (hb c s (by omega) (by omega)) (na := 2) (As := [.int v62, .int v63]) (st := [.int v60]) 11 (C := RX12) (T := TX12) rfl (con_X12_merges _ _ _ _ N l2 v62 v63) tw_1150 tw_59 tw_1147 tw_1148 tw_1149 ⟨by decide, by decide, by decide +kernel⟩ rfl (by decide) rfl (Nat.le_of_ble_eq_true rfl) dL_law_406 fun v64 h65 => ?_
      refine k_icmp_eq (hb c s (by omega) (by omega)) (tgt := 904) dL_law_409 (by decide) (fun _ => ?_) (fun _ => ?_)
      · exact k_sub [0, 1, 2, 3] rfl (P_L_law_904 hb hX hF N k18 hk18 c s l1 l2 l3 h65)
      · refine k_iconst (hb c s (by omega) (by omega)) dL_law_412 (v := 0) rfl ?_
        exact k_lawret0
    refine k_ite (fun e0 => ?_) (fun n8 => ?_)
    · refine k_tableIn (hb c s (by omega) (by omega)) (tgt := 414) dL_law_33 (by rw [e0]; decide) (by rw [e0]; decide) (off := 381) (by rw [e0]; rfl) (by decide) ?_
      refine k_aload_n (hb c s (by omega) (by omega)) dL_law_414 1 rfl ?_
      refine k_aload_n (hb c s (by omega) (by omega)) dL_law_415 0 rfl ?_
      refine k_iload_n (hb c s (by omega) (by omega)) dL_law_416 3 rfl ?_
      refine k_iconst (hb c s (by omega) (by omega)) dL_law_417 (v := 1) rfl ?_
      refine k_iadd (hb c s (by omega) (by omega)) dL_law_418 ?_
      refine k_sld (hb c s (by omega) (by omega)) hX dL_law_419 fun v66 => ?_
      refine k_aload_n (hb c s (by omega) (by omega)) dL_law_420 0 rfl ?_
      refine k_iload_n (hb c s (by omega) (by omega)) dL_law_421 3 rfl ?_
      refine k_iconst (hb c s (by omega) (by omega)) dL_law_422 (v := 2) rfl ?_
      refine k_iadd (hb c s (by omega) (by omega)) dL_law_423 ?_
      refine k_sld (hb c s (by omega) (by omega)) hX dL_law_424 fun v67 => ?_
      refine k_callV (hb c s (by omega) (by omega)) (na := 2) (As := [.int v66, .int v67]) (st := []) 10 (C := RX11) (T := TX11) rfl (con_X11_rules _ _ _ _ N l1 v66 v67) tw_751 tw_48 tw_748 tw_749 tw_750 ⟨by decide, by decide, by decide +kernel⟩ rfl (by decide) rfl (Nat.le_of_ble_eq_true rfl) dL_law_425 fun v68 h69 => ?_
      refine k_aload_n (hb c s (by omega) (by omega)) dL_law_428 2 rfl ?_
      refine k_aload_n (hb c s (by omega) (by omega)) dL_law_429 0 rfl ?_
      refine k_iload_n (hb c s (by omega) (by omega)) dL_law_430 3 rfl ?_
      refine k_iconst (hb c s (by omega) (by omega)) dL_law_431 (v := 1) rfl ?_
      refine k_iadd (hb c s (by omega) (by omega)) dL_law_432 ?_
      refine k_sld (hb c s (by omega) (by omega)) hX dL_law_433 fun v70 => ?_
      refine k_aload_n (hb c s (by omega) (by omega)) dL_law_434 0 rfl ?_
      refine k_iload_n (hb c s (by omega) (by omega)) dL_law_435 3 rfl ?_
      refine k_iconst (hb c s (by omega) (by omega)) dL_law_436 (v := 2) rfl ?_
      refine k_iadd (hb c s (by omega) (by omega)) dL_law_437 ?_
      refine k_sld (hb c s (by omega) (by omega)) hX dL_law_438 fun v71 => ?_
      refine k_callV (hb c s (by omega) (by omega)) (na := 2) (As := [.int v70, .int v71]) (st := [.int v68]) 11 (C := RX12) (T := TX12) rfl (con_X12_rules _ _ _ _ N l2 v70 v71) tw_1174 tw_59 tw_1171 tw_1172 tw_1173 ⟨by decide, by decide, by decide +kernel⟩ rfl (by decide) rfl (Nat.le_of_ble_eq_true rfl) dL_law_439 fun v72 h73 => ?_
      refine k_icmp_eq (hb c s (by omega) (by omega)) (tgt := 904) dL_law_442 (by decide) (fun _ => ?_) (fun _ => ?_)
      · exact k_sub [0, 1, 2, 3] rfl (P_L_law_904 hb hX hF N k18 hk18 c s l1 l2 l3 h73)
      · refine k_iconst (hb c s (by omega) (by omega)) dL_law_445 (v := 0) rfl ?_
        exact k_lawret0
    refine k_ite (fun e0 => ?_) (fun n9 => ?_)
    · refine k_tableIn (hb c s (by omega) (by omega)) (tgt := 447) dL_law_33 (by rw [e0]; decide) (by rw [e0]; decide) (off := 414) (by rw [e0]; rfl) (by decide) ?_
      refine k_aload_n (hb c s (by omega) (by omega)) dL_law_447 1 rfl ?_
      refine k_aload_n (hb c s (by omega) (by omega)) dL_law_448 0 rfl ?_
      refine k_iload_n (hb c s (by omega) (by omega)) dL_law_449 3 rfl ?_
      refine k_iconst (hb c s (by omega) (by omega)) dL_law_450 (v := 1) rfl ?_
      refine k_iadd (hb c s (by omega) (by omega)) dL_law_451 ?_
      refine k_sld (hb c s (by omega) (by omega)) hX dL_law_452 fun v74 => ?_
      refine k_aload_n (hb c s (by omega) (by omega)) dL_law_453 0 rfl ?_
      refine k_iload_n (hb c s (by omega) (by omega)) dL_law_454 3 rfl ?_
      refine k_iconst (hb c s (by omega) (by omega)) dL_law_455 (v := 2) rfl ?_
      refine k_iadd (hb c s (by omega) (by omega)) dL_law_456 ?_
      refine k_sld (hb c s (by omega) (by omega)) hX dL_law_457 fun v75 => ?_
      refine k_aload_n (hb c s (by omega) (by omega)) dL_law_458 0 rfl ?_
      refine k_iload_n (hb c s (by omega) (by omega)) dL_law_459 3 rfl ?_
      refine k_iconst (hb c s (by omega) (by omega)) dL_law_460 (v := 3) rfl ?_
      refine k_iadd (hb c s (by omega) (by omega)) dL_law_461 ?_
      refine k_sld (hb c s (by omega) (by omega)) hX dL_law_462 fun v76 => ?_
      refine k_callV (hb c s (by omega) (by omega)) (na := 3) (As := [.int v74, .int v75, .int v76]) (st := []) 10 (C := RX11) (T := TX11) rfl (con_X11_row _ _ _ _ l1 v74 v75 v76) tw_759 tw_48 tw_756 tw_757 tw_758 ⟨by decide, by decide, by decide +kernel⟩ rfl (by decide) rfl (Nat.le_of_ble_eq_true rfl) dL_law_463 fun v77 h78 => ?_
      refine k_aload_n (hb c s (by omega) (by omega)) dL_law_466 2 rfl ?_
      refine k_aload_n (hb c s (by omega) (by omega)) dL_law_467 0 rfl ?_
      refine k_iload_n (hb c s (by omega) (by omega)) dL_law_468 3 rfl ?_
      refine k_iconst (hb c s (by omega) (by omega)) dL_law_469 (v := 1) rfl ?_
      refine k_iadd (hb c s (by omega) (by omega)) dL_law_470 ?_
      refine k_sld (hb c s (by omega) (by omega)) hX dL_law_471 fun v79 => ?_
      refine k_aload_n (hb c s (by omega) (by omega)) dL_law_472 0 rfl ?_
      refine k_iload_n (hb c s (by omega) (by omega)) dL_law_473 3 rfl ?_
      refine k_iconst (hb c s (by omega) (by omega)) dL_law_474 (v := 2) rfl ?_
      refine k_iadd (hb c s (by omega) (by omega)) dL_law_475 ?_
      refine k_sld (hb c s (by omega) (by omega)) hX dL_law_476 fun v80 => ?_
      refine k_aload_n (hb c s (by omega) (by omega)) dL_law_477 0 rfl ?_
      refine k_iload_n (hb c s (by omega) (by omega)) dL_law_478 3 rfl ?_
      refine k_iconst (hb c s (by omega) (by omega)) dL_law_479 (v := 3) rfl ?_
      refine k_iadd (hb c s (by omega) (by omega)) dL_law_480 ?_
      refine k_sld (hb c s (by omega) (by omega)) hX dL_law_481 fun v81 => ?_
      refine k_callV (hb c s (by omega) (by omega)) (na := 3) (As := [.int v79, .int v80, .int v81]) (st := [.int v77]) 11 (C := RX12) (T := TX12) rfl (con_X12_row _ _ _ _ l2 v79 v80 v81) tw_1179 tw_59 tw_1176 tw_1177 tw_1178 ⟨by decide, by decide, by decide +kernel⟩ rfl (by decide) rfl (Nat.le_of_ble_eq_true rfl) dL_law_482 fun v82 h83 => ?_
      refine k_icmp_eq (hb c s (by omega) (by omega)) (tgt := 904) dL_law_485 (by decide) (fun _ => ?_) (fun _ => ?_)
      · exact k_sub [0, 1, 2, 3] rfl (P_L_law_904 hb hX hF N k18 hk18 c s l1 l2 l3 h83)
      · refine k_iconst (hb c s (by omega) (by omega)) dL_law_488 (v := 0) rfl ?_
        exact k_lawret0
    refine k_ite (fun e0 => ?_) (fun n10 => ?_)
    · refine k_tableIn (hb c s (by omega) (by omega)) (tgt := 490) dL_law_33 (by rw [e0]; decide) (by rw [e0]; decide) (off := 457) (by rw [e0]; rfl) (by decide) ?_
      refine k_aload_n (hb c s (by omega) (by omega)) dL_law_490 1 rfl ?_
      refine k_aload_n (hb c s (by omega) (by omega)) dL_law_491 0 rfl ?_
      refine k_iload_n (hb c s (by omega) (by omega)) dL_law_492 3 rfl ?_
      refine k_iconst (hb c s (by omega) (by omega)) dL_law_493 (v := 1) rfl ?_
      refine k_iadd (hb c s (by omega) (by omega)) dL_law_494 ?_
      refine k_sld (hb c s (by omega) (by omega)) hX dL_law_495 fun v84 => ?_
      refine k_aload_n (hb c s (by omega) (by omega)) dL_law_496 0 rfl ?_
      refine k_iload_n (hb c s (by omega) (by omega)) dL_law_497 3 rfl ?_
      refine k_iconst (hb c s (by omega) (by omega)) dL_law_498 (v := 2) rfl ?_
      refine k_iadd (hb c s (by omega) (by omega)) dL_law_499 ?_
      refine k_sld (hb c s (by omega) (by omega)) hX dL_law_500 fun v85 => ?_
      refine k_aload_n (hb c s (by omega) (by omega)) dL_law_501 0 rfl ?_
      refine k_iload_n (hb c s (by omega) (by omega)) dL_law_502 3 rfl ?_
      refine k_iconst (hb c s (by omega) (by omega)) dL_law_503 (v := 3) rfl ?_
      refine k_iadd (hb c s (by omega) (by omega)) dL_law_504 ?_
      refine k_sld (hb c s (by omega) (by omega)) hX dL_law_505 fun v86 => ?_
      refine k_aload_n (hb c s (by omega) (by omega)) dL_law_506 0 rfl ?_
      refine k_iload_n (hb c s (by omega) (by omega)) dL_law_507 3 rfl ?_
      refine k_iconst (hb c s (by omega) (by omega)) dL_law_508 (v := 4) rfl ?_
      refine k_iadd (hb c s (by omega) (by omega)) dL_law_509 ?_
      refine k_sld (hb c s (by omega) (by omega)) hX dL_law_510 fun v87 => ?_
      refine k_callV (hb c s (by omega) (by omega)) (na := 4) (As := [.int v84, .int v85, .int v86, .int v87]) (st := []) 10 (C := RX11) (T := TX11) rfl (con_X11_sibling _ _ _ _ N l1 v84 v85 v86 v87) tw_764 tw_48 tw_761 tw_762 tw_763 ⟨by decide, by decide, by decide +kernel⟩ rfl (by decide) rfl (Nat.le_of_ble_eq_true rfl) dL_law_511 fun v88 h89 => ?_
      refine k_aload_n (hb c s (by omega) (by omega)) dL_law_514 2 rfl ?_
      refine k_aload_n (hb c s (by omega) (by omega)) dL_law_515 0 rfl ?_
      refine k_iload_n (hb c s (by omega) (by omega)) dL_law_516 3 rfl ?_
      refine k_iconst (hb c s (by omega) (by omega)) dL_law_517 (v := 1) rfl ?_
      refine k_iadd (hb c s (by omega) (by omega)) dL_law_518 ?_
      refine k_sld (hb c s (by omega) (by omega)) hX dL_law_519 fun v90 => ?_
      refine k_aload_n (hb c s (by omega) (by omega)) dL_law_520 0 rfl ?_
      refine k_iload_n (hb c s (by omega) (by omega)) dL_law_521 3 rfl ?_
      refine k_iconst (hb c s (by omega) (by omega)) dL_law_522 (v := 2) rfl ?_
      refine k_iadd (hb c s (by omega) (by omega)) dL_law_523 ?_
      refine k_sld (hb c s (by omega) (by omega)) hX dL_law_524 fun v91 => ?_
      refine k_aload_n (hb c s (by omega) (by omega)) dL_law_525 0 rfl ?_
      refine k_iload_n (hb c s (by omega) (by omega)) dL_law_526 3 rfl ?_
      refine k_iconst (hb c s (by omega) (by omega)) dL_law_527 (v := 3) rfl ?_
      refine k_iadd (hb c s (by omega) (by omega)) dL_law_528 ?_
      refine k_sld (hb c s (by omega) (by omega)) hX dL_law_529 fun v92 => ?_
      refine k_aload_n (hb c s (by omega) (by omega)) dL_law_530 0 rfl ?_
      refine k_iload_n (hb c s (by omega) (by omega)) dL_law_531 3 rfl ?_
      refine k_iconst (hb c s (by omega) (by omega)) dL_law_532 (v := 4) rfl ?_
      refine k_iadd (hb c s (by omega) (by omega)) dL_law_533 ?_
      refine k_sld (hb c s (by omega) (by omega)) hX dL_law_534 fun v93 => ?_
      refine k_callV (hb c s (by omega) (by omega)) (na := 4) (As := [.int v90, .int v91, .int v92, .int v93]) (st := [.long v88]) 11 (C := RX12) (T := TX12) rfl (con_X12_sibling _ _ _ _ N l2 v90 v91 v92 v93) tw_1183 tw_59 tw_1180 tw_1181 tw_1182 ⟨by decide, by decide, by decide +kernel⟩ rfl (by decide) rfl (Nat.le_of_ble_eq_true rfl) dL_law_535 fun v94 h95 => ?_
      refine k_lcmp (hb c s (by omega) (by omega)) dL_law_538 ?_
      refine k_if_eq (hb c s (by omega) (by omega)) (tgt := 904) dL_law_539 (by decide) (fun _ => ?_) (fun _ => ?_)
      · exact k_sub [0, 1, 2, 3] rfl (P_L_law_904 hb hX hF N k18 hk18 c s l1 l2 l3 h95)
      · refine k_iconst (hb c s (by omega) (by omega)) dL_law_542 (v := 0) rfl ?_
        exact k_lawret0
    refine k_ite (fun e0 => ?_) (fun n11 => ?_)
    · refine k_tableIn (hb c s (by omega) (by omega)) (tgt := 544) dL_law_33 (by rw [e0]; decide) (by rw [e0]; decide) (off := 511) (by rw [e0]; rfl) (by decide) ?_
      refine k_aload_n (hb c s (by omega) (by omega)) dL_law_544 1 rfl ?_
      refine k_aload_n (hb c s (by omega) (by omega)) dL_law_545 0 rfl ?_
      refine k_iload_n (hb c s (by omega) (by omega)) dL_law_546 3 rfl ?_
      refine k_iconst (hb c s (by omega) (by omega)) dL_law_547 (v := 1) rfl ?_
      refine k_iadd (hb c s (by omega) (by omega)) dL_law_548 ?_
      refine k_sld (hb c s (by omega) (by omega)) hX dL_law_549 fun v96 => ?_
      refine k_aload_n (hb c s (by omega) (by omega)) dL_law_550 0 rfl ?_
      refine k_iload_n (hb c s (by omega) (by omega)) dL_law_551 3 rfl ?_
      refine k_iconst (hb c s (by omega) (by omega)) dL_law_552 (v := 2) rfl ?_
      refine k_iadd (hb c s (by omega) (by omega)) dL_law_553 ?_
      refine k_sld (hb c s (by omega) (by omega)) hX dL_law_554 fun v97 => ?_
      refine k_callV (hb c s (by omega) (by omega)) (na := 2) (As := [.int v96, .int v97]) (st := []) 10 (C := RX11) (T := TX11) rfl (con_X11_context _ _ _ _ l1 v96 v97) tw_779 tw_48 tw_776 tw_777 tw_778 ⟨by decide, by decide, by decide +kernel⟩ rfl (by decide) rfl (Nat.le_of_ble_eq_true rfl) dL_law_555 fun v98 h99 => ?_
      refine k_aload_n (hb c s (by omega) (by omega)) dL_law_558 2 rfl ?_
      refine k_aload_n (hb c s (by omega) (by omega)) dL_law_559 0 rfl ?_
      refine k_iload_n (hb c s (by omega) (by omega)) dL_law_560 3 rfl ?_
      refine k_iconst (hb c s (by omega) (by omega)) dL_law_561 (v := 1) rfl ?_
      refine k_iadd (hb c s (by omega) (by omega)) dL_law_562 ?_
      refine k_sld (hb c s (by omega) (by omega)) hX dL_law_563 fun v100 => ?_
      refine k_aload_n (hb c s (by omega) (by omega)) dL_law_564 0 rfl ?_
      refine k_iload_n (hb c s (by omega) (by omega)) dL_law_565 3 rfl ?_
      refine k_iconst (hb c s (by omega) (by omega)) dL_law_566 (v := 2) rfl ?_
      refine k_iadd (hb c s (by omega) (by omega)) dL_law_567 ?_
      refine k_sld (hb c s (by omega) (by omega)) hX dL_law_568 fun v101 => ?_
      refine k_callV (hb c s (by omega) (by omega)) (na := 2) (As := [.int v100, .int v101]) (st := [.int v98]) 11 (C := RX12) (T := TX12) rfl (con_X12_context _ _ _ _ l2 v100 v101) tw_1188 tw_59 tw_1185 tw_1186 tw_1187 ⟨by decide, by decide, by decide +kernel⟩ rfl (by decide) rfl (Nat.le_of_ble_eq_true rfl) dL_law_569 fun v102 h103 => ?_
      refine k_icmp_eq (hb c s (by omega) (by omega)) (tgt := 904) dL_law_572 (by decide) (fun _ => ?_) (fun _ => ?_)
      · exact k_sub [0, 1, 2, 3] rfl (P_L_law_904 hb hX hF N k18 hk18 c s l1 l2 l3 h103)
      · refine k_iconst (hb c s (by omega) (by omega)) dL_law_575 (v := 0) rfl ?_
        exact k_lawret0
    refine k_ite (fun e0 => ?_) (fun n12 => ?_)
    · refine k_tableIn (hb c s (by omega) (by omega)) (tgt := 577) dL_law_33 (by rw [e0]; decide) (by rw [e0]; decide) (off := 544) (by rw [e0]; rfl) (by decide) ?_
      refine k_aload_n (hb c s (by omega) (by omega)) dL_law_577 1 rfl ?_
      refine k_aload_n (hb c s (by omega) (by omega)) dL_law_578 0 rfl ?_
      refine k_iload_n (hb c s (by omega) (by omega)) dL_law_579 3 rfl ?_
      refine k_iconst (hb c s (by omega) (by omega)) dL_law_580 (v := 1) rfl ?_
      refine k_iadd (hb c s (by omega) (by omega)) dL_law_581 ?_
      refine k_sld (hb c s (by omega) (by omega)) hX dL_law_582 fun v104 => ?_
      refine k_aload_n (hb c s (by omega) (by omega)) dL_law_583 0 rfl ?_
      refine k_iload_n (hb c s (by omega) (by omega)) dL_law_584 3 rfl ?_
      refine k_iconst (hb c s (by omega) (by omega)) dL_law_585 (v := 2) rfl ?_
      refine k_iadd (hb c s (by omega) (by omega)) dL_law_586 ?_
      refine k_sld (hb c s (by omega) (by omega)) hX dL_law_587 fun v105 => ?_
      refine k_aload_n (hb c s (by omega) (by omega)) dL_law_588 0 rfl ?_
      refine k_iload_n (hb c s (by omega) (by omega)) dL_law_589 3 rfl ?_
      refine k_iconst (hb c s (by omega) (by omega)) dL_law_590 (v := 3) rfl ?_
      refine k_iadd (hb c s (by omega) (by omega)) dL_law_591 ?_
      refine k_sld (hb c s (by omega) (by omega)) hX dL_law_592 fun v106 => ?_
      refine k_aload_n (hb c s (by omega) (by omega)) dL_law_593 0 rfl ?_
      refine k_iload_n (hb c s (by omega) (by omega)) dL_law_594 3 rfl ?_
      refine k_iconst (hb c s (by omega) (by omega)) dL_law_595 (v := 4) rfl ?_
      refine k_iadd (hb c s (by omega) (by omega)) dL_law_596 ?_
      refine k_sld (hb c s (by omega) (by omega)) hX dL_law_597 fun v107 => ?_
      refine k_callV (hb c s (by omega) (by omega)) (na := 4) (As := [.int v104, .int v105, .int v106, .int v107]) (st := []) 10 (C := RX11) (T := TX11) rfl (con_X11_write _ _ _ _ N l1 v104 v105 v106 v107) tw_783 tw_48 tw_780 tw_781 tw_782 ⟨by decide, by decide, by decide +kernel⟩ rfl (by decide) rfl (Nat.le_of_ble_eq_true rfl) dL_law_598 fun v108 h109 => ?_
      refine k_aload_n (hb c s (by omega) (by omega)) dL_law_601 2 rfl ?_
      refine k_aload_n (hb c s (by omega) (by omega)) dL_law_602 0 rfl ?_
      refine k_iload_n (hb c s (by omega) (by omega)) dL_law_603 3 rfl ?_
      refine k_iconst (hb c s (by omega) (by omega)) dL_law_604 (v := 1) rfl ?_
      refine k_iadd (hb c s (by omega) (by omega)) dL_law_605 ?_
      refine k_sld (hb c s (by omega) (by omega)) hX dL_law_606 fun v110 => ?_
      refine k_aload_n (hb c s (by omega) (by omega)) dL_law_607 0 rfl ?_
      refine k_iload_n (hb c s (by omega) (by omega)) dL_law_608 3 rfl ?_
      refine k_iconst (hb c s (by omega) (by omega)) dL_law_609 (v := 2) rfl ?_
      refine k_iadd (hb c s (by omega) (by omega)) dL_law_610 ?_
      refine k_sld (hb c s (by omega) (by omega)) hX dL_law_611 fun v111 => ?_
      refine k_aload_n (hb c s (by omega) (by omega)) dL_law_612 0 rfl ?_
      refine k_iload_n (hb c s (by omega) (by omega)) dL_law_613 3 rfl ?_
      refine k_iconst (hb c s (by omega) (by omega)) dL_law_614 (v := 3) rfl ?_
      refine k_iadd (hb c s (by omega) (by omega)) dL_law_615 ?_
      refine k_sld (hb c s (by omega) (by omega)) hX dL_law_616 fun v112 => ?_
      refine k_aload_n (hb c s (by omega) (by omega)) dL_law_617 0 rfl ?_
      refine k_iload_n (hb c s (by omega) (by omega)) dL_law_618 3 rfl ?_
      refine k_iconst (hb c s (by omega) (by omega)) dL_law_619 (v := 4) rfl ?_
      refine k_iadd (hb c s (by omega) (by omega)) dL_law_620 ?_
      refine k_sld (hb c s (by omega) (by omega)) hX dL_law_621 fun v113 => ?_
      refine k_callV (hb c s (by omega) (by omega)) (na := 4) (As := [.int v110, .int v111, .int v112, .int v113]) (st := [.long v108]) 11 (C := RX12) (T := TX12) rfl (con_X12_write _ _ _ _ l2 v110 v111 v112 v113) tw_1193 tw_59 tw_1190 tw_1191 tw_1192 ⟨by decide, by decide, by decide +kernel⟩ rfl (by decide) rfl (Nat.le_of_ble_eq_true rfl) dL_law_622 fun v114 h115 => ?_
      refine k_lcmp (hb c s (by omega) (by omega)) dL_law_625 ?_
      refine k_if_eq (hb c s (by omega) (by omega)) (tgt := 904) dL_law_626 (by decide) (fun _ => ?_) (fun _ => ?_)
      · exact k_sub [0, 1, 2, 3] rfl (P_L_law_904 hb hX hF N k18 hk18 c s l1 l2 l3 h115)
      · refine k_iconst (hb c s (by omega) (by omega)) dL_law_629 (v := 0) rfl ?_
        exact k_lawret0
    refine k_ite (fun e0 => ?_) (fun n13 => ?_)
    · refine k_tableIn (hb c s (by omega) (by omega)) (tgt := 631) dL_law_33 (by rw [e0]; decide) (by rw [e0]; decide) (off := 598) (by rw [e0]; rfl) (by decide) ?_
      refine k_aload_n (hb c s (by omega) (by omega)) dL_law_631 1 rfl ?_
      refine k_aload_n (hb c s (by omega) (by omega)) dL_law_632 0 rfl ?_
      refine k_iload_n (hb c s (by omega) (by omega)) dL_law_633 3 rfl ?_
      refine k_iconst (hb c s (by omega) (by omega)) dL_law_634 (v := 1) rfl ?_
      refine k_iadd (hb c s (by omega) (by omega)) dL_law_635 ?_
      refine k_sld (hb c s (by omega) (by omega)) hX dL_law_636 fun v116 => ?_
      refine k_aload_n (hb c s (by omega) (by omega)) dL_law_637 0 rfl ?_
      refine k_iload_n (hb c s (by omega) (by omega)) dL_law_638 3 rfl ?_
      refine k_iconst (hb c s (by omega) (by omega)) dL_law_639 (v := 2) rfl ?_
      refine k_iadd (hb c s (by omega) (by omega)) dL_law_640 ?_
      refine k_sld (hb c s (by omega) (by omega)) hX dL_law_641 fun v117 => ?_
      refine k_aload_n (hb c s (by omega) (by omega)) dL_law_642 0 rfl ?_
      refine k_iload_n (hb c s (by omega) (by omega)) dL_law_643 3 rfl ?_
      refine k_iconst (hb c s (by omega) (by omega)) dL_law_644 (v := 3) rfl ?_
      refine k_iadd (hb c s (by omega) (by omega)) dL_law_645 ?_
      refine k_sld (hb c s (by omega) (by omega)) hX dL_law_646 fun v118 => ?_
      refine k_aload_n (hb c s (by omega) (by omega)) dL_law_647 0 rfl ?_
      refine k_iload_n (hb c s (by omega) (by omega)) dL_law_648 3 rfl ?_
      refine k_iconst (hb c s (by omega) (by omega)) dL_law_649 (v := 4) rfl ?_
      refine k_iadd (hb c s (by omega) (by omega)) dL_law_650 ?_
      refine k_sld (hb c s (by omega) (by omega)) hX dL_law_651 fun v119 => ?_
      refine k_aload_n (hb c s (by omega) (by omega)) dL_law_652 0 rfl ?_
      refine k_iload_n (hb c s (by omega) (by omega)) dL_law_653 3 rfl ?_
      refine k_iconst (hb c s (by omega) (by omega)) dL_law_654 (v := 5) rfl ?_
      refine k_iadd (hb c s (by omega) (by omega)) dL_law_655 ?_
      refine k_sld (hb c s (by omega) (by omega)) hX dL_law_656 fun v120 => ?_
      refine k_aload_n (hb c s (by omega) (by omega)) dL_law_657 0 rfl ?_
      refine k_iload_n (hb c s (by omega) (by omega)) dL_law_658 3 rfl ?_
      refine k_bipush (hb c s (by omega) (by omega)) dL_law_659 (v := 6) rfl ?_
      refine k_iadd (hb c s (by omega) (by omega)) dL_law_661 ?_
      refine k_sld (hb c s (by omega) (by omega)) hX dL_law_662 fun v121 => ?_
      refine k_callV (hb c s (by omega) (by omega)) (na := 6) (As := [.int v116, .int v117, .int v118, .int v119, .int v120, .int v121]) (st := []) 10 (C := RX11) (T := TX11) rfl (con_X11_ahead _ _ _ _ l1 v116 v117 v118 v119 v120 v121) tw_809 tw_48 tw_806 tw_807 tw_808 ⟨by decide, by decide, by decide +kernel⟩ rfl (by decide) rfl (Nat.le_of_ble_eq_true rfl) dL_law_663 fun v122 h123 => ?_
      refine k_aload_n (hb c s (by omega) (by omega)) dL_law_666 2 rfl ?_
      refine k_aload_n (hb c s (by omega) (by omega)) dL_law_667 0 rfl ?_
      refine k_iload_n (hb c s (by omega) (by omega)) dL_law_668 3 rfl ?_
      refine k_iconst (hb c s (by omega) (by omega)) dL_law_669 (v := 1) rfl ?_
      refine k_iadd (hb c s (by omega) (by omega)) dL_law_670 ?_
      refine k_sld (hb c s (by omega) (by omega)) hX dL_law_671 fun v124 => ?_
      refine k_aload_n (hb c s (by omega) (by omega)) dL_law_672 0 rfl ?_
      refine k_iload_n (hb c s (by omega) (by omega)) dL_law_673 3 rfl ?_
      refine k_iconst (hb c s (by omega) (by omega)) dL_law_674 (v := 2) rfl ?_
      refine k_iadd (hb c s (by omega) (by omega)) dL_law_675 ?_
      refine k_sld (hb c s (by omega) (by omega)) hX dL_law_676 fun v125 => ?_
      refine k_aload_n (hb c s (by omega) (by omega)) dL_law_677 0 rfl ?_
      refine k_iload_n (hb c s (by omega) (by omega)) dL_law_678 3 rfl ?_
      refine k_iconst (hb c s (by omega) (by omega)) dL_law_679 (v := 3) rfl ?_
      refine k_iadd (hb c s (by omega) (by omega)) dL_law_680 ?_
      refine k_sld (hb c s (by omega) (by omega)) hX dL_law_681 fun v126 => ?_
      refine k_aload_n (hb c s (by omega) (by omega)) dL_law_682 0 rfl ?_
      refine k_iload_n (hb c s (by omega) (by omega)) dL_law_683 3 rfl ?_
      refine k_iconst (hb c s (by omega) (by omega)) dL_law_684 (v := 4) rfl ?_
      refine k_iadd (hb c s (by omega) (by omega)) dL_law_685 ?_
      refine k_sld (hb c s (by omega) (by omega)) hX dL_law_686 fun v127 => ?_
      refine k_aload_n (hb c s (by omega) (by omega)) dL_law_687 0 rfl ?_
      refine k_iload_n (hb c s (by omega) (by omega)) dL_law_688 3 rfl ?_
      refine k_iconst (hb c s (by omega) (by omega)) dL_law_689 (v := 5) rfl ?_
      refine k_iadd (hb c s (by omega) (by omega)) dL_law_690 ?_
      refine k_sld (hb c s (by omega) (by omega)) hX dL_law_691 fun v128 => ?_
      refine k_aload_n (hb c s (by omega) (by omega)) dL_law_692 0 rfl ?_
      refine k_iload_n (hb c s (by omega) (by omega)) dL_law_693 3 rfl ?_
      refine k_bipush (hb c s (by omega) (by omega)) dL_law_694 (v := 6) rfl ?_
      refine k_iadd (hb c s (by omega) (by omega)) dL_law_696 ?_
      refine k_sld (hb c s (by omega) (by omega)) hX dL_law_697 fun v129 => ?_
      refine k_callV (hb c s (by omega) (by omega)) (na := 6) (As := [.int v124, .int v125, .int v126, .int v127, .int v128, .int v129]) (st := [.int v122]) 11 (C := RX12) (T := TX12) rfl (con_X12_ahead _ _ _ _ l2 v124 v125 v126 v127 v128 v129) tw_1208 tw_59 tw_1205 tw_1206 tw_1207 ⟨by decide, by decide, by decide +kernel⟩ rfl (by decide) rfl (Nat.le_of_ble_eq_true rfl) dL_law_698 fun v130 h131 => ?_
      refine k_icmp_eq (hb c s (by omega) (by omega)) (tgt := 904) dL_law_701 (by decide) (fun _ => ?_) (fun _ => ?_)
      · exact k_sub [0, 1, 2, 3] rfl (P_L_law_904 hb hX hF N k18 hk18 c s l1 l2 l3 h131)
      · refine k_iconst (hb c s (by omega) (by omega)) dL_law_704 (v := 0) rfl ?_
        exact k_lawret0
    refine k_ite (fun e0 => ?_) (fun n14 => ?_)
    · refine k_tableIn (hb c s (by omega) (by omega)) (tgt := 706) dL_law_33 (by rw [e0]; decide) (by rw [e0]; decide) (off := 673) (by rw [e0]; rfl) (by decide) ?_
      refine k_aload_n (hb c s (by omega) (by omega)) dL_law_706 1 rfl ?_
      refine k_aload_n (hb c s (by omega) (by omega)) dL_law_707 0 rfl ?_
      refine k_iload_n (hb c s (by omega) (by omega)) dL_law_708 3 rfl ?_
      refine k_iconst (hb c s (by omega) (by omega)) dL_law_709 (v := 1) rfl ?_
      refine k_iadd (hb c s (by omega) (by omega)) dL_law_710 ?_
      refine k_sld (hb c s (by omega) (by omega)) hX dL_law_711 fun v132 => ?_
      refine k_aload_n (hb c s (by omega) (by omega)) dL_law_712 0 rfl ?_
      refine k_iload_n (hb c s (by omega) (by omega)) dL_law_713 3 rfl ?_
      refine k_iconst (hb c s (by omega) (by omega)) dL_law_714 (v := 2) rfl ?_
      refine k_iadd (hb c s (by omega) (by omega)) dL_law_715 ?_
      refine k_sld (hb c s (by omega) (by omega)) hX dL_law_716 fun v133 => ?_
      refine k_aload_n (hb c s (by omega) (by omega)) dL_law_717 0 rfl ?_
      refine k_iload_n (hb c s (by omega) (by omega)) dL_law_718 3 rfl ?_
      refine k_iconst (hb c s (by omega) (by omega)) dL_law_719 (v := 3) rfl ?_
      refine k_iadd (hb c s (by omega) (by omega)) dL_law_720 ?_
      refine k_sld (hb c s (by omega) (by omega)) hX dL_law_721 fun v134 => ?_
      refine k_callV (hb c s (by omega) (by omega)) (na := 3) (As := [.int v132, .int v133, .int v134]) (st := []) 10 (C := RX11) (T := TX11) rfl (con_X11_alike _ _ _ _ N l1 v132 v133 v134) tw_821 tw_48 tw_818 tw_819 tw_820 ⟨by decide, by decide, by decide +kernel⟩ rfl (by decide) rfl (Nat.le_of_ble_eq_true rfl) dL_law_722 fun v135 h136 => ?_
      refine k_aload_n (hb c s (by omega) (by omega)) dL_law_725 2 rfl ?_
      refine k_aload_n (hb c s (by omega) (by omega)) dL_law_726 0 rfl ?_
      refine k_iload_n (hb c s (by omega) (by omega)) dL_law_727 3 rfl ?_
      refine k_iconst (hb c s (by omega) (by omega)) dL_law_728 (v := 1) rfl ?_
      refine k_iadd (hb c s (by omega) (by omega)) dL_law_729 ?_
      refine k_sld (hb c s (by omega) (by omega)) hX dL_law_730 fun v137 => ?_
      refine k_aload_n (hb c s (by omega) (by omega)) dL_law_731 0 rfl ?_
      refine k_iload_n (hb c s (by omega) (by omega)) dL_law_732 3 rfl ?_
      refine k_iconst (hb c s (by omega) (by omega)) dL_law_733 (v := 2) rfl ?_
      refine k_iadd (hb c s (by omega) (by omega)) dL_law_734 ?_
      refine k_sld (hb c s (by omega) (by omega)) hX dL_law_735 fun v138 => ?_
      refine k_aload_n (hb c s (by omega) (by omega)) dL_law_736 0 rfl ?_
      refine k_iload_n (hb c s (by omega) (by omega)) dL_law_737 3 rfl ?_
      refine k_iconst (hb c s (by omega) (by omega)) dL_law_738 (v := 3) rfl ?_
      refine k_iadd (hb c s (by omega) (by omega)) dL_law_739 ?_
      refine k_sld (hb c s (by omega) (by omega)) hX dL_law_740 fun v139 => ?_
      refine k_callV (hb c s (by omega) (by omega)) (na := 3) (As := [.int v137, .int v138, .int v139]) (st := [.int v135]) 11 (C := RX12) (T := TX12) rfl (con_X12_alike _ _ _ _ N l2 v137 v138 v139) tw_1212 tw_59 tw_1209 tw_1210 tw_1211 ⟨by decide, by decide, by decide +kernel⟩ rfl (by decide) rfl (Nat.le_of_ble_eq_true rfl) dL_law_741 fun v140 h141 => ?_
      refine k_icmp_eq (hb c s (by omega) (by omega)) (tgt := 904) dL_law_744 (by decide) (fun _ => ?_) (fun _ => ?_)
      · exact k_sub [0, 1, 2, 3] rfl (P_L_law_904 hb hX hF N k18 hk18 c s l1 l2 l3 h141)
      · refine k_iconst (hb c s (by omega) (by omega)) dL_law_747 (v := 0) rfl ?_
        exact k_lawret0
    refine k_ite (fun e0 => ?_) (fun n15 => ?_)
    · refine k_tableIn (hb c s (by omega) (by omega)) (tgt := 749) dL_law_33 (by rw [e0]; decide) (by rw [e0]; decide) (off := 716) (by rw [e0]; rfl) (by decide) ?_
      refine k_aload_n (hb c s (by omega) (by omega)) dL_law_749 1 rfl ?_
      refine k_aload_n (hb c s (by omega) (by omega)) dL_law_750 0 rfl ?_
      refine k_iload_n (hb c s (by omega) (by omega)) dL_law_751 3 rfl ?_
      refine k_iconst (hb c s (by omega) (by omega)) dL_law_752 (v := 1) rfl ?_
      refine k_iadd (hb c s (by omega) (by omega)) dL_law_753 ?_
      refine k_sld (hb c s (by omega) (by omega)) hX dL_law_754 fun v142 => ?_
      refine k_aload_n (hb c s (by omega) (by omega)) dL_law_755 0 rfl ?_
      refine k_iload_n (hb c s (by omega) (by omega)) dL_law_756 3 rfl ?_
      refine k_iconst (hb c s (by omega) (by omega)) dL_law_757 (v := 2) rfl ?_
      refine k_iadd (hb c s (by omega) (by omega)) dL_law_758 ?_
      refine k_sld (hb c s (by omega) (by omega)) hX dL_law_759 fun v143 => ?_
      refine k_callV (hb c s (by omega) (by omega)) (na := 2) (As := [.int v142, .int v143]) (st := []) 10 (C := RX11) (T := TX11) rfl (con_X11_behind _ _ _ _ N l1 v142 v143) tw_829 tw_48 tw_826 tw_827 tw_828 ⟨by decide, by decide, by decide +kernel⟩ rfl (by decide) rfl (Nat.le_of_ble_eq_true rfl) dL_law_760 fun v144 h145 => ?_
      refine k_aload_n (hb c s (by omega) (by omega)) dL_law_763 2 rfl ?_
      refine k_aload_n (hb c s (by omega) (by omega)) dL_law_764 0 rfl ?_
      refine k_iload_n (hb c s (by omega) (by omega)) dL_law_765 3 rfl ?_
      refine k_iconst (hb c s (by omega) (by omega)) dL_law_766 (v := 1) rfl ?_
      refine k_iadd (hb c s (by omega) (by omega)) dL_law_767 ?_
      refine k_sld (hb c s (by omega) (by omega)) hX dL_law_768 fun v146 => ?_
      refine k_aload_n (hb c s (by omega) (by omega)) dL_law_769 0 rfl ?_
      refine k_iload_n (hb c s (by omega) (by omega)) dL_law_770 3 rfl ?_
      refine k_iconst (hb c s (by omega) (by omega)) dL_law_771 (v := 2) rfl ?_
      refine k_iadd (hb c s (by omega) (by omega)) dL_law_772 ?_
      refine k_sld (hb c s (by omega) (by omega)) hX dL_law_773 fun v147 => ?_
      refine k_callV (hb c s (by omega) (by omega)) (na := 2) (As := [.int v146, .int v147]) (st := [.int v144]) 11 (C := RX12) (T := TX12) rfl (con_X12_behind _ _ _ _ N l2 v146 v147) tw_1220 tw_59 tw_1217 tw_1218 tw_1219 ⟨by decide, by decide, by decide +kernel⟩ rfl (by decide) rfl (Nat.le_of_ble_eq_true rfl) dL_law_774 fun v148 h149 => ?_
      refine k_icmp_eq (hb c s (by omega) (by omega)) (tgt := 904) dL_law_777 (by decide) (fun _ => ?_) (fun _ => ?_)
      · exact k_sub [0, 1, 2, 3] rfl (P_L_law_904 hb hX hF N k18 hk18 c s l1 l2 l3 h149)
      · refine k_iconst (hb c s (by omega) (by omega)) dL_law_780 (v := 0) rfl ?_
        exact k_lawret0
    refine k_ite (fun e0 => ?_) (fun n16 => ?_)
    · refine k_tableIn (hb c s (by omega) (by omega)) (tgt := 782) dL_law_33 (by rw [e0]; decide) (by rw [e0]; decide) (off := 749) (by rw [e0]; rfl) (by decide) ?_
      refine k_aload_n (hb c s (by omega) (by omega)) dL_law_782 1 rfl ?_
      refine k_aload_n (hb c s (by omega) (by omega)) dL_law_783 0 rfl ?_
      refine k_iload_n (hb c s (by omega) (by omega)) dL_law_784 3 rfl ?_
      refine k_iconst (hb c s (by omega) (by omega)) dL_law_785 (v := 1) rfl ?_
      refine k_iadd (hb c s (by omega) (by omega)) dL_law_786 ?_
      refine k_sld (hb c s (by omega) (by omega)) hX dL_law_787 fun v150 => ?_
      refine k_aload_n (hb c s (by omega) (by omega)) dL_law_788 0 rfl ?_
      refine k_iload_n (hb c s (by omega) (by omega)) dL_law_789 3 rfl ?_
      refine k_iconst (hb c s (by omega) (by omega)) dL_law_790 (v := 2) rfl ?_
      refine k_iadd (hb c s (by omega) (by omega)) dL_law_791 ?_
      refine k_sld (hb c s (by omega) (by omega)) hX dL_law_792 fun v151 => ?_
      refine k_callV (hb c s (by omega) (by omega)) (na := 2) (As := [.int v150, .int v151]) (st := []) 10 (C := RX11) (T := TX11) rfl (con_X11_spread _ _ _ _ N l1 v150 v151) tw_841 tw_48 tw_838 tw_839 tw_840 ⟨by decide, by decide, by decide +kernel⟩ rfl (by decide) rfl (Nat.le_of_ble_eq_true rfl) dL_law_793 fun v152 h153 => ?_
      refine k_aload_n (hb c s (by omega) (by omega)) dL_law_796 2 rfl ?_
      refine k_aload_n (hb c s (by omega) (by omega)) dL_law_797 0 rfl ?_
      refine k_iload_n (hb c s (by omega) (by omega)) dL_law_798 3 rfl ?_
      refine k_iconst (hb c s (by omega) (by omega)) dL_law_799 (v := 1) rfl ?_
      refine k_iadd (hb c s (by omega) (by omega)) dL_law_800 ?_
      refine k_sld (hb c s (by omega) (by omega)) hX dL_law_801 fun v154 => ?_
      refine k_aload_n (hb c s (by omega) (by omega)) dL_law_802 0 rfl ?_
      refine k_iload_n (hb c s (by omega) (by omega)) dL_law_803 3 rfl ?_
      refine k_iconst (hb c s (by omega) (by omega)) dL_law_804 (v := 2) rfl ?_
      refine k_iadd (hb c s (by omega) (by omega)) dL_law_805 ?_
      refine k_sld (hb c s (by omega) (by omega)) hX dL_law_806 fun v155 => ?_
      refine k_callV (hb c s (by omega) (by omega)) (na := 2) (As := [.int v154, .int v155]) (st := [.int v152]) 11 (C := RX12) (T := TX12) rfl (con_X12_spread _ _ _ _ N l2 v154 v155) tw_1224 tw_59 tw_1221 tw_1222 tw_1223 ⟨by decide, by decide, by decide +kernel⟩ rfl (by decide) rfl (Nat.le_of_ble_eq_true rfl) dL_law_807 fun v156 h157 => ?_
      refine k_icmp_eq (hb c s (by omega) (by omega)) (tgt := 904) dL_law_810 (by decide) (fun _ => ?_) (fun _ => ?_)
      · exact k_sub [0, 1, 2, 3] rfl (P_L_law_904 hb hX hF N k18 hk18 c s l1 l2 l3 h157)
      · refine k_iconst (hb c s (by omega) (by omega)) dL_law_813 (v := 0) rfl ?_
        exact k_lawret0
    refine k_ite (fun e0 => ?_) (fun n17 => ?_)
    · refine k_tableIn (hb c s (by omega) (by omega)) (tgt := 815) dL_law_33 (by rw [e0]; decide) (by rw [e0]; decide) (off := 782) (by rw [e0]; rfl) (by decide) ?_
      refine k_aload_n (hb c s (by omega) (by omega)) dL_law_815 1 rfl ?_
      refine k_aload_n (hb c s (by omega) (by omega)) dL_law_816 0 rfl ?_
      refine k_iload_n (hb c s (by omega) (by omega)) dL_law_817 3 rfl ?_
      refine k_iconst (hb c s (by omega) (by omega)) dL_law_818 (v := 1) rfl ?_
      refine k_iadd (hb c s (by omega) (by omega)) dL_law_819 ?_
      refine k_sld (hb c s (by omega) (by omega)) hX dL_law_820 fun v158 => ?_
      refine k_aload_n (hb c s (by omega) (by omega)) dL_law_821 0 rfl ?_
      refine k_iload_n (hb c s (by omega) (by omega)) dL_law_822 3 rfl ?_
      refine k_iconst (hb c s (by omega) (by omega)) dL_law_823 (v := 2) rfl ?_
      refine k_iadd (hb c s (by omega) (by omega)) dL_law_824 ?_
      refine k_sld (hb c s (by omega) (by omega)) hX dL_law_825 fun v159 => ?_
      refine k_callV (hb c s (by omega) (by omega)) (na := 2) (As := [.int v158, .int v159]) (st := []) 10 (C := RX11) (T := TX11) rfl (con_X11_rule _ _ _ _ l1 v158 v159) tw_893 tw_48 tw_890 tw_891 tw_892 ⟨by decide, by decide, by decide +kernel⟩ rfl (by decide) rfl (Nat.le_of_ble_eq_true rfl) dL_law_826 fun v160 h161 => ?_
      refine k_aload_n (hb c s (by omega) (by omega)) dL_law_829 2 rfl ?_
      refine k_aload_n (hb c s (by omega) (by omega)) dL_law_830 0 rfl ?_
      refine k_iload_n (hb c s (by omega) (by omega)) dL_law_831 3 rfl ?_
      refine k_iconst (hb c s (by omega) (by omega)) dL_law_832 (v := 1) rfl ?_
      refine k_iadd (hb c s (by omega) (by omega)) dL_law_833 ?_
      refine k_sld (hb c s (by omega) (by omega)) hX dL_law_834 fun v162 => ?_
      refine k_aload_n (hb c s (by omega) (by omega)) dL_law_835 0 rfl ?_
      refine k_iload_n (hb c s (by omega) (by omega)) dL_law_836 3 rfl ?_
      refine k_iconst (hb c s (by omega) (by omega)) dL_law_837 (v := 2) rfl ?_
      refine k_iadd (hb c s (by omega) (by omega)) dL_law_838 ?_
      refine k_sld (hb c s (by omega) (by omega)) hX dL_law_839 fun v163 => ?_
      refine k_callV (hb c s (by omega) (by omega)) (na := 2) (As := [.int v162, .int v163]) (st := [.int v160]) 11 (C := RX12) (T := TX12) rfl (con_X12_rule _ _ _ _ l2 v162 v163) tw_1254 tw_59 tw_1251 tw_1252 tw_1253 ⟨by decide, by decide, by decide +kernel⟩ rfl (by decide) rfl (Nat.le_of_ble_eq_true rfl) dL_law_840 fun v164 h165 => ?_
      refine k_icmp_eq (hb c s (by omega) (by omega)) (tgt := 904) dL_law_843 (by decide) (fun _ => ?_) (fun _ => ?_)
      · exact k_sub [0, 1, 2, 3] rfl (P_L_law_904 hb hX hF N k18 hk18 c s l1 l2 l3 h165)
      · refine k_iconst (hb c s (by omega) (by omega)) dL_law_846 (v := 0) rfl ?_
        exact k_lawret0
    refine k_ite (fun e0 => ?_) (fun n18 => ?_)
    · refine k_tableIn (hb c s (by omega) (by omega)) (tgt := 848) dL_law_33 (by rw [e0]; decide) (by rw [e0]; decide) (off := 815) (by rw [e0]; rfl) (by decide) ?_
      refine k_aload_n (hb c s (by omega) (by omega)) dL_law_848 1 rfl ?_
      refine k_aload_n (hb c s (by omega) (by omega)) dL_law_849 0 rfl ?_
      refine k_iload_n (hb c s (by omega) (by omega)) dL_law_850 3 rfl ?_
      refine k_iconst (hb c s (by omega) (by omega)) dL_law_851 (v := 1) rfl ?_
      refine k_iadd (hb c s (by omega) (by omega)) dL_law_852 ?_
      refine k_sld (hb c s (by omega) (by omega)) hX dL_law_853 fun v166 => ?_
      refine k_aload_n (hb c s (by omega) (by omega)) dL_law_854 0 rfl ?_
      refine k_iload_n (hb c s (by omega) (by omega)) dL_law_855 3 rfl ?_
      refine k_iconst (hb c s (by omega) (by omega)) dL_law_856 (v := 2) rfl ?_
      refine k_iadd (hb c s (by omega) (by omega)) dL_law_857 ?_
      refine k_sld (hb c s (by omega) (by omega)) hX dL_law_858 fun v167 => ?_
      refine k_callV (hb c s (by omega) (by omega)) (na := 2) (As := [.int v166, .int v167]) (st := []) 10 (C := RX11) (T := TX11) rfl (con_X11_tally _ _ _ _ N l1 v166 v167) tw_902 tw_48 tw_899 tw_900 tw_901 ⟨by decide, by decide, by decide +kernel⟩ rfl (by decide) rfl (Nat.le_of_ble_eq_true rfl) dL_law_859 fun v168 h169 => ?_
      refine k_aload_n (hb c s (by omega) (by omega)) dL_law_862 2 rfl ?_
      refine k_aload_n (hb c s (by omega) (by omega)) dL_law_863 0 rfl ?_
      refine k_iload_n (hb c s (by omega) (by omega)) dL_law_864 3 rfl ?_
      refine k_iconst (hb c s (by omega) (by omega)) dL_law_865 (v := 1) rfl ?_
      refine k_iadd (hb c s (by omega) (by omega)) dL_law_866 ?_
      refine k_sld (hb c s (by omega) (by omega)) hX dL_law_867 fun v170 => ?_
      refine k_aload_n (hb c s (by omega) (by omega)) dL_law_868 0 rfl ?_
      refine k_iload_n (hb c s (by omega) (by omega)) dL_law_869 3 rfl ?_
      refine k_iconst (hb c s (by omega) (by omega)) dL_law_870 (v := 2) rfl ?_
      refine k_iadd (hb c s (by omega) (by omega)) dL_law_871 ?_
      refine k_sld (hb c s (by omega) (by omega)) hX dL_law_872 fun v171 => ?_
      refine k_callV (hb c s (by omega) (by omega)) (na := 2) (As := [.int v170, .int v171]) (st := [.int v168]) 11 (C := RX12) (T := TX12) rfl (con_X12_tally _ _ _ _ N l2 v170 v171) tw_1258 tw_59 tw_1255 tw_1256 tw_1257 ⟨by decide, by decide, by decide +kernel⟩ rfl (by decide) rfl (Nat.le_of_ble_eq_true rfl) dL_law_873 fun v172 h173 => ?_
      refine k_icmp_eq (hb c s (by omega) (by omega)) (tgt := 904) dL_law_876 (by decide) (fun _ => ?_) (fun _ => ?_)
      · exact k_sub [0, 1, 2, 3] rfl (P_L_law_904 hb hX hF N k18 hk18 c s l1 l2 l3 h173)
      · refine k_iconst (hb c s (by omega) (by omega)) dL_law_879 (v := 0) rfl ?_
        exact k_lawret0
    refine k_ite (fun e0 => ?_) (fun n19 => ?_)
    · refine k_tableIn (hb c s (by omega) (by omega)) (tgt := 881) dL_law_33 (by rw [e0]; decide) (by rw [e0]; decide) (off := 848) (by rw [e0]; rfl) (by decide) ?_
      refine k_aload_n (hb c s (by omega) (by omega)) dL_law_881 1 rfl ?_
      refine k_aload_n (hb c s (by omega) (by omega)) dL_law_882 0 rfl ?_
      refine k_iload_n (hb c s (by omega) (by omega)) dL_law_883 3 rfl ?_
      refine k_iconst (hb c s (by omega) (by omega)) dL_law_884 (v := 1) rfl ?_
      refine k_iadd (hb c s (by omega) (by omega)) dL_law_885 ?_
      refine k_sld (hb c s (by omega) (by omega)) hX dL_law_886 fun v174 => ?_
      refine k_callV (hb c s (by omega) (by omega)) (na := 1) (As := [.int v174]) (st := []) 10 (C := RX11) (T := TX11) rfl (con_X11_count _ _ _ _ l1 v174) tw_911 tw_48 tw_908 tw_909 tw_910 ⟨by decide, by decide, by decide +kernel⟩ rfl (by decide) rfl (Nat.le_of_ble_eq_true rfl) dL_law_887 fun v175 h176 => ?_
      refine k_aload_n (hb c s (by omega) (by omega)) dL_law_890 2 rfl ?_
      refine k_aload_n (hb c s (by omega) (by omega)) dL_law_891 0 rfl ?_
      refine k_iload_n (hb c s (by omega) (by omega)) dL_law_892 3 rfl ?_
      refine k_iconst (hb c s (by omega) (by omega)) dL_law_893 (v := 1) rfl ?_
      refine k_iadd (hb c s (by omega) (by omega)) dL_law_894 ?_
      refine k_sld (hb c s (by omega) (by omega)) hX dL_law_895 fun v177 => ?_
      refine k_callV (hb c s (by omega) (by omega)) (na := 1) (As := [.int v177]) (st := [.int v175]) 11 (C := RX12) (T := TX12) rfl (con_X12_count _ _ _ _ l2 v177) tw_1267 tw_59 tw_1264 tw_1265 tw_1266 ⟨by decide, by decide, by decide +kernel⟩ rfl (by decide) rfl (Nat.le_of_ble_eq_true rfl) dL_law_896 fun v178 h179 => ?_
      refine k_icmp_eq (hb c s (by omega) (by omega)) (tgt := 904) dL_law_899 (by decide) (fun _ => ?_) (fun _ => ?_)
      · exact k_sub [0, 1, 2, 3] rfl (P_L_law_904 hb hX hF N k18 hk18 c s l1 l2 l3 h179)
      · refine k_iconst (hb c s (by omega) (by omega)) dL_law_902 (v := 0) rfl ?_
        exact k_lawret0
    refine k_tableOut (hb c s (by omega) (by omega)) (tgt := 904) dL_law_33 (by have m0 := e_ne n0 (show (0 : Int32).toInt = 0 from rfl); have m1 := e_ne n1 (show (1 : Int32).toInt = 1 from rfl); have m2 := e_ne n2 (show (2 : Int32).toInt = 2 from rfl); have m3 := e_ne n3 (show (3 : Int32).toInt = 3 from rfl); have m4 := e_ne n4 (show (4 : Int32).toInt = 4 from rfl); have m5 := e_ne n5 (show (5 : Int32).toInt = 5 from rfl); have m6 := e_ne n6 (show (6 : Int32).toInt = 6 from rfl); have m7 := e_ne n7 (show (7 : Int32).toInt = 7 from rfl); have m8 := e_ne n8 (show (8 : Int32).toInt = 8 from rfl); have m9 := e_ne n9 (show (9 : Int32).toInt = 9 from rfl); have m10 := e_ne n10 (show (10 : Int32).toInt = 10 from rfl); have m11 := e_ne n11 (show (11 : Int32).toInt = 11 from rfl); have m12 := e_ne n12 (show (12 : Int32).toInt = 12 from rfl); have m13 := e_ne n13 (show (13 : Int32).toInt = 13 from rfl); have m14 := e_ne n14 (show (14 : Int32).toInt = 14 from rfl); have m15 := e_ne n15 (show (15 : Int32).toInt = 15 from rfl); have m16 := e_ne n16 (show (16 : Int32).toInt = 16 from rfl); have m17 := e_ne n17 (show (17 : Int32).toInt = 17 from rfl); have m18 := e_ne n18 (show (18 : Int32).toInt = 18 from rfl); have m19 := e_ne n19 (show (19 : Int32).toInt = 19 from rfl); omega) (by decide) ?_
    exact k_sub [0, 1, 2, 3] rfl (P_L_law_904 hb hX hF N k18 hk18 c s l1 l2 l3 h)
theorem Q_L_law_18 {q : eT} {lb : Nat}  {h0 : eH} {n0 : Nat} {nm : String} {L : Nat} {xs : Nat → Int32} (hb : ∀ c s, c ≤ 600000 → s ≤ 7302250 → e_B (e_mv q (n0 + c) c s) RL cL_law 4 2048 84000 ret nm) (hX : e_X q lb L xs) (hF : e_F q) (N : Nat) (c s : Nat) (l1 : Nat) (l2 : Nat) (l3 : Int32) (h : eH) : e_K eI (e_mv q (n0 + c) c s) 1 h0 18 [(0, .ref lb), (1, .ref l1), (2, .ref l2), (3, .int l3)] [] h (L_L_law_18 N (e_G q) n0 L xs c s l1 l2 l3 h) :=
  k_loopA (qq := fun s => e_mv q (n0 + s.1) s.1 s.2.1) (mk := (fun s => [(0, .ref lb), (1, .ref s.2.2.1), (2, .ref s.2.2.2.1), (3, .int s.2.2.2.2.1)])) (hp := fun s => s.2.2.2.2.2) (fun k hk s => P_L_law_18b hb hX hF N (fun c s l1 l2 l3 h => k (c, s, l1, l2, l3, h)) (fun c s l1 l2 l3 h => hk (c, s, l1, l2, l3, h)) s.1 s.2.1 s.2.2.1 s.2.2.2.1 s.2.2.2.2.1 s.2.2.2.2.2) N (c, s, l1, l2, l3, h)
set_option maxRecDepth 100000 in
set_option maxHeartbeats 4000000 in
theorem P_L_law_0 {q : eT} {lb : Nat}  {h0 : eH} {n0 : Nat} {nm : String} {L : Nat} {xs : Nat → Int32} (hb : ∀ c s, c ≤ 600000 → s ≤ 7302250 → e_B (e_mv q (n0 + c) c s) RL cL_law 4 2048 84000 ret nm) (hX : e_X q lb L xs) (hF : e_F q) (N : Nat) (h : eH) : e_K eI (e_mv q (n0 + 0) 0 0) 1 h0 0 [(0, .ref lb)] [] h (F_L_law N (e_G q) n0 L xs h) := by
  unfold F_L_law
  have hRc : (e_R q).cells = 600000 := by rw [hF.1]; rfl
  have hRs : (e_R q).slots = 7302250 := by rw [hF.1]; rfl
  refine k_new (hb 0 0 (by omega) (by omega)) (C := RX11) (T := TX11) 10 rfl lay_X11 tyX11 tyX11_ok tw_67 tw_68 tw_48 (show 0 + 1 ≤ (e_R q).cells by rw [hRc]; omega) (show 0 + 12 ≤ (e_R q).slots by rw [hRs]; omega) dL_law_0 ?_
  show e_K _ (e_mv q (n0 + 1) 1 12) _ _ _ _ _ (h_set h (n0 + 0) (oB 10 (fun k => defaultValue (tyX11 k)))) _
  refine k_leth fun h1 _ => ?_
  refine k_dup (hb 1 12 (by omega) (by omega)) dL_law_3 rfl ?_
  refine k_callIA (hb 1 12 (by omega) (by omega)) (na := 0) (As := []) (st := [.ref (n0 + 0)]) (con_X11_init _ _ _ _ N (n0 + 0)) tw_71 tw_48 tw_69 tw_70 rfl ⟨by decide, by decide, by decide +kernel⟩ rfl (by decide) rfl (Nat.le_of_ble_eq_true rfl) (show 1 + 124 ≤ (e_R q).cells by rw [hRc]; omega) (show 12 + 3017 ≤ (e_R q).slots by rw [hRs]; omega) dL_law_4 fun _ h2 => ?_
  show e_K _ (e_mv q (n0 + 125) 125 3029) _ _ _ _ _ _ _
  refine k_astore_n (hb 125 3029 (by omega) (by omega)) dL_law_7 rfl (by decide) (ls' := [(1, .ref (n0 + 0)), (0, .ref lb)]) rfl ?_
  refine k_new (hb 125 3029 (by omega) (by omega)) (C := RX12) (T := TX12) 11 rfl lay_X12 tyX12 tyX12_ok tw_912 tw_913 tw_59 (show 125 + 1 ≤ (e_R q).cells by rw [hRc]; omega) (show 3029 + 41 ≤ (e_R q).slots by rw [hRs]; omega) dL_law_8 ?_
  show e_K _ (e_mv q (n0 + 126) 126 3070) _ _ _ _ _ (h_set h2 (n0 + 125) (oB 11 (fun k => defaultValue (tyX12 k)))) _
  refine k_leth fun h3 _ => ?_
  refine k_dup (hb 126 3070 (by omega) (by omega)) dL_law_11 rfl ?_
  refine k_callIA (hb 126 3070 (by omega) (by omega)) (na := 0) (As := []) (st := [.ref (n0 + 125)]) (con_X12_init _ _ _ _ N (n0 + 125)) tw_916 tw_59 tw_914 tw_915 rfl ⟨by decide, by decide, by decide +kernel⟩ rfl (by decide) rfl (Nat.le_of_ble_eq_true rfl) (show 126 + 25 ≤ (e_R q).cells by rw [hRc]; omega) (show 3070 + 141288 ≤ (e_R q).slots by rw [hRs]; omega) dL_law_12 fun _ h4 => ?_
  show e_K _ (e_mv q (n0 + 151) 151 144358) _ _ _ _ _ _ _
  refine k_astore_n (hb 151 144358 (by omega) (by omega)) dL_law_15 rfl (by decide) (ls' := [(2, .ref (n0 + 125)), (1, .ref (n0 + 0)), (0, .ref lb)]) rfl ?_
  refine k_iconst (hb 151 144358 (by omega) (by omega)) dL_law_16 (v := 0) rfl ?_
  refine k_istore_n (hb 151 144358 (by omega) (by omega)) dL_law_17 rfl (by decide) (ls' := [(3, .int 0), (2, .ref (n0 + 125)), (1, .ref (n0 + 0)), (0, .ref lb)]) rfl ?_
  exact k_sub [3, 2, 1, 0] rfl (Q_L_law_18 hb hX hF N 151 144358 (n0 + 0) (n0 + 125) 0 h4)
