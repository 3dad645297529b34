set_option maxRecDepth 100000 in
set_option maxHeartbeats 4000000 in
theorem P_X12_writes_189 {q : eT} {r0 : Int32} {h0 : eH} (hq : e_B q yX12_writes.cls cX12_writes 13 4 96 (some .int) yX12_writes.name) (he : e_E q) (N : Nat) (k120 : Nat → Int32 → Int32 → Int32 → Int64 → Int32 → Int32 → Int32 → eH → Option (Int32 × eH)) (hk120 : ∀ (l0 : Nat) (l1 : Int32) (l2 : Int32) (l3 : Int32) (l5 : Int64) (l7 : Int32) (l8 : Int32) (l9 : Int32) h, e_K eI q r0 h0 120 [(0, .ref l0), (1, .int l1), (2, .int l2), (3, .int l3), (5, .long l5), (7, .int l7), (8, .int l8), (9, .int l9)] [] h (k120 l0 l1 l2 l3 l5 l7 l8 l9 h)) (l0 : Nat) (l1 : Int32) (l2 : Int32) (l3 : Int32) (l5 : Int64) (l7 : Int32) (l8 : Int32) (l9 : Int32) (s0 : Nat) (s1 : Int32) (s2 : Int32) (h : eH) : e_K eI q r0 h0 189 [(0, .ref l0), (1, .int l1), (2, .int l2), (3, .int l3), (5, .long l5), (7, .int l7), (8, .int l8), (9, .int l9)] [.int s2, .int s1, .ref s0] h (F_X12_writes_189 N k120 l0 l1 l2 l3 l5 l7 l8 l9 s0 s1 s2 h) := by
  unfold F_X12_writes_189
  refine k_iast hq dX12_writes_189 fun h1 => ?_
  refine k_iinc hq dX12_writes_190 7 rfl (v := l9 + 1) rfl (by decide) (ls' := [(9, .int (l9 + 1)), (0, .ref l0), (1, .int l1), (2, .int l2), (3, .int l3), (5, .long l5), (7, .int l7), (8, .int l8)]) rfl ?_
  refine k_goto hq (tgt := 120) dX12_writes_193 (by decide) ?_
  exact k_sub [1, 2, 3, 4, 5, 6, 7, 0] rfl (hk120 l0 l1 l2 l3 l5 l7 l8 (l9 + 1) h1)
set_option maxRecDepth 100000 in
set_option maxHeartbeats 4000000 in
theorem P_X12_writes_157 {q : eT} {r0 : Int32} {h0 : eH} (hq : e_B q yX12_writes.cls cX12_writes 13 4 96 (some .int) yX12_writes.name) (he : e_E q) (N : Nat) (k120 : Nat → Int32 → Int32 → Int32 → Int64 → Int32 → Int32 → Int32 → eH → Option (Int32 × eH)) (hk120 : ∀ (l0 : Nat) (l1 : Int32) (l2 : Int32) (l3 : Int32) (l5 : Int64) (l7 : Int32) (l8 : Int32) (l9 : Int32) h, e_K eI q r0 h0 120 [(0, .ref l0), (1, .int l1), (2, .int l2), (3, .int l3), (5, .long l5), (7, .int l7), (8, .int l8), (9, .int l9)] [] h (k120 l0 l1 l2 l3 l5 l7 l8 l9 h)) (l0 : Nat) (l1 : Int32) (l2 : Int32) (l3 : Int32) (l5 : Int64) (l7 : Int32) (l8 : Int32) (l9 : Int32) (s0 : Nat) (s1 : Int32) (s2 : Int32) (h : eH) : e_K eI q r0 h0 157 [(0, .ref l0), (1, .int l1), (2, .int l2), (3, .int l3), (5, .long l5), (7, .int l7), (8, .int l8), (9, .int l9)] [.int s2, .int s1, .ref s0] h (F_X12_writes_157 N k120 l0 l1 l2 l3 l5 l7 l8 l9 s0 s1 s2 h) := by
  unfold F_X12_writes_157
  refine k_iast hq dX12_writes_157 fun h1 => ?_
  refine k_aload_n hq dX12_writes_158 0 rfl ?_
  refine k_gr hq (C := RX12) (T := TX12) 11 9 rfl (by decide) (lay_X12 9 (by decide)) tw_936 dX12_writes_159 fun v2 => ?_
  refine k_iconst hq dX12_writes_162 (v := 4) rfl ?_
  refine k_iload hq dX12_writes_163 6 rfl ?_
  refine k_imul hq dX12_writes_165 ?_
  refine k_iload hq dX12_writes_166 7 rfl ?_
  refine k_iadd hq dX12_writes_168 ?_
  refine k_iload hq dX12_writes_169 5 rfl ?_
  refine k_if_eq hq (tgt := 188) dX12_writes_171 (by decide) (fun _ => ?_) (fun _ => ?_)
  · refine k_iconst hq dX12_writes_188 (v := 0) rfl ?_
    exact k_sub [0, 1, 2, 3, 4, 5, 6, 7] rfl (P_X12_writes_189 hq he N k120 hk120 l0 l1 l2 l3 l5 l7 l8 l9 v2 ((4 * l8) + l9) 0 h1)
  · refine k_aload_n hq dX12_writes_174 0 rfl ?_
    refine k_gr hq (C := RX12) (T := TX12) 11 19 rfl (by decide) (lay_X12 19 (by decide)) tw_946 dX12_writes_175 fun v3 => ?_
    refine k_iconst hq dX12_writes_178 (v := 4) rfl ?_
    refine k_iload_n hq dX12_writes_179 1 rfl ?_
    refine k_imul hq dX12_writes_180 ?_
    refine k_iload hq dX12_writes_181 7 rfl ?_
    refine k_iadd hq dX12_writes_183 ?_
    refine k_iald hq dX12_writes_184 fun v4 => ?_
    refine k_goto hq (tgt := 189) dX12_writes_185 (by decide) ?_
    exact k_sub [0, 1, 2, 3, 4, 5, 6, 7] rfl (P_X12_writes_189 hq he N k120 hk120 l0 l1 l2 l3 l5 l7 l8 l9 v2 ((4 * l8) + l9) v4 h1)
set_option maxRecDepth 100000 in
set_option maxHeartbeats 4000000 in
theorem P_X12_writes_352 {q : eT} {r0 : Int32} {h0 : eH} (hq : e_B q yX12_writes.cls cX12_writes 13 4 96 (some .int) yX12_writes.name) (he : e_E q) (N : Nat) (k221 : Nat → Int32 → Int32 → Int64 → Int32 → Int32 → eH → Option (Int32 × eH)) (k233 : Nat → Int32 → Int32 → Int64 → Int32 → Int32 → Int32 → eH → Option (Int32 × eH)) (hk221 : ∀ (l0 : Nat) (l2 : Int32) (l3 : Int32) (l5 : Int64) (l8 : Int32) (l9 : Int32) h, e_K eI q r0 h0 221 [(0, .ref l0), (2, .int l2), (3, .int l3), (5, .long l5), (8, .int l8), (9, .int l9)] [] h (k221 l0 l2 l3 l5 l8 l9 h)) (hk233 : ∀ (l0 : Nat) (l2 : Int32) (l3 : Int32) (l5 : Int64) (l8 : Int32) (l9 : Int32) (l10 : Int32) h, e_K eI q r0 h0 233 [(0, .ref l0), (2, .int l2), (3, .int l3), (5, .long l5), (8, .int l8), (9, .int l9), (10, .int l10)] [] h (k233 l0 l2 l3 l5 l8 l9 l10 h)) (l0 : Nat) (l2 : Int32) (l3 : Int32) (l5 : Int64) (l8 : Int32) (l9 : Int32) (l10 : Int32) (h : eH) : e_K eI q r0 h0 352 [(0, .ref l0), (2, .int l2), (3, .int l3), (5, .long l5), (8, .int l8), (9, .int l9), (10, .int l10)] [] h (F_X12_writes_352 N k221 k233 l0 l2 l3 l5 l8 l9 l10 h) := by
  unfold F_X12_writes_352
  refine k_iinc hq dX12_writes_352 6 rfl (v := l10 + 1) rfl (by decide) (ls' := [(10, .int (l10 + 1)), (0, .ref l0), (2, .int l2), (3, .int l3), (5, .long l5), (8, .int l8), (9, .int l9)]) rfl ?_
  refine k_goto hq (tgt := 233) dX12_writes_355 (by decide) ?_
  exact k_sub [1, 2, 3, 4, 5, 6, 0] rfl (hk233 l0 l2 l3 l5 l8 l9 (l10 + 1) h)
set_option maxRecDepth 100000 in
set_option maxHeartbeats 4000000 in
theorem P_X12_writes_320 {q : eT} {r0 : Int32} {h0 : eH} (hq : e_B q yX12_writes.cls cX12_writes 13 4 96 (some .int) yX12_writes.name) (he : e_E q) (N : Nat) (k221 : Nat → Int32 → Int32 → Int64 → Int32 → Int32 → eH → Option (Int32 × eH)) (k233 : Nat → Int32 → Int32 → Int64 → Int32 → Int32 → Int32 → eH → Option (Int32 × eH)) (hk221 : ∀ (l0 : Nat) (l2 : Int32) (l3 : Int32) (l5 : Int64) (l8 : Int32) (l9 : Int32) h, e_K eI q r0 h0 221 [(0, .ref l0), (2, .int l2), (3, .int l3), (5, .long l5), (8, .int l8), (9, .int l9)] [] h (k221 l0 l2 l3 l5 l8 l9 h)) (hk233 : ∀ (l0 : Nat) (l2 : Int32) (l3 : Int32) (l5 : Int64) (l8 : Int32) (l9 : Int32) (l10 : Int32) h, e_K eI q r0 h0 233 [(0, .ref l0), (2, .int l2), (3, .int l3), (5, .long l5), (8, .int l8), (9, .int l9), (10, .int l10)] [] h (k233 l0 l2 l3 l5 l8 l9 l10 h)) (l0 : Nat) (l2 : Int32) (l3 : Int32) (l5 : Int64) (l8 : Int32) (l9 : Int32) (l10 : Int32) (l12 : Int32) (h : eH) : e_K eI q r0 h0 320 [(0, .ref l0), (2, .int l2), (3, .int l3), (5, .long l5), (8, .int l8), (9, .int l9), (10, .int l10), (12, .int l12)] [] h (F_X12_writes_320 N k221 k233 l0 l2 l3 l5 l8 l9 l10 l12 h) := by
  unfold F_X12_writes_320
  refine k_iload hq dX12_writes_320 7 rfl ?_
  refine k_if_eq hq (tgt := 352) dX12_writes_322 (by decide) (fun _ => ?_) (fun _ => ?_)
  · exact k_sub [0, 1, 2, 3, 4, 5, 6] rfl (P_X12_writes_352 hq he N k221 k233 hk221 hk233 l0 l2 l3 l5 l8 l9 l10 h)
  · refine k_aload_n hq dX12_writes_325 0 rfl ?_
    refine k_gr hq (C := RX12) (T := TX12) 11 9 rfl (by decide) (lay_X12 9 (by decide)) tw_936 dX12_writes_326 fun v1 => ?_
    refine k_iconst hq dX12_writes_329 (v := 4) rfl ?_
    refine k_iload hq dX12_writes_330 4 rfl ?_
    refine k_imul hq dX12_writes_332 ?_
    refine k_iload hq dX12_writes_333 5 rfl ?_
    refine k_iadd hq dX12_writes_335 ?_
    refine k_iald hq dX12_writes_336 fun v2 => ?_
    refine k_iload hq dX12_writes_337 6 rfl ?_
    refine k_icmp_lt hq (tgt := 352) dX12_writes_339 (by decide) (fun _ => ?_) (fun _ => ?_)
    · exact k_sub [0, 1, 2, 3, 4, 5, 6] rfl (P_X12_writes_352 hq he N k221 k233 hk221 hk233 l0 l2 l3 l5 l8 l9 l10 h)
    · refine k_aload_n hq dX12_writes_342 0 rfl ?_
      refine k_gr hq (C := RX12) (T := TX12) 11 17 rfl (by decide) (lay_X12 17 (by decide)) tw_944 dX12_writes_343 fun v3 => ?_
      refine k_iload_n hq dX12_writes_346 2 rfl ?_
      refine k_dup2_11 hq dX12_writes_347 rfl rfl ?_
      refine k_iald hq dX12_writes_348 fun v4 => ?_
      refine k_iconst hq dX12_writes_349 (v := 1) rfl ?_
      refine k_iadd hq dX12_writes_350 ?_
      refine k_iast hq dX12_writes_351 fun h5 => ?_
      exact k_sub [0, 1, 2, 3, 4, 5, 6] rfl (P_X12_writes_352 hq he N k221 k233 hk221 hk233 l0 l2 l3 l5 l8 l9 l10 h5)
set_option maxRecDepth 100000 in
set_option maxHeartbeats 4000000 in
theorem P_X12_writes_233b {q : eT} {r0 : Int32} {h0 : eH} (hq : e_B q yX12_writes.cls cX12_writes 13 4 96 (some .int) yX12_writes.name) (he : e_E q) (N : Nat) (k221 : Nat → Int32 → Int32 → Int64 → Int32 → Int32 → eH → Option (Int32 × eH)) (k233 : Nat → Int32 → Int32 → Int64 → Int32 → Int32 → Int32 → eH → Option (Int32 × eH)) (hk221 : ∀ (l0 : Nat) (l2 : Int32) (l3 : Int32) (l5 : Int64) (l8 : Int32) (l9 : Int32) h, e_K eI q r0 h0 221 [(0, .ref l0), (2, .int l2), (3, .int l3), (5, .long l5), (8, .int l8), (9, .int l9)] [] h (k221 l0 l2 l3 l5 l8 l9 h)) (hk233 : ∀ (l0 : Nat) (l2 : Int32) (l3 : Int32) (l5 : Int64) (l8 : Int32) (l9 : Int32) (l10 : Int32) h, e_K eI q r0 h0 233 [(0, .ref l0), (2, .int l2), (3, .int l3), (5, .long l5), (8, .int l8), (9, .int l9), (10, .int l10)] [] h (k233 l0 l2 l3 l5 l8 l9 l10 h)) (l0 : Nat) (l2 : Int32) (l3 : Int32) (l5 : Int64) (l8 : Int32) (l9 : Int32) (l10 : Int32) (h : eH) : e_K eI q r0 h0 233 [(0, .ref l0), (2, .int l2), (3, .int l3), (5, .long l5), (8, .int l8), (9, .int l9), (10, .int l10)] [] h (F_X12_writes_233b N k221 k233 l0 l2 l3 l5 l8 l9 l10 h) := by
  unfold F_X12_writes_233b
  refine k_iload hq dX12_writes_233 6 rfl ?_
  refine k_aload_n hq dX12_writes_235 0 rfl ?_
  refine k_gr hq (C := RX12) (T := TX12) 11 15 rfl (by decide) (lay_X12 15 (by decide)) tw_942 dX12_writes_236 fun v1 => ?_
  refine k_iconst hq dX12_writes_239 (v := 4) rfl ?_
  refine k_iload_n hq dX12_writes_240 2 rfl ?_
  refine k_imul hq dX12_writes_241 ?_
  refine k_iload hq dX12_writes_242 5 rfl ?_
  refine k_iadd hq dX12_writes_244 ?_
  refine k_iald hq dX12_writes_245 fun v2 => ?_
  refine k_icmp_gt hq (tgt := 358) dX12_writes_246 (by decide) (fun _ => ?_) (fun _ => ?_)
  · refine k_iinc hq dX12_writes_358 5 rfl (v := l9 + 1) rfl (by decide) (ls' := [(9, .int (l9 + 1)), (0, .ref l0), (2, .int l2), (3, .int l3), (5, .long l5), (8, .int l8), (10, .int l10)]) rfl ?_
    refine k_goto hq (tgt := 221) dX12_writes_361 (by decide) ?_
    exact k_sub [1, 2, 3, 4, 5, 0] rfl (hk221 l0 l2 l3 l5 l8 (l9 + 1) h)
  · refine k_iload_n hq dX12_writes_249 2 rfl ?_
    refine k_iload hq dX12_writes_250 5 rfl ?_
    refine k_iload hq dX12_writes_252 6 rfl ?_
    refine k_callS hq (na := 3) (As := [.int l3, .int l9, .int l10]) (st := []) (con_X12_at _ _ _ _ l3 l9 l10) tw_1115 tw_59 tw_1113 tw_1114 ⟨by decide, by decide, by decide +kernel⟩ rfl (by decide) rfl (Nat.le_of_ble_eq_true rfl) dX12_writes_254 fun v3 h4 => ?_
    refine k_istore hq dX12_writes_257 (by decide) (ls' := [(11, .int v3), (0, .ref l0), (2, .int l2), (3, .int l3), (5, .long l5), (8, .int l8), (9, .int l9), (10, .int l10)]) rfl ?_
    refine k_aload_n hq dX12_writes_259 1 rfl ?_
    refine k_gr hq (C := RX12) (T := TX12) 11 14 rfl (by decide) (lay_X12 14 (by decide)) tw_941 dX12_writes_260 fun v5 => ?_
    refine k_iload hq dX12_writes_263 0 rfl ?_
    refine k_iald hq dX12_writes_265 fun v6 => ?_
    refine k_iload_n hq dX12_writes_266 2 rfl ?_
    refine k_callS hq (na := 2) (As := [.int v6, .int l2]) (st := []) (con_X12_has _ _ _ _ v6 l2) tw_1118 tw_59 tw_1116 tw_1117 ⟨by decide, by decide, by decide +kernel⟩ rfl (by decide) rfl (Nat.le_of_ble_eq_true rfl) dX12_writes_267 fun v7 h8 => ?_
    refine k_istore hq dX12_writes_270 (by decide) (ls' := [(12, .int v7), (11, .int v3), (0, .ref l0), (2, .int l2), (3, .int l3), (5, .long l5), (8, .int l8), (9, .int l9), (10, .int l10)]) rfl ?_
    refine k_iload hq dX12_writes_272 0 rfl ?_
    refine k_if_eq hq (tgt := 320) dX12_writes_274 (by decide) (fun _ => ?_) (fun _ => ?_)
    · exact k_sub [2, 3, 4, 5, 6, 7, 8, 0] rfl (P_X12_writes_320 hq he N k221 k233 hk221 hk233 l0 l2 l3 l5 l8 l9 l10 v7 h8)
    · refine k_aload_n hq dX12_writes_277 2 rfl ?_
      refine k_gr hq (C := RX12) (T := TX12) 11 8 rfl (by decide) (lay_X12 8 (by decide)) tw_935 dX12_writes_278 fun v9 => ?_
      refine k_iconst hq dX12_writes_281 (v := 4) rfl ?_
      refine k_iload hq dX12_writes_282 6 rfl ?_
      refine k_imul hq dX12_writes_284 ?_
      refine k_iload hq dX12_writes_285 7 rfl ?_
      refine k_iadd hq dX12_writes_287 ?_
      refine k_iald hq dX12_writes_288 fun v10 => ?_
      refine k_iload hq dX12_writes_289 8 rfl ?_
      refine k_icmp_lt hq (tgt := 320) dX12_writes_291 (by decide) (fun _ => ?_) (fun _ => ?_)
      · exact k_sub [2, 3, 4, 5, 6, 7, 8, 0] rfl (P_X12_writes_320 hq he N k221 k233 hk221 hk233 l0 l2 l3 l5 l8 l9 l10 v7 h8)
      · refine k_aload_n hq dX12_writes_294 2 rfl ?_
        refine k_gr hq (C := RX12) (T := TX12) 11 14 rfl (by decide) (lay_X12 14 (by decide)) tw_941 dX12_writes_295 fun v11 => ?_
        refine k_iload hq dX12_writes_298 1 rfl ?_
        refine k_dup2_11 hq dX12_writes_300 rfl rfl ?_
        refine k_iald hq dX12_writes_301 fun v12 => ?_
        refine k_iconst hq dX12_writes_302 (v := 1) rfl ?_
        refine k_iload_n hq dX12_writes_303 3 rfl ?_
        refine k_ishl hq dX12_writes_304 ?_
        refine k_iconst hq dX12_writes_305 (v := (-1)) rfl ?_
        refine k_ixor hq dX12_writes_306 ?_
        refine k_iand hq dX12_writes_307 ?_
        refine k_iast hq dX12_writes_308 fun h13 => ?_
        refine k_aload_n hq dX12_writes_309 2 rfl ?_
        refine k_gr hq (C := RX12) (T := TX12) 11 12 rfl (by decide) (lay_X12 12 (by decide)) tw_939 dX12_writes_310 fun v14 => ?_
        refine k_iload hq dX12_writes_313 1 rfl ?_
        refine k_iconst hq dX12_writes_315 (v := 1) rfl ?_
        refine k_zast hq dX12_writes_316 fun h15 => ?_
        refine k_goto hq (tgt := 352) dX12_writes_317 (by decide) ?_
        exact k_sub [2, 3, 4, 5, 6, 7, 8] rfl (P_X12_writes_352 hq he N k221 k233 hk221 hk233 l0 l2 l3 l5 l8 l9 l10 h15)
theorem Q_X12_writes_233 {q : eT} {r0 : Int32} {h0 : eH} (hq : e_B q yX12_writes.cls cX12_writes 13 4 96 (some .int) yX12_writes.name) (he : e_E q) (N : Nat) (k221 : Nat → Int32 → Int32 → Int64 → Int32 → Int32 → eH → Option (Int32 × eH)) (hk221 : ∀ (l0 : Nat) (l2 : Int32) (l3 : Int32) (l5 : Int64) (l8 : Int32) (l9 : Int32) h, e_K eI q r0 h0 221 [(0, .ref l0), (2, .int l2), (3, .int l3), (5, .long l5), (8, .int l8), (9, .int l9)] [] h (k221 l0 l2 l3 l5 l8 l9 h)) (l0 : Nat) (l2 : Int32) (l3 : Int32) (l5 : Int64) (l8 : Int32) (l9 : Int32) (l10 : Int32) (h : eH) : e_K eI q r0 h0 233 [(0, .ref l0), (2, .int l2), (3, .int l3), (5, .long l5), (8, .int l8), (9, .int l9), (10, .int l10)] [] h (L_X12_writes_233 N k221 l0 l2 l3 l5 l8 l9 l10 h) :=
  k_loop (mk := (fun s => [(0, .ref s.1), (2, .int s.2.1), (3, .int s.2.2.1), (5, .long s.2.2.2.1), (8, .int s.2.2.2.2.1), (9, .int s.2.2.2.2.2.1), (10, .int s.2.2.2.2.2.2.1)])) (hp := fun s => s.2.2.2.2.2.2.2) (fun k hk s => P_X12_writes_233b hq he N k221 (fun l0 l2 l3 l5 l8 l9 l10 h => k (l0, l2, l3, l5, l8, l9, l10, h)) hk221 (fun l0 l2 l3 l5 l8 l9 l10 h => hk (l0, l2, l3, l5, l8, l9, l10, h)) s.1 s.2.1 s.2.2.1 s.2.2.2.1 s.2.2.2.2.1 s.2.2.2.2.2.1 s.2.2.2.2.2.2.1 s.2.2.2.2.2.2.2) N (l0, l2, l3, l5, l8, l9, l10, h)
set_option maxRecDepth 100000 in
set_option maxHeartbeats 4000000 in
theorem P_X12_writes_221b {q : eT} {r0 : Int32} {h0 : eH} (hq : e_B q yX12_writes.cls cX12_writes 13 4 96 (some .int) yX12_writes.name) (he : e_E q) (N : Nat) (k221 : Nat → Int32 → Int32 → Int64 → Int32 → Int32 → eH → Option (Int32 × eH)) (hk221 : ∀ (l0 : Nat) (l2 : Int32) (l3 : Int32) (l5 : Int64) (l8 : Int32) (l9 : Int32) h, e_K eI q r0 h0 221 [(0, .ref l0), (2, .int l2), (3, .int l3), (5, .long l5), (8, .int l8), (9, .int l9)] [] h (k221 l0 l2 l3 l5 l8 l9 h)) (l0 : Nat) (l2 : Int32) (l3 : Int32) (l5 : Int64) (l8 : Int32) (l9 : Int32) (h : eH) : e_K eI q r0 h0 221 [(0, .ref l0), (2, .int l2), (3, .int l3), (5, .long l5), (8, .int l8), (9, .int l9)] [] h (F_X12_writes_221b N k221 l0 l2 l3 l5 l8 l9 h) := by
  unfold F_X12_writes_221b
  refine k_iload hq dX12_writes_221 5 rfl ?_
  refine k_aload_n hq dX12_writes_223 0 rfl ?_
  refine k_gi hq (C := RX12) (T := TX12) 11 0 rfl (by decide) (lay_X12 0 (by decide)) tw_927 dX12_writes_224 fun v1 => ?_
  refine k_icmp_ge hq (tgt := 364) dX12_writes_227 (by decide) (fun _ => ?_) (fun _ => ?_)
  · refine k_aload_n hq dX12_writes_364 0 rfl ?_
    refine k_iload_n hq dX12_writes_365 2 rfl ?_
    refine k_iload_n hq dX12_writes_366 1 rfl ?_
    refine k_lload hq dX12_writes_367 3 rfl ?_
    refine k_callV hq (na := 3) (As := [.int l3, .int l2, .long l5]) (st := []) 11 (C := RX12) (T := TX12) rfl (con_X12_comes _ _ _ _ N l0 l3 l2 l5) tw_1130 tw_59 tw_1127 tw_1129 tw_31 ⟨by decide, by decide, by decide +kernel⟩ rfl (by decide) rfl (Nat.le_of_ble_eq_true rfl) dX12_writes_369 fun v2 h3 => ?_
    exact k_iret hq dX12_writes_372 he
  · refine k_iconst hq dX12_writes_230 (v := 1) rfl ?_
    refine k_istore hq dX12_writes_231 (by decide) (ls' := [(10, .int 1), (0, .ref l0), (2, .int l2), (3, .int l3), (5, .long l5), (8, .int l8), (9, .int l9)]) rfl ?_
    exact k_sub [1, 2, 3, 4, 5, 6, 0] rfl (Q_X12_writes_233 hq he N k221 hk221 l0 l2 l3 l5 l8 l9 1 h)
theorem Q_X12_writes_221 {q : eT} {r0 : Int32} {h0 : eH} (hq : e_B q yX12_writes.cls cX12_writes 13 4 96 (some .int) yX12_writes.name) (he : e_E q) (N : Nat) (l0 : Nat) (l2 : Int32) (l3 : Int32) (l5 : Int64) (l8 : Int32) (l9 : Int32) (h : eH) : e_K eI q r0 h0 221 [(0, .ref l0), (2, .int l2), (3, .int l3), (5, .long l5), (8, .int l8), (9, .int l9)] [] h (L_X12_writes_221 N l0 l2 l3 l5 l8 l9 h) :=
  k_loop (mk := (fun s => [(0, .ref s.1), (2, .int s.2.1), (3, .int s.2.2.1), (5, .long s.2.2.2.1), (8, .int s.2.2.2.2.1), (9, .int s.2.2.2.2.2.1)])) (hp := fun s => s.2.2.2.2.2.2) (fun k hk s => P_X12_writes_221b hq he N (fun l0 l2 l3 l5 l8 l9 h => k (l0, l2, l3, l5, l8, l9, h)) (fun l0 l2 l3 l5 l8 l9 h => hk (l0, l2, l3, l5, l8, l9, h)) s.1 s.2.1 s.2.2.1 s.2.2.2.1 s.2.2.2.2.1 s.2.2.2.2.2.1 s.2.2.2.2.2.2) N (l0, l2, l3, l5, l8, l9, h)
set_option maxRecDepth 100000 in
set_option maxHeartbeats 4000000 in
theorem P_X12_writes_217 {q : eT} {r0 : Int32} {h0 : eH} (hq : e_B q yX12_writes.cls cX12_writes 13 4 96 (some .int) yX12_writes.name) (he : e_E q) (N : Nat) (l0 : Nat) (l2 : Int32) (l3 : Int32) (l5 : Int64) (l8 : Int32) (s0 : Nat) (s1 : Int32) (s2 : Int32) (h : eH) : e_K eI q r0 h0 217 [(0, .ref l0), (2, .int l2), (3, .int l3), (5, .long l5), (8, .int l8)] [.int s2, .int s1, .ref s0] h (F_X12_writes_217 N l0 l2 l3 l5 l8 s0 s1 s2 h) := by
  unfold F_X12_writes_217
  refine k_iast hq dX12_writes_217 fun h1 => ?_
  refine k_iconst hq dX12_writes_218 (v := 0) rfl ?_
  refine k_istore hq dX12_writes_219 (by decide) (ls' := [(9, .int 0), (0, .ref l0), (2, .int l2), (3, .int l3), (5, .long l5), (8, .int l8)]) rfl ?_
  exact k_sub [1, 2, 3, 4, 5, 0] rfl (Q_X12_writes_221 hq he N l0 l2 l3 l5 l8 0 h1)
set_option maxRecDepth 100000 in
set_option maxHeartbeats 4000000 in
theorem P_X12_writes_120b {q : eT} {r0 : Int32} {h0 : eH} (hq : e_B q yX12_writes.cls cX12_writes 13 4 96 (some .int) yX12_writes.name) (he : e_E q) (N : Nat) (k120 : Nat → Int32 → Int32 → Int32 → Int64 → Int32 → Int32 → Int32 → eH → Option (Int32 × eH)) (hk120 : ∀ (l0 : Nat) (l1 : Int32) (l2 : Int32) (l3 : Int32) (l5 : Int64) (l7 : Int32) (l8 : Int32) (l9 : Int32) h, e_K eI q r0 h0 120 [(0, .ref l0), (1, .int l1), (2, .int l2), (3, .int l3), (5, .long l5), (7, .int l7), (8, .int l8), (9, .int l9)] [] h (k120 l0 l1 l2 l3 l5 l7 l8 l9 h)) (l0 : Nat) (l1 : Int32) (l2 : Int32) (l3 : Int32) (l5 : Int64) (l7 : Int32) (l8 : Int32) (l9 : Int32) (h : eH) : e_K eI q r0 h0 120 [(0, .ref l0), (1, .int l1), (2, .int l2), (3, .int l3), (5, .long l5), (7, .int l7), (8, .int l8), (9, .int l9)] [] h (F_X12_writes_120b N k120 l0 l1 l2 l3 l5 l7 l8 l9 h) := by
  unfold F_X12_writes_120b
  refine k_iload hq dX12_writes_120 7 rfl ?_
  refine k_iconst hq dX12_writes_122 (v := 4) rfl ?_
  refine k_icmp_ge hq (tgt := 196) dX12_writes_123 (by decide) (fun _ => ?_) (fun _ => ?_)
  · refine k_aload_n hq dX12_writes_196 0 rfl ?_
    refine k_gr hq (C := RX12) (T := TX12) 11 18 rfl (by decide) (lay_X12 18 (by decide)) tw_945 dX12_writes_197 fun v1 => ?_
    refine k_iload_n hq dX12_writes_200 1 rfl ?_
    refine k_iload hq dX12_writes_201 5 rfl ?_
    refine k_if_eq hq (tgt := 211) dX12_writes_203 (by decide) (fun _ => ?_) (fun _ => ?_)
    · refine k_aload_n hq dX12_writes_211 0 rfl ?_
      refine k_gr hq (C := RX12) (T := TX12) 11 18 rfl (by decide) (lay_X12 18 (by decide)) tw_945 dX12_writes_212 fun v2 => ?_
      refine k_iload_n hq dX12_writes_215 1 rfl ?_
      refine k_iald hq dX12_writes_216 fun v3 => ?_
      exact k_sub [0, 2, 3, 4, 6] rfl (P_X12_writes_217 hq he N l0 l2 l3 l5 l8 v1 l1 v3 h)
    · refine k_bipush hq dX12_writes_206 (v := (-9)) rfl ?_
      refine k_goto hq (tgt := 217) dX12_writes_208 (by decide) ?_
      exact k_sub [0, 2, 3, 4, 6] rfl (P_X12_writes_217 hq he N l0 l2 l3 l5 l8 v1 l1 (-9) h)
  · refine k_aload_n hq dX12_writes_126 0 rfl ?_
    refine k_gr hq (C := RX12) (T := TX12) 11 8 rfl (by decide) (lay_X12 8 (by decide)) tw_935 dX12_writes_127 fun v4 => ?_
    refine k_iconst hq dX12_writes_130 (v := 4) rfl ?_
    refine k_iload hq dX12_writes_131 6 rfl ?_
    refine k_imul hq dX12_writes_133 ?_
    refine k_iload hq dX12_writes_134 7 rfl ?_
    refine k_iadd hq dX12_writes_136 ?_
    refine k_iload hq dX12_writes_137 5 rfl ?_
    refine k_if_eq hq (tgt := 156) dX12_writes_139 (by decide) (fun _ => ?_) (fun _ => ?_)
    · refine k_iconst hq dX12_writes_156 (v := 0) rfl ?_
      exact k_sub [0, 1, 2, 3, 4, 5, 6, 7] rfl (P_X12_writes_157 hq he N k120 hk120 l0 l1 l2 l3 l5 l7 l8 l9 v4 ((4 * l8) + l9) 0 h)
    · refine k_aload_n hq dX12_writes_142 0 rfl ?_
      refine k_gr hq (C := RX12) (T := TX12) 11 20 rfl (by decide) (lay_X12 20 (by decide)) tw_947 dX12_writes_143 fun v5 => ?_
      refine k_iconst hq dX12_writes_146 (v := 4) rfl ?_
      refine k_iload_n hq dX12_writes_147 1 rfl ?_
      refine k_imul hq dX12_writes_148 ?_
      refine k_iload hq dX12_writes_149 7 rfl ?_
      refine k_iadd hq dX12_writes_151 ?_
      refine k_iald hq dX12_writes_152 fun v6 => ?_
      refine k_goto hq (tgt := 157) dX12_writes_153 (by decide) ?_
      exact k_sub [0, 1, 2, 3, 4, 5, 6, 7] rfl (P_X12_writes_157 hq he N k120 hk120 l0 l1 l2 l3 l5 l7 l8 l9 v4 ((4 * l8) + l9) v6 h)
theorem Q_X12_writes_120 {q : eT} {r0 : Int32} {h0 : eH} (hq : e_B q yX12_writes.cls cX12_writes 13 4 96 (some .int) yX12_writes.name) (he : e_E q) (N : Nat) (l0 : Nat) (l1 : Int32) (l2 : Int32) (l3 : Int32) (l5 : Int64) (l7 : Int32) (l8 : Int32) (l9 : Int32) (h : eH) : e_K eI q r0 h0 120 [(0, .ref l0), (1, .int l1), (2, .int l2), (3, .int l3), (5, .long l5), (7, .int l7), (8, .int l8), (9, .int l9)] [] h (L_X12_writes_120 N l0 l1 l2 l3 l5 l7 l8 l9 h) :=
  k_loop (mk := (fun s => [(0, .ref s.1), (1, .int s.2.1), (2, .int s.2.2.1), (3, .int s.2.2.2.1), (5, .long s.2.2.2.2.1), (7, .int s.2.2.2.2.2.1), (8, .int s.2.2.2.2.2.2.1), (9, .int s.2.2.2.2.2.2.2.1)])) (hp := fun s => s.2.2.2.2.2.2.2.2) (fun k hk s => P_X12_writes_120b hq he N (fun l0 l1 l2 l3 l5 l7 l8 l9 h => k (l0, l1, l2, l3, l5, l7, l8, l9, h)) (fun l0 l1 l2 l3 l5 l7 l8 l9 h => hk (l0, l1, l2, l3, l5, l7, l8, l9, h)) s.1 s.2.1 s.2.2.1 s.2.2.2.1 s.2.2.2.2.1 s.2.2.2.2.2.1 s.2.2.2.2.2.2.1 s.2.2.2.2.2.2.2.1 s.2.2.2.2.2.2.2.2) N (l0, l1, l2, l3, l5, l7, l8, l9, h)
set_option maxRecDepth 100000 in
set_option maxHeartbeats 4000000 in
theorem P_X12_writes_96 {q : eT} {r0 : Int32} {h0 : eH} (hq : e_B q yX12_writes.cls cX12_writes 13 4 96 (some .int) yX12_writes.name) (he : e_E q) (N : Nat) (l0 : Nat) (l1 : Int32) (l2 : Int32) (l3 : Int32) (l5 : Int64) (s0 : Int32) (h : eH) : e_K eI q r0 h0 96 [(0, .ref l0), (1, .int l1), (2, .int l2), (3, .int l3), (5, .long l5)] [.int s0] h (F_X12_writes_96 N l0 l1 l2 l3 l5 s0 h) := by
  unfold F_X12_writes_96
  refine k_istore hq dX12_writes_96 (by decide) (ls' := [(7, .int s0), (0, .ref l0), (1, .int l1), (2, .int l2), (3, .int l3), (5, .long l5)]) rfl ?_
  refine k_iload_n hq dX12_writes_98 4 rfl ?_
  refine k_iload_n hq dX12_writes_99 3 rfl ?_
  refine k_aload_n hq dX12_writes_100 1 rfl ?_
  refine k_gr hq (C := RX12) (T := TX12) 11 15 rfl (by decide) (lay_X12 15 (by decide)) tw_942 dX12_writes_101 fun v1 => ?_
  refine k_iconst hq dX12_writes_104 (v := 4) rfl ?_
  refine k_iload_n hq dX12_writes_105 4 rfl ?_
  refine k_imul hq dX12_writes_106 ?_
  refine k_iload_n hq dX12_writes_107 3 rfl ?_
  refine k_iadd hq dX12_writes_108 ?_
  refine k_iald hq dX12_writes_109 fun v2 => ?_
  refine k_iconst hq dX12_writes_110 (v := 1) rfl ?_
  refine k_iadd hq dX12_writes_111 ?_
  refine k_callS hq (na := 3) (As := [.int l3, .int l2, .int (v2 + 1)]) (st := []) (con_X12_at _ _ _ _ l3 l2 (v2 + 1)) tw_1115 tw_59 tw_1113 tw_1114 ⟨by decide, by decide, by decide +kernel⟩ rfl (by decide) rfl (Nat.le_of_ble_eq_true rfl) dX12_writes_112 fun v3 h4 => ?_
  refine k_istore hq dX12_writes_115 (by decide) (ls' := [(8, .int v3), (7, .int s0), (0, .ref l0), (1, .int l1), (2, .int l2), (3, .int l3), (5, .long l5)]) rfl ?_
  refine k_iconst hq dX12_writes_117 (v := 0) rfl ?_
  refine k_istore hq dX12_writes_118 (by decide) (ls' := [(9, .int 0), (8, .int v3), (7, .int s0), (0, .ref l0), (1, .int l1), (2, .int l2), (3, .int l3), (5, .long l5)]) rfl ?_
  exact k_sub [3, 4, 5, 6, 7, 2, 1, 0] rfl (Q_X12_writes_120 hq he N l0 l1 l2 l3 l5 s0 v3 0 h4)
set_option maxRecDepth 100000 in
set_option maxHeartbeats 4000000 in
theorem P_X12_writes_49 {q : eT} {r0 : Int32} {h0 : eH} (hq : e_B q yX12_writes.cls cX12_writes 13 4 96 (some .int) yX12_writes.name) (he : e_E q) (N : Nat) (l0 : Nat) (l1 : Int32) (l2 : Int32) (l3 : Int32) (l4 : Int32) (l5 : Int64) (h : eH) : e_K eI q r0 h0 49 [(0, .ref l0), (1, .int l1), (2, .int l2), (3, .int l3), (4, .int l4), (5, .long l5)] [] h (F_X12_writes_49 N l0 l1 l2 l3 l4 l5 h) := by
  unfold F_X12_writes_49
  refine k_aload_n hq dX12_writes_49 0 rfl ?_
  refine k_gr hq (C := RX12) (T := TX12) 11 15 rfl (by decide) (lay_X12 15 (by decide)) tw_942 dX12_writes_50 fun v1 => ?_
  refine k_iconst hq dX12_writes_53 (v := 4) rfl ?_
  refine k_iload_n hq dX12_writes_54 3 rfl ?_
  refine k_imul hq dX12_writes_55 ?_
  refine k_iload_n hq dX12_writes_56 2 rfl ?_
  refine k_iadd hq dX12_writes_57 ?_
  refine k_iald hq dX12_writes_58 fun v2 => ?_
  refine k_bipush hq dX12_writes_59 (v := 40) rfl ?_
  refine k_icmp_ne hq (tgt := 67) dX12_writes_61 (by decide) (fun _ => ?_) (fun _ => ?_)
  · refine k_bipush hq dX12_writes_64 (v := (-3)) rfl ?_
    exact k_iret hq dX12_writes_66 he
  · refine k_aload_n hq dX12_writes_67 0 rfl ?_
    refine k_gr hq (C := RX12) (T := TX12) 11 4 rfl (by decide) (lay_X12 4 (by decide)) tw_931 dX12_writes_68 fun v3 => ?_
    refine k_iload_n hq dX12_writes_71 3 rfl ?_
    refine k_iald hq dX12_writes_72 fun v4 => ?_
    refine k_iload hq dX12_writes_73 4 rfl ?_
    refine k_icmp_eq hq (tgt := 81) dX12_writes_75 (by decide) (fun _ => ?_) (fun _ => ?_)
    · refine k_aload_n hq dX12_writes_81 0 rfl ?_
      refine k_gr hq (C := RX12) (T := TX12) 11 18 rfl (by decide) (lay_X12 18 (by decide)) tw_945 dX12_writes_82 fun v5 => ?_
      refine k_iload_n hq dX12_writes_85 1 rfl ?_
      refine k_iald hq dX12_writes_86 fun v6 => ?_
      refine k_iload_n hq dX12_writes_87 3 rfl ?_
      refine k_icmp_ne hq (tgt := 95) dX12_writes_88 (by decide) (fun _ => ?_) (fun _ => ?_)
      · refine k_iconst hq dX12_writes_91 (v := 1) rfl ?_
        refine k_goto hq (tgt := 96) dX12_writes_92 (by decide) ?_
        exact k_sub [0, 1, 2, 3, 5] rfl (P_X12_writes_96 hq he N l0 l1 l2 l3 l5 1 h)
      · refine k_iconst hq dX12_writes_95 (v := 0) rfl ?_
        exact k_sub [0, 1, 2, 3, 5] rfl (P_X12_writes_96 hq he N l0 l1 l2 l3 l5 0 h)
    · refine k_bipush hq dX12_writes_78 (v := (-4)) rfl ?_
      exact k_iret hq dX12_writes_80 he
set_option maxRecDepth 100000 in
set_option maxHeartbeats 4000000 in
theorem P_X12_writes_0 {q : eT} {r0 : Int32} {h0 : eH} (hq : e_B q yX12_writes.cls cX12_writes 13 4 96 (some .int) yX12_writes.name) (he : e_E q) (N : Nat) (l0 : Nat) (l1 : Int32) (l2 : Int32) (l3 : Int32) (l4 : Int32) (l5 : Int64) (h : eH) : e_K eI q r0 h0 0 [(0, .ref l0), (1, .int l1), (2, .int l2), (3, .int l3), (4, .int l4), (5, .long l5)] [] h (F_X12_writes N l0 l1 l2 l3 l4 l5 h) := by
  unfold F_X12_writes
  refine k_iload_n hq dX12_writes_0 1 rfl ?_
  refine k_callS hq (na := 1) (As := [.int l1]) (st := []) (con_X12_isClient _ _ _ _ l1) tw_1100 tw_59 tw_1098 tw_1099 ⟨by decide, by decide, by decide +kernel⟩ rfl (by decide) rfl (Nat.le_of_ble_eq_true rfl) dX12_writes_1 fun v1 h2 => ?_
  refine k_if_eq hq (tgt := 47) dX12_writes_4 (by decide) (fun _ => ?_) (fun _ => ?_)
  · refine k_iconst hq dX12_writes_47 (v := (-1)) rfl ?_
    exact k_iret hq dX12_writes_48 he
  · refine k_aload_n hq dX12_writes_7 0 rfl ?_
    refine k_iload_n hq dX12_writes_8 2 rfl ?_
    refine k_callV hq (na := 1) (As := [.int l2]) (st := []) 11 (C := RX12) (T := TX12) rfl (con_X12_isSite _ _ _ _ l0 l2) tw_1105 tw_59 tw_1102 tw_1104 tw_28 ⟨by decide, by decide, by decide +kernel⟩ rfl (by decide) rfl (Nat.le_of_ble_eq_true rfl) dX12_writes_9 fun v3 h4 => ?_
    refine k_if_eq hq (tgt := 47) dX12_writes_12 (by decide) (fun _ => ?_) (fun _ => ?_)
    · refine k_iconst hq dX12_writes_47 (v := (-1)) rfl ?_
      exact k_iret hq dX12_writes_48 he
    · refine k_aload_n hq dX12_writes_15 0 rfl ?_
      refine k_iload_n hq dX12_writes_16 3 rfl ?_
      refine k_callV hq (na := 1) (As := [.int l3]) (st := []) 11 (C := RX12) (T := TX12) rfl (con_X12_isKey _ _ _ _ l0 l3) tw_1109 tw_59 tw_1106 tw_1108 tw_29 ⟨by decide, by decide, by decide +kernel⟩ rfl (by decide) rfl (Nat.le_of_ble_eq_true rfl) dX12_writes_17 fun v5 h6 => ?_
      refine k_if_eq hq (tgt := 47) dX12_writes_20 (by decide) (fun _ => ?_) (fun _ => ?_)
      · refine k_iconst hq dX12_writes_47 (v := (-1)) rfl ?_
        exact k_iret hq dX12_writes_48 he
      · refine k_iload hq dX12_writes_23 4 rfl ?_
        refine k_i2l hq dX12_writes_25 ?_
        refine k_lconst hq dX12_writes_26 (v := 0) rfl ?_
        refine k_lconst hq dX12_writes_27 (v := 1) rfl ?_
        refine k_callS hq (na := 3) (As := [.long (l4.toInt64), .long 0, .long 1]) (st := []) (con_X12_in _ _ _ _ (l4.toInt64) 0 1) tw_1059 tw_59 tw_1057 tw_1058 ⟨by decide, by decide, by decide +kernel⟩ rfl (by decide) rfl (Nat.le_of_ble_eq_true rfl) dX12_writes_28 fun v7 h8 => ?_
        refine k_if_eq hq (tgt := 47) dX12_writes_31 (by decide) (fun _ => ?_) (fun _ => ?_)
        · refine k_iconst hq dX12_writes_47 (v := (-1)) rfl ?_
          exact k_iret hq dX12_writes_48 he
        · refine k_iload hq dX12_writes_34 4 rfl ?_
          refine k_iconst hq dX12_writes_36 (v := 1) rfl ?_
          refine k_icmp_ne hq (tgt := 49) dX12_writes_37 (by decide) (fun _ => ?_) (fun _ => ?_)
          · refine k_lload hq dX12_writes_40 5 rfl ?_
            refine k_lconst hq dX12_writes_42 (v := 0) rfl ?_
            refine k_lcmp hq dX12_writes_43 ?_
            refine k_if_ge hq (tgt := 49) dX12_writes_44 (by decide) (fun _ => ?_) (fun _ => ?_)
            · exact k_sub [0, 1, 2, 3, 4, 5] rfl (P_X12_writes_49 hq he N l0 l1 l2 l3 l4 l5 h8)
            · refine k_iconst hq dX12_writes_47 (v := (-1)) rfl ?_
              exact k_iret hq dX12_writes_48 he
          · exact k_sub [0, 1, 2, 3, 4, 5] rfl (P_X12_writes_49 hq he N l0 l1 l2 l3 l4 l5 h8)
theorem con_X12_writes (l : Launch) (G : eG) (B0 n : Nat) (N : Nat) (l0 : Nat) (l1 : Int32) (l2 : Int32) (l3 : Int32) (l4 : Int32) (l5 : Int64) : e_C eI l G B0 n yX12_writes cX12_writes 13 (some .int) 4 96 [.ref l0, .int l1, .int l2, .int l3, .int l4, .long l5] (F_X12_writes N l0 l1 l2 l3 l4 l5) := by
  refine e_mk (by decide) (Nat.le_of_ble_eq_true rfl) fun q r0 h0 h hq he e1 e2 e3 e4 => ?_
  subst e1; subst e2; subst e3; subst e4
  exact P_X12_writes_0 hq he N l0 l1 l2 l3 l4 l5 h
set_option maxRecDepth 100000 in
set_option maxHeartbeats 4000000 in
theorem P_X12_blinds_25 {q : eT} {r0 : Int32} {h0 : eH} (hq : e_B q yX12_blinds.cls cX12_blinds 3 2 45 (some .int) yX12_blinds.name) (he : e_E q) (l0 : Nat) (l1 : Int32) (s0 : Int32) (h : eH) : e_K eI q r0 h0 25 [(0, .ref l0), (1, .int l1)] [.int s0] h (F_X12_blinds_25 l0 l1 s0 h) := by
  unfold F_X12_blinds_25
  refine k_istore_n hq dX12_blinds_25 rfl (by decide) (ls' := [(2, .int s0), (0, .ref l0), (1, .int l1)]) rfl ?_
  refine k_aload_n hq dX12_blinds_26 1 rfl ?_
  refine k_gr hq (C := RX12) (T := TX12) 11 18 rfl (by decide) (lay_X12 18 (by decide)) tw_945 dX12_blinds_27 fun v1 => ?_
  refine k_iload_n hq dX12_blinds_30 2 rfl ?_
  refine k_bipush hq dX12_blinds_31 (v := (-9)) rfl ?_
  refine k_iast hq dX12_blinds_33 fun h2 => ?_
  refine k_iload_n hq dX12_blinds_34 0 rfl ?_
  exact k_iret hq dX12_blinds_35 he
set_option maxRecDepth 100000 in
set_option maxHeartbeats 4000000 in
theorem P_X12_blinds_0 {q : eT} {r0 : Int32} {h0 : eH} (hq : e_B q yX12_blinds.cls cX12_blinds 3 2 45 (some .int) yX12_blinds.name) (he : e_E q) (l0 : Nat) (l1 : Int32) (h : eH) : e_K eI q r0 h0 0 [(0, .ref l0), (1, .int l1)] [] h (F_X12_blinds l0 l1 h) := by
  unfold F_X12_blinds
  refine k_iload_n hq dX12_blinds_0 1 rfl ?_
  refine k_callS hq (na := 1) (As := [.int l1]) (st := []) (con_X12_isClient _ _ _ _ l1) tw_1100 tw_59 tw_1098 tw_1099 ⟨by decide, by decide, by decide +kernel⟩ rfl (by decide) rfl (Nat.le_of_ble_eq_true rfl) dX12_blinds_1 fun v1 h2 => ?_
  refine k_if_ne hq (tgt := 9) dX12_blinds_4 (by decide) (fun _ => ?_) (fun _ => ?_)
  · refine k_iconst hq dX12_blinds_7 (v := (-1)) rfl ?_
    exact k_iret hq dX12_blinds_8 he
  · refine k_aload_n hq dX12_blinds_9 0 rfl ?_
    refine k_gr hq (C := RX12) (T := TX12) 11 18 rfl (by decide) (lay_X12 18 (by decide)) tw_945 dX12_blinds_10 fun v3 => ?_
    refine k_iload_n hq dX12_blinds_13 1 rfl ?_
    refine k_iald hq dX12_blinds_14 fun v4 => ?_
    refine k_bipush hq dX12_blinds_15 (v := (-9)) rfl ?_
    refine k_icmp_ne hq (tgt := 24) dX12_blinds_17 (by decide) (fun _ => ?_) (fun _ => ?_)
    · refine k_iconst hq dX12_blinds_20 (v := 0) rfl ?_
      refine k_goto hq (tgt := 25) dX12_blinds_21 (by decide) ?_
      exact k_sub [0, 1] rfl (P_X12_blinds_25 hq he l0 l1 0 h2)
    · refine k_iconst hq dX12_blinds_24 (v := 1) rfl ?_
      exact k_sub [0, 1] rfl (P_X12_blinds_25 hq he l0 l1 1 h2)
theorem con_X12_blinds (l : Launch) (G : eG) (B0 n : Nat) (l0 : Nat) (l1 : Int32) : e_C eI l G B0 n yX12_blinds cX12_blinds 3 (some .int) 2 45 [.ref l0, .int l1] (F_X12_blinds l0 l1) := by
  refine e_mk (by decide) (Nat.le_of_ble_eq_true rfl) fun q r0 h0 h hq he e1 e2 e3 e4 => ?_
  subst e1; subst e2; subst e3; subst e4
  exact P_X12_blinds_0 hq he l0 l1 h
set_option maxRecDepth 100000 in
set_option maxHeartbeats 4000000 in
theorem P_X12_sends_207 {q : eT} {r0 : Int32} {h0 : eH} (hq : e_B q yX12_sends.cls cX12_sends 12 3 68 (some .int) yX12_sends.name) (he : e_E q) (N : Nat) (k48 : Nat → Int32 → Int32 → Int32 → Int32 → Int32 → Int32 → eH → Option (Int32 × eH)) (k60 : Nat → Int32 → Int32 → Int32 → Int32 → Int32 → Int32 → Int32 → eH → Option (Int32 × eH)) (hk48 : ∀ (l0 : Nat) (l1 : Int32) (l2 : Int32) (l3 : Int32) (l4 : Int32) (l5 : Int32) (l6 : Int32) h, e_K eI q r0 h0 48 [(0, .ref l0), (1, .int l1), (2, .int l2), (3, .int l3), (4, .int l4), (5, .int l5), (6, .int l6)] [] h (k48 l0 l1 l2 l3 l4 l5 l6 h)) (hk60 : ∀ (l0 : Nat) (l1 : Int32) (l2 : Int32) (l3 : Int32) (l4 : Int32) (l5 : Int32) (l6 : Int32) (l7 : Int32) h, e_K eI q r0 h0 60 [(0, .ref l0), (1, .int l1), (2, .int l2), (3, .int l3), (4, .int l4), (5, .int l5), (6, .int l6), (7, .int l7)] [] h (k60 l0 l1 l2 l3 l4 l5 l6 l7 h)) (l0 : Nat) (l1 : Int32) (l2 : Int32) (l3 : Int32) (l4 : Int32) (l5 : Int32) (l6 : Int32) (l7 : Int32) (s0 : Nat) (s1 : Int32) (s2 : Int32) (h : eH) : e_K eI q r0 h0 207 [(0, .ref l0), (1, .int l1), (2, .int l2), (3, .int l3), (4, .int l4), (5, .int l5), (6, .int l6), (7, .int l7)] [.int s2, .int s1, .ref s0] h (F_X12_sends_207 N k48 k60 l0 l1 l2 l3 l4 l5 l6 l7 s0 s1 s2 h) := by
  unfold F_X12_sends_207
  refine k_iast hq dX12_sends_207 fun h1 => ?_
  refine k_iinc hq dX12_sends_208 7 rfl (v := l7 + 1) rfl (by decide) (ls' := [(7, .int (l7 + 1)), (0, .ref l0), (1, .int l1), (2, .int l2), (3, .int l3), (4, .int l4), (5, .int l5), (6, .int l6)]) rfl ?_
  refine k_goto hq (tgt := 60) dX12_sends_211 (by decide) ?_
  exact k_sub [1, 2, 3, 4, 5, 6, 7, 0] rfl (hk60 l0 l1 l2 l3 l4 l5 l6 (l7 + 1) h1)
set_option maxRecDepth 100000 in
set_option maxHeartbeats 4000000 in
theorem P_X12_sends_167 {q : eT} {r0 : Int32} {h0 : eH} (hq : e_B q yX12_sends.cls cX12_sends 12 3 68 (some .int) yX12_sends.name) (he : e_E q) (N : Nat) (k48 : Nat → Int32 → Int32 → Int32 → Int32 → Int32 → Int32 → eH → Option (Int32 × eH)) (k60 : Nat → Int32 → Int32 → Int32 → Int32 → Int32 → Int32 → Int32 → eH → Option (Int32 × eH)) (hk48 : ∀ (l0 : Nat) (l1 : Int32) (l2 : Int32) (l3 : Int32) (l4 : Int32) (l5 : Int32) (l6 : Int32) h, e_K eI q r0 h0 48 [(0, .ref l0), (1, .int l1), (2, .int l2), (3, .int l3), (4, .int l4), (5, .int l5), (6, .int l6)] [] h (k48 l0 l1 l2 l3 l4 l5 l6 h)) (hk60 : ∀ (l0 : Nat) (l1 : Int32) (l2 : Int32) (l3 : Int32) (l4 : Int32) (l5 : Int32) (l6 : Int32) (l7 : Int32) h, e_K eI q r0 h0 60 [(0, .ref l0), (1, .int l1), (2, .int l2), (3, .int l3), (4, .int l4), (5, .int l5), (6, .int l6), (7, .int l7)] [] h (k60 l0 l1 l2 l3 l4 l5 l6 l7 h)) (l0 : Nat) (l1 : Int32) (l2 : Int32) (l3 : Int32) (l4 : Int32) (l5 : Int32) (l6 : Int32) (l7 : Int32) (l8 : Int32) (s0 : Int32) (h : eH) : e_K eI q r0 h0 167 [(0, .ref l0), (1, .int l1), (2, .int l2), (3, .int l3), (4, .int l4), (5, .int l5), (6, .int l6), (7, .int l7), (8, .int l8)] [.int s0] h (F_X12_sends_167 N k48 k60 l0 l1 l2 l3 l4 l5 l6 l7 l8 s0 h) := by
  unfold F_X12_sends_167
  refine k_istore hq dX12_sends_167 (by decide) (ls' := [(11, .int s0), (0, .ref l0), (1, .int l1), (2, .int l2), (3, .int l3), (4, .int l4), (5, .int l5), (6, .int l6), (7, .int l7), (8, .int l8)]) rfl ?_
  refine k_aload_n hq dX12_sends_169 1 rfl ?_
  refine k_gr hq (C := RX12) (T := TX12) 11 14 rfl (by decide) (lay_X12 14 (by decide)) tw_941 dX12_sends_170 fun v1 => ?_
  refine k_iload hq dX12_sends_173 9 rfl ?_
  refine k_iload hq dX12_sends_175 0 rfl ?_
  refine k_if_eq hq (tgt := 194) dX12_sends_177 (by decide) (fun _ => ?_) (fun _ => ?_)
  · refine k_aload_n hq dX12_sends_194 1 rfl ?_
    refine k_gr hq (C := RX12) (T := TX12) 11 14 rfl (by decide) (lay_X12 14 (by decide)) tw_941 dX12_sends_195 fun v2 => ?_
    refine k_iload hq dX12_sends_198 9 rfl ?_
    refine k_iald hq dX12_sends_200 fun v3 => ?_
    refine k_iconst hq dX12_sends_201 (v := 1) rfl ?_
    refine k_iload_n hq dX12_sends_202 3 rfl ?_
    refine k_ishl hq dX12_sends_203 ?_
    refine k_iconst hq dX12_sends_204 (v := (-1)) rfl ?_
    refine k_ixor hq dX12_sends_205 ?_
    refine k_iand hq dX12_sends_206 ?_
    exact k_sub [1, 2, 3, 4, 5, 6, 7, 8] rfl (P_X12_sends_207 hq he N k48 k60 hk48 hk60 l0 l1 l2 l3 l4 l5 l6 l7 v1 l8 (v3 &&& ((1 <<< (l2 &&& 31)) ^^^ (-1))) h)
  · refine k_aload_n hq dX12_sends_180 1 rfl ?_
    refine k_gr hq (C := RX12) (T := TX12) 11 14 rfl (by decide) (lay_X12 14 (by decide)) tw_941 dX12_sends_181 fun v4 => ?_
    refine k_iload hq dX12_sends_184 9 rfl ?_
    refine k_iald hq dX12_sends_186 fun v5 => ?_
    refine k_iconst hq dX12_sends_187 (v := 1) rfl ?_
    refine k_iload_n hq dX12_sends_188 3 rfl ?_
    refine k_ishl hq dX12_sends_189 ?_
    refine k_ior hq dX12_sends_190 ?_
    refine k_goto hq (tgt := 207) dX12_sends_191 (by decide) ?_
    exact k_sub [1, 2, 3, 4, 5, 6, 7, 8] rfl (P_X12_sends_207 hq he N k48 k60 hk48 hk60 l0 l1 l2 l3 l4 l5 l6 l7 v1 l8 (v5 ||| (1 <<< (l2 &&& 31))) h)
set_option maxRecDepth 100000 in
set_option maxHeartbeats 4000000 in
theorem P_X12_sends_162 {q : eT} {r0 : Int32} {h0 : eH} (hq : e_B q yX12_sends.cls cX12_sends 12 3 68 (some .int) yX12_sends.name) (he : e_E q) (N : Nat) (k48 : Nat → Int32 → Int32 → Int32 → Int32 → Int32 → Int32 → eH → Option (Int32 × eH)) (k60 : Nat → Int32 → Int32 → Int32 → Int32 → Int32 → Int32 → Int32 → eH → Option (Int32 × eH)) (hk48 : ∀ (l0 : Nat) (l1 : Int32) (l2 : Int32) (l3 : Int32) (l4 : Int32) (l5 : Int32) (l6 : Int32) h, e_K eI q r0 h0 48 [(0, .ref l0), (1, .int l1), (2, .int l2), (3, .int l3), (4, .int l4), (5, .int l5), (6, .int l6)] [] h (k48 l0 l1 l2 l3 l4 l5 l6 h)) (hk60 : ∀ (l0 : Nat) (l1 : Int32) (l2 : Int32) (l3 : Int32) (l4 : Int32) (l5 : Int32) (l6 : Int32) (l7 : Int32) h, e_K eI q r0 h0 60 [(0, .ref l0), (1, .int l1), (2, .int l2), (3, .int l3), (4, .int l4), (5, .int l5), (6, .int l6), (7, .int l7)] [] h (k60 l0 l1 l2 l3 l4 l5 l6 l7 h)) (l0 : Nat) (l1 : Int32) (l2 : Int32) (l3 : Int32) (l4 : Int32) (l5 : Int32) (l6 : Int32) (l7 : Int32) (l8 : Int32) (h : eH) : e_K eI q r0 h0 162 [(0, .ref l0), (1, .int l1), (2, .int l2), (3, .int l3), (4, .int l4), (5, .int l5), (6, .int l6), (7, .int l7), (8, .int l8)] [] h (F_X12_sends_162 N k48 k60 l0 l1 l2 l3 l4 l5 l6 l7 l8 h) := by
  unfold F_X12_sends_162
  refine k_iconst hq dX12_sends_162 (v := 1) rfl ?_
  refine k_goto hq (tgt := 167) dX12_sends_163 (by decide) ?_
  exact k_sub [0, 1, 2, 3, 4, 5, 6, 7, 8] rfl (P_X12_sends_167 hq he N k48 k60 hk48 hk60 l0 l1 l2 l3 l4 l5 l6 l7 l8 1 h)
set_option maxRecDepth 100000 in
set_option maxHeartbeats 4000000 in
theorem P_X12_sends_166 {q : eT} {r0 : Int32} {h0 : eH} (hq : e_B q yX12_sends.cls cX12_sends 12 3 68 (some .int) yX12_sends.name) (he : e_E q) (N : Nat) (k48 : Nat → Int32 → Int32 → Int32 → Int32 → Int32 → Int32 → eH → Option (Int32 × eH)) (k60 : Nat → Int32 → Int32 → Int32 → Int32 → Int32 → Int32 → Int32 → eH → Option (Int32 × eH)) (hk48 : ∀ (l0 : Nat) (l1 : Int32) (l2 : Int32) (l3 : Int32) (l4 : Int32) (l5 : Int32) (l6 : Int32) h, e_K eI q r0 h0 48 [(0, .ref l0), (1, .int l1), (2, .int l2), (3, .int l3), (4, .int l4), (5, .int l5), (6, .int l6)] [] h (k48 l0 l1 l2 l3 l4 l5 l6 h)) (hk60 : ∀ (l0 : Nat) (l1 : Int32) (l2 : Int32) (l3 : Int32) (l4 : Int32) (l5 : Int32) (l6 : Int32) (l7 : Int32) h, e_K eI q r0 h0 60 [(0, .ref l0), (1, .int l1), (2, .int l2), (3, .int l3), (4, .int l4), (5, .int l5), (6, .int l6), (7, .int l7)] [] h (k60 l0 l1 l2 l3 l4 l5 l6 l7 h)) (l0 : Nat) (l1 : Int32) (l2 : Int32) (l3 : Int32) (l4 : Int32) (l5 : Int32) (l6 : Int32) (l7 : Int32) (l8 : Int32) (h : eH) : e_K eI q r0 h0 166 [(0, .ref l0), (1, .int l1), (2, .int l2), (3, .int l3), (4, .int l4), (5, .int l5), (6, .int l6), (7, .int l7), (8, .int l8)] [] h (F_X12_sends_166 N k48 k60 l0 l1 l2 l3 l4 l5 l6 l7 l8 h) := by
  unfold F_X12_sends_166
  refine k_iconst hq dX12_sends_166 (v := 0) rfl ?_
  exact k_sub [0, 1, 2, 3, 4, 5, 6, 7, 8] rfl (P_X12_sends_167 hq he N k48 k60 hk48 hk60 l0 l1 l2 l3 l4 l5 l6 l7 l8 0 h)
set_option maxRecDepth 100000 in
set_option maxHeartbeats 4000000 in
theorem P_X12_sends_142 {q : eT} {r0 : Int32} {h0 : eH} (hq : e_B q yX12_sends.cls cX12_sends 12 3 68 (some .int) yX12_sends.name) (he : e_E q) (N : Nat) (k48 : Nat → Int32 → Int32 → Int32 → Int32 → Int32 → Int32 → eH → Option (Int32 × eH)) (k60 : Nat → Int32 → Int32 → Int32 → Int32 → Int32 → Int32 → Int32 → eH → Option (Int32 × eH)) (hk48 : ∀ (l0 : Nat) (l1 : Int32) (l2 : Int32) (l3 : Int32) (l4 : Int32) (l5 : Int32) (l6 : Int32) h, e_K eI q r0 h0 48 [(0, .ref l0), (1, .int l1), (2, .int l2), (3, .int l3), (4, .int l4), (5, .int l5), (6, .int l6)] [] h (k48 l0 l1 l2 l3 l4 l5 l6 h)) (hk60 : ∀ (l0 : Nat) (l1 : Int32) (l2 : Int32) (l3 : Int32) (l4 : Int32) (l5 : Int32) (l6 : Int32) (l7 : Int32) h, e_K eI q r0 h0 60 [(0, .ref l0), (1, .int l1), (2, .int l2), (3, .int l3), (4, .int l4), (5, .int l5), (6, .int l6), (7, .int l7)] [] h (k60 l0 l1 l2 l3 l4 l5 l6 l7 h)) (l0 : Nat) (l1 : Int32) (l2 : Int32) (l3 : Int32) (l4 : Int32) (l5 : Int32) (l6 : Int32) (l7 : Int32) (l8 : Int32) (l9 : Int32) (h : eH) : e_K eI q r0 h0 142 [(0, .ref l0), (1, .int l1), (2, .int l2), (3, .int l3), (4, .int l4), (5, .int l5), (6, .int l6), (7, .int l7), (8, .int l8), (9, .int l9)] [] h (F_X12_sends_142 N k48 k60 l0 l1 l2 l3 l4 l5 l6 l7 l8 l9 h) := by
  unfold F_X12_sends_142
  refine k_iload hq dX12_sends_142 9 rfl ?_
  refine k_if_eq hq (tgt := 166) dX12_sends_144 (by decide) (fun _ => ?_) (fun _ => ?_)
  · exact k_sub [0, 1, 2, 3, 4, 5, 6, 7, 8] rfl (P_X12_sends_166 hq he N k48 k60 hk48 hk60 l0 l1 l2 l3 l4 l5 l6 l7 l8 h)
  · refine k_aload_n hq dX12_sends_147 0 rfl ?_
    refine k_gr hq (C := RX12) (T := TX12) 11 16 rfl (by decide) (lay_X12 16 (by decide)) tw_943 dX12_sends_148 fun v1 => ?_
    refine k_iload hq dX12_sends_151 5 rfl ?_
    refine k_iload hq dX12_sends_153 6 rfl ?_
    refine k_iadd hq dX12_sends_155 ?_
    refine k_iald hq dX12_sends_156 fun v2 => ?_
    refine k_iload hq dX12_sends_157 7 rfl ?_
    refine k_icmp_ge hq (tgt := 166) dX12_sends_159 (by decide) (fun _ => ?_) (fun _ => ?_)
    · exact k_sub [0, 1, 2, 3, 4, 5, 6, 7, 8] rfl (P_X12_sends_166 hq he N k48 k60 hk48 hk60 l0 l1 l2 l3 l4 l5 l6 l7 l8 h)
    · exact k_sub [0, 1, 2, 3, 4, 5, 6, 7, 8] rfl (P_X12_sends_162 hq he N k48 k60 hk48 hk60 l0 l1 l2 l3 l4 l5 l6 l7 l8 h)
set_option maxRecDepth 100000 in
set_option maxHeartbeats 4000000 in
theorem P_X12_sends_122 {q : eT} {r0 : Int32} {h0 : eH} (hq : e_B q yX12_sends.cls cX12_sends 12 3 68 (some .int) yX12_sends.name) (he : e_E q) (N : Nat) (k48 : Nat → Int32 → Int32 → Int32 → Int32 → Int32 → Int32 → eH → Option (Int32 × eH)) (k60 : Nat → Int32 → Int32 → Int32 → Int32 → Int32 → Int32 → Int32 → eH → Option (Int32 × eH)) (hk48 : ∀ (l0 : Nat) (l1 : Int32) (l2 : Int32) (l3 : Int32) (l4 : Int32) (l5 : Int32) (l6 : Int32) h, e_K eI q r0 h0 48 [(0, .ref l0), (1, .int l1), (2, .int l2), (3, .int l3), (4, .int l4), (5, .int l5), (6, .int l6)] [] h (k48 l0 l1 l2 l3 l4 l5 l6 h)) (hk60 : ∀ (l0 : Nat) (l1 : Int32) (l2 : Int32) (l3 : Int32) (l4 : Int32) (l5 : Int32) (l6 : Int32) (l7 : Int32) h, e_K eI q r0 h0 60 [(0, .ref l0), (1, .int l1), (2, .int l2), (3, .int l3), (4, .int l4), (5, .int l5), (6, .int l6), (7, .int l7)] [] h (k60 l0 l1 l2 l3 l4 l5 l6 l7 h)) (l0 : Nat) (l1 : Int32) (l2 : Int32) (l3 : Int32) (l4 : Int32) (l5 : Int32) (l6 : Int32) (l7 : Int32) (l8 : Int32) (l9 : Int32) (l10 : Int32) (h : eH) : e_K eI q r0 h0 122 [(0, .ref l0), (1, .int l1), (2, .int l2), (3, .int l3), (4, .int l4), (5, .int l5), (6, .int l6), (7, .int l7), (8, .int l8), (9, .int l9), (10, .int l10)] [] h (F_X12_sends_122 N k48 k60 l0 l1 l2 l3 l4 l5 l6 l7 l8 l9 l10 h) := by
  unfold F_X12_sends_122
  refine k_iload hq dX12_sends_122 10 rfl ?_
  refine k_if_eq hq (tgt := 142) dX12_sends_124 (by decide) (fun _ => ?_) (fun _ => ?_)
  · exact k_sub [0, 1, 2, 3, 4, 5, 6, 7, 8, 9] rfl (P_X12_sends_142 hq he N k48 k60 hk48 hk60 l0 l1 l2 l3 l4 l5 l6 l7 l8 l9 h)
  · refine k_aload_n hq dX12_sends_127 0 rfl ?_
    refine k_gr hq (C := RX12) (T := TX12) 11 16 rfl (by decide) (lay_X12 16 (by decide)) tw_943 dX12_sends_128 fun v1 => ?_
    refine k_iload hq dX12_sends_131 4 rfl ?_
    refine k_iload hq dX12_sends_133 6 rfl ?_
    refine k_iadd hq dX12_sends_135 ?_
    refine k_iald hq dX12_sends_136 fun v2 => ?_
    refine k_iload hq dX12_sends_137 7 rfl ?_
    refine k_icmp_lt hq (tgt := 162) dX12_sends_139 (by decide) (fun _ => ?_) (fun _ => ?_)
    · exact k_sub [0, 1, 2, 3, 4, 5, 6, 7, 8] rfl (P_X12_sends_162 hq he N k48 k60 hk48 hk60 l0 l1 l2 l3 l4 l5 l6 l7 l8 h)
    · exact k_sub [0, 1, 2, 3, 4, 5, 6, 7, 8, 9] rfl (P_X12_sends_142 hq he N k48 k60 hk48 hk60 l0 l1 l2 l3 l4 l5 l6 l7 l8 l9 h)
set_option maxRecDepth 100000 in
set_option maxHeartbeats 4000000 in
theorem P_X12_sends_60b {q : eT} {r0 : Int32} {h0 : eH} (hq : e_B q yX12_sends.cls cX12_sends 12 3 68 (some .int) yX12_sends.name) (he : e_E q) (N : Nat) (k48 : Nat → Int32 → Int32 → Int32 → Int32 → Int32 → Int32 → eH → Option (Int32 × eH)) (k60 : Nat → Int32 → Int32 → Int32 → Int32 → Int32 → Int32 → Int32 → eH → Option (Int32 × eH)) (hk48 : ∀ (l0 : Nat) (l1 : Int32) (l2 : Int32) (l3 : Int32) (l4 : Int32) (l5 : Int32) (l6 : Int32) h, e_K eI q r0 h0 48 [(0, .ref l0), (1, .int l1), (2, .int l2), (3, .int l3), (4, .int l4), (5, .int l5), (6, .int l6)] [] h (k48 l0 l1 l2 l3 l4 l5 l6 h)) (hk60 : ∀ (l0 : Nat) (l1 : Int32) (l2 : Int32) (l3 : Int32) (l4 : Int32) (l5 : Int32) (l6 : Int32) (l7 : Int32) h, e_K eI q r0 h0 60 [(0, .ref l0), (1, .int l1), (2, .int l2), (3, .int l3), (4, .int l4), (5, .int l5), (6, .int l6), (7, .int l7)] [] h (k60 l0 l1 l2 l3 l4 l5 l6 l7 h)) (l0 : Nat) (l1 : Int32) (l2 : Int32) (l3 : Int32) (l4 : Int32) (l5 : Int32) (l6 : Int32) (l7 : Int32) (h : eH) : e_K eI q r0 h0 60 [(0, .ref l0), (1, .int l1), (2, .int l2), (3, .int l3), (4, .int l4), (5, .int l5), (6, .int l6), (7, .int l7)] [] h (F_X12_sends_60b N k48 k60 l0 l1 l2 l3 l4 l5 l6 l7 h) := by
  unfold F_X12_sends_60b
  refine k_iload hq dX12_sends_60 7 rfl ?_
  refine k_aload_n hq dX12_sends_62 0 rfl ?_
  refine k_gr hq (C := RX12) (T := TX12) 11 15 rfl (by decide) (lay_X12 15 (by decide)) tw_942 dX12_sends_63 fun v1 => ?_
  refine k_iconst hq dX12_sends_66 (v := 4) rfl ?_
  refine k_iload_n hq dX12_sends_67 3 rfl ?_
  refine k_imul hq dX12_sends_68 ?_
  refine k_iload hq dX12_sends_69 6 rfl ?_
  refine k_iadd hq dX12_sends_71 ?_
  refine k_iald hq dX12_sends_72 fun v2 => ?_
  refine k_icmp_gt hq (tgt := 214) dX12_sends_73 (by decide) (fun _ => ?_) (fun _ => ?_)
  · refine k_iinc hq dX12_sends_214 6 rfl (v := l6 + 1) rfl (by decide) (ls' := [(6, .int (l6 + 1)), (0, .ref l0), (1, .int l1), (2, .int l2), (3, .int l3), (4, .int l4), (5, .int l5), (7, .int l7)]) rfl ?_
    refine k_goto hq (tgt := 48) dX12_sends_217 (by decide) ?_
    exact k_sub [1, 2, 3, 4, 5, 6, 0] rfl (hk48 l0 l1 l2 l3 l4 l5 (l6 + 1) h)
  · refine k_iload_n hq dX12_sends_76 3 rfl ?_
    refine k_iload hq dX12_sends_77 6 rfl ?_
    refine k_iload hq dX12_sends_79 7 rfl ?_
    refine k_callS hq (na := 3) (As := [.int l3, .int l6, .int l7]) (st := []) (con_X12_at _ _ _ _ l3 l6 l7) tw_1115 tw_59 tw_1113 tw_1114 ⟨by decide, by decide, by decide +kernel⟩ rfl (by decide) rfl (Nat.le_of_ble_eq_true rfl) dX12_sends_81 fun v3 h4 => ?_
    refine k_istore hq dX12_sends_84 (by decide) (ls' := [(8, .int v3), (0, .ref l0), (1, .int l1), (2, .int l2), (3, .int l3), (4, .int l4), (5, .int l5), (6, .int l6), (7, .int l7)]) rfl ?_
    refine k_aload_n hq dX12_sends_86 1 rfl ?_
    refine k_gr hq (C := RX12) (T := TX12) 11 14 rfl (by decide) (lay_X12 14 (by decide)) tw_941 dX12_sends_87 fun v5 => ?_
    refine k_iload hq dX12_sends_90 0 rfl ?_
    refine k_iald hq dX12_sends_92 fun v6 => ?_
    refine k_iload_n hq dX12_sends_93 2 rfl ?_
    refine k_callS hq (na := 2) (As := [.int v6, .int l1]) (st := []) (con_X12_has _ _ _ _ v6 l1) tw_1118 tw_59 tw_1116 tw_1117 ⟨by decide, by decide, by decide +kernel⟩ rfl (by decide) rfl (Nat.le_of_ble_eq_true rfl) dX12_sends_94 fun v7 h8 => ?_
    refine k_istore hq dX12_sends_97 (by decide) (ls' := [(9, .int v7), (8, .int v3), (0, .ref l0), (1, .int l1), (2, .int l2), (3, .int l3), (4, .int l4), (5, .int l5), (6, .int l6), (7, .int l7)]) rfl ?_
    refine k_aload_n hq dX12_sends_99 2 rfl ?_
    refine k_gr hq (C := RX12) (T := TX12) 11 14 rfl (by decide) (lay_X12 14 (by decide)) tw_941 dX12_sends_100 fun v9 => ?_
    refine k_iload hq dX12_sends_103 1 rfl ?_
    refine k_iald hq dX12_sends_105 fun v10 => ?_
    refine k_iload_n hq dX12_sends_106 4 rfl ?_
    refine k_callS hq (na := 2) (As := [.int v10, .int l2]) (st := []) (con_X12_has _ _ _ _ v10 l2) tw_1118 tw_59 tw_1116 tw_1117 ⟨by decide, by decide, by decide +kernel⟩ rfl (by decide) rfl (Nat.le_of_ble_eq_true rfl) dX12_sends_107 fun v11 h12 => ?_
    refine k_istore hq dX12_sends_110 (by decide) (ls' := [(10, .int v11), (9, .int v7), (8, .int v3), (0, .ref l0), (1, .int l1), (2, .int l2), (3, .int l3), (4, .int l4), (5, .int l5), (6, .int l6), (7, .int l7)]) rfl ?_
    refine k_iload hq dX12_sends_112 1 rfl ?_
    refine k_if_eq hq (tgt := 122) dX12_sends_114 (by decide) (fun _ => ?_) (fun _ => ?_)
    · exact k_sub [3, 4, 5, 6, 7, 8, 9, 10, 2, 1, 0] rfl (P_X12_sends_122 hq he N k48 k60 hk48 hk60 l0 l1 l2 l3 l4 l5 l6 l7 v3 v7 v11 h12)
    · refine k_iload hq dX12_sends_117 0 rfl ?_
      refine k_if_ne hq (tgt := 162) dX12_sends_119 (by decide) (fun _ => ?_) (fun _ => ?_)
      · exact k_sub [3, 4, 5, 6, 7, 8, 9, 10, 2, 1, 0] rfl (P_X12_sends_122 hq he N k48 k60 hk48 hk60 l0 l1 l2 l3 l4 l5 l6 l7 v3 v7 v11 h12)
      · exact k_sub [3, 4, 5, 6, 7, 8, 9, 10, 2] rfl (P_X12_sends_162 hq he N k48 k60 hk48 hk60 l0 l1 l2 l3 l4 l5 l6 l7 v3 h12)
theorem Q_X12_sends_60 {q : eT} {r0 : Int32} {h0 : eH} (hq : e_B q yX12_sends.cls cX12_sends 12 3 68 (some .int) yX12_sends.name) (he : e_E q) (N : Nat) (k48 : Nat → Int32 → Int32 → Int32 → Int32 → Int32 → Int32 → eH → Option (Int32 × eH)) (hk48 : ∀ (l0 : Nat) (l1 : Int32) (l2 : Int32) (l3 : Int32) (l4 : Int32) (l5 : Int32) (l6 : Int32) h, e_K eI q r0 h0 48 [(0, .ref l0), (1, .int l1), (2, .int l2), (3, .int l3), (4, .int l4), (5, .int l5), (6, .int l6)] [] h (k48 l0 l1 l2 l3 l4 l5 l6 h)) (l0 : Nat) (l1 : Int32) (l2 : Int32) (l3 : Int32) (l4 : Int32) (l5 : Int32) (l6 : Int32) (l7 : Int32) (h : eH) : e_K eI q r0 h0 60 [(0, .ref l0), (1, .int l1), (2, .int l2), (3, .int l3), (4, .int l4), (5, .int l5), (6, .int l6), (7, .int l7)] [] h (L_X12_sends_60 N k48 l0 l1 l2 l3 l4 l5 l6 l7 h) :=
  k_loop (mk := (fun s => [(0, .ref s.1), (1, .int s.2.1), (2, .int s.2.2.1), (3, .int s.2.2.2.1), (4, .int s.2.2.2.2.1), (5, .int s.2.2.2.2.2.1), (6, .int s.2.2.2.2.2.2.1), (7, .int s.2.2.2.2.2.2.2.1)])) (hp := fun s => s.2.2.2.2.2.2.2.2) (fun k hk s => P_X12_sends_60b hq he N k48 (fun l0 l1 l2 l3 l4 l5 l6 l7 h => k (l0, l1, l2, l3, l4, l5, l6, l7, h)) hk48 (fun l0 l1 l2 l3 l4 l5 l6 l7 h => hk (l0, l1, l2, l3, l4, l5, l6, l7, h)) s.1 s.2.1 s.2.2.1 s.2.2.2.1 s.2.2.2.2.1 s.2.2.2.2.2.1 s.2.2.2.2.2.2.1 s.2.2.2.2.2.2.2.1 s.2.2.2.2.2.2.2.2) N (l0, l1, l2, l3, l4, l5, l6, l7, h)
set_option maxRecDepth 100000 in
set_option maxHeartbeats 4000000 in
theorem P_X12_sends_284 {q : eT} {r0 : Int32} {h0 : eH} (hq : e_B q yX12_sends.cls cX12_sends 12 3 68 (some .int) yX12_sends.name) (he : e_E q) (N : Nat) (k223 : Nat → Int32 → Int32 → Int32 → Int32 → Int32 → eH → Option (Int32 × eH)) (hk223 : ∀ (l0 : Nat) (l2 : Int32) (l3 : Int32) (l4 : Int32) (l5 : Int32) (l6 : Int32) h, e_K eI q r0 h0 223 [(0, .ref l0), (2, .int l2), (3, .int l3), (4, .int l4), (5, .int l5), (6, .int l6)] [] h (k223 l0 l2 l3 l4 l5 l6 h)) (l0 : Nat) (l2 : Int32) (l3 : Int32) (l4 : Int32) (l5 : Int32) (l6 : Int32) (s0 : Nat) (s1 : Int32) (s2 : Int32) (h : eH) : e_K eI q r0 h0 284 [(0, .ref l0), (2, .int l2), (3, .int l3), (4, .int l4), (5, .int l5), (6, .int l6)] [.int s2, .int s1, .ref s0] h (F_X12_sends_284 N k223 l0 l2 l3 l4 l5 l6 s0 s1 s2 h) := by
  unfold F_X12_sends_284
  refine k_iast hq dX12_sends_284 fun h1 => ?_
  refine k_iinc hq dX12_sends_285 5 rfl (v := l6 + 1) rfl (by decide) (ls' := [(6, .int (l6 + 1)), (0, .ref l0), (2, .int l2), (3, .int l3), (4, .int l4), (5, .int l5)]) rfl ?_
  refine k_goto hq (tgt := 223) dX12_sends_288 (by decide) ?_
  exact k_sub [1, 2, 3, 4, 5, 0] rfl (hk223 l0 l2 l3 l4 l5 (l6 + 1) h1)
set_option maxRecDepth 100000 in
set_option maxHeartbeats 4000000 in
theorem P_X12_sends_223b {q : eT} {r0 : Int32} {h0 : eH} (hq : e_B q yX12_sends.cls cX12_sends 12 3 68 (some .int) yX12_sends.name) (he : e_E q) (N : Nat) (k223 : Nat → Int32 → Int32 → Int32 → Int32 → Int32 → eH → Option (Int32 × eH)) (hk223 : ∀ (l0 : Nat) (l2 : Int32) (l3 : Int32) (l4 : Int32) (l5 : Int32) (l6 : Int32) h, e_K eI q r0 h0 223 [(0, .ref l0), (2, .int l2), (3, .int l3), (4, .int l4), (5, .int l5), (6, .int l6)] [] h (k223 l0 l2 l3 l4 l5 l6 h)) (l0 : Nat) (l2 : Int32) (l3 : Int32) (l4 : Int32) (l5 : Int32) (l6 : Int32) (h : eH) : e_K eI q r0 h0 223 [(0, .ref l0), (2, .int l2), (3, .int l3), (4, .int l4), (5, .int l5), (6, .int l6)] [] h (F_X12_sends_223b N k223 l0 l2 l3 l4 l5 l6 h) := by
  unfold F_X12_sends_223b
  refine k_iload hq dX12_sends_223 5 rfl ?_
  refine k_iconst hq dX12_sends_225 (v := 4) rfl ?_
  refine k_icmp_ge hq (tgt := 291) dX12_sends_226 (by decide) (fun _ => ?_) (fun _ => ?_)
  · refine k_aload_n hq dX12_sends_291 0 rfl ?_
    refine k_iload_n hq dX12_sends_292 1 rfl ?_
    refine k_iload_n hq dX12_sends_293 2 rfl ?_
    refine k_callV hq (na := 2) (As := [.int l2, .int l3]) (st := []) 11 (C := RX12) (T := TX12) rfl (con_X12_bounds _ _ _ _ N l0 l2 l3) tw_1134 tw_59 tw_1131 tw_1133 tw_32 ⟨by decide, by decide, by decide +kernel⟩ rfl (by decide) rfl (Nat.le_of_ble_eq_true rfl) dX12_sends_294 fun v1 h2 => ?_
    refine k_aload_n hq dX12_sends_297 0 rfl ?_
    refine k_iload_n hq dX12_sends_298 1 rfl ?_
    refine k_iload_n hq dX12_sends_299 2 rfl ?_
    refine k_callV hq (na := 2) (As := [.int l2, .int l3]) (st := []) 11 (C := RX12) (T := TX12) rfl (con_X12_siblings _ _ _ _ N l0 l2 l3) tw_1122 tw_59 tw_1119 tw_1121 tw_30 ⟨by decide, by decide, by decide +kernel⟩ rfl (by decide) rfl (Nat.le_of_ble_eq_true rfl) dX12_sends_300 fun v3 h4 => ?_
    exact k_iret hq dX12_sends_303 he
  · refine k_aload_n hq dX12_sends_229 0 rfl ?_
    refine k_gr hq (C := RX12) (T := TX12) 11 16 rfl (by decide) (lay_X12 16 (by decide)) tw_943 dX12_sends_230 fun v5 => ?_
    refine k_iload hq dX12_sends_233 4 rfl ?_
    refine k_iload hq dX12_sends_235 5 rfl ?_
    refine k_iadd hq dX12_sends_237 ?_
    refine k_aload_n hq dX12_sends_238 0 rfl ?_
    refine k_gr hq (C := RX12) (T := TX12) 11 16 rfl (by decide) (lay_X12 16 (by decide)) tw_943 dX12_sends_239 fun v6 => ?_
    refine k_iload hq dX12_sends_242 3 rfl ?_
    refine k_iload hq dX12_sends_244 5 rfl ?_
    refine k_iadd hq dX12_sends_246 ?_
    refine k_iald hq dX12_sends_247 fun v7 => ?_
    refine k_aload_n hq dX12_sends_248 0 rfl ?_
    refine k_gr hq (C := RX12) (T := TX12) 11 16 rfl (by decide) (lay_X12 16 (by decide)) tw_943 dX12_sends_249 fun v8 => ?_
    refine k_iload hq dX12_sends_252 4 rfl ?_
    refine k_iload hq dX12_sends_254 5 rfl ?_
    refine k_iadd hq dX12_sends_256 ?_
    refine k_iald hq dX12_sends_257 fun v9 => ?_
    refine k_icmp_le hq (tgt := 274) dX12_sends_258 (by decide) (fun _ => ?_) (fun _ => ?_)
    · refine k_aload_n hq dX12_sends_274 0 rfl ?_
      refine k_gr hq (C := RX12) (T := TX12) 11 16 rfl (by decide) (lay_X12 16 (by decide)) tw_943 dX12_sends_275 fun v10 => ?_
      refine k_iload hq dX12_sends_278 4 rfl ?_
      refine k_iload hq dX12_sends_280 5 rfl ?_
      refine k_iadd hq dX12_sends_282 ?_
      refine k_iald hq dX12_sends_283 fun v11 => ?_
      exact k_sub [0, 1, 2, 3, 4, 5] rfl (P_X12_sends_284 hq he N k223 hk223 l0 l2 l3 l4 l5 l6 v5 (l5 + l6) v11 h)
    · refine k_aload_n hq dX12_sends_261 0 rfl ?_
      refine k_gr hq (C := RX12) (T := TX12) 11 16 rfl (by decide) (lay_X12 16 (by decide)) tw_943 dX12_sends_262 fun v12 => ?_
      refine k_iload hq dX12_sends_265 3 rfl ?_
      refine k_iload hq dX12_sends_267 5 rfl ?_
      refine k_iadd hq dX12_sends_269 ?_
      refine k_iald hq dX12_sends_270 fun v13 => ?_
      refine k_goto hq (tgt := 284) dX12_sends_271 (by decide) ?_
      exact k_sub [0, 1, 2, 3, 4, 5] rfl (P_X12_sends_284 hq he N k223 hk223 l0 l2 l3 l4 l5 l6 v5 (l5 + l6) v13 h)
theorem Q_X12_sends_223 {q : eT} {r0 : Int32} {h0 : eH} (hq : e_B q yX12_sends.cls cX12_sends 12 3 68 (some .int) yX12_sends.name) (he : e_E q) (N : Nat) (l0 : Nat) (l2 : Int32) (l3 : Int32) (l4 : Int32) (l5 : Int32) (l6 : Int32) (h : eH) : e_K eI q r0 h0 223 [(0, .ref l0), (2, .int l2), (3, .int l3), (4, .int l4), (5, .int l5), (6, .int l6)] [] h (L_X12_sends_223 N l0 l2 l3 l4 l5 l6 h) :=
  k_loop (mk := (fun s => [(0, .ref s.1), (2, .int s.2.1), (3, .int s.2.2.1), (4, .int s.2.2.2.1), (5, .int s.2.2.2.2.1), (6, .int s.2.2.2.2.2.1)])) (hp := fun s => s.2.2.2.2.2.2) (fun k hk s => P_X12_sends_223b hq he N (fun l0 l2 l3 l4 l5 l6 h => k (l0, l2, l3, l4, l5, l6, h)) (fun l0 l2 l3 l4 l5 l6 h => hk (l0, l2, l3, l4, l5, l6, h)) s.1 s.2.1 s.2.2.1 s.2.2.2.1 s.2.2.2.2.1 s.2.2.2.2.2.1 s.2.2.2.2.2.2) N (l0, l2, l3, l4, l5, l6, h)
set_option maxRecDepth 100000 in
set_option maxHeartbeats 4000000 in
theorem P_X12_sends_48b {q : eT} {r0 : Int32} {h0 : eH} (hq : e_B q yX12_sends.cls cX12_sends 12 3 68 (some .int) yX12_sends.name) (he : e_E q) (N : Nat) (k48 : Nat → Int32 → Int32 → Int32 → Int32 → Int32 → Int32 → eH → Option (Int32 × eH)) (hk48 : ∀ (l0 : Nat) (l1 : Int32) (l2 : Int32) (l3 : Int32) (l4 : Int32) (l5 : Int32) (l6 : Int32) h, e_K eI q r0 h0 48 [(0, .ref l0), (1, .int l1), (2, .int l2), (3, .int l3), (4, .int l4), (5, .int l5), (6, .int l6)] [] h (k48 l0 l1 l2 l3 l4 l5 l6 h)) (l0 : Nat) (l1 : Int32) (l2 : Int32) (l3 : Int32) (l4 : Int32) (l5 : Int32) (l6 : Int32) (h : eH) : e_K eI q r0 h0 48 [(0, .ref l0), (1, .int l1), (2, .int l2), (3, .int l3), (4, .int l4), (5, .int l5), (6, .int l6)] [] h (F_X12_sends_48b N k48 l0 l1 l2 l3 l4 l5 l6 h) := by
  unfold F_X12_sends_48b
  refine k_iload hq dX12_sends_48 6 rfl ?_
  refine k_aload_n hq dX12_sends_50 0 rfl ?_
  refine k_gi hq (C := RX12) (T := TX12) 11 0 rfl (by decide) (lay_X12 0 (by decide)) tw_927 dX12_sends_51 fun v1 => ?_
  refine k_icmp_ge hq (tgt := 220) dX12_sends_54 (by decide) (fun _ => ?_) (fun _ => ?_)
  · refine k_iconst hq dX12_sends_220 (v := 0) rfl ?_
    refine k_istore hq dX12_sends_221 (by decide) (ls' := [(6, .int 0), (0, .ref l0), (1, .int l1), (2, .int l2), (3, .int l3), (4, .int l4), (5, .int l5)]) rfl ?_
    exact k_sub [1, 3, 4, 5, 6, 0] rfl (Q_X12_sends_223 hq he N l0 l2 l3 l4 l5 0 h)
  · refine k_iconst hq dX12_sends_57 (v := 1) rfl ?_
    refine k_istore hq dX12_sends_58 (by decide) (ls' := [(7, .int 1), (0, .ref l0), (1, .int l1), (2, .int l2), (3, .int l3), (4, .int l4), (5, .int l5), (6, .int l6)]) rfl ?_
    exact k_sub [1, 2, 3, 4, 5, 6, 7, 0] rfl (Q_X12_sends_60 hq he N k48 hk48 l0 l1 l2 l3 l4 l5 l6 1 h)
theorem Q_X12_sends_48 {q : eT} {r0 : Int32} {h0 : eH} (hq : e_B q yX12_sends.cls cX12_sends 12 3 68 (some .int) yX12_sends.name) (he : e_E q) (N : Nat) (l0 : Nat) (l1 : Int32) (l2 : Int32) (l3 : Int32) (l4 : Int32) (l5 : Int32) (l6 : Int32) (h : eH) : e_K eI q r0 h0 48 [(0, .ref l0), (1, .int l1), (2, .int l2), (3, .int l3), (4, .int l4), (5, .int l5), (6, .int l6)] [] h (L_X12_sends_48 N l0 l1 l2 l3 l4 l5 l6 h) :=
  k_loop (mk := (fun s => [(0, .ref s.1), (1, .int s.2.1), (2, .int s.2.2.1), (3, .int s.2.2.2.1), (4, .int s.2.2.2.2.1), (5, .int s.2.2.2.2.2.1), (6, .int s.2.2.2.2.2.2.1)])) (hp := fun s => s.2.2.2.2.2.2.2) (fun k hk s => P_X12_sends_48b hq he N (fun l0 l1 l2 l3 l4 l5 l6 h => k (l0, l1, l2, l3, l4, l5, l6, h)) (fun l0 l1 l2 l3 l4 l5 l6 h => hk (l0, l1, l2, l3, l4, l5, l6, h)) s.1 s.2.1 s.2.2.1 s.2.2.2.1 s.2.2.2.2.1 s.2.2.2.2.2.1 s.2.2.2.2.2.2.1 s.2.2.2.2.2.2.2) N (l0, l1, l2, l3, l4, l5, l6, h)
set_option maxRecDepth 100000 in
set_option maxHeartbeats 4000000 in
theorem P_X12_sends_0 {q : eT} {r0 : Int32} {h0 : eH} (hq : e_B q yX12_sends.cls cX12_sends 12 3 68 (some .int) yX12_sends.name) (he : e_E q) (N : Nat) (l0 : Nat) (l1 : Int32) (l2 : Int32) (l3 : Int32) (h : eH) : e_K eI q r0 h0 0 [(0, .ref l0), (1, .int l1), (2, .int l2), (3, .int l3)] [] h (F_X12_sends N l0 l1 l2 l3 h) := by
  unfold F_X12_sends
  refine k_aload_n hq dX12_sends_0 0 rfl ?_
  refine k_iload_n hq dX12_sends_1 1 rfl ?_
  refine k_callV hq (na := 1) (As := [.int l1]) (st := []) 11 (C := RX12) (T := TX12) rfl (con_X12_isSite _ _ _ _ l0 l1) tw_1105 tw_59 tw_1102 tw_1104 tw_28 ⟨by decide, by decide, by decide +kernel⟩ rfl (by decide) rfl (Nat.le_of_ble_eq_true rfl) dX12_sends_2 fun v1 h2 => ?_
  refine k_if_eq hq (tgt := 29) dX12_sends_5 (by decide) (fun _ => ?_) (fun _ => ?_)
  · refine k_iconst hq dX12_sends_29 (v := (-1)) rfl ?_
    exact k_iret hq dX12_sends_30 he
  · refine k_aload_n hq dX12_sends_8 0 rfl ?_
    refine k_iload_n hq dX12_sends_9 2 rfl ?_
    refine k_callV hq (na := 1) (As := [.int l2]) (st := []) 11 (C := RX12) (T := TX12) rfl (con_X12_isSite _ _ _ _ l0 l2) tw_1105 tw_59 tw_1102 tw_1104 tw_28 ⟨by decide, by decide, by decide +kernel⟩ rfl (by decide) rfl (Nat.le_of_ble_eq_true rfl) dX12_sends_10 fun v3 h4 => ?_
    refine k_if_eq hq (tgt := 29) dX12_sends_13 (by decide) (fun _ => ?_) (fun _ => ?_)
    · refine k_iconst hq dX12_sends_29 (v := (-1)) rfl ?_
      exact k_iret hq dX12_sends_30 he
    · refine k_iload_n hq dX12_sends_16 1 rfl ?_
      refine k_iload_n hq dX12_sends_17 2 rfl ?_
      refine k_icmp_eq hq (tgt := 29) dX12_sends_18 (by decide) (fun _ => ?_) (fun _ => ?_)
      · refine k_iconst hq dX12_sends_29 (v := (-1)) rfl ?_
        exact k_iret hq dX12_sends_30 he
      · refine k_aload_n hq dX12_sends_21 0 rfl ?_
        refine k_iload_n hq dX12_sends_22 3 rfl ?_
        refine k_callV hq (na := 1) (As := [.int l3]) (st := []) 11 (C := RX12) (T := TX12) rfl (con_X12_isKey _ _ _ _ l0 l3) tw_1109 tw_59 tw_1106 tw_1108 tw_29 ⟨by decide, by decide, by decide +kernel⟩ rfl (by decide) rfl (Nat.le_of_ble_eq_true rfl) dX12_sends_23 fun v5 h6 => ?_
        refine k_if_ne hq (tgt := 31) dX12_sends_26 (by decide) (fun _ => ?_) (fun _ => ?_)
        · refine k_iconst hq dX12_sends_29 (v := (-1)) rfl ?_
          exact k_iret hq dX12_sends_30 he
        · refine k_iload_n hq dX12_sends_31 3 rfl ?_
          refine k_iload_n hq dX12_sends_32 1 rfl ?_
          refine k_callS hq (na := 2) (As := [.int l3, .int l1]) (st := []) (con_X12_rowAt _ _ _ _ l3 l1) tw_1112 tw_59 tw_1110 tw_1111 ⟨by decide, by decide, by decide +kernel⟩ rfl (by decide) rfl (Nat.le_of_ble_eq_true rfl) dX12_sends_33 fun v7 h8 => ?_
          refine k_istore hq dX12_sends_36 (by decide) (ls' := [(4, .int v7), (0, .ref l0), (1, .int l1), (2, .int l2), (3, .int l3)]) rfl ?_
          refine k_iload_n hq dX12_sends_38 4 rfl ?_
          refine k_iload_n hq dX12_sends_39 3 rfl ?_
          refine k_callS hq (na := 2) (As := [.int l3, .int l2]) (st := []) (con_X12_rowAt _ _ _ _ l3 l2) tw_1112 tw_59 tw_1110 tw_1111 ⟨by decide, by decide, by decide +kernel⟩ rfl (by decide) rfl (Nat.le_of_ble_eq_true rfl) dX12_sends_40 fun v9 h10 => ?_
          refine k_istore hq dX12_sends_43 (by decide) (ls' := [(5, .int v9), (4, .int v7), (0, .ref l0), (1, .int l1), (2, .int l2), (3, .int l3)]) rfl ?_
          refine k_iconst hq dX12_sends_45 (v := 0) rfl ?_
          refine k_istore hq dX12_sends_46 (by decide) (ls' := [(6, .int 0), (5, .int v9), (4, .int v7), (0, .ref l0), (1, .int l1), (2, .int l2), (3, .int l3)]) rfl ?_
          exact k_sub [3, 4, 5, 6, 2, 1, 0] rfl (Q_X12_sends_48 hq he N l0 l1 l2 l3 v7 v9 0 h10)
theorem con_X12_sends (l : Launch) (G : eG) (B0 n : Nat) (N : Nat) (l0 : Nat) (l1 : Int32) (l2 : Int32) (l3 : Int32) : e_C eI l G B0 n yX12_sends cX12_sends 12 (some .int) 3 68 [.ref l0, .int l1, .int l2, .int l3] (F_X12_sends N l0 l1 l2 l3) := by
  refine e_mk (by decide) (Nat.le_of_ble_eq_true rfl) fun q r0 h0 h hq he e1 e2 e3 e4 => ?_
  subst e1; subst e2; subst e3; subst e4
  exact P_X12_sends_0 hq he N l0 l1 l2 l3 h
set_option maxRecDepth 100000 in
set_option maxHeartbeats 4000000 in
theorem P_X12_sum_69 {q : eT} {r0 : Int64} {h0 : eH} (hq : e_B q yX12_sum.cls cX12_sum 7 0 0 (some .long) yX12_sum.name) (he : e_E q) (l5 : Int64) (s0 : Nat) (s1 : Int32) (h : eH) : e_K eL q r0 h0 69 [(5, .long l5)] [.int s1, .ref s0] h (F_X12_sum_69 l5 s0 s1 h) := by
  unfold F_X12_sum_69
  refine k_pz hq (C := RX12) (T := TX12) 11 35 rfl (by decide) lay_X12 tyX12 tyX12_ok nmX12 tw_962 rfl rfl dX12_sum_69 fun h1 => ?_
  refine k_lload hq dX12_sum_72 0 rfl ?_
  exact k_lret hq dX12_sum_74 he
set_option maxRecDepth 100000 in
set_option maxHeartbeats 4000000 in
theorem P_X12_sum_64 {q : eT} {r0 : Int64} {h0 : eH} (hq : e_B q yX12_sum.cls cX12_sum 7 0 0 (some .long) yX12_sum.name) (he : e_E q) (l5 : Int64) (s0 : Nat) (h : eH) : e_K eL q r0 h0 64 [(5, .long l5)] [.ref s0] h (F_X12_sum_64 l5 s0 h) := by
  unfold F_X12_sum_64
  refine k_iconst hq dX12_sum_64 (v := 1) rfl ?_
  refine k_goto hq (tgt := 69) dX12_sum_65 (by decide) ?_
  exact k_sub [0] rfl (P_X12_sum_69 hq he l5 s0 1 h)
set_option maxRecDepth 100000 in
set_option maxHeartbeats 4000000 in
theorem P_X12_sum_68 {q : eT} {r0 : Int64} {h0 : eH} (hq : e_B q yX12_sum.cls cX12_sum 7 0 0 (some .long) yX12_sum.name) (he : e_E q) (l5 : Int64) (s0 : Nat) (h : eH) : e_K eL q r0 h0 68 [(5, .long l5)] [.ref s0] h (F_X12_sum_68 l5 s0 h) := by
  unfold F_X12_sum_68
  refine k_iconst hq dX12_sum_68 (v := 0) rfl ?_
  exact k_sub [0] rfl (P_X12_sum_69 hq he l5 s0 0 h)
set_option maxRecDepth 100000 in
set_option maxHeartbeats 4000000 in
theorem P_X12_sum_61 {q : eT} {r0 : Int64} {h0 : eH} (hq : e_B q yX12_sum.cls cX12_sum 7 0 0 (some .long) yX12_sum.name) (he : e_E q) (l5 : Int64) (s0 : Nat) (s1 : Int32) (s2 : Int32) (h : eH) : e_K eL q r0 h0 61 [(5, .long l5)] [.int s2, .int s1, .ref s0] h (F_X12_sum_61 l5 s0 s1 s2 h) := by
  unfold F_X12_sum_61
  refine k_icmp_eq hq (tgt := 68) dX12_sum_61 (by decide) (fun _ => ?_) (fun _ => ?_)
  · exact k_sub [0] rfl (P_X12_sum_68 hq he l5 s0 h)
  · exact k_sub [0] rfl (P_X12_sum_64 hq he l5 s0 h)
set_option maxRecDepth 100000 in
set_option maxHeartbeats 4000000 in
theorem P_X12_sum_50 {q : eT} {r0 : Int64} {h0 : eH} (hq : e_B q yX12_sum.cls cX12_sum 7 0 0 (some .long) yX12_sum.name) (he : e_E q) (l1 : Int64) (l5 : Int64) (s0 : Nat) (s1 : Int32) (h : eH) : e_K eL q r0 h0 50 [(1, .long l1), (5, .long l5)] [.int s1, .ref s0] h (F_X12_sum_50 l1 l5 s0 s1 h) := by
  unfold F_X12_sum_50
  refine k_lload_n hq dX12_sum_50 0 rfl ?_
  refine k_lconst hq dX12_sum_51 (v := 0) rfl ?_
  refine k_lcmp hq dX12_sum_52 ?_
  refine k_if_lt hq (tgt := 60) dX12_sum_53 (by decide) (fun _ => ?_) (fun _ => ?_)
  · refine k_iconst hq dX12_sum_60 (v := 0) rfl ?_
    exact k_sub [1] rfl (P_X12_sum_61 hq he l5 s0 s1 0 h)
  · refine k_iconst hq dX12_sum_56 (v := 1) rfl ?_
    refine k_goto hq (tgt := 61) dX12_sum_57 (by decide) ?_
    exact k_sub [1] rfl (P_X12_sum_61 hq he l5 s0 s1 1 h)
set_option maxRecDepth 100000 in
set_option maxHeartbeats 4000000 in
theorem P_X12_sum_35 {q : eT} {r0 : Int64} {h0 : eH} (hq : e_B q yX12_sum.cls cX12_sum 7 0 0 (some .long) yX12_sum.name) (he : e_E q) (l1 : Int64) (l5 : Int64) (s0 : Nat) (s1 : Int32) (s2 : Int32) (h : eH) : e_K eL q r0 h0 35 [(1, .long l1), (5, .long l5)] [.int s2, .int s1, .ref s0] h (F_X12_sum_35 l1 l5 s0 s1 s2 h) := by
  unfold F_X12_sum_35
  refine k_icmp_ne hq (tgt := 68) dX12_sum_35 (by decide) (fun _ => ?_) (fun _ => ?_)
  · refine k_lload hq dX12_sum_38 1 rfl ?_
    refine k_lconst hq dX12_sum_40 (v := 0) rfl ?_
    refine k_lcmp hq dX12_sum_41 ?_
    refine k_if_lt hq (tgt := 49) dX12_sum_42 (by decide) (fun _ => ?_) (fun _ => ?_)
    · refine k_iconst hq dX12_sum_49 (v := 0) rfl ?_
      exact k_sub [0, 1] rfl (P_X12_sum_50 hq he l1 l5 s0 0 h)
    · refine k_iconst hq dX12_sum_45 (v := 1) rfl ?_
      refine k_goto hq (tgt := 50) dX12_sum_46 (by decide) ?_
      exact k_sub [0, 1] rfl (P_X12_sum_50 hq he l1 l5 s0 1 h)
  · exact k_sub [1] rfl (P_X12_sum_68 hq he l5 s0 h)
set_option maxRecDepth 100000 in
set_option maxHeartbeats 4000000 in
theorem P_X12_sum_24 {q : eT} {r0 : Int64} {h0 : eH} (hq : e_B q yX12_sum.cls cX12_sum 7 0 0 (some .long) yX12_sum.name) (he : e_E q) (l1 : Int64) (l3 : Int64) (l5 : Int64) (s0 : Nat) (s1 : Int32) (h : eH) : e_K eL q r0 h0 24 [(1, .long l1), (3, .long l3), (5, .long l5)] [.int s1, .ref s0] h (F_X12_sum_24 l1 l3 l5 s0 s1 h) := by
  unfold F_X12_sum_24
  refine k_lload_n hq dX12_sum_24 1 rfl ?_
  refine k_lconst hq dX12_sum_25 (v := 0) rfl ?_
  refine k_lcmp hq dX12_sum_26 ?_
  refine k_if_lt hq (tgt := 34) dX12_sum_27 (by decide) (fun _ => ?_) (fun _ => ?_)
  · refine k_iconst hq dX12_sum_34 (v := 0) rfl ?_
    exact k_sub [0, 2] rfl (P_X12_sum_35 hq he l1 l5 s0 s1 0 h)
  · refine k_iconst hq dX12_sum_30 (v := 1) rfl ?_
    refine k_goto hq (tgt := 35) dX12_sum_31 (by decide) ?_
    exact k_sub [0, 2] rfl (P_X12_sum_35 hq he l1 l5 s0 s1 1 h)
set_option maxRecDepth 100000 in
set_option maxHeartbeats 4000000 in
theorem P_X12_sum_0 {q : eT} {r0 : Int64} {h0 : eH} (hq : e_B q yX12_sum.cls cX12_sum 7 0 0 (some .long) yX12_sum.name) (he : e_E q) (l0 : Nat) (l1 : Int64) (l3 : Int64) (h : eH) : e_K eL q r0 h0 0 [(0, .ref l0), (1, .long l1), (3, .long l3)] [] h (F_X12_sum l0 l1 l3 h) := by
  unfold F_X12_sum
  refine k_lload_n hq dX12_sum_0 1 rfl ?_
  refine k_lload_n hq dX12_sum_1 2 rfl ?_
  refine k_ladd hq dX12_sum_2 ?_
  refine k_let (mk := fun z => .long z :: []) fun v1 _ => ?_
  refine k_lstore hq dX12_sum_3 (by decide) (ls' := [(5, .long v1), (0, .ref l0), (1, .long l1), (3, .long l3)]) rfl ?_
  refine k_aload_n hq dX12_sum_5 1 rfl ?_
  refine k_aload_n hq dX12_sum_6 1 rfl ?_
  refine k_gi hq (C := RX12) (T := TX12) 11 35 rfl (by decide) (lay_X12 35 (by decide)) tw_962 dX12_sum_7 fun v2 => ?_
  refine k_if_ne hq (tgt := 64) dX12_sum_10 (by decide) (fun _ => ?_) (fun _ => ?_)
  · refine k_lload_n hq dX12_sum_13 2 rfl ?_
    refine k_lconst hq dX12_sum_14 (v := 0) rfl ?_
    refine k_lcmp hq dX12_sum_15 ?_
    refine k_if_lt hq (tgt := 23) dX12_sum_16 (by decide) (fun _ => ?_) (fun _ => ?_)
    · refine k_iconst hq dX12_sum_23 (v := 0) rfl ?_
      exact k_sub [2, 3, 0] rfl (P_X12_sum_24 hq he l1 l3 v1 l0 0 h)
    · refine k_iconst hq dX12_sum_19 (v := 1) rfl ?_
      refine k_goto hq (tgt := 24) dX12_sum_20 (by decide) ?_
      exact k_sub [2, 3, 0] rfl (P_X12_sum_24 hq he l1 l3 v1 l0 1 h)
  · exact k_sub [0] rfl (P_X12_sum_64 hq he v1 l0 h)
theorem con_X12_sum (l : Launch) (G : eG) (B0 n : Nat) (l0 : Nat) (l1 : Int64) (l3 : Int64) : e_C eL l G B0 n yX12_sum cX12_sum 7 (some .long) 0 0 [.ref l0, .long l1, .long l3] (F_X12_sum l0 l1 l3) := by
  refine e_mk (by decide) (Nat.le_of_ble_eq_true rfl) fun q r0 h0 h hq he e1 e2 e3 e4 => ?_
  subst e1; subst e2; subst e3; subst e4
  exact P_X12_sum_0 hq he l0 l1 l3 h
set_option maxRecDepth 100000 in
set_option maxHeartbeats 4000000 in
theorem P_X12_common_28b {q : eT} {r0 : Int64} {h0 : eH} (hq : e_B q yX12_common.cls cX12_common 10 0 0 (some .long) yX12_common.name) (he : e_E q) (N : Nat) (k28 : Int64 → Int64 → eH → Option (Int64 × eH)) (hk28 : ∀ (l4 : Int64) (l6 : Int64) h, e_K eL q r0 h0 28 [(4, .long l4), (6, .long l6)] [] h (k28 l4 l6 h)) (l4 : Int64) (l6 : Int64) (h : eH) : e_K eL q r0 h0 28 [(4, .long l4), (6, .long l6)] [] h (F_X12_common_28b N k28 l4 l6 h) := by
  unfold F_X12_common_28b
  refine k_lload hq dX12_common_28 1 rfl ?_
  refine k_lconst hq dX12_common_30 (v := 0) rfl ?_
  refine k_lcmp hq dX12_common_31 ?_
  refine k_if_eq hq (tgt := 53) dX12_common_32 (by decide) (fun _ => ?_) (fun _ => ?_)
  · refine k_lload hq dX12_common_53 0 rfl ?_
    exact k_lret hq dX12_common_55 he
  · refine k_lload hq dX12_common_35 0 rfl ?_
    refine k_lload hq dX12_common_37 1 rfl ?_
    refine k_lrem hq dX12_common_39 fun _ => ?_
    refine k_let (mk := fun z => .long z :: []) fun v1 _ => ?_
    refine k_lstore hq dX12_common_40 (by decide) (ls' := [(8, .long v1), (4, .long l4), (6, .long l6)]) rfl ?_
    refine k_lload hq dX12_common_42 2 rfl ?_
    refine k_lstore hq dX12_common_44 (by decide) (ls' := [(4, .long l6), (8, .long v1), (6, .long l6)]) rfl ?_
    refine k_lload hq dX12_common_46 1 rfl ?_
    refine k_lstore hq dX12_common_48 (by decide) (ls' := [(6, .long v1), (4, .long l6), (8, .long v1)]) rfl ?_
    refine k_goto hq (tgt := 28) dX12_common_50 (by decide) ?_
    exact k_sub [1, 0] rfl (hk28 l6 v1 h)
theorem Q_X12_common_28 {q : eT} {r0 : Int64} {h0 : eH} (hq : e_B q yX12_common.cls cX12_common 10 0 0 (some .long) yX12_common.name) (he : e_E q) (N : Nat) (l4 : Int64) (l6 : Int64) (h : eH) : e_K eL q r0 h0 28 [(4, .long l4), (6, .long l6)] [] h (L_X12_common_28 N l4 l6 h) :=
  k_loop (mk := (fun s => [(4, .long s.1), (6, .long s.2.1)])) (hp := fun s => s.2.2) (fun k hk s => P_X12_common_28b hq he N (fun l4 l6 h => k (l4, l6, h)) (fun l4 l6 h => hk (l4, l6, h)) s.1 s.2.1 s.2.2) N (l4, l6, h)
set_option maxRecDepth 100000 in
set_option maxHeartbeats 4000000 in
theorem P_X12_common_26 {q : eT} {r0 : Int64} {h0 : eH} (hq : e_B q yX12_common.cls cX12_common 10 0 0 (some .long) yX12_common.name) (he : e_E q) (N : Nat) (l4 : Int64) (s0 : Int64) (h : eH) : e_K eL q r0 h0 26 [(4, .long l4)] [.long s0] h (F_X12_common_26 N l4 s0 h) := by
  unfold F_X12_common_26
  refine k_lstore hq dX12_common_26 (by decide) (ls' := [(6, .long s0), (4, .long l4)]) rfl ?_
  exact k_sub [1, 0] rfl (Q_X12_common_28 hq he N l4 s0 h)
set_option maxRecDepth 100000 in
set_option maxHeartbeats 4000000 in
theorem P_X12_common_12 {q : eT} {r0 : Int64} {h0 : eH} (hq : e_B q yX12_common.cls cX12_common 10 0 0 (some .long) yX12_common.name) (he : e_E q) (N : Nat) (l2 : Int64) (s0 : Int64) (h : eH) : e_K eL q r0 h0 12 [(2, .long l2)] [.long s0] h (F_X12_common_12 N l2 s0 h) := by
  unfold F_X12_common_12
  refine k_lstore hq dX12_common_12 (by decide) (ls' := [(4, .long s0), (2, .long l2)]) rfl ?_
  refine k_lload_n hq dX12_common_14 1 rfl ?_
  refine k_lconst hq dX12_common_15 (v := 0) rfl ?_
  refine k_lcmp hq dX12_common_16 ?_
  refine k_if_le hq (tgt := 25) dX12_common_17 (by decide) (fun _ => ?_) (fun _ => ?_)
  · refine k_lload_n hq dX12_common_25 1 rfl ?_
    exact k_sub [0] rfl (P_X12_common_26 hq he N s0 l2 h)
  · refine k_lload_n hq dX12_common_20 1 rfl ?_
    refine k_lneg hq dX12_common_21 ?_
    refine k_goto hq (tgt := 26) dX12_common_22 (by decide) ?_
    exact k_sub [0] rfl (P_X12_common_26 hq he N s0 (-l2) h)
set_option maxRecDepth 100000 in
set_option maxHeartbeats 4000000 in
theorem P_X12_common_0 {q : eT} {r0 : Int64} {h0 : eH} (hq : e_B q yX12_common.cls cX12_common 10 0 0 (some .long) yX12_common.name) (he : e_E q) (N : Nat) (l0 : Int64) (l2 : Int64) (h : eH) : e_K eL q r0 h0 0 [(0, .long l0), (2, .long l2)] [] h (F_X12_common N l0 l2 h) := by
  unfold F_X12_common
  refine k_lload_n hq dX12_common_0 0 rfl ?_
  refine k_lconst hq dX12_common_1 (v := 0) rfl ?_
  refine k_lcmp hq dX12_common_2 ?_
  refine k_if_le hq (tgt := 11) dX12_common_3 (by decide) (fun _ => ?_) (fun _ => ?_)
  · refine k_lload_n hq dX12_common_11 0 rfl ?_
    exact k_sub [1] rfl (P_X12_common_12 hq he N l2 l0 h)
  · refine k_lload_n hq dX12_common_6 0 rfl ?_
    refine k_lneg hq dX12_common_7 ?_
    refine k_goto hq (tgt := 12) dX12_common_8 (by decide) ?_
    exact k_sub [1] rfl (P_X12_common_12 hq he N l2 (-l0) h)
theorem con_X12_common (l : Launch) (G : eG) (B0 n : Nat) (N : Nat) (l0 : Int64) (l2 : Int64) : e_C eL l G B0 n yX12_common cX12_common 10 (some .long) 0 0 [.long l0, .long l2] (F_X12_common N l0 l2) := by
  refine e_mk (by decide) (Nat.le_of_ble_eq_true rfl) fun q r0 h0 h hq he e1 e2 e3 e4 => ?_
  subst e1; subst e2; subst e3; subst e4
  exact P_X12_common_0 hq he N l0 l2 h
set_option maxRecDepth 100000 in
set_option maxHeartbeats 4000000 in
theorem P_X12_joined_0 {q : eT} {r0 : Int64} {h0 : eH} (hq : e_B q yX12_joined.cls cX12_joined 7 1 29 (some .long) yX12_joined.name) (he : e_E q) (N : Nat) (l0 : Nat) (l1 : Int32) (l2 : Int32) (l3 : Int64) (l5 : Int64) (h : eH) : e_K eL q r0 h0 0 [(0, .ref l0), (1, .int l1), (2, .int l2), (3, .long l3), (5, .long l5)] [] h (F_X12_joined N l0 l1 l2 l3 l5 h) := by
  unfold F_X12_joined
  refine k_iload_n hq dX12_joined_0 2 rfl ?_
  refine k_ite (fun e0 => ?_) (fun n0 => ?_)
  · refine k_tableIn hq (tgt := 32) dX12_joined_1 (by rw [e0]; decide) (by rw [e0]; decide) (off := 31) (by rw [e0]; rfl) (by decide) ?_
    refine k_lload_n hq dX12_joined_32 3 rfl ?_
    refine k_lload hq dX12_joined_33 4 rfl ?_
    refine k_lcmp hq dX12_joined_35 ?_
    refine k_if_le hq (tgt := 43) dX12_joined_36 (by decide) (fun _ => ?_) (fun _ => ?_)
    · refine k_lload hq dX12_joined_43 4 rfl ?_
      exact k_lret hq dX12_joined_45 he
    · refine k_lload_n hq dX12_joined_39 3 rfl ?_
      refine k_goto hq (tgt := 45) dX12_joined_40 (by decide) ?_
      exact k_lret hq dX12_joined_45 he
  refine k_ite (fun e0 => ?_) (fun n1 => ?_)
  · refine k_tableIn hq (tgt := 46) dX12_joined_1 (by rw [e0]; decide) (by rw [e0]; decide) (off := 45) (by rw [e0]; rfl) (by decide) ?_
    refine k_lload_n hq dX12_joined_46 3 rfl ?_
    refine k_lload hq dX12_joined_47 4 rfl ?_
    refine k_lcmp hq dX12_joined_49 ?_
    refine k_if_ge hq (tgt := 57) dX12_joined_50 (by decide) (fun _ => ?_) (fun _ => ?_)
    · refine k_lload hq dX12_joined_57 4 rfl ?_
      exact k_lret hq dX12_joined_59 he
    · refine k_lload_n hq dX12_joined_53 3 rfl ?_
      refine k_goto hq (tgt := 59) dX12_joined_54 (by decide) ?_
      exact k_lret hq dX12_joined_59 he
  refine k_ite (fun e0 => ?_) (fun n2 => ?_)
  · refine k_tableIn hq (tgt := 60) dX12_joined_1 (by rw [e0]; decide) (by rw [e0]; decide) (off := 59) (by rw [e0]; rfl) (by decide) ?_
    refine k_aload_n hq dX12_joined_60 0 rfl ?_
    refine k_gr hq (C := RX12) (T := TX12) 11 4 rfl (by decide) (lay_X12 4 (by decide)) tw_931 dX12_joined_61 fun v1 => ?_
    refine k_iload_n hq dX12_joined_64 1 rfl ?_
    refine k_iald hq dX12_joined_65 fun v2 => ?_
    refine k_iconst hq dX12_joined_66 (v := 1) rfl ?_
    refine k_icmp_ne hq (tgt := 77) dX12_joined_67 (by decide) (fun _ => ?_) (fun _ => ?_)
    · refine k_lload_n hq dX12_joined_70 3 rfl ?_
      refine k_lload hq dX12_joined_71 4 rfl ?_
      refine k_lor hq dX12_joined_73 ?_
      refine k_goto hq (tgt := 84) dX12_joined_74 (by decide) ?_
      exact k_lret hq dX12_joined_84 he
    · refine k_aload_n hq dX12_joined_77 0 rfl ?_
      refine k_lload_n hq dX12_joined_78 3 rfl ?_
      refine k_lload hq dX12_joined_79 4 rfl ?_
      refine k_callV hq (na := 2) (As := [.long l3, .long l5]) (st := []) 11 (C := RX12) (T := TX12) rfl (con_X12_sum _ _ _ _ l0 l3 l5) tw_1166 tw_59 tw_1163 tw_1165 tw_37 ⟨by decide, by decide, by decide +kernel⟩ rfl (by decide) rfl (Nat.le_of_ble_eq_true rfl) dX12_joined_81 fun v3 h4 => ?_
      exact k_lret hq dX12_joined_84 he
  refine k_ite (fun e0 => ?_) (fun n3 => ?_)
  · refine k_tableIn hq (tgt := 85) dX12_joined_1 (by rw [e0]; decide) (by rw [e0]; decide) (off := 84) (by rw [e0]; rfl) (by decide) ?_
    refine k_aload_n hq dX12_joined_85 0 rfl ?_
    refine k_gr hq (C := RX12) (T := TX12) 11 4 rfl (by decide) (lay_X12 4 (by decide)) tw_931 dX12_joined_86 fun v5 => ?_
    refine k_iload_n hq dX12_joined_89 1 rfl ?_
    refine k_iald hq dX12_joined_90 fun v6 => ?_
    refine k_iconst hq dX12_joined_91 (v := 1) rfl ?_
    refine k_icmp_ne hq (tgt := 102) dX12_joined_92 (by decide) (fun _ => ?_) (fun _ => ?_)
    · refine k_lload_n hq dX12_joined_95 3 rfl ?_
      refine k_lload hq dX12_joined_96 4 rfl ?_
      refine k_land hq dX12_joined_98 ?_
      refine k_goto hq (tgt := 108) dX12_joined_99 (by decide) ?_
      exact k_lret hq dX12_joined_108 he
    · refine k_lload_n hq dX12_joined_102 3 rfl ?_
      refine k_lload hq dX12_joined_103 4 rfl ?_
      refine k_callS hq (na := 2) (As := [.long l3, .long l5]) (st := []) (con_X12_common _ _ _ _ N l3 l5) tw_1169 tw_59 tw_1167 tw_1168 ⟨by decide, by decide, by decide +kernel⟩ rfl (by decide) rfl (Nat.le_of_ble_eq_true rfl) dX12_joined_105 fun v7 h8 => ?_
      exact k_lret hq dX12_joined_108 he
  refine k_tableOut hq (tgt := 109) dX12_joined_1 (by have m0 := e_ne n0 (show (0 : Int32).toInt = 0 from rfl); have m1 := e_ne n1 (show (1 : Int32).toInt = 1 from rfl); have m2 := e_ne n2 (show (2 : Int32).toInt = 2 from rfl); have m3 := e_ne n3 (show (3 : Int32).toInt = 3 from rfl); omega) (by decide) ?_
  refine k_lload hq dX12_joined_109 4 rfl ?_
  exact k_lret hq dX12_joined_111 he
theorem con_X12_joined (l : Launch) (G : eG) (B0 n : Nat) (N : Nat) (l0 : Nat) (l1 : Int32) (l2 : Int32) (l3 : Int64) (l5 : Int64) : e_C eL l G B0 n yX12_joined cX12_joined 7 (some .long) 1 29 [.ref l0, .int l1, .int l2, .long l3, .long l5] (F_X12_joined N l0 l1 l2 l3 l5) := by
  refine e_mk (by decide) (Nat.le_of_ble_eq_true rfl) fun q r0 h0 h hq he e1 e2 e3 e4 => ?_
  subst e1; subst e2; subst e3; subst e4
  exact P_X12_joined_0 hq he N l0 l1 l2 l3 l5 h
set_option maxRecDepth 100000 in
set_option maxHeartbeats 4000000 in
theorem P_X12_ruleOf_2b {q : eT} {r0 : Int32} {h0 : eH} (hq : e_B q yX12_ruleOf.cls cX12_ruleOf 3 0 0 (some .int) yX12_ruleOf.name) (he : e_E q) (N : Nat) (k2 : Nat → Int32 → Int32 → eH → Option (Int32 × eH)) (hk2 : ∀ (l0 : Nat) (l1 : Int32) (l2 : Int32) h, e_K eI q r0 h0 2 [(0, .ref l0), (1, .int l1), (2, .int l2)] [] h (k2 l0 l1 l2 h)) (l0 : Nat) (l1 : Int32) (l2 : Int32) (h : eH) : e_K eI q r0 h0 2 [(0, .ref l0), (1, .int l1), (2, .int l2)] [] h (F_X12_ruleOf_2b N k2 l0 l1 l2 h) := by
  unfold F_X12_ruleOf_2b
  refine k_iload_n hq dX12_ruleOf_2 2 rfl ?_
  refine k_aload_n hq dX12_ruleOf_3 0 rfl ?_
  refine k_gi hq (C := RX12) (T := TX12) 11 21 rfl (by decide) (lay_X12 21 (by decide)) tw_948 dX12_ruleOf_4 fun v1 => ?_
  refine k_icmp_ge hq (tgt := 33) dX12_ruleOf_7 (by decide) (fun _ => ?_) (fun _ => ?_)
  · refine k_bipush hq dX12_ruleOf_33 (v := (-9)) rfl ?_
    exact k_iret hq dX12_ruleOf_35 he
  · refine k_aload_n hq dX12_ruleOf_10 0 rfl ?_
    refine k_gr hq (C := RX12) (T := TX12) 11 22 rfl (by decide) (lay_X12 22 (by decide)) tw_949 dX12_ruleOf_11 fun v2 => ?_
    refine k_iload_n hq dX12_ruleOf_14 2 rfl ?_
    refine k_iald hq dX12_ruleOf_15 fun v3 => ?_
    refine k_iload_n hq dX12_ruleOf_16 1 rfl ?_
    refine k_icmp_ne hq (tgt := 27) dX12_ruleOf_17 (by decide) (fun _ => ?_) (fun _ => ?_)
    · refine k_aload_n hq dX12_ruleOf_20 0 rfl ?_
      refine k_gr hq (C := RX12) (T := TX12) 11 23 rfl (by decide) (lay_X12 23 (by decide)) tw_950 dX12_ruleOf_21 fun v4 => ?_
      refine k_iload_n hq dX12_ruleOf_24 2 rfl ?_
      refine k_iald hq dX12_ruleOf_25 fun v5 => ?_
      exact k_iret hq dX12_ruleOf_26 he
    · refine k_iinc hq dX12_ruleOf_27 2 rfl (v := l2 + 1) rfl (by decide) (ls' := [(2, .int (l2 + 1)), (0, .ref l0), (1, .int l1)]) rfl ?_
      refine k_goto hq (tgt := 2) dX12_ruleOf_30 (by decide) ?_
      exact k_sub [1, 2, 0] rfl (hk2 l0 l1 (l2 + 1) h)
theorem Q_X12_ruleOf_2 {q : eT} {r0 : Int32} {h0 : eH} (hq : e_B q yX12_ruleOf.cls cX12_ruleOf 3 0 0 (some .int) yX12_ruleOf.name) (he : e_E q) (N : Nat) (l0 : Nat) (l1 : Int32) (l2 : Int32) (h : eH) : e_K eI q r0 h0 2 [(0, .ref l0), (1, .int l1), (2, .int l2)] [] h (L_X12_ruleOf_2 N l0 l1 l2 h) :=
  k_loop (mk := (fun s => [(0, .ref s.1), (1, .int s.2.1), (2, .int s.2.2.1)])) (hp := fun s => s.2.2.2) (fun k hk s => P_X12_ruleOf_2b hq he N (fun l0 l1 l2 h => k (l0, l1, l2, h)) (fun l0 l1 l2 h => hk (l0, l1, l2, h)) s.1 s.2.1 s.2.2.1 s.2.2.2) N (l0, l1, l2, h)
set_option maxRecDepth 100000 in
set_option maxHeartbeats 4000000 in
theorem P_X12_ruleOf_0 {q : eT} {r0 : Int32} {h0 : eH} (hq : e_B q yX12_ruleOf.cls cX12_ruleOf 3 0 0 (some .int) yX12_ruleOf.name) (he : e_E q) (N : Nat) (l0 : Nat) (l1 : Int32) (h : eH) : e_K eI q r0 h0 0 [(0, .ref l0), (1, .int l1)] [] h (F_X12_ruleOf N l0 l1 h) := by
  unfold F_X12_ruleOf
  refine k_iconst hq dX12_ruleOf_0 (v := 0) rfl ?_
  refine k_istore_n hq dX12_ruleOf_1 rfl (by decide) (ls' := [(2, .int 0), (0, .ref l0), (1, .int l1)]) rfl ?_
  exact k_sub [1, 2, 0] rfl (Q_X12_ruleOf_2 hq he N l0 l1 0 h)
theorem con_X12_ruleOf (l : Launch) (G : eG) (B0 n : Nat) (N : Nat) (l0 : Nat) (l1 : Int32) : e_C eI l G B0 n yX12_ruleOf cX12_ruleOf 3 (some .int) 0 0 [.ref l0, .int l1] (F_X12_ruleOf N l0 l1) := by
  refine e_mk (by decide) (Nat.le_of_ble_eq_true rfl) fun q r0 h0 h hq he e1 e2 e3 e4 => ?_
  subst e1; subst e2; subst e3; subst e4
  exact P_X12_ruleOf_0 hq he N l0 l1 h
