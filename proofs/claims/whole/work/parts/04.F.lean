/-! what each method does, as a function (printed by wip/whole/mkmeth.py out of the bytecode) -/
def F_X0_init (l0 : Nat) (h : eH) : Option (Unit × eH) :=
  (h_p h 0 l0 0 (.int (-1))).bind fun h1 => some ((), h1)
def F_X0_isBlind (l0 : Nat) (h : eH) : Option (Int32 × eH) :=
  (h_gi h 0 l0 0).bind fun v1 => if v1 = (-1) then ((h_z 1).bind fun z => some (z, h)) else ((h_z 0).bind fun z => some (z, h))
def F_X0_becomeBlind (l0 : Nat) (h : eH) : Option (Unit × eH) :=
  (h_p h 0 l0 0 (.int (-1))).bind fun h1 => (h_p h1 0 l0 1 (.int 0)).bind fun h2 => (h_p h2 0 l0 2 (.int 0)).bind fun h3 => some ((), h3)
def F_X1_of (l0 : Int32) (l1 : Int32) (h : eH) : Option (Int32 × eH) :=
  some ((((l0 * 40) + l1) - 1), h)
def F_X1_siteOf (l0 : Int32) (h : eH) : Option (Int32 × eH) :=
  some ((l0 / 40), h)
def F_X1_numberOf (l0 : Int32) (h : eH) : Option (Int32 × eH) :=
  some (((l0 - l0 / 40 * 40) + 1), h)
def F_X1_isDot (l0 : Int32) (h : eH) : Option (Int32 × eH) :=
  if l0 < 0 then ((h_z 0).bind fun z => some (z, h)) else (if (160 : Int32) ≤ l0 then ((h_z 0).bind fun z => some (z, h)) else ((h_z 1).bind fun z => some (z, h)))
def F_X9_number (l0 : Int32) (l1 : Int32) (h : eH) : Option (Int32 × eH) :=
  some ((((l0.toUInt32 >>> ((8 * l1).toUInt32 &&& Int32.toUInt32 31)).toInt32) &&& 255), h)
def F_X1_covered (l0 : Int32) (l1 : Int32) (h : eH) : Option (Int64 × eH) :=
  e_bind (F_X9_number l0 l1 h) fun v1 h2 => some ((((1 : Int64) <<< (v1.toInt64 &&& 63)) - 1), h2)
def F_X1_bitOf (l0 : Int32) (h : eH) : Option (Int64 × eH) :=
  e_bind (F_X1_numberOf l0 h) fun v1 h2 => some (((1 : Int64) <<< ((v1 - 1).toInt64 &&& 63)), h2)
def F_X1_has (l0 : Nat) (l1 : Int32) (h : eH) : Option (Int32 × eH) :=
  e_bind (F_X1_isDot l1 h) fun v1 h2 => if v1 = 0 then ((h_z 0).bind fun z => some (z, h2)) else ((h_gr h2 1 l0 0).bind fun v3 => e_bind (F_X1_siteOf l1 h2) fun v4 h5 => (h_al64 h5 v3 v4).bind fun v6 => e_bind (F_X1_bitOf l1 h5) fun v7 h8 => if (lg_cmp (v6 &&& v7) 0) = 0 then ((h_z 0).bind fun z => some (z, h8)) else ((h_z 1).bind fun z => some (z, h8)))
def F_X1_add (l0 : Nat) (l1 : Int32) (h : eH) : Option (Unit × eH) :=
  e_bind (F_X1_isDot l1 h) fun v1 h2 => if v1 = 0 then (some ((), h2)) else ((h_gr h2 1 l0 0).bind fun v3 => e_bind (F_X1_siteOf l1 h2) fun v4 h5 => (h_al64 h5 v3 v4).bind fun v6 => e_bind (F_X1_bitOf l1 h5) fun v7 h8 => (h_sl h8 v3 v4 (v6 ||| v7)).bind fun h9 => some ((), h9))
def F_X1_remove (l0 : Nat) (l1 : Int32) (h : eH) : Option (Unit × eH) :=
  e_bind (F_X1_isDot l1 h) fun v1 h2 => if v1 = 0 then (some ((), h2)) else ((h_gr h2 1 l0 0).bind fun v3 => e_bind (F_X1_siteOf l1 h2) fun v4 h5 => (h_al64 h5 v3 v4).bind fun v6 => e_bind (F_X1_bitOf l1 h5) fun v7 h8 => (h_sl h8 v3 v4 (v6 &&& (v7 ^^^ (-1)))).bind fun h9 => some ((), h9))
def F_X1_empty_2b (N : Nat) (k2 : Nat → Int32 → eH → Option (Unit × eH)) (l0 : Nat) (l1 : Int32) (h : eH) : Option (Unit × eH) :=
  if (4 : Int32) ≤ l1 then (some ((), h)) else ((h_gr h 1 l0 0).bind fun v1 => (h_sl h v1 l1 0).bind fun h2 => k2 l0 (l1 + 1) h2)
def L_X1_empty_2 (N : Nat) (l0 : Nat) (l1 : Int32) (h : eH) : Option (Unit × eH) :=
  e_loop (σ := Nat × Int32 × eH) (fun k s => F_X1_empty_2b N (fun l0 l1 h => k (l0, l1, h)) s.1 s.2.1 s.2.2) N (l0, l1, h)
def F_X1_empty (N : Nat) (l0 : Nat) (h : eH) : Option (Unit × eH) :=
  L_X1_empty_2 N l0 0 h
def F_J13_bitCount_95d88 (l0 : Int64) (h : eH) : Option (Int32 × eH) :=
  e_let (l0 - (((l0.toUInt64 >>> ((1 : Int32).toInt64.toUInt64 &&& Int64.toUInt64 63)).toInt64) &&& 6148914691236517205)) fun v1 => e_let ((v1 &&& 3689348814741910323) + (((v1.toUInt64 >>> ((2 : Int32).toInt64.toUInt64 &&& Int64.toUInt64 63)).toInt64) &&& 3689348814741910323)) fun v2 => e_let ((v2 + ((v2.toUInt64 >>> ((4 : Int32).toInt64.toUInt64 &&& Int64.toUInt64 63)).toInt64)) &&& 1085102592571150095) fun v3 => e_let (v3 + ((v3.toUInt64 >>> ((8 : Int32).toInt64.toUInt64 &&& Int64.toUInt64 63)).toInt64)) fun v4 => e_let (v4 + ((v4.toUInt64 >>> ((16 : Int32).toInt64.toUInt64 &&& Int64.toUInt64 63)).toInt64)) fun v5 => e_let (v5 + ((v5.toUInt64 >>> ((32 : Int32).toInt64.toUInt64 &&& Int64.toUInt64 63)).toInt64)) fun v6 => some (((v6.toInt32) &&& 127), h)
def F_X1_size_4b (N : Nat) (k4 : Nat → Int32 → Int32 → eH → Option (Int32 × eH)) (l0 : Nat) (l1 : Int32) (l2 : Int32) (h : eH) : Option (Int32 × eH) :=
  if (4 : Int32) ≤ l2 then (some (l1, h)) else ((h_gr h 1 l0 0).bind fun v1 => (h_al64 h v1 l2).bind fun v2 => e_bind (F_J13_bitCount_95d88 v2 h) fun v3 h4 => e_let (l1 + v3) fun v5 => k4 l0 v5 (l2 + 1) h4)
def L_X1_size_4 (N : Nat) (l0 : Nat) (l1 : Int32) (l2 : Int32) (h : eH) : Option (Int32 × eH) :=
  e_loop (σ := Nat × Int32 × Int32 × eH) (fun k s => F_X1_size_4b N (fun l0 l1 l2 h => k (l0, l1, l2, h)) s.1 s.2.1 s.2.2.1 s.2.2.2) N (l0, l1, l2, h)
def F_X1_size (N : Nat) (l0 : Nat) (h : eH) : Option (Int32 × eH) :=
  L_X1_size_4 N l0 0 0 h
def F_X1_at_29 (N : Nat) (k4 : Nat → Int32 → Int32 → Int32 → eH → Option (Int32 × eH)) (l0 : Nat) (l1 : Int32) (l2 : Int32) (l3 : Int32) (h : eH) : Option (Int32 × eH) :=
  k4 l0 l1 l2 (l3 + 1) h
def F_X1_at_4b (N : Nat) (k4 : Nat → Int32 → Int32 → Int32 → eH → Option (Int32 × eH)) (l0 : Nat) (l1 : Int32) (l2 : Int32) (l3 : Int32) (h : eH) : Option (Int32 × eH) :=
  if (160 : Int32) ≤ l3 then (some ((-1), h)) else ((h_is h 1 l0).bind fun _ => e_bind (F_X1_has l0 l3 h) fun v1 h2 => if v1 = 0 then (F_X1_at_29 N k4 l0 l1 l2 l3 h2) else (if l2 = l1 then (some (l3, h2)) else (F_X1_at_29 N k4 l0 l1 (l2 + 1) l3 h2)))
def L_X1_at_4 (N : Nat) (l0 : Nat) (l1 : Int32) (l2 : Int32) (l3 : Int32) (h : eH) : Option (Int32 × eH) :=
  e_loop (σ := Nat × Int32 × Int32 × Int32 × eH) (fun k s => F_X1_at_4b N (fun l0 l1 l2 l3 h => k (l0, l1, l2, l3, h)) s.1 s.2.1 s.2.2.1 s.2.2.2.1 s.2.2.2.2) N (l0, l1, l2, l3, h)
def F_X1_at (N : Nat) (l0 : Nat) (l1 : Int32) (h : eH) : Option (Int32 × eH) :=
  L_X1_at_4 N l0 l1 0 0 h
def F_X1_isSame_2b (N : Nat) (k2 : Nat → Nat → Int32 → eH → Option (Int32 × eH)) (l0 : Nat) (l1 : Nat) (l2 : Int32) (h : eH) : Option (Int32 × eH) :=
  if (4 : Int32) ≤ l2 then ((h_z 1).bind fun z => some (z, h)) else ((h_gr h 1 l0 0).bind fun v1 => (h_al64 h v1 l2).bind fun v2 => (h_gr h 1 l1 0).bind fun v3 => (h_al64 h v3 l2).bind fun v4 => if (lg_cmp v2 v4) = 0 then (k2 l0 l1 (l2 + 1) h) else ((h_z 0).bind fun z => some (z, h)))
def L_X1_isSame_2 (N : Nat) (l0 : Nat) (l1 : Nat) (l2 : Int32) (h : eH) : Option (Int32 × eH) :=
  e_loop (σ := Nat × Nat × Int32 × eH) (fun k s => F_X1_isSame_2b N (fun l0 l1 l2 h => k (l0, l1, l2, h)) s.1 s.2.1 s.2.2.1 s.2.2.2) N (l0, l1, l2, h)
def F_X1_isSame (N : Nat) (l0 : Nat) (l1 : Nat) (h : eH) : Option (Int32 × eH) :=
  L_X1_isSame_2 N l0 l1 0 h
def F_X1_addAll_2b (N : Nat) (k2 : Nat → Nat → Int32 → eH → Option (Unit × eH)) (l0 : Nat) (l1 : Nat) (l2 : Int32) (h : eH) : Option (Unit × eH) :=
  if (4 : Int32) ≤ l2 then (some ((), h)) else ((h_gr h 1 l0 0).bind fun v1 => (h_al64 h v1 l2).bind fun v2 => (h_gr h 1 l1 0).bind fun v3 => (h_al64 h v3 l2).bind fun v4 => (h_sl h v1 l2 (v2 ||| v4)).bind fun h5 => k2 l0 l1 (l2 + 1) h5)
def L_X1_addAll_2 (N : Nat) (l0 : Nat) (l1 : Nat) (l2 : Int32) (h : eH) : Option (Unit × eH) :=
  e_loop (σ := Nat × Nat × Int32 × eH) (fun k s => F_X1_addAll_2b N (fun l0 l1 l2 h => k (l0, l1, l2, h)) s.1 s.2.1 s.2.2.1 s.2.2.2) N (l0, l1, l2, h)
def F_X1_addAll (N : Nat) (l0 : Nat) (l1 : Nat) (h : eH) : Option (Unit × eH) :=
  L_X1_addAll_2 N l0 l1 0 h
def F_X1_addCovered_2b (N : Nat) (k2 : Nat → Nat → Int32 → Int32 → eH → Option (Unit × eH)) (l0 : Nat) (l1 : Nat) (l2 : Int32) (l3 : Int32) (h : eH) : Option (Unit × eH) :=
  if (4 : Int32) ≤ l3 then (some ((), h)) else ((h_gr h 1 l0 0).bind fun v1 => (h_al64 h v1 l3).bind fun v2 => (h_gr h 1 l1 0).bind fun v3 => (h_al64 h v3 l3).bind fun v4 => e_bind (F_X1_covered l2 l3 h) fun v5 h6 => (h_sl h6 v1 l3 (v2 ||| (v4 &&& v5))).bind fun h7 => k2 l0 l1 l2 (l3 + 1) h7)
def L_X1_addCovered_2 (N : Nat) (l0 : Nat) (l1 : Nat) (l2 : Int32) (l3 : Int32) (h : eH) : Option (Unit × eH) :=
  e_loop (σ := Nat × Nat × Int32 × Int32 × eH) (fun k s => F_X1_addCovered_2b N (fun l0 l1 l2 l3 h => k (l0, l1, l2, l3, h)) s.1 s.2.1 s.2.2.1 s.2.2.2.1 s.2.2.2.2) N (l0, l1, l2, l3, h)
def F_X1_addCovered (N : Nat) (l0 : Nat) (l1 : Nat) (l2 : Int32) (h : eH) : Option (Unit × eH) :=
  L_X1_addCovered_2 N l0 l1 l2 0 h
def F_X1_removeCovered_2b (N : Nat) (k2 : Nat → Int32 → Int32 → eH → Option (Unit × eH)) (l0 : Nat) (l1 : Int32) (l2 : Int32) (h : eH) : Option (Unit × eH) :=
  if (4 : Int32) ≤ l2 then (some ((), h)) else ((h_gr h 1 l0 0).bind fun v1 => (h_al64 h v1 l2).bind fun v2 => e_bind (F_X1_covered l1 l2 h) fun v3 h4 => (h_sl h4 v1 l2 (v2 &&& (v3 ^^^ (-1)))).bind fun h5 => k2 l0 l1 (l2 + 1) h5)
def L_X1_removeCovered_2 (N : Nat) (l0 : Nat) (l1 : Int32) (l2 : Int32) (h : eH) : Option (Unit × eH) :=
  e_loop (σ := Nat × Int32 × Int32 × eH) (fun k s => F_X1_removeCovered_2b N (fun l0 l1 l2 h => k (l0, l1, l2, h)) s.1 s.2.1 s.2.2.1 s.2.2.2) N (l0, l1, l2, h)
def F_X1_removeCovered (N : Nat) (l0 : Nat) (l1 : Int32) (h : eH) : Option (Unit × eH) :=
  L_X1_removeCovered_2 N l0 l1 0 h
def F_X1_coveredTotal_4b (N : Nat) (k4 : Nat → Int32 → Int32 → Int32 → eH → Option (Int32 × eH)) (l0 : Nat) (l1 : Int32) (l2 : Int32) (l3 : Int32) (h : eH) : Option (Int32 × eH) :=
  if (4 : Int32) ≤ l3 then (some (l2, h)) else ((h_gr h 1 l0 0).bind fun v1 => (h_al64 h v1 l3).bind fun v2 => e_bind (F_X1_covered l1 l3 h) fun v3 h4 => e_bind (F_J13_bitCount_95d88 (v2 &&& v3) h4) fun v5 h6 => e_let (l2 + v5) fun v7 => k4 l0 l1 v7 (l3 + 1) h6)
def L_X1_coveredTotal_4 (N : Nat) (l0 : Nat) (l1 : Int32) (l2 : Int32) (l3 : Int32) (h : eH) : Option (Int32 × eH) :=
  e_loop (σ := Nat × Int32 × Int32 × Int32 × eH) (fun k s => F_X1_coveredTotal_4b N (fun l0 l1 l2 l3 h => k (l0, l1, l2, l3, h)) s.1 s.2.1 s.2.2.1 s.2.2.2.1 s.2.2.2.2) N (l0, l1, l2, l3, h)
def F_X1_coveredTotal (N : Nat) (l0 : Nat) (l1 : Int32) (h : eH) : Option (Int32 × eH) :=
  L_X1_coveredTotal_4 N l0 l1 0 0 h
def F_X1_join_3b (N : Nat) (k3 : Nat → Int32 → Nat → Int32 → Int32 → eH → Option (Unit × eH)) (l0 : Nat) (l1 : Int32) (l2 : Nat) (l3 : Int32) (l4 : Int32) (h : eH) : Option (Unit × eH) :=
  if (4 : Int32) ≤ l4 then (some ((), h)) else ((h_gr h 1 l0 0).bind fun v1 => (h_al64 h v1 l4).bind fun v2 => (h_gr h 1 l2 0).bind fun v3 => (h_al64 h v3 l4).bind fun v4 => (h_gr h 1 l0 0).bind fun v5 => e_bind (F_X1_covered l3 l4 h) fun v6 h7 => e_bind (F_X1_covered l1 l4 h7) fun v8 h9 => (h_sl h9 v5 l4 (((v2 &&& v4) ||| (v2 &&& (v6 ^^^ (-1)))) ||| (v4 &&& (v8 ^^^ (-1))))).bind fun h10 => k3 l0 l1 l2 l3 (l4 + 1) h10)
def L_X1_join_3 (N : Nat) (l0 : Nat) (l1 : Int32) (l2 : Nat) (l3 : Int32) (l4 : Int32) (h : eH) : Option (Unit × eH) :=
  e_loop (σ := Nat × Int32 × Nat × Int32 × Int32 × eH) (fun k s => F_X1_join_3b N (fun l0 l1 l2 l3 l4 h => k (l0, l1, l2, l3, l4, h)) s.1 s.2.1 s.2.2.1 s.2.2.2.1 s.2.2.2.2.1 s.2.2.2.2.2) N (l0, l1, l2, l3, l4, h)
def F_X1_join (N : Nat) (l0 : Nat) (l1 : Int32) (l2 : Nat) (l3 : Int32) (h : eH) : Option (Unit × eH) :=
  L_X1_join_3 N l0 l1 l2 l3 0 h
def F_X1_gone (l0 : Nat) (l1 : Int32) (l2 : Int32) (h : eH) : Option (Int64 × eH) :=
  if l2 < 0 then (some (0, h)) else ((h_gr h 1 l0 0).bind fun v1 => (h_len h v1).bind fun v2 => if v2 ≤ l2 then (some (0, h)) else (e_bind (F_X1_covered l1 l2 h) fun v3 h4 => (h_gr h4 1 l0 0).bind fun v5 => (h_al64 h4 v5 l2).bind fun v6 => some ((v3 &&& (v6 ^^^ (-1))), h4)))
def F_X4_replicaOf (l0 : Nat) (l1 : Int32) (h : eH) : Option (Option Nat × eH) :=
  if l1 < 0 then (some (none, h)) else ((h_gr h 4 l0 1).bind fun v1 => (h_len h v1).bind fun v2 => if v2 ≤ l1 then (some (none, h)) else ((h_gr h 4 l0 1).bind fun v3 => (h_ar h 4 v3 l1).bind fun v4 => some (some v4, h)))
def F_X8_covered (l0 : Nat) (l1 : Int32) (h : eH) : Option (Int64 × eH) :=
  (h_gi h 8 l0 3).bind fun v1 => e_bind (F_X1_covered v1 l1 h) fun v2 h3 => some (v2, h3)
def F_X8_gone (l0 : Nat) (l1 : Int32) (h : eH) : Option (Int64 × eH) :=
  (h_gr h 8 l0 2).bind fun v1 => (h_gi h 8 l0 3).bind fun v2 => (h_is h 1 v1).bind fun _ => e_bind (F_X1_gone v1 v2 l1 h) fun v3 h4 => some (v3, h4)
def F_X4_isWithin_82 (N : Nat) (k9 : Nat → Int32 → Option Nat → Int32 → eH → Option (Int32 × eH)) (k28 : Nat → Int32 → Nat → Int32 → Int64 → Int64 → Int32 → eH → Option (Int32 × eH)) (l0 : Nat) (l2 : Int32) (l3 : Nat) (l4 : Int32) (l5 : Int64) (l7 : Int64) (l9 : Int32) (h : eH) : Option (Int32 × eH) :=
  k28 l0 l2 l3 l4 l5 l7 (l9 + 1) h
def F_X4_isWithin_28b (N : Nat) (k9 : Nat → Int32 → Option Nat → Int32 → eH → Option (Int32 × eH)) (k28 : Nat → Int32 → Nat → Int32 → Int64 → Int64 → Int32 → eH → Option (Int32 × eH)) (l0 : Nat) (l2 : Int32) (l3 : Nat) (l4 : Int32) (l5 : Int64) (l7 : Int64) (l9 : Int32) (h : eH) : Option (Int32 × eH) :=
  (h_gr h 4 l0 1).bind fun v1 => (h_len h v1).bind fun v2 => if v2 ≤ l9 then ((h_is h 8 l3).bind fun _ => e_bind (F_X8_covered l3 l4 h) fun v3 h4 => if (lg_cmp (v3 &&& (l5 ^^^ (-1))) 0) = 0 then ((h_is h4 8 l3).bind fun _ => e_bind (F_X8_gone l3 l4 h4) fun v5 h6 => if (lg_cmp (v5 &&& (l7 ^^^ (-1))) 0) = 0 then (k9 l0 l2 (some l3) (l4 + 1) h6) else ((h_z 0).bind fun z => some (z, h6))) else ((h_z 0).bind fun z => some (z, h4))) else (if ((l2 >>> (l9 &&& 31)) &&& 1) = 1 then ((h_gr h 4 l0 1).bind fun v7 => (h_ar h 4 v7 l9).bind fun v8 => (h_is h 8 v8).bind fun _ => e_bind (F_X8_covered v8 l4 h) fun v9 h10 => e_let (l5 ||| v9) fun v11 => (h_gr h10 4 l0 1).bind fun v12 => (h_ar h10 4 v12 l9).bind fun v13 => (h_is h10 8 v13).bind fun _ => e_bind (F_X8_gone v13 l4 h10) fun v14 h15 => e_let (l7 ||| v14) fun v16 => F_X4_isWithin_82 N k9 k28 l0 l2 l3 l4 v11 v16 l9 h15) else (F_X4_isWithin_82 N k9 k28 l0 l2 l3 l4 l5 l7 l9 h))
def L_X4_isWithin_28 (N : Nat) (k9 : Nat → Int32 → Option Nat → Int32 → eH → Option (Int32 × eH)) (l0 : Nat) (l2 : Int32) (l3 : Nat) (l4 : Int32) (l5 : Int64) (l7 : Int64) (l9 : Int32) (h : eH) : Option (Int32 × eH) :=
  e_loop (σ := Nat × Int32 × Nat × Int32 × Int64 × Int64 × Int32 × eH) (fun k s => F_X4_isWithin_28b N k9 (fun l0 l2 l3 l4 l5 l7 l9 h => k (l0, l2, l3, l4, l5, l7, l9, h)) s.1 s.2.1 s.2.2.1 s.2.2.2.1 s.2.2.2.2.1 s.2.2.2.2.2.1 s.2.2.2.2.2.2.1 s.2.2.2.2.2.2.2) N (l0, l2, l3, l4, l5, l7, l9, h)
def F_X4_isWithin_9b (N : Nat) (k9 : Nat → Int32 → Option Nat → Int32 → eH → Option (Int32 × eH)) (l0 : Nat) (l2 : Int32) (l3 : Option Nat) (l4 : Int32) (h : eH) : Option (Int32 × eH) :=
  l3.elim ((h_z 1).bind fun z => some (z, h)) fun r1 => if (4 : Int32) ≤ l4 then ((h_z 1).bind fun z => some (z, h)) else (L_X4_isWithin_28 N k9 l0 l2 r1 l4 0 0 0 h)
def L_X4_isWithin_9 (N : Nat) (l0 : Nat) (l2 : Int32) (l3 : Option Nat) (l4 : Int32) (h : eH) : Option (Int32 × eH) :=
  e_loop (σ := Nat × Int32 × (Option Nat) × Int32 × eH) (fun k s => F_X4_isWithin_9b N (fun l0 l2 l3 l4 h => k (l0, l2, l3, l4, h)) s.1 s.2.1 s.2.2.1 s.2.2.2.1 s.2.2.2.2) N (l0, l2, l3, l4, h)
def F_X4_isWithin (N : Nat) (l0 : Nat) (l1 : Int32) (l2 : Int32) (h : eH) : Option (Int32 × eH) :=
  (h_is h 4 l0).bind fun _ => e_bind (F_X4_replicaOf l0 l1 h) fun v1 h2 => L_X4_isWithin_9 N l0 l2 v1 0 h2
def F_X11_bit (l0 : Int32) (h : eH) : Option (Int32 × eH) :=
  if l0 = 0 then (some (0, h)) else (some (1, h))
def F_X2_lookAt_31b (N : Nat) (k11 : Nat → Nat → Int32 → eH → Option (Unit × eH)) (k31 : Nat → Nat → Int32 → Int32 → eH → Option (Unit × eH)) (l0 : Nat) (l1 : Nat) (l3 : Int32) (l4 : Int32) (h : eH) : Option (Unit × eH) :=
  (h_gi h 2 l0 1).bind fun v1 => if v1 ≤ l4 then (k11 l0 l1 (l3 + 1) h) else ((h_gr h 2 l0 0).bind fun v2 => (h_ai h 0 v2 l3).bind fun v3 => (h_is h 4 l1).bind fun _ => e_bind (F_X4_isWithin N l1 l4 l3 h) fun v4 h5 => e_bind (F_X11_bit v4 h5) fun v6 h7 => (h_si h7 0 v2 l3 (v3 ||| (v6 <<< (l4 &&& 31)))).bind fun h8 => k31 l0 l1 l3 (l4 + 1) h8)
def L_X2_lookAt_31 (N : Nat) (k11 : Nat → Nat → Int32 → eH → Option (Unit × eH)) (l0 : Nat) (l1 : Nat) (l3 : Int32) (l4 : Int32) (h : eH) : Option (Unit × eH) :=
  e_loop (σ := Nat × Nat × Int32 × Int32 × eH) (fun k s => F_X2_lookAt_31b N k11 (fun l0 l1 l3 l4 h => k (l0, l1, l3, l4, h)) s.1 s.2.1 s.2.2.1 s.2.2.2.1 s.2.2.2.2) N (l0, l1, l3, l4, h)
def F_X2_lookAt_81b (N : Nat) (k81 : Nat → Int32 → eH → Option (Unit × eH)) (l0 : Nat) (l3 : Int32) (h : eH) : Option (Unit × eH) :=
  (h_gi h 2 l0 1).bind fun v1 => if v1 ≤ l3 then (some ((), h)) else ((h_gi h 2 l0 2).bind fun v2 => (h_gr h 2 l0 0).bind fun v3 => (h_ai h 0 v3 (1 <<< (l3 &&& 31))).bind fun v4 => (h_p h 2 l0 2 (.int (v2 ||| (v4 <<< ((4 * l3) &&& 31))))).bind fun h5 => k81 l0 (l3 + 1) h5)
def L_X2_lookAt_81 (N : Nat) (l0 : Nat) (l3 : Int32) (h : eH) : Option (Unit × eH) :=
  e_loop (σ := Nat × Int32 × eH) (fun k s => F_X2_lookAt_81b N (fun l0 l3 h => k (l0, l3, h)) s.1 s.2.1 s.2.2) N (l0, l3, h)
def F_X2_lookAt_11b (N : Nat) (k11 : Nat → Nat → Int32 → eH → Option (Unit × eH)) (l0 : Nat) (l1 : Nat) (l3 : Int32) (h : eH) : Option (Unit × eH) :=
  (h_gi h 2 l0 1).bind fun v1 => if (1 <<< (v1 &&& 31)) ≤ l3 then ((h_p h 2 l0 2 (.int 0)).bind fun h2 => L_X2_lookAt_81 N l0 0 h2) else ((h_gr h 2 l0 0).bind fun v3 => (h_si h 0 v3 l3 0).bind fun h4 => L_X2_lookAt_31 N k11 l0 l1 l3 0 h4)
def L_X2_lookAt_11 (N : Nat) (l0 : Nat) (l1 : Nat) (l3 : Int32) (h : eH) : Option (Unit × eH) :=
  e_loop (σ := Nat × Nat × Int32 × eH) (fun k s => F_X2_lookAt_11b N (fun l0 l1 l3 h => k (l0, l1, l3, h)) s.1 s.2.1 s.2.2.1 s.2.2.2) N (l0, l1, l3, h)
def F_X2_lookAt (N : Nat) (l0 : Nat) (l1 : Nat) (l2 : Int32) (h : eH) : Option (Unit × eH) :=
  (h_p h 2 l0 1 (.int (e_min l2 4))).bind fun h1 => L_X2_lookAt_11 N l0 l1 0 h1
def F_X2_setOf (l0 : Int32) (l1 : Int32) (h : eH) : Option (Int32 × eH) :=
  some (((l0 >>> ((4 * l1) &&& 31)) &&& 15), h)
def F_X2_lackingSites_39 (N : Nat) (k14 : Nat → Int32 → Int32 → Int32 → Int32 → eH → Option (Int32 × eH)) (l0 : Nat) (l1 : Int32) (l2 : Int32) (l4 : Int32) (s0 : Int32) (s1 : Int32) (h : eH) : Option (Int32 × eH) :=
  e_bind (F_X11_bit s1 h) fun v1 h2 => e_let (s0 + v1) fun v3 => k14 l0 l1 l2 v3 (l4 + 1) h2
def F_X2_lackingSites_14b (N : Nat) (k14 : Nat → Int32 → Int32 → Int32 → Int32 → eH → Option (Int32 × eH)) (l0 : Nat) (l1 : Int32) (l2 : Int32) (l3 : Int32) (l4 : Int32) (h : eH) : Option (Int32 × eH) :=
  (h_gi h 2 l0 1).bind fun v1 => if v1 ≤ l4 then (some (l3, h)) else (e_bind (F_X2_setOf l1 l4 h) fun v2 h3 => if v2 = l2 then (F_X2_lackingSites_39 N k14 l0 l1 l2 l4 l3 0 h3) else (F_X2_lackingSites_39 N k14 l0 l1 l2 l4 l3 1 h3))
def L_X2_lackingSites_14 (N : Nat) (l0 : Nat) (l1 : Int32) (l2 : Int32) (l3 : Int32) (l4 : Int32) (h : eH) : Option (Int32 × eH) :=
  e_loop (σ := Nat × Int32 × Int32 × Int32 × Int32 × eH) (fun k s => F_X2_lackingSites_14b N (fun l0 l1 l2 l3 l4 h => k (l0, l1, l2, l3, l4, h)) s.1 s.2.1 s.2.2.1 s.2.2.2.1 s.2.2.2.2.1 s.2.2.2.2.2) N (l0, l1, l2, l3, l4, h)
def F_X2_lackingSites (N : Nat) (l0 : Nat) (l1 : Int32) (h : eH) : Option (Int32 × eH) :=
  (h_gi h 2 l0 1).bind fun v1 => e_let ((1 <<< (v1 &&& 31)) - 1) fun v2 => L_X2_lackingSites_14 N l0 l1 v2 0 0 h
def F_X2_afterSending (l0 : Nat) (l1 : Int32) (l2 : Int32) (l3 : Int32) (h : eH) : Option (Int32 × eH) :=
  (h_gr h 2 l0 0).bind fun v1 => e_bind (F_X2_setOf l1 l2 h) fun v2 h3 => e_bind (F_X2_setOf l1 l3 h3) fun v4 h5 => (h_ai h5 0 v1 (v2 ||| v4)).bind fun v6 => some (((l1 &&& ((15 <<< ((4 * l3) &&& 31)) ^^^ (-1))) ||| (v6 <<< ((4 * l3) &&& 31))), h5)
def F_X2_isEnough_15 (N : Nat) (rec : Nat → Int32 → Int32 → eH → Option (Int32 × eH)) (l3 : Int32) (h : eH) : Option (Int32 × eH) :=
  if l3 = 0 then ((h_z 1).bind fun z => some (z, h)) else ((h_z 0).bind fun z => some (z, h))
def F_X2_isEnough_80 (N : Nat) (rec : Nat → Int32 → Int32 → eH → Option (Int32 × eH)) (k28 : Nat → Int32 → Int32 → Int32 → eH → Option (Int32 × eH)) (k40 : Nat → Int32 → Int32 → Int32 → Int32 → eH → Option (Int32 × eH)) (l0 : Nat) (l1 : Int32) (l2 : Int32) (l4 : Int32) (l5 : Int32) (h : eH) : Option (Int32 × eH) :=
  k40 l0 l1 l2 l4 (l5 + 1) h
def F_X2_isEnough_40b (N : Nat) (rec : Nat → Int32 → Int32 → eH → Option (Int32 × eH)) (k28 : Nat → Int32 → Int32 → Int32 → eH → Option (Int32 × eH)) (k40 : Nat → Int32 → Int32 → Int32 → Int32 → eH → Option (Int32 × eH)) (l0 : Nat) (l1 : Int32) (l2 : Int32) (l4 : Int32) (l5 : Int32) (h : eH) : Option (Int32 × eH) :=
  (h_gi h 2 l0 1).bind fun v1 => if v1 ≤ l5 then (k28 l0 l1 l2 (l4 + 1) h) else ((h_is h 2 l0).bind fun _ => e_bind (F_X2_afterSending l0 l1 l4 l5 h) fun v2 h3 => if v2 = l1 then (F_X2_isEnough_80 N rec k28 k40 l0 l1 l2 l4 l5 h3) else (e_bind (rec l0 v2 (l2 - 1) h3) fun v4 h5 => if v4 = 0 then (F_X2_isEnough_80 N rec k28 k40 l0 l1 l2 l4 l5 h5) else ((h_z 1).bind fun z => some (z, h5))))
def L_X2_isEnough_40 (N : Nat) (rec : Nat → Int32 → Int32 → eH → Option (Int32 × eH)) (k28 : Nat → Int32 → Int32 → Int32 → eH → Option (Int32 × eH)) (l0 : Nat) (l1 : Int32) (l2 : Int32) (l4 : Int32) (l5 : Int32) (h : eH) : Option (Int32 × eH) :=
  e_loop (σ := Nat × Int32 × Int32 × Int32 × Int32 × eH) (fun k s => F_X2_isEnough_40b N rec k28 (fun l0 l1 l2 l4 l5 h => k (l0, l1, l2, l4, l5, h)) s.1 s.2.1 s.2.2.1 s.2.2.2.1 s.2.2.2.2.1 s.2.2.2.2.2) N (l0, l1, l2, l4, l5, h)
def F_X2_isEnough_28b (N : Nat) (rec : Nat → Int32 → Int32 → eH → Option (Int32 × eH)) (k28 : Nat → Int32 → Int32 → Int32 → eH → Option (Int32 × eH)) (l0 : Nat) (l1 : Int32) (l2 : Int32) (l4 : Int32) (h : eH) : Option (Int32 × eH) :=
  (h_gi h 2 l0 1).bind fun v1 => if v1 ≤ l4 then ((h_z 0).bind fun z => some (z, h)) else (L_X2_isEnough_40 N rec k28 l0 l1 l2 l4 0 h)
def L_X2_isEnough_28 (N : Nat) (rec : Nat → Int32 → Int32 → eH → Option (Int32 × eH)) (l0 : Nat) (l1 : Int32) (l2 : Int32) (l4 : Int32) (h : eH) : Option (Int32 × eH) :=
  e_loop (σ := Nat × Int32 × Int32 × Int32 × eH) (fun k s => F_X2_isEnough_28b N rec (fun l0 l1 l2 l4 h => k (l0, l1, l2, l4, h)) s.1 s.2.1 s.2.2.1 s.2.2.2.1 s.2.2.2.2) N (l0, l1, l2, l4, h)
def F_X2_isEnough_b (N : Nat) (rec : Nat → Int32 → Int32 → eH → Option (Int32 × eH)) (l0 : Nat) (l1 : Int32) (l2 : Int32) (h : eH) : Option (Int32 × eH) :=
  (h_is h 2 l0).bind fun _ => e_bind (F_X2_lackingSites N l0 l1 h) fun v1 h2 => if v1 = 0 then (F_X2_isEnough_15 N rec v1 h2) else (if v1 ≤ l2 then (L_X2_isEnough_28 N rec l0 l1 l2 0 h2) else (F_X2_isEnough_15 N rec v1 h2))
def F_X2_isEnough (N : Nat) : Nat → Nat → Int32 → Int32 → eH → Option (Int32 × eH)
  | 0 => fun _ _ _ _ => none
  | d + 1 => F_X2_isEnough_b N (F_X2_isEnough N d)
def F_X2_isEnough8 (N : Nat) (l0 : Nat) (l1 : Int32) (l2 : Int32) (h : eH) : Option (Int32 × eH) := F_X2_isEnough N 8 l0 l1 l2 h
def F_X2_fewest_11b (N : Nat) (k11 : Nat → Int32 → Int32 → eH → Option (Int32 × eH)) (l0 : Nat) (l1 : Int32) (l2 : Int32) (h : eH) : Option (Int32 × eH) :=
  if l1 ≤ l2 then (some (l1, h)) else ((h_gi h 2 l0 2).bind fun v1 => e_bind (F_X2_isEnough8 N l0 v1 l2 h) fun v2 h3 => if v2 = 0 then (k11 l0 l1 (l2 + 1) h3) else (some (l2, h3)))
def L_X2_fewest_11 (N : Nat) (l0 : Nat) (l1 : Int32) (l2 : Int32) (h : eH) : Option (Int32 × eH) :=
  e_loop (σ := Nat × Int32 × Int32 × eH) (fun k s => F_X2_fewest_11b N (fun l0 l1 l2 h => k (l0, l1, l2, h)) s.1 s.2.1 s.2.2.1 s.2.2.2) N (l0, l1, l2, h)
def F_X2_fewest (N : Nat) (l0 : Nat) (h : eH) : Option (Int32 × eH) :=
  (h_gi h 2 l0 1).bind fun v1 => e_let (2 * (v1 - 1)) fun v2 => L_X2_fewest_11 N l0 v2 0 h
def F_X2_firstOfFewest_72 (N : Nat) (k14 : Nat → Int32 → Int32 → eH → Option (Int32 × eH)) (k24 : Nat → Int32 → Int32 → Int32 → eH → Option (Int32 × eH)) (l0 : Nat) (l1 : Int32) (l2 : Int32) (l3 : Int32) (h : eH) : Option (Int32 × eH) :=
  k24 l0 l1 l2 (l3 + 1) h
def F_X2_firstOfFewest_24b (N : Nat) (k14 : Nat → Int32 → Int32 → eH → Option (Int32 × eH)) (k24 : Nat → Int32 → Int32 → Int32 → eH → Option (Int32 × eH)) (l0 : Nat) (l1 : Int32) (l2 : Int32) (l3 : Int32) (h : eH) : Option (Int32 × eH) :=
  (h_gi h 2 l0 1).bind fun v1 => if v1 ≤ l3 then (k14 l0 l1 (l2 + 1) h) else ((h_gi h 2 l0 2).bind fun v2 => (h_is h 2 l0).bind fun _ => e_bind (F_X2_afterSending l0 v2 l2 l3 h) fun v3 h4 => (h_gi h4 2 l0 2).bind fun v5 => if v3 = v5 then (F_X2_firstOfFewest_72 N k14 k24 l0 l1 l2 l3 h4) else (e_bind (F_X2_isEnough8 N l0 v3 (l1 - 1) h4) fun v6 h7 => if v6 = 0 then (F_X2_firstOfFewest_72 N k14 k24 l0 l1 l2 l3 h7) else (some (((10 * l2) + l3), h7))))
def L_X2_firstOfFewest_24 (N : Nat) (k14 : Nat → Int32 → Int32 → eH → Option (Int32 × eH)) (l0 : Nat) (l1 : Int32) (l2 : Int32) (l3 : Int32) (h : eH) : Option (Int32 × eH) :=
  e_loop (σ := Nat × Int32 × Int32 × Int32 × eH) (fun k s => F_X2_firstOfFewest_24b N k14 (fun l0 l1 l2 l3 h => k (l0, l1, l2, l3, h)) s.1 s.2.1 s.2.2.1 s.2.2.2.1 s.2.2.2.2) N (l0, l1, l2, l3, h)
def F_X2_firstOfFewest_14b (N : Nat) (k14 : Nat → Int32 → Int32 → eH → Option (Int32 × eH)) (l0 : Nat) (l1 : Int32) (l2 : Int32) (h : eH) : Option (Int32 × eH) :=
  (h_gi h 2 l0 1).bind fun v1 => if v1 ≤ l2 then (some ((-9), h)) else (L_X2_firstOfFewest_24 N k14 l0 l1 l2 0 h)
def L_X2_firstOfFewest_14 (N : Nat) (l0 : Nat) (l1 : Int32) (l2 : Int32) (h : eH) : Option (Int32 × eH) :=
  e_loop (σ := Nat × Int32 × Int32 × eH) (fun k s => F_X2_firstOfFewest_14b N (fun l0 l1 l2 h => k (l0, l1, l2, h)) s.1 s.2.1 s.2.2.1 s.2.2.2) N (l0, l1, l2, h)
def F_X2_firstOfFewest (N : Nat) (l0 : Nat) (h : eH) : Option (Int32 × eH) :=
  (h_is h 2 l0).bind fun _ => e_bind (F_X2_fewest N l0 h) fun v1 h2 => if v1 = 0 then (some ((-9), h2)) else (L_X2_firstOfFewest_14 N l0 v1 0 h2)
def F_X3_beginAnew (N : Nat) (l0 : Nat) (l1 : Int32) (h : eH) : Option (Unit × eH) :=
  (h_p h 3 l0 8 (.int l1)).bind fun h1 => (h_p h1 3 l0 9 (.int 0)).bind fun h2 => (h_p h2 3 l0 10 (.int 0)).bind fun h3 => (h_gr h3 3 l0 4).bind fun v4 => (h_is h3 1 v4).bind fun _ => e_bind (F_X1_empty N v4 h3) fun v5 h6 => (h_gr h6 3 l0 5).bind fun v7 => (h_is h6 1 v7).bind fun _ => e_bind (F_X1_empty N v7 h6) fun v8 h9 => (h_gr h9 3 l0 6).bind fun v10 => (h_is h9 1 v10).bind fun _ => e_bind (F_X1_empty N v10 h9) fun v11 h12 => (h_gr h12 3 l0 7).bind fun v13 => (h_is h12 1 v13).bind fun _ => e_bind (F_X1_empty N v13 h12) fun v14 h15 => some ((), h15)
def F_X3_has (l0 : Nat) (l1 : Int32) (h : eH) : Option (Int32 × eH) :=
  e_bind (F_X1_isDot l1 h) fun v1 h2 => if v1 = 0 then ((h_z 0).bind fun z => some (z, h2)) else ((h_gi h2 3 l0 9).bind fun v3 => e_bind (F_X1_siteOf l1 h2) fun v4 h5 => e_bind (F_X9_number v3 v4 h5) fun v6 h7 => e_bind (F_X1_numberOf l1 h7) fun v8 h9 => if v6 < v8 then ((h_z 0).bind fun z => some (z, h9)) else ((h_z 1).bind fun z => some (z, h9)))
def F_X9_with (l0 : Int32) (l1 : Int32) (l2 : Int32) (h : eH) : Option (Int32 × eH) :=
  some (((l0 &&& ((255 <<< ((8 * l1) &&& 31)) ^^^ (-1))) ||| (l2 <<< ((8 * l1) &&& 31))), h)
def F_X3_note (l0 : Nat) (l1 : Int32) (l2 : Int64) (l4 : Int32) (l5 : Int32) (l6 : Int32) (h : eH) : Option (Unit × eH) :=
  e_bind (F_X1_isDot l1 h) fun v1 h2 => if v1 = 0 then (some ((), h2)) else ((h_gr h2 3 l0 0).bind fun v3 => (h_sl h2 v3 l1 l2).bind fun h4 => (h_gr h4 3 l0 1).bind fun v5 => (h_si h4 0 v5 l1 l4).bind fun h6 => (h_gr h6 3 l0 2).bind fun v7 => (h_si h6 0 v7 l1 l5).bind fun h8 => (h_gr h8 3 l0 3).bind fun v9 => (h_si h8 0 v9 l1 l6).bind fun h10 => (h_gi h10 3 l0 9).bind fun v11 => e_bind (F_X1_siteOf l1 h10) fun v12 h13 => e_bind (F_X1_numberOf l1 h13) fun v14 h15 => e_bind (F_X9_with v11 v12 v14 h15) fun v16 h17 => (h_p h17 3 l0 9 (.int v16)).bind fun h18 => some ((), h18))
def F_X3_valueOf (l0 : Nat) (l1 : Int32) (h : eH) : Option (Int64 × eH) :=
  (h_is h 3 l0).bind fun _ => e_bind (F_X3_has l0 l1 h) fun v1 h2 => if v1 = 0 then (some (0, h2)) else ((h_gr h2 3 l0 0).bind fun v3 => (h_al64 h2 v3 l1).bind fun v4 => some (v4, h2))
def F_X3_stampOf (l0 : Nat) (l1 : Int32) (h : eH) : Option (Int32 × eH) :=
  (h_is h 3 l0).bind fun _ => e_bind (F_X3_has l0 l1 h) fun v1 h2 => if v1 = 0 then (some (0, h2)) else ((h_gr h2 3 l0 1).bind fun v3 => (h_ai h2 0 v3 l1).bind fun v4 => some (v4, h2))
def F_X3_toldOf (l0 : Nat) (l1 : Int32) (h : eH) : Option (Int32 × eH) :=
  (h_is h 3 l0).bind fun _ => e_bind (F_X3_has l0 l1 h) fun v1 h2 => if v1 = 0 then (some (0, h2)) else ((h_gr h2 3 l0 2).bind fun v3 => (h_ai h2 0 v3 l1).bind fun v4 => some (v4, h2))
def F_X3_knownOf (l0 : Nat) (l1 : Int32) (h : eH) : Option (Int32 × eH) :=
  (h_is h 3 l0).bind fun _ => e_bind (F_X3_has l0 l1 h) fun v1 h2 => if v1 = 0 then (some (0, h2)) else ((h_gr h2 3 l0 3).bind fun v3 => (h_ai h2 0 v3 l1).bind fun v4 => some (v4, h2))
def F_X3_nextByStamp_54 (N : Nat) (k5 : Nat → Nat → Int32 → Int32 → Int32 → eH → Option (Int32 × eH)) (l0 : Nat) (l1 : Nat) (l2 : Int32) (l3 : Int32) (l4 : Int32) (h : eH) : Option (Int32 × eH) :=
  k5 l0 l1 l2 l3 (l4 + 1) h
def F_X3_nextByStamp_51 (N : Nat) (k5 : Nat → Nat → Int32 → Int32 → Int32 → eH → Option (Int32 × eH)) (l0 : Nat) (l1 : Nat) (l2 : Int32) (l4 : Int32) (h : eH) : Option (Int32 × eH) :=
  F_X3_nextByStamp_54 N k5 l0 l1 l2 l4 l4 h
def F_X3_nextByStamp_5b (N : Nat) (k5 : Nat → Nat → Int32 → Int32 → Int32 → eH → Option (Int32 × eH)) (l0 : Nat) (l1 : Nat) (l2 : Int32) (l3 : Int32) (l4 : Int32) (h : eH) : Option (Int32 × eH) :=
  if (160 : Int32) ≤ l4 then (some (l3, h)) else ((h_is h 1 l1).bind fun _ => e_bind (F_X1_has l1 l4 h) fun v1 h2 => if v1 = 0 then (F_X3_nextByStamp_54 N k5 l0 l1 l2 l3 l4 h2) else ((h_is h2 3 l0).bind fun _ => e_bind (F_X3_stampOf l0 l4 h2) fun v3 h4 => if v3 ≤ l2 then (F_X3_nextByStamp_54 N k5 l0 l1 l2 l3 l4 h4) else (if l3 = (-1) then (F_X3_nextByStamp_51 N k5 l0 l1 l2 l4 h4) else ((h_is h4 3 l0).bind fun _ => e_bind (F_X3_stampOf l0 l4 h4) fun v5 h6 => (h_is h6 3 l0).bind fun _ => e_bind (F_X3_stampOf l0 l3 h6) fun v7 h8 => if v7 ≤ v5 then (F_X3_nextByStamp_54 N k5 l0 l1 l2 l3 l4 h8) else (F_X3_nextByStamp_51 N k5 l0 l1 l2 l4 h8)))))
def L_X3_nextByStamp_5 (N : Nat) (l0 : Nat) (l1 : Nat) (l2 : Int32) (l3 : Int32) (l4 : Int32) (h : eH) : Option (Int32 × eH) :=
  e_loop (σ := Nat × Nat × Int32 × Int32 × Int32 × eH) (fun k s => F_X3_nextByStamp_5b N (fun l0 l1 l2 l3 l4 h => k (l0, l1, l2, l3, l4, h)) s.1 s.2.1 s.2.2.1 s.2.2.2.1 s.2.2.2.2.1 s.2.2.2.2.2) N (l0, l1, l2, l3, l4, h)
def F_X3_nextByStamp (N : Nat) (l0 : Nat) (l1 : Nat) (l2 : Int32) (h : eH) : Option (Int32 × eH) :=
  L_X3_nextByStamp_5 N l0 l1 l2 (-1) 0 h
def F_X9_aboveZero_23 (N : Nat) (k4 : Int32 → Int32 → Int32 → eH → Option (Int32 × eH)) (l0 : Int32) (l2 : Int32) (s0 : Int32) (s1 : Int32) (h : eH) : Option (Int32 × eH) :=
  e_let (s0 + s1) fun v1 => k4 l0 v1 (l2 + 1) h
def F_X9_aboveZero_4b (N : Nat) (k4 : Int32 → Int32 → Int32 → eH → Option (Int32 × eH)) (l0 : Int32) (l1 : Int32) (l2 : Int32) (h : eH) : Option (Int32 × eH) :=
  if (4 : Int32) ≤ l2 then (some (l1, h)) else (e_bind (F_X9_number l0 l2 h) fun v1 h2 => if v1 ≤ 0 then (F_X9_aboveZero_23 N k4 l0 l2 l1 0 h2) else (F_X9_aboveZero_23 N k4 l0 l2 l1 1 h2))
def L_X9_aboveZero_4 (N : Nat) (l0 : Int32) (l1 : Int32) (l2 : Int32) (h : eH) : Option (Int32 × eH) :=
  e_loop (σ := Int32 × Int32 × Int32 × eH) (fun k s => F_X9_aboveZero_4b N (fun l0 l1 l2 h => k (l0, l1, l2, h)) s.1 s.2.1 s.2.2.1 s.2.2.2) N (l0, l1, l2, h)
def F_X9_aboveZero (N : Nat) (l0 : Int32) (h : eH) : Option (Int32 × eH) :=
  L_X9_aboveZero_4 N l0 0 0 h
def F_X3_oldestSite_64 (N : Nat) (k7 : Nat → Int32 → Int32 → Int32 → Int32 → eH → Option (Int32 × eH)) (l0 : Nat) (l1 : Int32) (l2 : Int32) (l3 : Int32) (l4 : Int32) (h : eH) : Option (Int32 × eH) :=
  k7 l0 l1 l2 l3 (l4 + 1) h
def F_X3_oldestSite_58 (N : Nat) (k7 : Nat → Int32 → Int32 → Int32 → Int32 → eH → Option (Int32 × eH)) (l0 : Nat) (l1 : Int32) (l4 : Int32) (l6 : Int32) (h : eH) : Option (Int32 × eH) :=
  F_X3_oldestSite_64 N k7 l0 l1 l4 l6 l4 h
def F_X3_oldestSite_41 (N : Nat) (k7 : Nat → Int32 → Int32 → Int32 → Int32 → eH → Option (Int32 × eH)) (l0 : Nat) (l1 : Int32) (l2 : Int32) (l3 : Int32) (l4 : Int32) (s0 : Int32) (h : eH) : Option (Int32 × eH) :=
  if s0 ≤ 0 then (F_X3_oldestSite_64 N k7 l0 l1 l2 l3 l4 h) else (if l3 = 0 then (F_X3_oldestSite_58 N k7 l0 l1 l4 s0 h) else (if l3 ≤ s0 then (F_X3_oldestSite_64 N k7 l0 l1 l2 l3 l4 h) else (F_X3_oldestSite_58 N k7 l0 l1 l4 s0 h)))
def F_X3_oldestSite_7b (N : Nat) (k7 : Nat → Int32 → Int32 → Int32 → Int32 → eH → Option (Int32 × eH)) (l0 : Nat) (l1 : Int32) (l2 : Int32) (l3 : Int32) (l4 : Int32) (h : eH) : Option (Int32 × eH) :=
  if (4 : Int32) ≤ l4 then (some (l2, h)) else (e_bind (F_X9_number l1 l4 h) fun v1 h2 => if v1 ≤ 0 then (F_X3_oldestSite_41 N k7 l0 l1 l2 l3 l4 0 h2) else (e_bind (F_X1_of l4 v1 h2) fun v3 h4 => (h_is h4 3 l0).bind fun _ => e_bind (F_X3_stampOf l0 v3 h4) fun v5 h6 => F_X3_oldestSite_41 N k7 l0 l1 l2 l3 l4 v5 h6))
def L_X3_oldestSite_7 (N : Nat) (l0 : Nat) (l1 : Int32) (l2 : Int32) (l3 : Int32) (l4 : Int32) (h : eH) : Option (Int32 × eH) :=
  e_loop (σ := Nat × Int32 × Int32 × Int32 × Int32 × eH) (fun k s => F_X3_oldestSite_7b N (fun l0 l1 l2 l3 l4 h => k (l0, l1, l2, l3, l4, h)) s.1 s.2.1 s.2.2.1 s.2.2.2.1 s.2.2.2.2.1 s.2.2.2.2.2) N (l0, l1, l2, l3, l4, h)
def F_X3_oldestSite (N : Nat) (l0 : Nat) (l1 : Int32) (h : eH) : Option (Int32 × eH) :=
  L_X3_oldestSite_7 N l0 l1 0 0 0 h
def F_X3_pruned_10b (N : Nat) (k10 : Nat → Int32 → Int32 → eH → Option (Int32 × eH)) (l0 : Nat) (l3 : Int32) (l4 : Int32) (h : eH) : Option (Int32 × eH) :=
  if l4 ≤ 0 then (some (l3, h)) else ((h_is h 3 l0).bind fun _ => e_bind (F_X3_oldestSite N l0 l3 h) fun v1 h2 => e_bind (F_X9_with l3 v1 0 h2) fun v3 h4 => k10 l0 v3 (l4 + (-1)) h4)
def L_X3_pruned_10 (N : Nat) (l0 : Nat) (l3 : Int32) (l4 : Int32) (h : eH) : Option (Int32 × eH) :=
  e_loop (σ := Nat × Int32 × Int32 × eH) (fun k s => F_X3_pruned_10b N (fun l0 l3 l4 h => k (l0, l3, l4, h)) s.1 s.2.1 s.2.2.1 s.2.2.2) N (l0, l3, l4, h)
def F_X3_pruned (N : Nat) (l0 : Nat) (l1 : Int32) (l2 : Int32) (h : eH) : Option (Int32 × eH) :=
  e_bind (F_X9_aboveZero N l1 h) fun v1 h2 => e_let (v1 - l2) fun v3 => L_X3_pruned_10 N l0 l1 v3 h2
def F_X8_beginAnew (N : Nat) (l0 : Nat) (h : eH) : Option (Unit × eH) :=
  (h_p h 8 l0 3 (.int 0)).bind fun h1 => (h_gr h1 8 l0 2).bind fun v2 => (h_is h1 1 v2).bind fun _ => e_bind (F_X1_empty N v2 h1) fun v3 h4 => some ((), h4)
def F_X4_beginAnew_10b (N : Nat) (k10 : Nat → Int32 → eH → Option (Unit × eH)) (l0 : Nat) (l2 : Int32) (h : eH) : Option (Unit × eH) :=
  (h_gr h 4 l0 1).bind fun v1 => (h_len h v1).bind fun v2 => if v2 ≤ l2 then (some ((), h)) else ((h_gr h 4 l0 1).bind fun v3 => (h_ar h 4 v3 l2).bind fun v4 => (h_is h 8 v4).bind fun _ => e_bind (F_X8_beginAnew N v4 h) fun v5 h6 => k10 l0 (l2 + 1) h6)
def L_X4_beginAnew_10 (N : Nat) (l0 : Nat) (l2 : Int32) (h : eH) : Option (Unit × eH) :=
  e_loop (σ := Nat × Int32 × eH) (fun k s => F_X4_beginAnew_10b N (fun l0 l2 h => k (l0, l2, h)) s.1 s.2.1 s.2.2) N (l0, l2, h)
def F_X4_beginAnew (N : Nat) (l0 : Nat) (l1 : Int32) (h : eH) : Option (Unit × eH) :=
  (h_gr h 4 l0 0).bind fun v1 => (h_is h 3 v1).bind fun _ => e_bind (F_X3_beginAnew N v1 l1 h) fun v2 h3 => L_X4_beginAnew_10 N l0 0 h3
def F_X9_greater_4b (N : Nat) (k4 : Int32 → Int32 → Int32 → Int32 → eH → Option (Int32 × eH)) (l0 : Int32) (l1 : Int32) (l2 : Int32) (l3 : Int32) (h : eH) : Option (Int32 × eH) :=
  if (4 : Int32) ≤ l3 then (some (l2, h)) else (e_bind (F_X9_number l0 l3 h) fun v1 h2 => e_bind (F_X9_number l1 l3 h2) fun v3 h4 => e_bind (F_X9_with l2 l3 (e_max v1 v3) h4) fun v5 h6 => k4 l0 l1 v5 (l3 + 1) h6)
def L_X9_greater_4 (N : Nat) (l0 : Int32) (l1 : Int32) (l2 : Int32) (l3 : Int32) (h : eH) : Option (Int32 × eH) :=
  e_loop (σ := Int32 × Int32 × Int32 × Int32 × eH) (fun k s => F_X9_greater_4b N (fun l0 l1 l2 l3 h => k (l0, l1, l2, l3, h)) s.1 s.2.1 s.2.2.1 s.2.2.2.1 s.2.2.2.2) N (l0, l1, l2, l3, h)
def F_X9_greater (N : Nat) (l0 : Int32) (l1 : Int32) (h : eH) : Option (Int32 × eH) :=
  L_X9_greater_4 N l0 l1 0 0 h
def F_X4_greatestRow_4b (N : Nat) (k4 : Nat → Int32 → Int32 → eH → Option (Int32 × eH)) (l0 : Nat) (l1 : Int32) (l2 : Int32) (h : eH) : Option (Int32 × eH) :=
  (h_gr h 4 l0 1).bind fun v1 => (h_len h v1).bind fun v2 => if v2 ≤ l2 then (some (l1, h)) else ((h_gr h 4 l0 1).bind fun v3 => (h_ar h 4 v3 l2).bind fun v4 => (h_gi h 8 v4 3).bind fun v5 => e_bind (F_X9_greater N l1 v5 h) fun v6 h7 => k4 l0 v6 (l2 + 1) h7)
def L_X4_greatestRow_4 (N : Nat) (l0 : Nat) (l1 : Int32) (l2 : Int32) (h : eH) : Option (Int32 × eH) :=
  e_loop (σ := Nat × Int32 × Int32 × eH) (fun k s => F_X4_greatestRow_4b N (fun l0 l1 l2 h => k (l0, l1, l2, h)) s.1 s.2.1 s.2.2.1 s.2.2.2) N (l0, l1, l2, h)
def F_X4_greatestRow (N : Nat) (l0 : Nat) (h : eH) : Option (Int32 × eH) :=
  L_X4_greatestRow_4 N l0 0 0 h
def F_X4_holders_4b (N : Nat) (k4 : Nat → Int32 → Int32 → Int32 → eH → Option (Int32 × eH)) (l0 : Nat) (l1 : Int32) (l2 : Int32) (l3 : Int32) (h : eH) : Option (Int32 × eH) :=
  (h_gr h 4 l0 1).bind fun v1 => (h_len h v1).bind fun v2 => if v2 ≤ l3 then (some (l2, h)) else ((h_gr h 4 l0 1).bind fun v3 => (h_ar h 4 v3 l3).bind fun v4 => (h_gr h 8 v4 2).bind fun v5 => (h_is h 1 v5).bind fun _ => e_bind (F_X1_has v5 l1 h) fun v6 h7 => e_bind (F_X11_bit v6 h7) fun v8 h9 => e_let (l2 ||| (v8 <<< (l3 &&& 31))) fun v10 => k4 l0 l1 v10 (l3 + 1) h9)
def L_X4_holders_4 (N : Nat) (l0 : Nat) (l1 : Int32) (l2 : Int32) (l3 : Int32) (h : eH) : Option (Int32 × eH) :=
  e_loop (σ := Nat × Int32 × Int32 × Int32 × eH) (fun k s => F_X4_holders_4b N (fun l0 l1 l2 l3 h => k (l0, l1, l2, l3, h)) s.1 s.2.1 s.2.2.1 s.2.2.2.1 s.2.2.2.2) N (l0, l1, l2, l3, h)
def F_X4_holders (N : Nat) (l0 : Nat) (l1 : Int32) (h : eH) : Option (Int32 × eH) :=
  L_X4_holders_4 N l0 l1 0 0 h
def F_X4_isLost (N : Nat) (l0 : Nat) (l1 : Int32) (h : eH) : Option (Int32 × eH) :=
  (h_gr h 4 l0 0).bind fun v1 => (h_is h 3 v1).bind fun _ => e_bind (F_X3_has v1 l1 h) fun v2 h3 => if v2 = 0 then ((h_z 0).bind fun z => some (z, h3)) else ((h_gr h3 4 l0 0).bind fun v4 => (h_gr h3 3 v4 4).bind fun v5 => (h_is h3 1 v5).bind fun _ => e_bind (F_X1_has v5 l1 h3) fun v6 h7 => if v6 = 0 then ((h_is h7 4 l0).bind fun _ => e_bind (F_X4_holders N l0 l1 h7) fun v8 h9 => if v8 = 0 then ((h_z 1).bind fun z => some (z, h9)) else ((h_z 0).bind fun z => some (z, h9))) else ((h_z 0).bind fun z => some (z, h7)))
def F_X4_lostTotal_4b (N : Nat) (k4 : Nat → Int32 → Int32 → eH → Option (Int32 × eH)) (l0 : Nat) (l1 : Int32) (l2 : Int32) (h : eH) : Option (Int32 × eH) :=
  if (160 : Int32) ≤ l2 then (some (l1, h)) else ((h_is h 4 l0).bind fun _ => e_bind (F_X4_isLost N l0 l2 h) fun v1 h2 => e_bind (F_X11_bit v1 h2) fun v3 h4 => e_let (l1 + v3) fun v5 => k4 l0 v5 (l2 + 1) h4)
def L_X4_lostTotal_4 (N : Nat) (l0 : Nat) (l1 : Int32) (l2 : Int32) (h : eH) : Option (Int32 × eH) :=
  e_loop (σ := Nat × Int32 × Int32 × eH) (fun k s => F_X4_lostTotal_4b N (fun l0 l1 l2 h => k (l0, l1, l2, h)) s.1 s.2.1 s.2.2.1 s.2.2.2) N (l0, l1, l2, h)
def F_X4_lostTotal (N : Nat) (l0 : Nat) (h : eH) : Option (Int32 × eH) :=
  L_X4_lostTotal_4 N l0 0 0 h
def F_X5_forget (l0 : Nat) (h : eH) : Option (Unit × eH) :=
  (h_p h 5 l0 2 (.int 0)).bind fun h1 => some ((), h1)
def F_X5_placeOf_2b (N : Nat) (k2 : Nat → Int32 → Int32 → eH → Option (Int32 × eH)) (l0 : Nat) (l1 : Int32) (l2 : Int32) (h : eH) : Option (Int32 × eH) :=
  (h_gi h 5 l0 2).bind fun v1 => if v1 ≤ l2 then (some ((-1), h)) else ((h_gr h 5 l0 0).bind fun v2 => (h_len h v2).bind fun v3 => if v3 ≤ l2 then (some ((-1), h)) else ((h_gr h 5 l0 0).bind fun v4 => (h_ai h 0 v4 l2).bind fun v5 => if v5 = l1 then (some (l2, h)) else (k2 l0 l1 (l2 + 1) h)))
def L_X5_placeOf_2 (N : Nat) (l0 : Nat) (l1 : Int32) (l2 : Int32) (h : eH) : Option (Int32 × eH) :=
  e_loop (σ := Nat × Int32 × Int32 × eH) (fun k s => F_X5_placeOf_2b N (fun l0 l1 l2 h => k (l0, l1, l2, h)) s.1 s.2.1 s.2.2.1 s.2.2.2) N (l0, l1, l2, h)
def F_X5_placeOf (N : Nat) (l0 : Nat) (l1 : Int32) (h : eH) : Option (Int32 × eH) :=
  L_X5_placeOf_2 N l0 l1 0 h
def F_X5_give_73 (N : Nat) (l0 : Nat) (l1 : Int32) (l2 : Int32) (l4 : Int32) (h : eH) : Option (Int32 × eH) :=
  (h_gr h 5 l0 0).bind fun v1 => (h_gi h 5 l0 2).bind fun v2 => (h_si h 0 v1 v2 l1).bind fun h3 => (h_gr h3 5 l0 1).bind fun v4 => (h_gi h3 5 l0 2).bind fun v5 => (h_si h3 0 v4 v5 l2).bind fun h6 => (h_gi h6 5 l0 2).bind fun v7 => (h_p h6 5 l0 2 (.int (v7 + 1))).bind fun h8 => some (l4, h8)
def F_X5_give (N : Nat) (l0 : Nat) (l1 : Int32) (l2 : Int32) (h : eH) : Option (Int32 × eH) :=
  (h_is h 5 l0).bind fun _ => e_bind (F_X5_placeOf N l0 l1 h) fun v1 h2 => if v1 < 0 then ((h_gi h2 5 l0 2).bind fun v3 => (h_gr h2 5 l0 0).bind fun v4 => (h_len h2 v4).bind fun v5 => if v3 < v5 then (F_X5_give_73 N l0 l1 l2 (-9) h2) else ((h_gr h2 5 l0 0).bind fun v6 => (h_ai h2 0 v6 0).bind fun v7 => (h_gr h2 5 l0 0).bind fun v8 => (h_gr h2 5 l0 0).bind fun v9 => (h_ai h2 0 v9 1).bind fun v10 => (h_si h2 0 v8 0 v10).bind fun h11 => (h_gr h11 5 l0 1).bind fun v12 => (h_gr h11 5 l0 1).bind fun v13 => (h_ai h11 0 v13 1).bind fun v14 => (h_si h11 0 v12 0 v14).bind fun h15 => (h_p h15 5 l0 2 (.int 1)).bind fun h16 => F_X5_give_73 N l0 l1 l2 v7 h16)) else ((h_gr h2 5 l0 1).bind fun v17 => (h_si h2 0 v17 v1 l2).bind fun h18 => some ((-9), h18))
def F_X5_isPlace (l0 : Nat) (l1 : Int32) (h : eH) : Option (Int32 × eH) :=
  if l1 < 0 then ((h_z 0).bind fun z => some (z, h)) else ((h_gi h 5 l0 2).bind fun v1 => if v1 ≤ l1 then ((h_z 0).bind fun z => some (z, h)) else ((h_gr h 5 l0 0).bind fun v2 => (h_len h v2).bind fun v3 => if v3 ≤ l1 then ((h_z 0).bind fun z => some (z, h)) else ((h_z 1).bind fun z => some (z, h))))
def F_X5_ruleAtPlace (l0 : Nat) (l1 : Int32) (h : eH) : Option (Int32 × eH) :=
  (h_is h 5 l0).bind fun _ => e_bind (F_X5_isPlace l0 l1 h) fun v1 h2 => if v1 = 0 then (some ((-9), h2)) else ((h_gr h2 5 l0 1).bind fun v3 => (h_ai h2 0 v3 l1).bind fun v4 => some (v4, h2))
def F_X5_ruleOf (N : Nat) (l0 : Nat) (l1 : Int32) (h : eH) : Option (Int32 × eH) :=
  (h_is h 5 l0).bind fun _ => e_bind (F_X5_placeOf N l0 l1 h) fun v1 h2 => (h_is h2 5 l0).bind fun _ => e_bind (F_X5_ruleAtPlace l0 v1 h2) fun v3 h4 => some (v3, h4)
def F_X5_keyAtPlace (l0 : Nat) (l1 : Int32) (h : eH) : Option (Int32 × eH) :=
  (h_is h 5 l0).bind fun _ => e_bind (F_X5_isPlace l0 l1 h) fun v1 h2 => if v1 = 0 then (some ((-9), h2)) else ((h_gr h2 5 l0 0).bind fun v3 => (h_ai h2 0 v3 l1).bind fun v4 => some (v4, h2))
def F_X6_init (l0 : Nat) (h : eH) : Option (Unit × eH) :=
  some ((), h)
def F_X6_begin (l0 : Nat) (l1 : Int32) (l2 : Int32) (h : eH) : Option (Unit × eH) :=
  (h_p h 6 l0 0 (.int l1)).bind fun h1 => (h_p h1 6 l0 1 (.int l2)).bind fun h2 => (h_pz h2 6 l0 3 0).bind fun h3 => (h_p h3 6 l0 2 (.long 0)).bind fun h4 => (h_gi h4 6 l0 1).bind fun v5 => if v5 = 0 then ((h_p h4 6 l0 2 (.long (-9223372036854775808))).bind fun h11 => some ((), h11)) else ((h_gi h4 6 l0 1).bind fun v6 => if v6 = 1 then ((h_p h4 6 l0 2 (.long 9223372036854775807)).bind fun h10 => some ((), h10)) else ((h_gi h4 6 l0 1).bind fun v7 => if v7 = 3 then ((h_gi h4 6 l0 0).bind fun v8 => if v8 = 1 then ((h_p h4 6 l0 2 (.long (-1))).bind fun h9 => some ((), h9)) else (some ((), h4))) else (some ((), h4))))
def F_X6_putTogether_54 (l0 : Nat) (l3 : Int64) (s0 : Nat) (s1 : Int32) (h : eH) : Option (Unit × eH) :=
  (h_pz h 6 s0 3 s1).bind fun h1 => (h_p h1 6 l0 2 (.long l3)).bind fun h2 => some ((), h2)
def F_X6_putTogether_49 (l0 : Nat) (l3 : Int64) (s0 : Nat) (h : eH) : Option (Unit × eH) :=
  F_X6_putTogether_54 l0 l3 s0 1 h
def F_X6_putTogether (l0 : Nat) (l1 : Int64) (h : eH) : Option (Unit × eH) :=
  (h_gi h 6 l0 0).bind fun v1 => if v1 = 1 then ((h_gl h 6 l0 2).bind fun v6 => (h_p h 6 l0 2 (.long (v6 ||| l1))).bind fun h7 => some ((), h7)) else ((h_gl h 6 l0 2).bind fun v2 => e_let (v2 + l1) fun v3 => (h_gi h 6 l0 3).bind fun v4 => if v4 = 0 then ((h_gl h 6 l0 2).bind fun v5 => if (0 : Int32) ≤ (lg_cmp ((v5 ^^^ v3) &&& (l1 ^^^ v3)) 0) then (F_X6_putTogether_54 l0 v3 l0 0 h) else (F_X6_putTogether_49 l0 v3 l0 h)) else (F_X6_putTogether_49 l0 v3 l0 h))
def F_X6_divisorOf_9b (N : Nat) (k9 : Int64 → Int64 → Int32 → eH → Option (Int64 × eH)) (l4 : Int64) (l6 : Int64) (l8 : Int32) (h : eH) : Option (Int64 × eH) :=
  if (1000 : Int32) ≤ l8 then (some (l4, h)) else (if (lg_cmp l6 0) = 0 then (some (l4, h)) else (if l6 = 0 then none else e_let (l4 - l4 / l6 * l6) fun v1 => k9 l6 v1 (l8 + 1) h))
def L_X6_divisorOf_9 (N : Nat) (l4 : Int64) (l6 : Int64) (l8 : Int32) (h : eH) : Option (Int64 × eH) :=
  e_loop (σ := Int64 × Int64 × Int32 × eH) (fun k s => F_X6_divisorOf_9b N (fun l4 l6 l8 h => k (l4, l6, l8, h)) s.1 s.2.1 s.2.2.1 s.2.2.2) N (l4, l6, l8, h)
def F_X6_divisorOf (N : Nat) (l0 : Int64) (l2 : Int64) (h : eH) : Option (Int64 × eH) :=
  L_X6_divisorOf_9 N l0 l2 0 h
def F_X6_keepCommon_36 (N : Nat) (s0 : Nat) (s1 : Int64) (s2 : Int64) (h : eH) : Option (Unit × eH) :=
  e_bind (F_X6_divisorOf N s1 s2 h) fun v1 h2 => (h_p h2 6 s0 2 (.long v1)).bind fun h3 => some ((), h3)
def F_X6_keepCommon (N : Nat) (l0 : Nat) (l1 : Int64) (h : eH) : Option (Unit × eH) :=
  (h_gi h 6 l0 0).bind fun v1 => if v1 = 1 then ((h_gl h 6 l0 2).bind fun v3 => (h_p h 6 l0 2 (.long (v3 &&& l1))).bind fun h4 => some ((), h4)) else ((h_gl h 6 l0 2).bind fun v2 => if (lg_cmp l1 0) ≤ 0 then (F_X6_keepCommon_36 N l0 v2 l1 h) else (F_X6_keepCommon_36 N l0 v2 (-l1) h))
def F_X6_add (N : Nat) (l0 : Nat) (l1 : Int64) (h : eH) : Option (Unit × eH) :=
  (h_gi h 6 l0 1).bind fun v1 => if v1 = 0 then ((h_gl h 6 l0 2).bind fun v12 => (h_p h 6 l0 2 (.long (e_maxL v12 l1))).bind fun h13 => some ((), h13)) else ((h_gi h 6 l0 1).bind fun v2 => if v2 = 1 then ((h_gl h 6 l0 2).bind fun v10 => (h_p h 6 l0 2 (.long (e_minL v10 l1))).bind fun h11 => some ((), h11)) else ((h_gi h 6 l0 1).bind fun v3 => if v3 = 2 then ((h_is h 6 l0).bind fun _ => e_bind (F_X6_putTogether l0 l1 h) fun v8 h9 => some ((), h9)) else ((h_gi h 6 l0 1).bind fun v4 => if v4 = 3 then ((h_is h 6 l0).bind fun _ => e_bind (F_X6_keepCommon N l0 l1 h) fun v6 h7 => some ((), h7)) else ((h_p h 6 l0 2 (.long l1)).bind fun h5 => some ((), h5)))))
def F_X6_end_32 (l0 : Nat) (s0 : Nat) (s1 : Int32) (h : eH) : Option (Unit × eH) :=
  (h_pz h 6 s0 3 s1).bind fun h1 => (h_gl h1 6 l0 2).bind fun v2 => (h_p h1 6 l0 2 (.long (-v2))).bind fun h3 => some ((), h3)
def F_X6_end (l0 : Nat) (h : eH) : Option (Unit × eH) :=
  (h_gi h 6 l0 1).bind fun v1 => if v1 = 3 then ((h_gi h 6 l0 0).bind fun v2 => if v2 = 0 then ((h_gl h 6 l0 2).bind fun v3 => if (lg_cmp v3 (-9223372036854775808)) = 0 then (F_X6_end_32 l0 l0 1 h) else (F_X6_end_32 l0 l0 0 h)) else (some ((), h))) else (some ((), h))
def F_X7_forget (l0 : Nat) (h : eH) : Option (Unit × eH) :=
  (h_p h 7 l0 1 (.int 0)).bind fun h1 => (h_p h1 7 l0 2 (.int 0)).bind fun h2 => (h_p h2 7 l0 3 (.int 0)).bind fun h3 => (h_p h3 7 l0 4 (.int 0)).bind fun h4 => (h_p h4 7 l0 5 (.int 0)).bind fun h5 => some ((), h5)
def F_X10_rewind (l0 : Nat) (h : eH) : Option (Unit × eH) :=
  (h_p h 9 l0 3 (.int 0)).bind fun h1 => some ((), h1)
def F_X10_byteAt (l0 : Nat) (l1 : Int32) (h : eH) : Option (Int32 × eH) :=
  if l1 < 0 then (some ((-1), h)) else ((h_gi h 9 l0 1).bind fun v1 => if v1 ≤ l1 then (some ((-1), h)) else ((h_gr h 9 l0 0).bind fun v2 => (h_len h v2).bind fun v3 => if v3 ≤ l1 then (some ((-1), h)) else ((h_gr h 9 l0 0).bind fun v4 => (h_ai h 0 v4 l1).bind fun v5 => some (v5, h))))
def F_X10_sortAt_40 (l2 : Int32) (h : eH) : Option (Int32 × eH) :=
  if l2 = 59 then (some (3, h)) else (if l2 = 32 then (some (4, h)) else (some (5, h)))
def F_X10_sortAt_26 (l2 : Int32) (h : eH) : Option (Int32 × eH) :=
  if l2 < 48 then (F_X10_sortAt_40 l2 h) else (if (57 : Int32) < l2 then (F_X10_sortAt_40 l2 h) else (some (2, h)))
def F_X10_sortAt (l0 : Nat) (l1 : Int32) (h : eH) : Option (Int32 × eH) :=
  (h_is h 9 l0).bind fun _ => e_bind (F_X10_byteAt l0 l1 h) fun v1 h2 => if (0 : Int32) ≤ v1 then (if v1 < 97 then (F_X10_sortAt_26 v1 h2) else (if (122 : Int32) < v1 then (F_X10_sortAt_26 v1 h2) else (some (1, h2)))) else (some (0, h2))
def F_X10_step_95b (N : Nat) (k95 : Nat → Int32 → eH → Option (Unit × eH)) (l0 : Nat) (l1 : Int32) (h : eH) : Option (Unit × eH) :=
  if l1 = 0 then (some ((), h)) else ((h_gi h 9 l0 3).bind fun v1 => (h_gi h 9 l0 1).bind fun v2 => if v2 ≤ v1 then (some ((), h)) else ((h_gi h 9 l0 3).bind fun v3 => (h_is h 9 l0).bind fun _ => e_bind (F_X10_sortAt l0 v3 h) fun v4 h5 => (h_gi h5 9 l0 4).bind fun v6 => if v4 = v6 then ((h_gi h5 9 l0 3).bind fun v7 => (h_p h5 9 l0 3 (.int (v7 + 1))).bind fun h8 => k95 l0 l1 h8) else (some ((), h5))))
def L_X10_step_95 (N : Nat) (l0 : Nat) (l1 : Int32) (h : eH) : Option (Unit × eH) :=
  e_loop (σ := Nat × Int32 × eH) (fun k s => F_X10_step_95b N (fun l0 l1 h => k (l0, l1, h)) s.1 s.2.1 s.2.2) N (l0, l1, h)
def F_X10_step_94 (N : Nat) (l0 : Nat) (s0 : Int32) (h : eH) : Option (Unit × eH) :=
  L_X10_step_95 N l0 s0 h
def F_X10_step_89 (N : Nat) (l0 : Nat) (h : eH) : Option (Unit × eH) :=
  F_X10_step_94 N l0 1 h
def F_X10_step_44 (N : Nat) (l0 : Nat) (h : eH) : Option (Unit × eH) :=
  (h_gi h 9 l0 2).bind fun v1 => (h_is h 9 l0).bind fun _ => e_bind (F_X10_sortAt l0 v1 h) fun v2 h3 => (h_p h3 9 l0 4 (.int v2)).bind fun h4 => (h_gi h4 9 l0 2).bind fun v5 => (h_gi h4 9 l0 1).bind fun v6 => (h_p h4 9 l0 3 (.int (e_min (v5 + 1) v6))).bind fun h7 => (h_gi h7 9 l0 4).bind fun v8 => if v8 = 1 then (F_X10_step_89 N l0 h7) else ((h_gi h7 9 l0 4).bind fun v9 => if v9 = 2 then (F_X10_step_89 N l0 h7) else (F_X10_step_94 N l0 0 h7))
def F_X10_step_8b (N : Nat) (k8 : Nat → eH → Option (Unit × eH)) (l0 : Nat) (h : eH) : Option (Unit × eH) :=
  (h_gi h 9 l0 2).bind fun v1 => (h_gi h 9 l0 1).bind fun v2 => if v2 ≤ v1 then (F_X10_step_44 N l0 h) else ((h_gi h 9 l0 2).bind fun v3 => (h_is h 9 l0).bind fun _ => e_bind (F_X10_sortAt l0 v3 h) fun v4 h5 => if v4 = 4 then ((h_gi h5 9 l0 2).bind fun v6 => (h_p h5 9 l0 2 (.int (v6 + 1))).bind fun h7 => k8 l0 h7) else (F_X10_step_44 N l0 h5))
def L_X10_step_8 (N : Nat) (l0 : Nat) (h : eH) : Option (Unit × eH) :=
  e_loop (σ := Nat × eH) (fun k s => F_X10_step_8b N (fun l0 h => k (l0, h)) s.1 s.2) N (l0, h)
def F_X10_step (N : Nat) (l0 : Nat) (h : eH) : Option (Unit × eH) :=
  (h_gi h 9 l0 3).bind fun v1 => (h_p h 9 l0 2 (.int v1)).bind fun h2 => L_X10_step_8 N l0 h2
def F_X7_putUsual_54 (s0 : Nat) (s1 : Int32) (h : eH) : Option (Unit × eH) :=
  (h_p h 7 s0 3 (.int s1)).bind fun h1 => some ((), h1)
def F_X7_putUsual_35 (l0 : Nat) (s0 : Nat) (s1 : Int32) (h : eH) : Option (Unit × eH) :=
  (h_p h 7 s0 2 (.int s1)).bind fun h1 => (h_gi h1 7 l0 3).bind fun v2 => if v2 = 0 then (F_X7_putUsual_54 l0 4 h1) else ((h_gi h1 7 l0 3).bind fun v3 => F_X7_putUsual_54 l0 v3 h1)
def F_X7_putUsual_16 (l0 : Nat) (s0 : Nat) (s1 : Int32) (h : eH) : Option (Unit × eH) :=
  (h_p h 7 s0 1 (.int s1)).bind fun h1 => (h_gi h1 7 l0 2).bind fun v2 => if v2 = 0 then (F_X7_putUsual_35 l0 l0 4 h1) else ((h_gi h1 7 l0 2).bind fun v3 => F_X7_putUsual_35 l0 l0 v3 h1)
def F_X7_putUsual (l0 : Nat) (h : eH) : Option (Unit × eH) :=
  (h_gi h 7 l0 1).bind fun v1 => if v1 = 0 then (F_X7_putUsual_16 l0 l0 3 h) else ((h_gi h 7 l0 1).bind fun v2 => F_X7_putUsual_16 l0 l0 v2 h)
def F_X10_isWord_28b (N : Nat) (G : eG) (k28 : Nat → Nat → Int32 → eH → Option (Int32 × eH)) (l0 : Nat) (l1 : Nat) (l2 : Int32) (h : eH) : Option (Int32 × eH) :=
  (s_is G l1).bind fun _ => e_bind (F_s_length G l1 h) fun v1 h2 => if v1 ≤ l2 then ((h_z 1).bind fun z => some (z, h2)) else ((h_gi h2 9 l0 2).bind fun v3 => (h_is h2 9 l0).bind fun _ => e_bind (F_X10_byteAt l0 (v3 + l2) h2) fun v4 h5 => (s_is G l1).bind fun _ => e_bind (F_s_charAt G l1 l2 h5) fun v6 h7 => if v4 = v6 then (k28 l0 l1 (l2 + 1) h7) else ((h_z 0).bind fun z => some (z, h7)))
def L_X10_isWord_28 (N : Nat) (G : eG) (l0 : Nat) (l1 : Nat) (l2 : Int32) (h : eH) : Option (Int32 × eH) :=
  e_loop (σ := Nat × Nat × Int32 × eH) (fun k s => F_X10_isWord_28b N G (fun l0 l1 l2 h => k (l0, l1, l2, h)) s.1 s.2.1 s.2.2.1 s.2.2.2) N (l0, l1, l2, h)
def F_X10_isWord (N : Nat) (G : eG) (l0 : Nat) (l1 : Nat) (h : eH) : Option (Int32 × eH) :=
  (h_gi h 9 l0 4).bind fun v1 => if v1 = 1 then ((h_gi h 9 l0 3).bind fun v2 => (h_gi h 9 l0 2).bind fun v3 => (s_is G l1).bind fun _ => e_bind (F_s_length G l1 h) fun v4 h5 => if (v2 - v3) = v4 then (L_X10_isWord_28 N G l0 l1 0 h5) else ((h_z 0).bind fun z => some (z, h5))) else ((h_z 0).bind fun z => some (z, h))
def F_X7_takesKey (l0 : Nat) (l1 : Int32) (h : eH) : Option (Int32 × eH) :=
  (h_gi h 7 l0 4).bind fun v1 => (h_gr h 7 l0 0).bind fun v2 => (h_len h v2).bind fun v3 => if v1 < v3 then ((h_gr h 7 l0 0).bind fun v4 => (h_gi h 7 l0 4).bind fun v5 => (h_si h 0 v4 v5 l1).bind fun h6 => (h_gi h6 7 l0 4).bind fun v7 => (h_p h6 7 l0 4 (.int (v7 + 1))).bind fun h8 => (h_z 1).bind fun z => some (z, h8)) else ((h_z 0).bind fun z => some (z, h))
def F_X10_digit (l0 : Nat) (h : eH) : Option (Int32 × eH) :=
  (h_gi h 9 l0 4).bind fun v1 => if v1 = 2 then ((h_gi h 9 l0 3).bind fun v2 => (h_gi h 9 l0 2).bind fun v3 => if (v2 - v3) = 1 then ((h_gi h 9 l0 2).bind fun v4 => (h_is h 9 l0).bind fun _ => e_bind (F_X10_byteAt l0 v4 h) fun v5 h6 => some ((v5 - 48), h6)) else (some ((-1), h))) else (some ((-1), h))
def F_X7_takenNumber (N : Nat) (l0 : Nat) (l1 : Nat) (l2 : Int32) (l3 : Int32) (h : eH) : Option (Int32 × eH) :=
  (h_is h 9 l1).bind fun _ => e_bind (F_X10_step N l1 h) fun v1 h2 => (h_is h2 9 l1).bind fun _ => e_bind (F_X10_digit l1 h2) fun v3 h4 => if v3 < l2 then (some (0, h4)) else (if l3 < v3 then (some (0, h4)) else (some (v3, h4)))
def F_X7_takesWords_111 (N : Nat) (G : eG) (l0 : Nat) (l1 : Nat) (h : eH) : Option (Int32 × eH) :=
  (h_is h 9 l1).bind fun _ => e_bind (F_X10_isWord N G l1 (G.2.2.1 4) h) fun v1 h2 => if v1 = 0 then ((h_z 0).bind fun z => some (z, h2)) else ((h_gi h2 7 l0 3).bind fun v3 => if v3 = 0 then ((h_is h2 7 l0).bind fun _ => e_bind (F_X7_takenNumber N l0 l1 1 4 h2) fun v4 h5 => (h_p h5 7 l0 3 (.int v4)).bind fun h6 => (h_gi h6 7 l0 3).bind fun v7 => if v7 = 0 then ((h_z 0).bind fun z => some (z, h6)) else ((h_z 1).bind fun z => some (z, h6))) else ((h_z 0).bind fun z => some (z, h2)))
def F_X7_takesWords_70 (N : Nat) (G : eG) (l0 : Nat) (l1 : Nat) (h : eH) : Option (Int32 × eH) :=
  (h_is h 9 l1).bind fun _ => e_bind (F_X10_isWord N G l1 (G.2.2.1 3) h) fun v1 h2 => if v1 = 0 then (F_X7_takesWords_111 N G l0 l1 h2) else ((h_gi h2 7 l0 2).bind fun v3 => if v3 = 0 then ((h_is h2 7 l0).bind fun _ => e_bind (F_X7_takenNumber N l0 l1 1 6 h2) fun v4 h5 => (h_p h5 7 l0 2 (.int v4)).bind fun h6 => (h_gi h6 7 l0 2).bind fun v7 => if v7 = 0 then ((h_z 0).bind fun z => some (z, h6)) else ((h_z 1).bind fun z => some (z, h6))) else (F_X7_takesWords_111 N G l0 l1 h2))
def F_X7_takesWords (N : Nat) (G : eG) (l0 : Nat) (l1 : Nat) (h : eH) : Option (Int32 × eH) :=
  (h_is h 9 l1).bind fun _ => e_bind (F_X10_isWord N G l1 (G.2.2.1 0) h) fun v1 h2 => if v1 = 0 then ((h_is h2 9 l1).bind fun _ => e_bind (F_X10_isWord N G l1 (G.2.2.1 1) h2) fun v3 h4 => if v3 = 0 then ((h_is h4 9 l1).bind fun _ => e_bind (F_X10_isWord N G l1 (G.2.2.1 2) h4) fun v5 h6 => if v5 = 0 then (F_X7_takesWords_70 N G l0 l1 h6) else ((h_gi h6 7 l0 1).bind fun v7 => if v7 = 0 then ((h_is h6 7 l0).bind fun _ => e_bind (F_X7_takenNumber N l0 l1 2 4 h6) fun v8 h9 => (h_p h9 7 l0 1 (.int v8)).bind fun h10 => (h_gi h10 7 l0 1).bind fun v11 => if v11 = 0 then ((h_z 0).bind fun z => some (z, h10)) else ((h_z 1).bind fun z => some (z, h10))) else (F_X7_takesWords_70 N G l0 l1 h6))) else ((h_is h4 7 l0).bind fun _ => e_bind (F_X7_takesKey l0 1 h4) fun v12 h13 => (h_z v12).bind fun z => some (z, h13))) else ((h_is h2 7 l0).bind fun _ => e_bind (F_X7_takesKey l0 0 h2) fun v14 h15 => (h_z v14).bind fun z => some (z, h15))
def F_X7_takesSemicolon (N : Nat) (l0 : Nat) (l1 : Nat) (h : eH) : Option (Int32 × eH) :=
  (h_is h 9 l1).bind fun _ => e_bind (F_X10_step N l1 h) fun v1 h2 => (h_gi h2 9 l1 4).bind fun v3 => if v3 = 3 then ((h_z 1).bind fun z => some (z, h2)) else ((h_z 0).bind fun z => some (z, h2))
def F_X7_fill_10b (N : Nat) (G : eG) (k10 : Nat → Nat → Int32 → eH → Option (Int32 × eH)) (l0 : Nat) (l1 : Nat) (l2 : Int32) (h : eH) : Option (Int32 × eH) :=
  if (7 : Int32) < l2 then ((h_gi h 9 l1 2).bind fun v1 => some (v1, h)) else ((h_is h 9 l1).bind fun _ => e_bind (F_X10_step N l1 h) fun v2 h3 => (h_gi h3 9 l1 4).bind fun v4 => if v4 = 0 then ((h_is h3 7 l0).bind fun _ => e_bind (F_X7_putUsual l0 h3) fun v13 h14 => some ((-1), h14)) else ((h_is h3 7 l0).bind fun _ => e_bind (F_X7_takesWords N G l0 l1 h3) fun v5 h6 => if v5 = 0 then ((h_gi h6 9 l1 2).bind fun v7 => some (v7, h6)) else ((h_is h6 7 l0).bind fun _ => e_bind (F_X7_takesSemicolon N l0 l1 h6) fun v8 h9 => if v8 = 0 then ((h_gi h9 9 l1 2).bind fun v12 => some (v12, h9)) else ((h_gi h9 7 l0 5).bind fun v10 => (h_p h9 7 l0 5 (.int (v10 + 1))).bind fun h11 => k10 l0 l1 (l2 + 1) h11))))
def L_X7_fill_10 (N : Nat) (G : eG) (l0 : Nat) (l1 : Nat) (l2 : Int32) (h : eH) : Option (Int32 × eH) :=
  e_loop (σ := Nat × Nat × Int32 × eH) (fun k s => F_X7_fill_10b N G (fun l0 l1 l2 h => k (l0, l1, l2, h)) s.1 s.2.1 s.2.2.1 s.2.2.2) N (l0, l1, l2, h)
def F_X7_fill (N : Nat) (G : eG) (l0 : Nat) (l1 : Nat) (h : eH) : Option (Int32 × eH) :=
  (h_is h 7 l0).bind fun _ => e_bind (F_X7_forget l0 h) fun v1 h2 => (h_is h2 9 l1).bind fun _ => e_bind (F_X10_rewind l1 h2) fun v3 h4 => L_X7_fill_10 N G l0 l1 0 h4
def F_X7_kindOf (l0 : Nat) (l1 : Int32) (h : eH) : Option (Int32 × eH) :=
  if l1 < 0 then (some (0, h)) else ((h_gi h 7 l0 4).bind fun v1 => if v1 ≤ l1 then (some (0, h)) else ((h_gr h 7 l0 0).bind fun v2 => (h_len h v2).bind fun v3 => if v3 ≤ l1 then (some (0, h)) else ((h_gr h 7 l0 0).bind fun v4 => (h_ai h 0 v4 l1).bind fun v5 => some (v5, h))))
def F_X8_nextNumber (l0 : Nat) (h : eH) : Option (Int32 × eH) :=
  (h_gi h 8 l0 3).bind fun v1 => (h_gi h 8 l0 0).bind fun v2 => e_bind (F_X9_number v1 v2 h) fun v3 h4 => some ((v3 + 1), h4)
def F_X8_take (N : Nat) (l0 : Nat) (l1 : Int64) (l3 : Int32) (l4 : Int32) (l5 : Int32) (h : eH) : Option (Unit × eH) :=
  (h_gr h 8 l0 1).bind fun v1 => (h_gr h 3 v1 6).bind fun v2 => (h_gr h 8 l0 2).bind fun v3 => (h_is h 1 v2).bind fun _ => e_bind (F_X1_addCovered N v2 v3 l4 h) fun v4 h5 => (h_gr h5 8 l0 2).bind fun v6 => (h_is h5 1 v6).bind fun _ => e_bind (F_X1_removeCovered N v6 l4 h5) fun v7 h8 => (h_gr h8 8 l0 1).bind fun v9 => (h_gi h8 3 v9 10).bind fun v10 => (h_gr h8 8 l0 2).bind fun v11 => (h_is h8 1 v11).bind fun _ => e_bind (F_X1_coveredTotal N v11 l5 h8) fun v12 h13 => (h_p h13 3 v9 10 (.int (v10 + v12))).bind fun h14 => (h_is h14 8 l0).bind fun _ => e_bind (F_X8_nextNumber l0 h14) fun v15 h16 => (h_gi h16 8 l0 0).bind fun v17 => e_bind (F_X1_of v17 v15 h16) fun v18 h19 => (h_gi h19 8 l0 3).bind fun v20 => e_bind (F_X9_greater N v20 l4 h19) fun v21 h22 => (h_gi h22 8 l0 0).bind fun v23 => e_bind (F_X9_with v21 v23 v15 h22) fun v24 h25 => (h_p h25 8 l0 3 (.int v24)).bind fun h26 => (h_gr h26 8 l0 1).bind fun v27 => (h_is h26 3 v27).bind fun _ => e_bind (F_X3_note v27 v18 l1 l3 l4 l5 h26) fun v28 h29 => (h_gr h29 8 l0 2).bind fun v30 => (h_is h29 1 v30).bind fun _ => e_bind (F_X1_add v30 v18 h29) fun v31 h32 => some ((), h32)
def F_X8_receive (N : Nat) (l0 : Nat) (l1 : Nat) (h : eH) : Option (Unit × eH) :=
  (h_gr h 8 l0 2).bind fun v1 => (h_gi h 8 l0 3).bind fun v2 => (h_gr h 8 l1 2).bind fun v3 => (h_gi h 8 l1 3).bind fun v4 => (h_is h 1 v1).bind fun _ => e_bind (F_X1_join N v1 v2 v3 v4 h) fun v5 h6 => (h_gi h6 8 l0 3).bind fun v7 => (h_gi h6 8 l1 3).bind fun v8 => e_bind (F_X9_greater N v7 v8 h6) fun v9 h10 => (h_p h10 8 l0 3 (.int v9)).bind fun h11 => some ((), h11)
def F_X8_dropBeyond_10b (N : Nat) (k10 : Nat → Int32 → eH → Option (Unit × eH)) (l0 : Nat) (l2 : Int32) (h : eH) : Option (Unit × eH) :=
  if l2 ≤ 0 then (some ((), h)) else ((h_gr h 8 l0 1).bind fun v1 => (h_gr h 8 l0 2).bind fun v2 => (h_is h 3 v1).bind fun _ => e_bind (F_X3_nextByStamp N v1 v2 0 h) fun v3 h4 => (h_gr h4 8 l0 2).bind fun v5 => (h_is h4 1 v5).bind fun _ => e_bind (F_X1_remove v5 v3 h4) fun v6 h7 => (h_gr h7 8 l0 1).bind fun v8 => (h_gr h7 3 v8 5).bind fun v9 => (h_is h7 1 v9).bind fun _ => e_bind (F_X1_add v9 v3 h7) fun v10 h11 => k10 l0 (l2 + (-1)) h11)
def L_X8_dropBeyond_10 (N : Nat) (l0 : Nat) (l2 : Int32) (h : eH) : Option (Unit × eH) :=
  e_loop (σ := Nat × Int32 × eH) (fun k s => F_X8_dropBeyond_10b N (fun l0 l2 h => k (l0, l2, h)) s.1 s.2.1 s.2.2) N (l0, l2, h)
def F_X8_dropBeyond (N : Nat) (l0 : Nat) (l1 : Int32) (h : eH) : Option (Unit × eH) :=
  (h_gr h 8 l0 2).bind fun v1 => (h_is h 1 v1).bind fun _ => e_bind (F_X1_size N v1 h) fun v2 h3 => e_let (v2 - l1) fun v4 => L_X8_dropBeyond_10 N l0 v4 h3
def F_X8_blend_23b (N : Nat) (k23 : Nat → Nat → Int32 → Int32 → eH → Option (Unit × eH)) (l0 : Nat) (l1 : Nat) (l3 : Int32) (l4 : Int32) (h : eH) : Option (Unit × eH) :=
  if l4 ≤ 0 then ((h_is h 6 l1).bind fun _ => e_bind (F_X6_end l1 h) fun v1 h2 => some ((), h2)) else ((h_gr h 8 l0 1).bind fun v3 => (h_gr h 8 l0 2).bind fun v4 => (h_is h 3 v3).bind fun _ => e_bind (F_X3_nextByStamp N v3 v4 l3 h) fun v5 h6 => (h_gr h6 8 l0 1).bind fun v7 => (h_is h6 3 v7).bind fun _ => e_bind (F_X3_stampOf v7 v5 h6) fun v8 h9 => (h_gr h9 8 l0 1).bind fun v10 => (h_is h9 3 v10).bind fun _ => e_bind (F_X3_valueOf v10 v5 h9) fun v11 h12 => (h_is h12 6 l1).bind fun _ => e_bind (F_X6_add N l1 v11 h12) fun v13 h14 => k23 l0 l1 v8 (l4 + (-1)) h14)
def L_X8_blend_23 (N : Nat) (l0 : Nat) (l1 : Nat) (l3 : Int32) (l4 : Int32) (h : eH) : Option (Unit × eH) :=
  e_loop (σ := Nat × Nat × Int32 × Int32 × eH) (fun k s => F_X8_blend_23b N (fun l0 l1 l3 l4 h => k (l0, l1, l3, l4, h)) s.1 s.2.1 s.2.2.1 s.2.2.2.1 s.2.2.2.2) N (l0, l1, l3, l4, h)
def F_X8_blend (N : Nat) (l0 : Nat) (l1 : Nat) (l2 : Int32) (h : eH) : Option (Unit × eH) :=
  (h_gr h 8 l0 1).bind fun v1 => (h_gi h 3 v1 8).bind fun v2 => (h_is h 6 l1).bind fun _ => e_bind (F_X6_begin l1 v2 l2 h) fun v3 h4 => (h_gr h4 8 l0 2).bind fun v5 => (h_is h4 1 v5).bind fun _ => e_bind (F_X1_size N v5 h4) fun v6 h7 => L_X8_blend_23 N l0 l1 0 v6 h7
def F_X8_mergeInto (N : Nat) (l0 : Nat) (l1 : Int64) (l3 : Int32) (h : eH) : Option (Unit × eH) :=
  (h_gr h 8 l0 1).bind fun v1 => (h_gr h 3 v1 4).bind fun v2 => (h_gr h 8 l0 2).bind fun v3 => (h_is h 1 v2).bind fun _ => e_bind (F_X1_addAll N v2 v3 h) fun v4 h5 => (h_gr h5 8 l0 1).bind fun v6 => (h_gr h5 3 v6 7).bind fun v7 => (h_gr h5 8 l0 2).bind fun v8 => (h_is h5 1 v7).bind fun _ => e_bind (F_X1_addAll N v7 v8 h5) fun v9 h10 => (h_gr h10 8 l0 2).bind fun v11 => (h_is h10 1 v11).bind fun _ => e_bind (F_X1_empty N v11 h10) fun v12 h13 => (h_gi h13 8 l0 3).bind fun v14 => (h_gi h13 8 l0 3).bind fun v15 => (h_is h13 8 l0).bind fun _ => e_bind (F_X8_take N l0 l1 l3 v14 v15 h13) fun v16 h17 => some ((), h17)
def F_X9_sum_4b (N : Nat) (k4 : Int32 → Int32 → Int32 → eH → Option (Int32 × eH)) (l0 : Int32) (l1 : Int32) (l2 : Int32) (h : eH) : Option (Int32 × eH) :=
  if (4 : Int32) ≤ l2 then (some (l1, h)) else (e_bind (F_X9_number l0 l2 h) fun v1 h2 => e_let (l1 + v1) fun v3 => k4 l0 v3 (l2 + 1) h2)
def L_X9_sum_4 (N : Nat) (l0 : Int32) (l1 : Int32) (l2 : Int32) (h : eH) : Option (Int32 × eH) :=
  e_loop (σ := Int32 × Int32 × Int32 × eH) (fun k s => F_X9_sum_4b N (fun l0 l1 l2 h => k (l0, l1, l2, h)) s.1 s.2.1 s.2.2.1 s.2.2.2) N (l0, l1, l2, h)
def F_X9_sum (N : Nat) (l0 : Int32) (h : eH) : Option (Int32 × eH) :=
  L_X9_sum_4 N l0 0 0 h
def F_X10_isFull (l0 : Nat) (h : eH) : Option (Int32 × eH) :=
  (h_gi h 9 l0 1).bind fun v1 => (h_gr h 9 l0 0).bind fun v2 => (h_len h v2).bind fun v3 => if v1 < v3 then ((h_z 0).bind fun z => some (z, h)) else ((h_z 1).bind fun z => some (z, h))
def F_X10_append (l0 : Nat) (l1 : Int32) (h : eH) : Option (Unit × eH) :=
  (h_gi h 9 l0 1).bind fun v1 => (h_gr h 9 l0 0).bind fun v2 => (h_len h v2).bind fun v3 => if v3 ≤ v1 then (some ((), h)) else ((h_gr h 9 l0 0).bind fun v4 => (h_gi h 9 l0 1).bind fun v5 => (h_si h 0 v4 v5 l1).bind fun h6 => (h_gi h6 9 l0 1).bind fun v7 => (h_p h6 9 l0 1 (.int (v7 + 1))).bind fun h8 => some ((), h8))
def F_X10_empty (l0 : Nat) (h : eH) : Option (Unit × eH) :=
  (h_p h 9 l0 1 (.int 0)).bind fun h1 => some ((), h1)
def F_X11_type (l0 : Nat) (l1 : Int32) (h : eH) : Option (Int32 × eH) :=
  if l1 < 0 then (some ((-1), h)) else (if l1 ≤ 255 then ((h_gr h 10 l0 0).bind fun v1 => (h_is h 9 v1).bind fun _ => e_bind (F_X10_isFull v1 h) fun v2 h3 => if v2 = 0 then ((h_gr h3 10 l0 0).bind fun v4 => (h_is h3 9 v4).bind fun _ => e_bind (F_X10_append v4 l1 h3) fun v5 h6 => (h_gr h6 10 l0 0).bind fun v7 => (h_gi h6 9 v7 1).bind fun v8 => some (v8, h6)) else (some ((-3), h3))) else (some ((-1), h)))
def F_X11_clear (l0 : Nat) (h : eH) : Option (Int32 × eH) :=
  (h_gr h 10 l0 0).bind fun v1 => (h_gi h 9 v1 1).bind fun v2 => (h_gr h 10 l0 0).bind fun v3 => (h_is h 9 v3).bind fun _ => e_bind (F_X10_empty v3 h) fun v4 h5 => some (v2, h5)
def F_X11_beginAnew_85b (N : Nat) (k85 : Nat → Int32 → eH → Option (Unit × eH)) (l0 : Nat) (l1 : Int32) (h : eH) : Option (Unit × eH) :=
  (h_gr h 10 l0 3).bind fun v1 => (h_len h v1).bind fun v2 => if v2 ≤ l1 then ((h_gr h 10 l0 4).bind fun v3 => (h_is h 5 v3).bind fun _ => e_bind (F_X5_forget v3 h) fun v4 h5 => some ((), h5)) else ((h_gr h 10 l0 3).bind fun v6 => (h_ar h 5 v6 l1).bind fun v7 => (h_is h 0 v7).bind fun _ => e_bind (F_X0_becomeBlind v7 h) fun v8 h9 => k85 l0 (l1 + 1) h9)
def L_X11_beginAnew_85 (N : Nat) (l0 : Nat) (l1 : Int32) (h : eH) : Option (Unit × eH) :=
  e_loop (σ := Nat × Int32 × eH) (fun k s => F_X11_beginAnew_85b N (fun l0 l1 h => k (l0, l1, h)) s.1 s.2.1 s.2.2) N (l0, l1, h)
def F_X11_beginAnew_51b (N : Nat) (k51 : Nat → Int32 → eH → Option (Unit × eH)) (l0 : Nat) (l1 : Int32) (h : eH) : Option (Unit × eH) :=
  (h_gr h 10 l0 2).bind fun v1 => (h_len h v1).bind fun v2 => if v2 ≤ l1 then (L_X11_beginAnew_85 N l0 0 h) else ((h_gr h 10 l0 2).bind fun v3 => (h_ar h 3 v3 l1).bind fun v4 => (h_gr h 10 l0 1).bind fun v5 => (h_is h 7 v5).bind fun _ => e_bind (F_X7_kindOf v5 l1 h) fun v6 h7 => (h_is h7 4 v4).bind fun _ => e_bind (F_X4_beginAnew N v4 v6 h7) fun v8 h9 => k51 l0 (l1 + 1) h9)
def L_X11_beginAnew_51 (N : Nat) (l0 : Nat) (l1 : Int32) (h : eH) : Option (Unit × eH) :=
  e_loop (σ := Nat × Int32 × eH) (fun k s => F_X11_beginAnew_51b N (fun l0 l1 h => k (l0, l1, h)) s.1 s.2.1 s.2.2) N (l0, l1, h)
def F_X11_beginAnew (N : Nat) (l0 : Nat) (h : eH) : Option (Unit × eH) :=
  (h_gr h 10 l0 1).bind fun v1 => (h_gi h 7 v1 1).bind fun v2 => (h_p h 10 l0 7 (.int v2)).bind fun h3 => (h_gr h3 10 l0 1).bind fun v4 => (h_gi h3 7 v4 2).bind fun v5 => (h_p h3 10 l0 8 (.int v5)).bind fun h6 => (h_gr h6 10 l0 1).bind fun v7 => (h_gi h6 7 v7 3).bind fun v8 => (h_p h6 10 l0 9 (.int v8)).bind fun h9 => (h_gr h9 10 l0 1).bind fun v10 => (h_gi h9 7 v10 4).bind fun v11 => (h_p h9 10 l0 10 (.int v11)).bind fun h12 => (h_p h12 10 l0 11 (.int 0)).bind fun h13 => L_X11_beginAnew_51 N l0 0 h13
def F_X11_tells (N : Nat) (G : eG) (l0 : Nat) (h : eH) : Option (Int32 × eH) :=
  (h_gr h 10 l0 1).bind fun v1 => (h_gr h 10 l0 0).bind fun v2 => (h_is h 7 v1).bind fun _ => e_bind (F_X7_fill N G v1 v2 h) fun v3 h4 => if v3 = (-1) then ((h_gr h4 10 l0 0).bind fun v5 => (h_is h4 9 v5).bind fun _ => e_bind (F_X10_empty v5 h4) fun v6 h7 => (h_is h7 10 l0).bind fun _ => e_bind (F_X11_beginAnew N l0 h7) fun v8 h9 => (h_gr h9 10 l0 1).bind fun v10 => (h_gi h9 7 v10 5).bind fun v11 => some (v11, h9)) else (some (((-10) - v3), h4))
def F_X11_clientAt (l0 : Nat) (l1 : Int32) (h : eH) : Option (Option Nat × eH) :=
  if l1 < 0 then (some (none, h)) else ((h_gr h 10 l0 3).bind fun v1 => (h_len h v1).bind fun v2 => if v2 ≤ l1 then (some (none, h)) else ((h_gr h 10 l0 3).bind fun v3 => (h_ar h 5 v3 l1).bind fun v4 => some (some v4, h)))
def F_X11_keyAt (l0 : Nat) (l1 : Int32) (h : eH) : Option (Option Nat × eH) :=
  if l1 < 0 then (some (none, h)) else ((h_gi h 10 l0 10).bind fun v1 => if v1 ≤ l1 then (some (none, h)) else ((h_gr h 10 l0 2).bind fun v2 => (h_len h v2).bind fun v3 => if v3 ≤ l1 then (some (none, h)) else ((h_gr h 10 l0 2).bind fun v4 => (h_ar h 3 v4 l1).bind fun v5 => some (some v5, h))))
def F_X11_isSite (l0 : Nat) (l1 : Int32) (h : eH) : Option (Int32 × eH) :=
  if l1 < 0 then ((h_z 0).bind fun z => some (z, h)) else ((h_gi h 10 l0 7).bind fun v1 => if v1 ≤ l1 then ((h_z 0).bind fun z => some (z, h)) else ((h_z 1).bind fun z => some (z, h)))
def F_X11_replicaAt (l0 : Nat) (l1 : Int32) (l2 : Int32) (h : eH) : Option (Option Nat × eH) :=
  (h_is h 10 l0).bind fun _ => e_bind (F_X11_keyAt l0 l2 h) fun v1 h2 => v1.elim (some (none, h2)) fun r3 => (h_is h2 10 l0).bind fun _ => e_bind (F_X11_isSite l0 l1 h2) fun v4 h5 => if v4 = 0 then (some (none, h5)) else ((h_is h5 4 r3).bind fun _ => e_bind (F_X4_replicaOf r3 l1 h5) fun v6 h7 => some (v6, h7))
def F_X11_reads (N : Nat) (l0 : Nat) (l1 : Int32) (l2 : Int32) (l3 : Int32) (h : eH) : Option (Int32 × eH) :=
  (h_is h 10 l0).bind fun _ => e_bind (F_X11_clientAt l0 l1 h) fun v1 h2 => (h_is h2 10 l0).bind fun _ => e_bind (F_X11_replicaAt l0 l2 l3 h2) fun v3 h4 => v1.elim (some ((-1), h4)) fun r5 => v3.elim (some ((-1), h4)) fun r6 => (h_p h4 0 r5 0 (.int l3)).bind fun h7 => (h_gi h7 8 r6 3).bind fun v8 => (h_p h7 0 r5 1 (.int v8)).bind fun h9 => (h_gr h9 8 r6 1).bind fun v10 => (h_gi h9 8 r6 3).bind fun v11 => (h_gi h9 10 l0 9).bind fun v12 => (h_is h9 3 v10).bind fun _ => e_bind (F_X3_pruned N v10 v11 v12 h9) fun v13 h14 => (h_p h14 0 r5 2 (.int v13)).bind fun h15 => (h_gr h15 8 r6 1).bind fun v16 => (h_gr h15 3 v16 4).bind fun v17 => (h_gr h15 8 r6 2).bind fun v18 => (h_is h15 1 v17).bind fun _ => e_bind (F_X1_addAll N v17 v18 h15) fun v19 h20 => (h_gr h20 8 r6 2).bind fun v21 => (h_is h20 1 v21).bind fun _ => e_bind (F_X1_size N v21 h20) fun v22 h23 => some (v22, h23)
def F_X11_writes_148 (N : Nat) (l0 : Nat) (l7 : Nat) (l8 : Nat) (l9 : Int32) (l10 : Int32) (s0 : Nat) (s1 : Int64) (s2 : Int32) (s3 : Int32) (s4 : Int32) (h : eH) : Option (Int32 × eH) :=
  (h_is h 8 s0).bind fun _ => e_bind (F_X8_take N s0 s1 s2 s3 s4 h) fun v1 h2 => (h_gi h2 10 l0 8).bind fun v3 => (h_is h2 8 l8).bind fun _ => e_bind (F_X8_dropBeyond N l8 v3 h2) fun v4 h5 => if l10 = 0 then (some (l9, h5)) else ((h_is h5 0 l7).bind fun _ => e_bind (F_X0_becomeBlind l7 h5) fun v6 h7 => some (l9, h7))
def F_X11_writes_134 (N : Nat) (l0 : Nat) (l7 : Nat) (l8 : Nat) (l9 : Int32) (l10 : Int32) (s0 : Nat) (s1 : Int64) (s2 : Int32) (s3 : Int32) (h : eH) : Option (Int32 × eH) :=
  if l10 = 0 then (F_X11_writes_148 N l0 l7 l8 l9 l10 s0 s1 s2 s3 0 h) else ((h_gi h 0 l7 1).bind fun v1 => F_X11_writes_148 N l0 l7 l8 l9 l10 s0 s1 s2 s3 v1 h)
def F_X11_writes_100 (N : Nat) (l0 : Nat) (l5 : Int64) (l7 : Nat) (l8 : Nat) (l9 : Int32) (s0 : Int32) (h : eH) : Option (Int32 × eH) :=
  (h_gi h 10 l0 11).bind fun v1 => (h_p h 10 l0 11 (.int (v1 + 1))).bind fun h2 => (h_gi h2 10 l0 11).bind fun v3 => if s0 = 0 then (F_X11_writes_134 N l0 l7 l8 l9 s0 l8 l5 v3 0 h2) else ((h_gi h2 0 l7 2).bind fun v4 => F_X11_writes_134 N l0 l7 l8 l9 s0 l8 l5 v3 v4 h2)
def F_X11_writes_53 (N : Nat) (l0 : Nat) (l3 : Int32) (l4 : Int32) (l5 : Int64) (l7 : Nat) (l8 : Nat) (h : eH) : Option (Int32 × eH) :=
  (h_is h 8 l8).bind fun _ => e_bind (F_X8_nextNumber l8 h) fun v1 h2 => if v1 ≤ 40 then ((h_gr h2 8 l8 1).bind fun v3 => (h_gi h2 3 v3 8).bind fun v4 => if v4 = l4 then ((h_gi h2 0 l7 0).bind fun v5 => if v5 = l3 then (F_X11_writes_100 N l0 l5 l7 l8 v1 1 h2) else (F_X11_writes_100 N l0 l5 l7 l8 v1 0 h2)) else (some ((-4), h2))) else (some ((-3), h2))
def F_X11_writes (N : Nat) (l0 : Nat) (l1 : Int32) (l2 : Int32) (l3 : Int32) (l4 : Int32) (l5 : Int64) (h : eH) : Option (Int32 × eH) :=
  (h_is h 10 l0).bind fun _ => e_bind (F_X11_clientAt l0 l1 h) fun v1 h2 => (h_is h2 10 l0).bind fun _ => e_bind (F_X11_replicaAt l0 l2 l3 h2) fun v3 h4 => v1.elim (some ((-1), h4)) fun r5 => v3.elim (some ((-1), h4)) fun r6 => if l4 < 0 then (some ((-1), h4)) else (if l4 ≤ 1 then (if l4 = 1 then (if (0 : Int32) ≤ (lg_cmp l5 0) then (F_X11_writes_53 N l0 l3 l4 l5 r5 r6 h4) else (some ((-1), h4))) else (F_X11_writes_53 N l0 l3 l4 l5 r5 r6 h4)) else (some ((-1), h4)))
def F_X11_blinds (l0 : Nat) (l1 : Int32) (h : eH) : Option (Int32 × eH) :=
  (h_is h 10 l0).bind fun _ => e_bind (F_X11_clientAt l0 l1 h) fun v1 h2 => v1.elim (some ((-1), h2)) fun r3 => (h_is h2 0 r3).bind fun _ => e_bind (F_X0_isBlind r3 h2) fun v4 h5 => if v4 = 0 then ((h_is h5 0 r3).bind fun _ => e_bind (F_X0_becomeBlind r3 h5) fun v6 h7 => some (1, h7)) else (some (0, h5))
def F_X11_sends (N : Nat) (l0 : Nat) (l1 : Int32) (l2 : Int32) (l3 : Int32) (h : eH) : Option (Int32 × eH) :=
  (h_is h 10 l0).bind fun _ => e_bind (F_X11_replicaAt l0 l1 l3 h) fun v1 h2 => (h_is h2 10 l0).bind fun _ => e_bind (F_X11_replicaAt l0 l2 l3 h2) fun v3 h4 => v1.elim (some ((-1), h4)) fun r5 => v3.elim (some ((-1), h4)) fun r6 => if l1 = l2 then (some ((-1), h4)) else ((h_is h4 8 r6).bind fun _ => e_bind (F_X8_receive N r6 r5 h4) fun v7 h8 => (h_gi h8 10 l0 8).bind fun v9 => (h_is h8 8 r6).bind fun _ => e_bind (F_X8_dropBeyond N r6 v9 h8) fun v10 h11 => (h_gr h11 8 r6 2).bind fun v12 => (h_is h11 1 v12).bind fun _ => e_bind (F_X1_size N v12 h11) fun v13 h14 => some (v13, h14))
def F_X11_merges (N : Nat) (l0 : Nat) (l1 : Int32) (l2 : Int32) (h : eH) : Option (Int32 × eH) :=
  (h_is h 10 l0).bind fun _ => e_bind (F_X11_replicaAt l0 l1 l2 h) fun v1 h2 => v1.elim (some ((-1), h2)) fun r3 => (h_gr h2 10 l0 4).bind fun v4 => (h_is h2 5 v4).bind fun _ => e_bind (F_X5_ruleOf N v4 l2 h2) fun v5 h6 => if v5 = (-9) then (some ((-2), h6)) else ((h_gr h6 8 r3 2).bind fun v7 => (h_is h6 1 v7).bind fun _ => e_bind (F_X1_size N v7 h6) fun v8 h9 => if (2 : Int32) ≤ v8 then ((h_is h9 8 r3).bind fun _ => e_bind (F_X8_nextNumber r3 h9) fun v10 h11 => if v10 ≤ 40 then ((h_gr h11 10 l0 5).bind fun v12 => (h_is h11 8 r3).bind fun _ => e_bind (F_X8_blend N r3 v12 v5 h11) fun v13 h14 => (h_gr h14 10 l0 5).bind fun v15 => (h_gi h14 6 v15 3).bind fun v16 => if v16 = 0 then ((h_gi h14 10 l0 11).bind fun v17 => (h_p h14 10 l0 11 (.int (v17 + 1))).bind fun h18 => (h_gr h18 10 l0 5).bind fun v19 => (h_gl h18 6 v19 2).bind fun v20 => (h_gi h18 10 l0 11).bind fun v21 => (h_is h18 8 r3).bind fun _ => e_bind (F_X8_mergeInto N r3 v20 v21 h18) fun v22 h23 => some (v10, h23)) else (some ((-5), h14))) else (some ((-3), h11))) else (some ((-2), h9)))
def F_X11_rules (N : Nat) (l0 : Nat) (l1 : Int32) (l2 : Int32) (h : eH) : Option (Int32 × eH) :=
  (h_is h 10 l0).bind fun _ => e_bind (F_X11_keyAt l0 l1 h) fun v1 h2 => v1.elim (some ((-1), h2)) fun r3 => if l2 < 0 then (some ((-1), h2)) else (if l2 ≤ 4 then ((h_gr h2 10 l0 4).bind fun v4 => (h_is h2 5 v4).bind fun _ => e_bind (F_X5_give N v4 l1 l2 h2) fun v5 h6 => some (v5, h6)) else (some ((-1), h2)))
def F_X11_row (l0 : Nat) (l1 : Int32) (l2 : Int32) (l3 : Int32) (h : eH) : Option (Int32 × eH) :=
  (h_is h 10 l0).bind fun _ => e_bind (F_X11_replicaAt l0 l1 l2 h) fun v1 h2 => v1.elim (some ((-1), h2)) fun r3 => (h_is h2 10 l0).bind fun _ => e_bind (F_X11_isSite l0 l3 h2) fun v4 h5 => if v4 = 0 then (some ((-1), h5)) else ((h_gi h5 8 r3 3).bind fun v6 => e_bind (F_X9_number v6 l3 h5) fun v7 h8 => some (v7, h8))
def F_X11_sibling (N : Nat) (l0 : Nat) (l1 : Int32) (l2 : Int32) (l3 : Int32) (l4 : Int32) (h : eH) : Option (Int64 × eH) :=
  (h_is h 10 l0).bind fun _ => e_bind (F_X11_replicaAt l0 l1 l2 h) fun v1 h2 => v1.elim (some ((-1), h2)) fun r3 => if l3 < 0 then (some ((-1), h2)) else (if l4 < 0 then (some ((-1), h2)) else (if l4 ≤ 3 then ((h_gr h2 8 r3 2).bind fun v4 => (h_is h2 1 v4).bind fun _ => e_bind (F_X1_at N v4 l3 h2) fun v5 h6 => if v5 = (-1) then (some ((-9), h6)) else (if l4 = 0 then (e_bind (F_X1_siteOf v5 h6) fun v7 h8 => some ((v7.toInt64), h8)) else (if l4 = 1 then (e_bind (F_X1_numberOf v5 h6) fun v9 h10 => some ((v9.toInt64), h10)) else (if l4 = 2 then ((h_gr h6 8 r3 1).bind fun v11 => (h_is h6 3 v11).bind fun _ => e_bind (F_X3_stampOf v11 v5 h6) fun v12 h13 => some ((v12.toInt64), h13)) else ((h_gr h6 8 r3 1).bind fun v14 => (h_is h6 3 v14).bind fun _ => e_bind (F_X3_valueOf v14 v5 h6) fun v15 h16 => some (v15, h16)))))) else (some ((-1), h2))))
def F_X11_context_95 (l5 : Int32) (s0 : Int32) (h : eH) : Option (Int32 × eH) :=
  e_bind (F_X9_number s0 l5 h) fun v1 h2 => some (v1, h2)
def F_X11_context_59 (l2 : Int32) (l3 : Nat) (l4 : Int32) (l5 : Int32) (h : eH) : Option (Int32 × eH) :=
  (h_is h 0 l3).bind fun _ => e_bind (F_X0_isBlind l3 h) fun v1 h2 => if v1 = 0 then (if l2 = (-1) then ((h_gi h2 0 l3 0).bind fun v5 => some (v5, h2)) else (if l4 = 0 then ((h_gi h2 0 l3 1).bind fun v3 => F_X11_context_95 l5 v3 h2) else ((h_gi h2 0 l3 2).bind fun v4 => F_X11_context_95 l5 v4 h2))) else (some ((-9), h2))
def F_X11_context_41 (l0 : Nat) (l2 : Int32) (l3 : Nat) (l4 : Int32) (s0 : Int32) (h : eH) : Option (Int32 × eH) :=
  if l2 = (-1) then (F_X11_context_59 l2 l3 l4 s0 h) else ((h_is h 10 l0).bind fun _ => e_bind (F_X11_isSite l0 s0 h) fun v1 h2 => if v1 = 0 then (some ((-1), h2)) else (F_X11_context_59 l2 l3 l4 s0 h2))
def F_X11_context_27 (l0 : Nat) (l2 : Int32) (l3 : Nat) (s0 : Int32) (h : eH) : Option (Int32 × eH) :=
  if s0 = 0 then (F_X11_context_41 l0 l2 l3 s0 l2 h) else (F_X11_context_41 l0 l2 l3 s0 (l2 - 4) h)
def F_X11_context (l0 : Nat) (l1 : Int32) (l2 : Int32) (h : eH) : Option (Int32 × eH) :=
  (h_is h 10 l0).bind fun _ => e_bind (F_X11_clientAt l0 l1 h) fun v1 h2 => v1.elim (some ((-1), h2)) fun r3 => if ((-1) : Int32) ≤ l2 then (if l2 < 4 then (F_X11_context_27 l0 l2 r3 0 h2) else (F_X11_context_27 l0 l2 r3 1 h2)) else (some ((-1), h2))
def F_X11_dotAt (l0 : Nat) (l1 : Int32) (l2 : Int32) (l3 : Int32) (h : eH) : Option (Int32 × eH) :=
  (h_is h 10 l0).bind fun _ => e_bind (F_X11_keyAt l0 l1 h) fun v1 h2 => v1.elim (some ((-1), h2)) fun r3 => (h_is h2 10 l0).bind fun _ => e_bind (F_X11_isSite l0 l2 h2) fun v4 h5 => if v4 = 0 then (some ((-1), h5)) else (if l3 < 1 then (some ((-1), h5)) else (if l3 ≤ 40 then (e_bind (F_X1_of l2 l3 h5) fun v6 h7 => (h_gr h7 4 r3 0).bind fun v8 => (h_is h7 3 v8).bind fun _ => e_bind (F_X3_has v8 v6 h7) fun v9 h10 => if v9 = 0 then (some ((-1), h10)) else (some (v6, h10))) else (some ((-1), h5))))
def F_X11_write (N : Nat) (l0 : Nat) (l1 : Int32) (l2 : Int32) (l3 : Int32) (l4 : Int32) (h : eH) : Option (Int64 × eH) :=
  (h_is h 10 l0).bind fun _ => e_bind (F_X11_keyAt l0 l1 h) fun v1 h2 => (h_is h2 10 l0).bind fun _ => e_bind (F_X11_dotAt l0 l1 l2 l3 h2) fun v3 h4 => v1.elim (some ((-1), h4)) fun r5 => if v3 = (-1) then (some ((-1), h4)) else (if l4 < 0 then (some ((-1), h4)) else (if l4 ≤ 7 then ((h_gr h4 4 r5 0).bind fun v6 => if l4 = 0 then ((h_is h4 3 v6).bind fun _ => e_bind (F_X3_valueOf v6 v3 h4) fun v7 h8 => some (v7, h8)) else (if l4 = 1 then ((h_is h4 3 v6).bind fun _ => e_bind (F_X3_stampOf v6 v3 h4) fun v9 h10 => some ((v9.toInt64), h10)) else (if l4 = 2 then ((h_gr h4 3 v6 4).bind fun v11 => (h_is h4 1 v11).bind fun _ => e_bind (F_X1_has v11 v3 h4) fun v12 h13 => e_bind (F_X11_bit v12 h13) fun v14 h15 => some ((v14.toInt64), h15)) else (if l4 = 3 then ((h_gr h4 3 v6 5).bind fun v16 => (h_is h4 1 v16).bind fun _ => e_bind (F_X1_has v16 v3 h4) fun v17 h18 => e_bind (F_X11_bit v17 h18) fun v19 h20 => some ((v19.toInt64), h20)) else (if l4 = 4 then ((h_gr h4 3 v6 6).bind fun v21 => (h_is h4 1 v21).bind fun _ => e_bind (F_X1_has v21 v3 h4) fun v22 h23 => e_bind (F_X11_bit v22 h23) fun v24 h25 => some ((v24.toInt64), h25)) else (if l4 = 5 then ((h_gr h4 3 v6 7).bind fun v26 => (h_is h4 1 v26).bind fun _ => e_bind (F_X1_has v26 v3 h4) fun v27 h28 => e_bind (F_X11_bit v27 h28) fun v29 h30 => some ((v29.toInt64), h30)) else (if l4 = 6 then ((h_is h4 4 r5).bind fun _ => e_bind (F_X4_holders N r5 v3 h4) fun v31 h32 => some ((v31.toInt64), h32)) else ((h_is h4 4 r5).bind fun _ => e_bind (F_X4_isLost N r5 v3 h4) fun v33 h34 => e_bind (F_X11_bit v33 h34) fun v35 h36 => some ((v35.toInt64), h36))))))))) else (some ((-1), h4))))
def F_X11_ahead_102 (s0 : Int32) (h : eH) : Option (Int32 × eH) :=
  e_bind (F_X11_bit s0 h) fun v1 h2 => some (v1, h2)
def F_X11_ahead_85 (l2 : Int32) (l3 : Int32) (s0 : Int32) (h : eH) : Option (Int32 × eH) :=
  e_bind (F_X9_number s0 l2 h) fun v1 h2 => if v1 < l3 then (F_X11_ahead_102 0 h2) else (F_X11_ahead_102 1 h2)
def F_X11_ahead (l0 : Nat) (l1 : Int32) (l2 : Int32) (l3 : Int32) (l4 : Int32) (l5 : Int32) (l6 : Int32) (h : eH) : Option (Int32 × eH) :=
  (h_is h 10 l0).bind fun _ => e_bind (F_X11_keyAt l0 l1 h) fun v1 h2 => (h_is h2 10 l0).bind fun _ => e_bind (F_X11_dotAt l0 l1 l2 l3 h2) fun v3 h4 => (h_is h4 10 l0).bind fun _ => e_bind (F_X11_dotAt l0 l1 l4 l5 h4) fun v5 h6 => v1.elim (some ((-1), h6)) fun r7 => if v3 = (-1) then (some ((-1), h6)) else (if v5 = (-1) then (some ((-1), h6)) else (if l6 < 0 then (some ((-1), h6)) else (if l6 ≤ 1 then (if l6 = 0 then ((h_gr h6 4 r7 0).bind fun v11 => (h_is h6 3 v11).bind fun _ => e_bind (F_X3_toldOf v11 v5 h6) fun v12 h13 => F_X11_ahead_85 l2 l3 v12 h13) else ((h_gr h6 4 r7 0).bind fun v8 => (h_is h6 3 v8).bind fun _ => e_bind (F_X3_knownOf v8 v5 h6) fun v9 h10 => F_X11_ahead_85 l2 l3 v9 h10)) else (some ((-1), h6)))))
def F_X11_alike_62 (N : Nat) (s0 : Int32) (h : eH) : Option (Int32 × eH) :=
  e_bind (F_X11_bit s0 h) fun v1 h2 => some (v1, h2)
def F_X11_alike_61 (N : Nat) (h : eH) : Option (Int32 × eH) :=
  F_X11_alike_62 N 0 h
def F_X11_alike (N : Nat) (l0 : Nat) (l1 : Int32) (l2 : Int32) (l3 : Int32) (h : eH) : Option (Int32 × eH) :=
  (h_is h 10 l0).bind fun _ => e_bind (F_X11_replicaAt l0 l1 l3 h) fun v1 h2 => (h_is h2 10 l0).bind fun _ => e_bind (F_X11_replicaAt l0 l2 l3 h2) fun v3 h4 => v1.elim (some ((-1), h4)) fun r5 => v3.elim (some ((-1), h4)) fun r6 => (h_gi h4 8 r5 3).bind fun v7 => (h_gi h4 8 r6 3).bind fun v8 => if v7 = v8 then ((h_gr h4 8 r5 2).bind fun v9 => (h_gr h4 8 r6 2).bind fun v10 => (h_is h4 1 v9).bind fun _ => e_bind (F_X1_isSame N v9 v10 h4) fun v11 h12 => if v11 = 0 then (F_X11_alike_61 N h12) else (F_X11_alike_62 N 1 h12)) else (F_X11_alike_61 N h4)
def F_X11_behind (N : Nat) (l0 : Nat) (l1 : Int32) (l2 : Int32) (h : eH) : Option (Int32 × eH) :=
  (h_is h 10 l0).bind fun _ => e_bind (F_X11_keyAt l0 l2 h) fun v1 h2 => (h_is h2 10 l0).bind fun _ => e_bind (F_X11_replicaAt l0 l1 l2 h2) fun v3 h4 => v1.elim (some ((-1), h4)) fun r5 => v3.elim (some ((-1), h4)) fun r6 => (h_is h4 4 r5).bind fun _ => e_bind (F_X4_greatestRow N r5 h4) fun v7 h8 => e_bind (F_X9_sum N v7 h8) fun v9 h10 => (h_gi h10 8 r6 3).bind fun v11 => e_bind (F_X9_sum N v11 h10) fun v12 h13 => some ((v9 - v12), h13)
def F_X11_spread (N : Nat) (l0 : Nat) (l1 : Int32) (l2 : Int32) (h : eH) : Option (Int32 × eH) :=
  (h_is h 10 l0).bind fun _ => e_bind (F_X11_keyAt l0 l1 h) fun v1 h2 => v1.elim (some ((-1), h2)) fun r3 => if l2 < 0 then (some ((-1), h2)) else (if l2 ≤ 1 then ((h_gr h2 10 l0 6).bind fun v4 => (h_gi h2 10 l0 7).bind fun v5 => (h_is h2 2 v4).bind fun _ => e_bind (F_X2_lookAt N v4 r3 v5 h2) fun v6 h7 => if l2 = 0 then ((h_gr h7 10 l0 6).bind fun v11 => (h_is h7 2 v11).bind fun _ => e_bind (F_X2_fewest N v11 h7) fun v12 h13 => some (v12, h13)) else ((h_gr h7 10 l0 6).bind fun v8 => (h_is h7 2 v8).bind fun _ => e_bind (F_X2_firstOfFewest N v8 h7) fun v9 h10 => some (v9, h10))) else (some ((-1), h2)))
def F_X11_rule (l0 : Nat) (l1 : Int32) (l2 : Int32) (h : eH) : Option (Int32 × eH) :=
  if l1 < 0 then (some ((-1), h)) else (if l2 < 0 then (some ((-1), h)) else (if l2 ≤ 1 then (if l2 = 0 then ((h_gr h 10 l0 4).bind fun v4 => (h_is h 5 v4).bind fun _ => e_bind (F_X5_keyAtPlace v4 l1 h) fun v5 h6 => some (v5, h6)) else ((h_gr h 10 l0 4).bind fun v1 => (h_is h 5 v1).bind fun _ => e_bind (F_X5_ruleAtPlace v1 l1 h) fun v2 h3 => some (v2, h3))) else (some ((-1), h))))
def F_X11_tally (N : Nat) (l0 : Nat) (l1 : Int32) (l2 : Int32) (h : eH) : Option (Int32 × eH) :=
  (h_is h 10 l0).bind fun _ => e_bind (F_X11_keyAt l0 l1 h) fun v1 h2 => v1.elim (some ((-1), h2)) fun r3 => if l2 < 0 then (some ((-1), h2)) else (if l2 ≤ 6 then ((h_gr h2 4 r3 0).bind fun v4 => if l2 = 0 then ((h_gi h2 3 v4 8).bind fun v5 => some (v5, h2)) else (if l2 = 1 then ((h_gi h2 3 v4 9).bind fun v6 => e_bind (F_X9_sum N v6 h2) fun v7 h8 => some (v7, h8)) else (if l2 = 2 then ((h_gr h2 3 v4 6).bind fun v9 => (h_is h2 1 v9).bind fun _ => e_bind (F_X1_size N v9 h2) fun v10 h11 => some (v10, h11)) else (if l2 = 3 then ((h_gr h2 3 v4 7).bind fun v12 => (h_is h2 1 v12).bind fun _ => e_bind (F_X1_size N v12 h2) fun v13 h14 => some (v13, h14)) else (if l2 = 4 then ((h_gr h2 3 v4 5).bind fun v15 => (h_is h2 1 v15).bind fun _ => e_bind (F_X1_size N v15 h2) fun v16 h17 => some (v16, h17)) else (if l2 = 5 then ((h_is h2 4 r3).bind fun _ => e_bind (F_X4_lostTotal N r3 h2) fun v18 h19 => some (v18, h19)) else ((h_gi h2 3 v4 10).bind fun v20 => some (v20, h2)))))))) else (some ((-1), h2)))
def F_X11_count (l0 : Nat) (l1 : Int32) (h : eH) : Option (Int32 × eH) :=
  if l1 = 0 then ((h_gi h 10 l0 7).bind fun v1 => some (v1, h)) else (if l1 = 1 then ((h_gi h 10 l0 10).bind fun v2 => some (v2, h)) else (if l1 = 2 then ((h_gi h 10 l0 8).bind fun v3 => some (v3, h)) else (if l1 = 3 then ((h_gi h 10 l0 9).bind fun v4 => some (v4, h)) else (if l1 = 4 then ((h_gi h 10 l0 11).bind fun v5 => some (v5, h)) else (if l1 = 5 then ((h_gr h 10 l0 0).bind fun v6 => (h_gi h 9 v6 1).bind fun v7 => some (v7, h)) else (some ((-1), h)))))))
def F_X12_in (l0 : Int64) (l2 : Int64) (l4 : Int64) (h : eH) : Option (Int32 × eH) :=
  if (lg_cmp l0 l2) < 0 then ((h_z 0).bind fun z => some (z, h)) else (if (0 : Int32) < (lg_cmp l0 l4) then ((h_z 0).bind fun z => some (z, h)) else ((h_z 1).bind fun z => some (z, h)))
def F_X12_has (l0 : Int32) (l1 : Int32) (h : eH) : Option (Int32 × eH) :=
  if ((l0 >>> (l1 &&& 31)) &&& 1) = 1 then ((h_z 1).bind fun z => some (z, h)) else ((h_z 0).bind fun z => some (z, h))
def F_X12_forgets_104b (N : Nat) (k104 : Nat → Int32 → eH → Option (Unit × eH)) (l0 : Nat) (l1 : Int32) (h : eH) : Option (Unit × eH) :=
  if (4 : Int32) ≤ l1 then (some ((), h)) else ((h_gr h 11 l0 17).bind fun v1 => (h_si h 0 v1 l1 0).bind fun h2 => (h_gr h2 11 l0 18).bind fun v3 => (h_si h2 0 v3 l1 (-9)).bind fun h4 => k104 l0 (l1 + 1) h4)
def L_X12_forgets_104 (N : Nat) (l0 : Nat) (l1 : Int32) (h : eH) : Option (Unit × eH) :=
  e_loop (σ := Nat × Int32 × eH) (fun k s => F_X12_forgets_104b N (fun l0 l1 h => k (l0, l1, h)) s.1 s.2.1 s.2.2) N (l0, l1, h)
def F_X12_forgets_83b (N : Nat) (k83 : Nat → Int32 → eH → Option (Unit × eH)) (l0 : Nat) (l1 : Int32) (h : eH) : Option (Unit × eH) :=
  if (16 : Int32) ≤ l1 then (L_X12_forgets_104 N l0 0 h) else ((h_gr h 11 l0 15).bind fun v1 => (h_si h 0 v1 l1 0).bind fun h2 => k83 l0 (l1 + 1) h2)
def L_X12_forgets_83 (N : Nat) (l0 : Nat) (l1 : Int32) (h : eH) : Option (Unit × eH) :=
  e_loop (σ := Nat × Int32 × eH) (fun k s => F_X12_forgets_83b N (fun l0 l1 h => k (l0, l1, h)) s.1 s.2.1 s.2.2) N (l0, l1, h)
def F_X12_forgets_62b (N : Nat) (k62 : Nat → Int32 → eH → Option (Unit × eH)) (l0 : Nat) (l1 : Int32) (h : eH) : Option (Unit × eH) :=
  if (64 : Int32) ≤ l1 then (L_X12_forgets_83 N l0 0 h) else ((h_gr h 11 l0 16).bind fun v1 => (h_si h 0 v1 l1 0).bind fun h2 => k62 l0 (l1 + 1) h2)
def L_X12_forgets_62 (N : Nat) (l0 : Nat) (l1 : Int32) (h : eH) : Option (Unit × eH) :=
  e_loop (σ := Nat × Int32 × eH) (fun k s => F_X12_forgets_62b N (fun l0 l1 h => k (l0, l1, h)) s.1 s.2.1 s.2.2) N (l0, l1, h)
def F_X12_forgets_12b (N : Nat) (k12 : Nat → Int32 → eH → Option (Unit × eH)) (l0 : Nat) (l1 : Int32) (h : eH) : Option (Unit × eH) :=
  if (656 : Int32) ≤ l1 then (L_X12_forgets_62 N l0 0 h) else ((h_gr h 11 l0 10).bind fun v1 => (h_si h 2 v1 l1 (vp_nar .boolean 0)).bind fun h2 => (h_gr h2 11 l0 11).bind fun v3 => (h_si h2 2 v3 l1 (vp_nar .boolean 0)).bind fun h4 => (h_gr h4 11 l0 12).bind fun v5 => (h_si h4 2 v5 l1 (vp_nar .boolean 0)).bind fun h6 => (h_gr h6 11 l0 13).bind fun v7 => (h_si h6 2 v7 l1 (vp_nar .boolean 0)).bind fun h8 => (h_gr h8 11 l0 14).bind fun v9 => (h_si h8 0 v9 l1 0).bind fun h10 => k12 l0 (l1 + 1) h10)
def L_X12_forgets_12 (N : Nat) (l0 : Nat) (l1 : Int32) (h : eH) : Option (Unit × eH) :=
  e_loop (σ := Nat × Int32 × eH) (fun k s => F_X12_forgets_12b N (fun l0 l1 h => k (l0, l1, h)) s.1 s.2.1 s.2.2) N (l0, l1, h)
def F_X12_forgets (N : Nat) (l0 : Nat) (h : eH) : Option (Unit × eH) :=
  (h_p h 11 l0 5 (.int 0)).bind fun h1 => (h_p h1 11 l0 21 (.int 0)).bind fun h2 => L_X12_forgets_12 N l0 0 h2
def F_X12_begins (N : Nat) (l0 : Nat) (h : eH) : Option (Unit × eH) :=
  (h_p h 11 l0 0 (.int 3)).bind fun h1 => (h_p h1 11 l0 1 (.int 4)).bind fun h2 => (h_p h2 11 l0 2 (.int 4)).bind fun h3 => (h_p h3 11 l0 3 (.int 0)).bind fun h4 => (h_is h4 11 l0).bind fun _ => e_bind (F_X12_forgets N l0 h4) fun v5 h6 => some ((), h6)
def F_X12_at (l0 : Int32) (l1 : Int32) (l2 : Int32) (h : eH) : Option (Int32 × eH) :=
  some ((((164 * l0) + (41 * l1)) + l2), h)
def F_X12_rowAt (l0 : Int32) (l1 : Int32) (h : eH) : Option (Int32 × eH) :=
  some (((16 * l0) + (4 * l1)), h)
def F_X12_isSite (l0 : Nat) (l1 : Int32) (h : eH) : Option (Int32 × eH) :=
  (h_gi h 11 l0 0).bind fun v1 => e_bind (F_X12_in (l1.toInt64) 0 ((v1 - 1).toInt64) h) fun v2 h3 => (h_z v2).bind fun z => some (z, h3)
def F_X12_isKey (l0 : Nat) (l1 : Int32) (h : eH) : Option (Int32 × eH) :=
  (h_gi h 11 l0 3).bind fun v1 => e_bind (F_X12_in (l1.toInt64) 0 ((v1 - 1).toInt64) h) fun v2 h3 => (h_z v2).bind fun z => some (z, h3)
def F_X12_isClient (l0 : Int32) (h : eH) : Option (Int32 × eH) :=
  e_bind (F_X12_in (l0.toInt64) 0 3 h) fun v1 h2 => (h_z v1).bind fun z => some (z, h2)
def F_X12_isWrite (l0 : Nat) (l1 : Int32) (l2 : Int32) (l3 : Int32) (h : eH) : Option (Int32 × eH) :=
  (h_is h 11 l0).bind fun _ => e_bind (F_X12_isKey l0 l1 h) fun v1 h2 => if v1 = 0 then ((h_z 0).bind fun z => some (z, h2)) else ((h_is h2 11 l0).bind fun _ => e_bind (F_X12_isSite l0 l2 h2) fun v3 h4 => if v3 = 0 then ((h_z 0).bind fun z => some (z, h4)) else ((h_gr h4 11 l0 15).bind fun v5 => (h_ai h4 0 v5 ((4 * l1) + l2)).bind fun v6 => e_bind (F_X12_in (l3.toInt64) 1 (v6.toInt64) h4) fun v7 h8 => if v7 = 0 then ((h_z 0).bind fun z => some (z, h8)) else ((h_z 1).bind fun z => some (z, h8))))
def F_X12_type (l0 : Nat) (l1 : Int32) (h : eH) : Option (Int32 × eH) :=
  e_bind (F_X12_in (l1.toInt64) 0 255 h) fun v1 h2 => if v1 = 0 then (some ((-1), h2)) else ((h_gi h2 11 l0 24).bind fun v3 => if v3 = 100 then (some ((-3), h2)) else ((h_gr h2 11 l0 25).bind fun v4 => (h_gi h2 11 l0 24).bind fun v5 => (h_si h2 0 v4 v5 l1).bind fun h6 => (h_gi h6 11 l0 24).bind fun v7 => (h_p h6 11 l0 24 (.int (v7 + 1))).bind fun h8 => (h_gi h8 11 l0 24).bind fun v9 => some (v9, h8)))
def F_X12_clear (l0 : Nat) (h : eH) : Option (Int32 × eH) :=
  (h_gi h 11 l0 24).bind fun v1 => (h_p h 11 l0 24 (.int 0)).bind fun h2 => some (v1, h2)
def F_X12_isBetween (l0 : Nat) (l1 : Int32) (l2 : Int32) (h : eH) : Option (Int32 × eH) :=
  (h_gi h 11 l0 26).bind fun v1 => (h_gi h 11 l0 24).bind fun v2 => if v2 ≤ v1 then ((h_z 0).bind fun z => some (z, h)) else ((h_gr h 11 l0 25).bind fun v3 => (h_gi h 11 l0 26).bind fun v4 => (h_ai h 0 v3 v4).bind fun v5 => e_bind (F_X12_in (v5.toInt64) (l1.toInt64) (l2.toInt64) h) fun v6 h7 => if v6 = 0 then ((h_z 0).bind fun z => some (z, h7)) else ((h_z 1).bind fun z => some (z, h7)))
def F_X12_next_129 (N : Nat) (k72 : Nat → eH → Option (Unit × eH)) (l0 : Nat) (s0 : Nat) (s1 : Int64) (h : eH) : Option (Unit × eH) :=
  (h_p h 11 s0 29 (.long s1)).bind fun h1 => (h_gi h1 11 l0 26).bind fun v2 => (h_p h1 11 l0 26 (.int (v2 + 1))).bind fun h3 => k72 l0 h3
def F_X12_next_72b (N : Nat) (k72 : Nat → eH → Option (Unit × eH)) (l0 : Nat) (h : eH) : Option (Unit × eH) :=
  (h_is h 11 l0).bind fun _ => e_bind (F_X12_isBetween l0 97 122 h) fun v1 h2 => if v1 = 0 then (some ((), h2)) else ((h_gi h2 11 l0 26).bind fun v3 => (h_gi h2 11 l0 27).bind fun v4 => if (6 : Int32) ≤ (v3 - v4) then (F_X12_next_129 N k72 l0 l0 (-1) h2) else ((h_gl h2 11 l0 29).bind fun v5 => (h_gr h2 11 l0 25).bind fun v6 => (h_gi h2 11 l0 26).bind fun v7 => (h_ai h2 0 v6 v7).bind fun v8 => F_X12_next_129 N k72 l0 l0 ((((32 * v5) + (v8.toInt64)) - 97) + 1) h2))
def L_X12_next_72 (N : Nat) (l0 : Nat) (h : eH) : Option (Unit × eH) :=
  e_loop (σ := Nat × eH) (fun k s => F_X12_next_72b N (fun l0 h => k (l0, h)) s.1 s.2) N (l0, h)
def F_X12_next_188b (N : Nat) (k188 : Nat → eH → Option (Unit × eH)) (l0 : Nat) (h : eH) : Option (Unit × eH) :=
  (h_is h 11 l0).bind fun _ => e_bind (F_X12_isBetween l0 48 57 h) fun v1 h2 => if v1 = 0 then (some ((), h2)) else ((h_p h2 11 l0 28 (.int 4)).bind fun h3 => (h_gi h3 11 l0 26).bind fun v4 => (h_p h3 11 l0 26 (.int (v4 + 1))).bind fun h5 => k188 l0 h5)
def L_X12_next_188 (N : Nat) (l0 : Nat) (h : eH) : Option (Unit × eH) :=
  e_loop (σ := Nat × eH) (fun k s => F_X12_next_188b N (fun l0 h => k (l0, h)) s.1 s.2) N (l0, h)
def F_X12_next_237 (N : Nat) (l0 : Nat) (s0 : Nat) (s1 : Int32) (h : eH) : Option (Unit × eH) :=
  (h_p h 11 s0 28 (.int s1)).bind fun h1 => (h_gi h1 11 l0 26).bind fun v2 => (h_p h1 11 l0 26 (.int (v2 + 1))).bind fun h3 => some ((), h3)
def F_X12_next_0b (N : Nat) (k0 : Nat → eH → Option (Unit × eH)) (l0 : Nat) (h : eH) : Option (Unit × eH) :=
  (h_is h 11 l0).bind fun _ => e_bind (F_X12_isBetween l0 32 32 h) fun v1 h2 => if v1 = 0 then ((h_gi h2 11 l0 26).bind fun v3 => (h_p h2 11 l0 27 (.int v3)).bind fun h4 => (h_p h4 11 l0 29 (.long 0)).bind fun h5 => (h_gi h5 11 l0 26).bind fun v6 => (h_gi h5 11 l0 24).bind fun v7 => if v6 = v7 then ((h_p h5 11 l0 28 (.int 0)).bind fun h23 => some ((), h23)) else ((h_is h5 11 l0).bind fun _ => e_bind (F_X12_isBetween l0 97 122 h5) fun v8 h9 => if v8 = 0 then ((h_is h9 11 l0).bind fun _ => e_bind (F_X12_isBetween l0 48 57 h9) fun v10 h11 => if v10 = 0 then ((h_gr h11 11 l0 25).bind fun v12 => (h_gi h11 11 l0 26).bind fun v13 => (h_ai h11 0 v12 v13).bind fun v14 => if v14 = 59 then (F_X12_next_237 N l0 l0 3 h11) else (F_X12_next_237 N l0 l0 4 h11)) else ((h_gr h11 11 l0 25).bind fun v15 => (h_gi h11 11 l0 26).bind fun v16 => (h_ai h11 0 v15 v16).bind fun v17 => (h_p h11 11 l0 29 (.long ((v17 - 48).toInt64))).bind fun h18 => (h_gi h18 11 l0 26).bind fun v19 => (h_p h18 11 l0 26 (.int (v19 + 1))).bind fun h20 => (h_p h20 11 l0 28 (.int 2)).bind fun h21 => L_X12_next_188 N l0 h21)) else ((h_p h9 11 l0 28 (.int 1)).bind fun h22 => L_X12_next_72 N l0 h22))) else ((h_gi h2 11 l0 26).bind fun v24 => (h_p h2 11 l0 26 (.int (v24 + 1))).bind fun h25 => k0 l0 h25)
def L_X12_next_0 (N : Nat) (l0 : Nat) (h : eH) : Option (Unit × eH) :=
  e_loop (σ := Nat × eH) (fun k s => F_X12_next_0b N (fun l0 h => k (l0, h)) s.1 s.2) N (l0, h)
def F_X12_next (N : Nat) (l0 : Nat) (h : eH) : Option (Unit × eH) := L_X12_next_0 N l0 h
def F_X12_word (l0 : Int32) (l1 : Int32) (l2 : Int32) (l3 : Int32) (l4 : Int32) (h : eH) : Option (Int64 × eH) :=
  some ((((((((((l0.toInt64) * 32) + (l1.toInt64)) * 32) + (l2.toInt64)) * 32) + (l3.toInt64)) * 32) + (l4.toInt64)), h)
def F_X12_number (N : Nat) (l0 : Nat) (l1 : Int32) (l2 : Int32) (h : eH) : Option (Int32 × eH) :=
  (h_is h 11 l0).bind fun _ => e_bind (F_X12_next N l0 h) fun v1 h2 => (h_gi h2 11 l0 28).bind fun v3 => if v3 = 2 then ((h_gl h2 11 l0 29).bind fun v4 => e_bind (F_X12_in v4 (l1.toInt64) (l2.toInt64) h2) fun v5 h6 => if v5 = 0 then ((h_z 0).bind fun z => some (z, h6)) else ((h_z 1).bind fun z => some (z, h6))) else ((h_z 0).bind fun z => some (z, h2))
def F_X12_stops (N : Nat) (l0 : Nat) (h : eH) : Option (Int32 × eH) :=
  (h_is h 11 l0).bind fun _ => e_bind (F_X12_next N l0 h) fun v1 h2 => (h_gi h2 11 l0 28).bind fun v3 => if v3 = 3 then ((h_z 1).bind fun z => some (z, h2)) else ((h_z 0).bind fun z => some (z, h2))
def F_X12_readsItem_237 (N : Nat) (l0 : Nat) (s0 : Nat) (s1 : Int32) (s2 : Int32) (h : eH) : Option (Int32 × eH) :=
  (h_si h 0 s0 s1 s2).bind fun h1 => (h_gi h1 11 l0 33).bind fun v2 => (h_p h1 11 l0 33 (.int (v2 + 1))).bind fun h3 => (h_is h3 11 l0).bind fun _ => e_bind (F_X12_stops N l0 h3) fun v4 h5 => (h_z v4).bind fun z => some (z, h5)
def F_X12_readsItem_220 (N : Nat) (l0 : Nat) (l3 : Int32) (h : eH) : Option (Int32 × eH) :=
  (h_gr h 11 l0 34).bind fun v1 => (h_gi h 11 l0 33).bind fun v2 => if l3 = 0 then (F_X12_readsItem_237 N l0 v1 v2 1 h) else (F_X12_readsItem_237 N l0 v1 v2 0 h)
def F_X12_readsItem_189 (N : Nat) (l0 : Nat) (l1 : Int64) (s0 : Int32) (h : eH) : Option (Int32 × eH) :=
  (h_gi h 11 l0 33).bind fun v1 => if v1 = 4 then ((h_z 0).bind fun z => some (z, h)) else (if s0 = 0 then (e_bind (F_X12_word 0 2 9 20 19 h) fun v2 h3 => if (lg_cmp l1 v2) = 0 then (F_X12_readsItem_220 N l0 s0 h3) else ((h_z 0).bind fun z => some (z, h3))) else (F_X12_readsItem_220 N l0 s0 h))
def F_X12_readsItem (N : Nat) (l0 : Nat) (h : eH) : Option (Int32 × eH) :=
  (h_is h 11 l0).bind fun _ => e_bind (F_X12_next N l0 h) fun v1 h2 => (h_gi h2 11 l0 28).bind fun v3 => if v3 = 1 then ((h_gl h2 11 l0 29).bind fun v4 => e_bind (F_X12_word 19 9 20 5 19 h2) fun v5 h6 => if (lg_cmp v4 v5) = 0 then ((h_gi h6 11 l0 30).bind fun v27 => if v27 = 0 then ((h_is h6 11 l0).bind fun _ => e_bind (F_X12_number N l0 2 4 h6) fun v28 h29 => if v28 = 0 then ((h_z 0).bind fun z => some (z, h29)) else ((h_gl h29 11 l0 29).bind fun v30 => (h_p h29 11 l0 30 (.int (v30.toInt32))).bind fun h31 => (h_is h31 11 l0).bind fun _ => e_bind (F_X12_stops N l0 h31) fun v32 h33 => (h_z v32).bind fun z => some (z, h33))) else ((h_z 0).bind fun z => some (z, h6))) else (e_bind (F_X12_word 2 15 21 14 4 h6) fun v7 h8 => if (lg_cmp v4 v7) = 0 then ((h_gi h8 11 l0 31).bind fun v20 => if v20 = 0 then ((h_is h8 11 l0).bind fun _ => e_bind (F_X12_number N l0 1 6 h8) fun v21 h22 => if v21 = 0 then ((h_z 0).bind fun z => some (z, h22)) else ((h_gl h22 11 l0 29).bind fun v23 => (h_p h22 11 l0 31 (.int (v23.toInt32))).bind fun h24 => (h_is h24 11 l0).bind fun _ => e_bind (F_X12_stops N l0 h24) fun v25 h26 => (h_z v25).bind fun z => some (z, h26))) else ((h_z 0).bind fun z => some (z, h8))) else (e_bind (F_X12_word 12 9 13 9 20 h8) fun v9 h10 => if (lg_cmp v4 v9) = 0 then ((h_gi h10 11 l0 32).bind fun v13 => if v13 = 0 then ((h_is h10 11 l0).bind fun _ => e_bind (F_X12_number N l0 1 4 h10) fun v14 h15 => if v14 = 0 then ((h_z 0).bind fun z => some (z, h15)) else ((h_gl h15 11 l0 29).bind fun v16 => (h_p h15 11 l0 32 (.int (v16.toInt32))).bind fun h17 => (h_is h17 11 l0).bind fun _ => e_bind (F_X12_stops N l0 h17) fun v18 h19 => (h_z v18).bind fun z => some (z, h19))) else ((h_z 0).bind fun z => some (z, h10))) else (e_bind (F_X12_word 23 8 15 12 5 h10) fun v11 h12 => if (lg_cmp v4 v11) = 0 then (F_X12_readsItem_189 N l0 v4 1 h12) else (F_X12_readsItem_189 N l0 v4 0 h12))))) else ((h_z 0).bind fun z => some (z, h2))
def F_X12_tells_80b (N : Nat) (k51 : Nat → Int32 → eH → Option (Int32 × eH)) (k80 : Nat → Int32 → eH → Option (Int32 × eH)) (l0 : Nat) (l1 : Int32) (h : eH) : Option (Int32 × eH) :=
  (h_is h 11 l0).bind fun _ => e_bind (F_X12_isBetween l0 32 32 h) fun v1 h2 => if v1 = 0 then (k51 l0 l1 h2) else ((h_gi h2 11 l0 26).bind fun v3 => (h_p h2 11 l0 26 (.int (v3 + 1))).bind fun h4 => k80 l0 l1 h4)
def L_X12_tells_80 (N : Nat) (k51 : Nat → Int32 → eH → Option (Int32 × eH)) (l0 : Nat) (l1 : Int32) (h : eH) : Option (Int32 × eH) :=
  e_loop (σ := Nat × Int32 × eH) (fun k s => F_X12_tells_80b N k51 (fun l0 l1 h => k (l0, l1, h)) s.1 s.2.1 s.2.2) N (l0, l1, h)
def F_X12_tells_180b (N : Nat) (k180 : Nat → Int32 → Int32 → eH → Option (Int32 × eH)) (l0 : Nat) (l1 : Int32) (l2 : Int32) (h : eH) : Option (Int32 × eH) :=
  (h_gi h 11 l0 3).bind fun v1 => if v1 ≤ l2 then (some (l1, h)) else ((h_gr h 11 l0 4).bind fun v2 => (h_gr h 11 l0 34).bind fun v3 => (h_ai h 0 v3 l2).bind fun v4 => (h_si h 0 v2 l2 v4).bind fun h5 => k180 l0 l1 (l2 + 1) h5)
def L_X12_tells_180 (N : Nat) (l0 : Nat) (l1 : Int32) (l2 : Int32) (h : eH) : Option (Int32 × eH) :=
  e_loop (σ := Nat × Int32 × Int32 × eH) (fun k s => F_X12_tells_180b N (fun l0 l1 l2 h => k (l0, l1, l2, h)) s.1 s.2.1 s.2.2.1 s.2.2.2) N (l0, l1, l2, h)
def F_X12_tells_167 (N : Nat) (l0 : Nat) (l1 : Int32) (s0 : Nat) (s1 : Int32) (h : eH) : Option (Int32 × eH) :=
  (h_p h 11 s0 2 (.int s1)).bind fun h1 => (h_gi h1 11 l0 33).bind fun v2 => (h_p h1 11 l0 3 (.int v2)).bind fun h3 => L_X12_tells_180 N l0 l1 0 h3
def F_X12_tells_148 (N : Nat) (l0 : Nat) (l1 : Int32) (s0 : Nat) (s1 : Int32) (h : eH) : Option (Int32 × eH) :=
  (h_p h 11 s0 1 (.int s1)).bind fun h1 => (h_gi h1 11 l0 32).bind fun v2 => if v2 = 0 then (F_X12_tells_167 N l0 l1 l0 4 h1) else ((h_gi h1 11 l0 32).bind fun v3 => F_X12_tells_167 N l0 l1 l0 v3 h1)
def F_X12_tells_129 (N : Nat) (l0 : Nat) (l1 : Int32) (s0 : Nat) (s1 : Int32) (h : eH) : Option (Int32 × eH) :=
  (h_p h 11 s0 0 (.int s1)).bind fun h1 => (h_gi h1 11 l0 31).bind fun v2 => if v2 = 0 then (F_X12_tells_148 N l0 l1 l0 4 h1) else ((h_gi h1 11 l0 31).bind fun v3 => F_X12_tells_148 N l0 l1 l0 v3 h1)
def F_X12_tells_51b (N : Nat) (k51 : Nat → Int32 → eH → Option (Int32 × eH)) (l0 : Nat) (l1 : Int32) (h : eH) : Option (Int32 × eH) :=
  (h_gi h 11 l0 26).bind fun v1 => (h_gi h 11 l0 24).bind fun v2 => if v2 ≤ v1 then ((h_p h 11 l0 24 (.int 0)).bind fun h3 => (h_is h3 11 l0).bind fun _ => e_bind (F_X12_forgets N l0 h3) fun v4 h5 => (h_gi h5 11 l0 30).bind fun v6 => if v6 = 0 then (F_X12_tells_129 N l0 l1 l0 3 h5) else ((h_gi h5 11 l0 30).bind fun v7 => F_X12_tells_129 N l0 l1 l0 v7 h5)) else ((h_is h 11 l0).bind fun _ => e_bind (F_X12_readsItem N l0 h) fun v8 h9 => if v8 = 0 then ((h_gi h9 11 l0 27).bind fun v10 => some (((-10) - v10), h9)) else (L_X12_tells_80 N k51 l0 (l1 + 1) h9))
def L_X12_tells_51 (N : Nat) (l0 : Nat) (l1 : Int32) (h : eH) : Option (Int32 × eH) :=
  e_loop (σ := Nat × Int32 × eH) (fun k s => F_X12_tells_51b N (fun l0 l1 h => k (l0, l1, h)) s.1 s.2.1 s.2.2) N (l0, l1, h)
def F_X12_tells_27b (N : Nat) (k27 : Nat → Int32 → eH → Option (Int32 × eH)) (l0 : Nat) (l1 : Int32) (h : eH) : Option (Int32 × eH) :=
  (h_is h 11 l0).bind fun _ => e_bind (F_X12_isBetween l0 32 32 h) fun v1 h2 => if v1 = 0 then (L_X12_tells_51 N l0 l1 h2) else ((h_gi h2 11 l0 26).bind fun v3 => (h_p h2 11 l0 26 (.int (v3 + 1))).bind fun h4 => k27 l0 l1 h4)
def L_X12_tells_27 (N : Nat) (l0 : Nat) (l1 : Int32) (h : eH) : Option (Int32 × eH) :=
  e_loop (σ := Nat × Int32 × eH) (fun k s => F_X12_tells_27b N (fun l0 l1 h => k (l0, l1, h)) s.1 s.2.1 s.2.2) N (l0, l1, h)
def F_X12_tells (N : Nat) (l0 : Nat) (h : eH) : Option (Int32 × eH) :=
  (h_p h 11 l0 26 (.int 0)).bind fun h1 => (h_p h1 11 l0 30 (.int 0)).bind fun h2 => (h_p h2 11 l0 31 (.int 0)).bind fun h3 => (h_p h3 11 l0 32 (.int 0)).bind fun h4 => (h_p h4 11 l0 33 (.int 0)).bind fun h5 => L_X12_tells_27 N l0 0 h5
def F_X12_siblings_43 (N : Nat) (k9 : Nat → Int32 → Int32 → Int32 → Int32 → eH → Option (Int32 × eH)) (l0 : Nat) (l1 : Int32) (l2 : Int32) (l4 : Int32) (s0 : Int32) (s1 : Int32) (h : eH) : Option (Int32 × eH) :=
  e_let (s0 + s1) fun v1 => k9 l0 l1 l2 v1 (l4 + 1) h
def F_X12_siblings_9b (N : Nat) (k9 : Nat → Int32 → Int32 → Int32 → Int32 → eH → Option (Int32 × eH)) (l0 : Nat) (l1 : Int32) (l2 : Int32) (l3 : Int32) (l4 : Int32) (h : eH) : Option (Int32 × eH) :=
  if ((164 * l2) + 164) ≤ l4 then (some (l3, h)) else ((h_gr h 11 l0 14).bind fun v1 => (h_ai h 0 v1 l4).bind fun v2 => e_bind (F_X12_has v2 l1 h) fun v3 h4 => if v3 = 0 then (F_X12_siblings_43 N k9 l0 l1 l2 l4 l3 0 h4) else (F_X12_siblings_43 N k9 l0 l1 l2 l4 l3 1 h4))
def L_X12_siblings_9 (N : Nat) (l0 : Nat) (l1 : Int32) (l2 : Int32) (l3 : Int32) (l4 : Int32) (h : eH) : Option (Int32 × eH) :=
  e_loop (σ := Nat × Int32 × Int32 × Int32 × Int32 × eH) (fun k s => F_X12_siblings_9b N (fun l0 l1 l2 l3 l4 h => k (l0, l1, l2, l3, l4, h)) s.1 s.2.1 s.2.2.1 s.2.2.2.1 s.2.2.2.2.1 s.2.2.2.2.2) N (l0, l1, l2, l3, l4, h)
def F_X12_siblings (N : Nat) (l0 : Nat) (l1 : Int32) (l2 : Int32) (h : eH) : Option (Int32 × eH) :=
  e_let (164 * l2) fun v1 => L_X12_siblings_9 N l0 l1 l2 0 v1 h
def F_X12_eldest_66 (N : Nat) (k10 : Nat → Int32 → Int32 → Int32 → Int32 → eH → Option (Int32 × eH)) (l0 : Nat) (l1 : Int32) (l2 : Int32) (l4 : Int32) (s0 : Int32) (h : eH) : Option (Int32 × eH) :=
  k10 l0 l1 l2 s0 (l4 + 1) h
def F_X12_eldest_60 (N : Nat) (k10 : Nat → Int32 → Int32 → Int32 → Int32 → eH → Option (Int32 × eH)) (l0 : Nat) (l1 : Int32) (l2 : Int32) (l4 : Int32) (h : eH) : Option (Int32 × eH) :=
  F_X12_eldest_66 N k10 l0 l1 l2 l4 l4 h
def F_X12_eldest_65 (N : Nat) (k10 : Nat → Int32 → Int32 → Int32 → Int32 → eH → Option (Int32 × eH)) (l0 : Nat) (l1 : Int32) (l2 : Int32) (l3 : Int32) (l4 : Int32) (h : eH) : Option (Int32 × eH) :=
  F_X12_eldest_66 N k10 l0 l1 l2 l4 l3 h
def F_X12_eldest_10b (N : Nat) (k10 : Nat → Int32 → Int32 → Int32 → Int32 → eH → Option (Int32 × eH)) (l0 : Nat) (l1 : Int32) (l2 : Int32) (l3 : Int32) (l4 : Int32) (h : eH) : Option (Int32 × eH) :=
  if ((164 * l2) + 164) ≤ l4 then (some (l3, h)) else ((h_gr h 11 l0 14).bind fun v1 => (h_ai h 0 v1 l4).bind fun v2 => e_bind (F_X12_has v2 l1 h) fun v3 h4 => if v3 = 0 then (F_X12_eldest_65 N k10 l0 l1 l2 l3 l4 h4) else (if l3 = (-9) then (F_X12_eldest_60 N k10 l0 l1 l2 l4 h4) else ((h_gr h4 11 l0 7).bind fun v5 => (h_ai h4 0 v5 l4).bind fun v6 => (h_gr h4 11 l0 7).bind fun v7 => (h_ai h4 0 v7 l3).bind fun v8 => if v8 ≤ v6 then (F_X12_eldest_65 N k10 l0 l1 l2 l3 l4 h4) else (F_X12_eldest_60 N k10 l0 l1 l2 l4 h4))))
def L_X12_eldest_10 (N : Nat) (l0 : Nat) (l1 : Int32) (l2 : Int32) (l3 : Int32) (l4 : Int32) (h : eH) : Option (Int32 × eH) :=
  e_loop (σ := Nat × Int32 × Int32 × Int32 × Int32 × eH) (fun k s => F_X12_eldest_10b N (fun l0 l1 l2 l3 l4 h => k (l0, l1, l2, l3, l4, h)) s.1 s.2.1 s.2.2.1 s.2.2.2.1 s.2.2.2.2.1 s.2.2.2.2.2) N (l0, l1, l2, l3, l4, h)
def F_X12_eldest (N : Nat) (l0 : Nat) (l1 : Int32) (l2 : Int32) (h : eH) : Option (Int32 × eH) :=
  e_let (164 * l2) fun v1 => L_X12_eldest_10 N l0 l1 l2 (-9) v1 h
def F_X12_bounds_0b (N : Nat) (k0 : Nat → Int32 → Int32 → eH → Option (Unit × eH)) (l0 : Nat) (l1 : Int32) (l2 : Int32) (h : eH) : Option (Unit × eH) :=
  (h_is h 11 l0).bind fun _ => e_bind (F_X12_siblings N l0 l1 l2 h) fun v1 h2 => (h_gi h2 11 l0 1).bind fun v3 => if v1 ≤ v3 then (some ((), h2)) else ((h_is h2 11 l0).bind fun _ => e_bind (F_X12_eldest N l0 l1 l2 h2) fun v4 h5 => (h_gr h5 11 l0 14).bind fun v6 => (h_ai h5 0 v6 v4).bind fun v7 => (h_si h5 0 v6 v4 (v7 &&& ((1 <<< (l1 &&& 31)) ^^^ (-1)))).bind fun h8 => (h_gr h8 11 l0 11).bind fun v9 => (h_si h8 2 v9 v4 (vp_nar .boolean 1)).bind fun h10 => k0 l0 l1 l2 h10)
def L_X12_bounds_0 (N : Nat) (l0 : Nat) (l1 : Int32) (l2 : Int32) (h : eH) : Option (Unit × eH) :=
  e_loop (σ := Nat × Int32 × Int32 × eH) (fun k s => F_X12_bounds_0b N (fun l0 l1 l2 h => k (l0, l1, l2, h)) s.1 s.2.1 s.2.2.1 s.2.2.2) N (l0, l1, l2, h)
def F_X12_bounds (N : Nat) (l0 : Nat) (l1 : Int32) (l2 : Int32) (h : eH) : Option (Unit × eH) := L_X12_bounds_0 N l0 l1 l2 h
def F_X12_reads_110 (N : Nat) (k38 : Nat → Int32 → Int32 → Int32 → Int32 → Int32 → eH → Option (Int32 × eH)) (l0 : Nat) (l1 : Int32) (l2 : Int32) (l3 : Int32) (l5 : Int32) (s0 : Int32) (s1 : Int32) (h : eH) : Option (Int32 × eH) :=
  e_let (s0 + s1) fun v1 => k38 l0 l1 l2 l3 v1 (l5 + 1) h
def F_X12_reads_70 (N : Nat) (k38 : Nat → Int32 → Int32 → Int32 → Int32 → Int32 → eH → Option (Int32 × eH)) (l0 : Nat) (l1 : Int32) (l2 : Int32) (l3 : Int32) (l4 : Int32) (l5 : Int32) (s0 : Int32) (h : eH) : Option (Int32 × eH) :=
  (h_gr h 11 l0 19).bind fun v1 => (h_si h 0 v1 ((4 * l1) + l5) s0).bind fun h2 => (h_gr h2 11 l0 20).bind fun v3 => (h_si h2 0 v3 ((4 * l1) + l5) s0).bind fun h4 => if s0 ≤ 0 then (F_X12_reads_110 N k38 l0 l1 l2 l3 l5 l4 0 h4) else (F_X12_reads_110 N k38 l0 l1 l2 l3 l5 l4 1 h4)
def F_X12_reads_226 (N : Nat) (k119 : Nat → Int32 → Int32 → Int32 → Int32 → eH → Option (Int32 × eH)) (k135 : Nat → Int32 → Int32 → Int32 → Int32 → Int32 → Int32 → eH → Option (Int32 × eH)) (l0 : Nat) (l1 : Int32) (l2 : Int32) (l3 : Int32) (l4 : Int32) (l6 : Int32) (s0 : Int32) (h : eH) : Option (Int32 × eH) :=
  k135 l0 l1 l2 l3 l4 s0 (l6 + 1) h
def F_X12_reads_212 (N : Nat) (k119 : Nat → Int32 → Int32 → Int32 → Int32 → eH → Option (Int32 × eH)) (k135 : Nat → Int32 → Int32 → Int32 → Int32 → Int32 → Int32 → eH → Option (Int32 × eH)) (l0 : Nat) (l1 : Int32) (l2 : Int32) (l3 : Int32) (l4 : Int32) (l5 : Int32) (l6 : Int32) (s0 : Int32) (h : eH) : Option (Int32 × eH) :=
  if s0 = 0 then (F_X12_reads_226 N k119 k135 l0 l1 l2 l3 l4 l6 l5 h) else (F_X12_reads_226 N k119 k135 l0 l1 l2 l3 l4 l6 l6 h)
def F_X12_reads_207 (N : Nat) (k119 : Nat → Int32 → Int32 → Int32 → Int32 → eH → Option (Int32 × eH)) (k135 : Nat → Int32 → Int32 → Int32 → Int32 → Int32 → Int32 → eH → Option (Int32 × eH)) (l0 : Nat) (l1 : Int32) (l2 : Int32) (l3 : Int32) (l4 : Int32) (l5 : Int32) (l6 : Int32) (h : eH) : Option (Int32 × eH) :=
  F_X12_reads_212 N k119 k135 l0 l1 l2 l3 l4 l5 l6 1 h
def F_X12_reads_211 (N : Nat) (k119 : Nat → Int32 → Int32 → Int32 → Int32 → eH → Option (Int32 × eH)) (k135 : Nat → Int32 → Int32 → Int32 → Int32 → Int32 → Int32 → eH → Option (Int32 × eH)) (l0 : Nat) (l1 : Int32) (l2 : Int32) (l3 : Int32) (l4 : Int32) (l5 : Int32) (l6 : Int32) (h : eH) : Option (Int32 × eH) :=
  F_X12_reads_212 N k119 k135 l0 l1 l2 l3 l4 l5 l6 0 h
def F_X12_reads_135b (N : Nat) (k119 : Nat → Int32 → Int32 → Int32 → Int32 → eH → Option (Int32 × eH)) (k135 : Nat → Int32 → Int32 → Int32 → Int32 → Int32 → Int32 → eH → Option (Int32 × eH)) (l0 : Nat) (l1 : Int32) (l2 : Int32) (l3 : Int32) (l4 : Int32) (l5 : Int32) (l6 : Int32) (h : eH) : Option (Int32 × eH) :=
  (h_gi h 11 l0 0).bind fun v1 => if v1 ≤ l6 then ((h_gr h 11 l0 20).bind fun v2 => (h_si h 0 v2 ((4 * l1) + l5) 0).bind fun h3 => k119 l0 l1 l2 l3 (l4 + (-1)) h3) else ((h_gr h 11 l0 20).bind fun v4 => (h_ai h 0 v4 ((4 * l1) + l6)).bind fun v5 => if v5 ≤ 0 then (F_X12_reads_211 N k119 k135 l0 l1 l2 l3 l4 l5 l6 h) else (if l5 = (-9) then (F_X12_reads_207 N k119 k135 l0 l1 l2 l3 l4 l5 l6 h) else ((h_gr h 11 l0 7).bind fun v6 => e_bind (F_X12_at l3 l6 v5 h) fun v7 h8 => (h_ai h8 0 v6 v7).bind fun v9 => (h_gr h8 11 l0 7).bind fun v10 => (h_gr h8 11 l0 20).bind fun v11 => (h_ai h8 0 v11 ((4 * l1) + l5)).bind fun v12 => e_bind (F_X12_at l3 l5 v12 h8) fun v13 h14 => (h_ai h14 0 v10 v13).bind fun v15 => if v15 ≤ v9 then (F_X12_reads_211 N k119 k135 l0 l1 l2 l3 l4 l5 l6 h14) else (F_X12_reads_207 N k119 k135 l0 l1 l2 l3 l4 l5 l6 h14))))
def L_X12_reads_135 (N : Nat) (k119 : Nat → Int32 → Int32 → Int32 → Int32 → eH → Option (Int32 × eH)) (l0 : Nat) (l1 : Int32) (l2 : Int32) (l3 : Int32) (l4 : Int32) (l5 : Int32) (l6 : Int32) (h : eH) : Option (Int32 × eH) :=
  e_loop (σ := Nat × Int32 × Int32 × Int32 × Int32 × Int32 × Int32 × eH) (fun k s => F_X12_reads_135b N k119 (fun l0 l1 l2 l3 l4 l5 l6 h => k (l0, l1, l2, l3, l4, l5, l6, h)) s.1 s.2.1 s.2.2.1 s.2.2.2.1 s.2.2.2.2.1 s.2.2.2.2.2.1 s.2.2.2.2.2.2.1 s.2.2.2.2.2.2.2) N (l0, l1, l2, l3, l4, l5, l6, h)
def F_X12_reads_308 (N : Nat) (k259 : Nat → Int32 → Int32 → Int32 → eH → Option (Int32 × eH)) (l0 : Nat) (l2 : Int32) (l3 : Int32) (l5 : Int32) (s0 : Nat) (s1 : Int32) (s2 : Int32) (h : eH) : Option (Int32 × eH) :=
  (h_si h 2 s0 s1 (vp_nar .boolean s2)).bind fun h1 => k259 l0 l2 l3 (l5 + 1) h1
def F_X12_reads_303 (N : Nat) (k259 : Nat → Int32 → Int32 → Int32 → eH → Option (Int32 × eH)) (l0 : Nat) (l2 : Int32) (l3 : Int32) (l5 : Int32) (s0 : Nat) (s1 : Int32) (h : eH) : Option (Int32 × eH) :=
  F_X12_reads_308 N k259 l0 l2 l3 l5 s0 s1 1 h
def F_X12_reads_259b (N : Nat) (k259 : Nat → Int32 → Int32 → Int32 → eH → Option (Int32 × eH)) (l0 : Nat) (l2 : Int32) (l3 : Int32) (l5 : Int32) (h : eH) : Option (Int32 × eH) :=
  if ((164 * l3) + 164) ≤ l5 then ((h_is h 11 l0).bind fun _ => e_bind (F_X12_siblings N l0 l2 l3 h) fun v1 h2 => some (v1, h2)) else ((h_gr h 11 l0 10).bind fun v3 => (h_gr h 11 l0 10).bind fun v4 => (h_ai h 2 v4 l5).bind fun v5 => if v5 = 0 then ((h_gr h 11 l0 14).bind fun v6 => (h_ai h 0 v6 l5).bind fun v7 => e_bind (F_X12_has v7 l2 h) fun v8 h9 => if v8 = 0 then (F_X12_reads_308 N k259 l0 l2 l3 l5 v3 l5 0 h9) else (F_X12_reads_303 N k259 l0 l2 l3 l5 v3 l5 h9)) else (F_X12_reads_303 N k259 l0 l2 l3 l5 v3 l5 h))
def L_X12_reads_259 (N : Nat) (l0 : Nat) (l2 : Int32) (l3 : Int32) (l5 : Int32) (h : eH) : Option (Int32 × eH) :=
  e_loop (σ := Nat × Int32 × Int32 × Int32 × eH) (fun k s => F_X12_reads_259b N (fun l0 l2 l3 l5 h => k (l0, l2, l3, l5, h)) s.1 s.2.1 s.2.2.1 s.2.2.2.1 s.2.2.2.2) N (l0, l2, l3, l5, h)
def F_X12_reads_119b (N : Nat) (k119 : Nat → Int32 → Int32 → Int32 → Int32 → eH → Option (Int32 × eH)) (l0 : Nat) (l1 : Int32) (l2 : Int32) (l3 : Int32) (l4 : Int32) (h : eH) : Option (Int32 × eH) :=
  (h_gi h 11 l0 2).bind fun v1 => if l4 ≤ v1 then (e_let (164 * l3) fun v2 => L_X12_reads_259 N l0 l2 l3 v2 h) else (L_X12_reads_135 N k119 l0 l1 l2 l3 l4 (-9) 0 h)
def L_X12_reads_119 (N : Nat) (l0 : Nat) (l1 : Int32) (l2 : Int32) (l3 : Int32) (l4 : Int32) (h : eH) : Option (Int32 × eH) :=
  e_loop (σ := Nat × Int32 × Int32 × Int32 × Int32 × eH) (fun k s => F_X12_reads_119b N (fun l0 l1 l2 l3 l4 h => k (l0, l1, l2, l3, l4, h)) s.1 s.2.1 s.2.2.1 s.2.2.2.1 s.2.2.2.2.1 s.2.2.2.2.2) N (l0, l1, l2, l3, l4, h)
def F_X12_reads_38b (N : Nat) (k38 : Nat → Int32 → Int32 → Int32 → Int32 → Int32 → eH → Option (Int32 × eH)) (l0 : Nat) (l1 : Int32) (l2 : Int32) (l3 : Int32) (l4 : Int32) (l5 : Int32) (h : eH) : Option (Int32 × eH) :=
  if (4 : Int32) ≤ l5 then (L_X12_reads_119 N l0 l1 l2 l3 l4 h) else ((h_gi h 11 l0 0).bind fun v1 => if v1 ≤ l5 then (F_X12_reads_70 N k38 l0 l1 l2 l3 l4 l5 0 h) else ((h_gr h 11 l0 16).bind fun v2 => e_bind (F_X12_rowAt l3 l2 h) fun v3 h4 => (h_ai h4 0 v2 (v3 + l5)).bind fun v5 => F_X12_reads_70 N k38 l0 l1 l2 l3 l4 l5 v5 h4))
def L_X12_reads_38 (N : Nat) (l0 : Nat) (l1 : Int32) (l2 : Int32) (l3 : Int32) (l4 : Int32) (l5 : Int32) (h : eH) : Option (Int32 × eH) :=
  e_loop (σ := Nat × Int32 × Int32 × Int32 × Int32 × Int32 × eH) (fun k s => F_X12_reads_38b N (fun l0 l1 l2 l3 l4 l5 h => k (l0, l1, l2, l3, l4, l5, h)) s.1 s.2.1 s.2.2.1 s.2.2.2.1 s.2.2.2.2.1 s.2.2.2.2.2.1 s.2.2.2.2.2.2) N (l0, l1, l2, l3, l4, l5, h)
def F_X12_reads (N : Nat) (l0 : Nat) (l1 : Int32) (l2 : Int32) (l3 : Int32) (h : eH) : Option (Int32 × eH) :=
  e_bind (F_X12_isClient l1 h) fun v1 h2 => if v1 = 0 then (some ((-1), h2)) else ((h_is h2 11 l0).bind fun _ => e_bind (F_X12_isSite l0 l2 h2) fun v3 h4 => if v3 = 0 then (some ((-1), h4)) else ((h_is h4 11 l0).bind fun _ => e_bind (F_X12_isKey l0 l3 h4) fun v5 h6 => if v5 = 0 then (some ((-1), h6)) else ((h_gr h6 11 l0 18).bind fun v7 => (h_si h6 0 v7 l1 l3).bind fun h8 => L_X12_reads_38 N l0 l1 l2 l3 0 0 h8)))
def F_X12_comes_150 (N : Nat) (k74 : Nat → Int32 → Int32 → Int32 → Int32 → Int32 → Int32 → eH → Option (Int32 × eH)) (l0 : Nat) (l1 : Int32) (l2 : Int32) (l5 : Int32) (l6 : Int32) (l7 : Int32) (l8 : Int32) (s0 : Nat) (s1 : Int32) (s2 : Int32) (h : eH) : Option (Int32 × eH) :=
  (h_si h 0 s0 s1 s2).bind fun h1 => k74 l0 l1 l2 l5 l6 l7 (l8 + 1) h1
def F_X12_comes_74b (N : Nat) (k74 : Nat → Int32 → Int32 → Int32 → Int32 → Int32 → Int32 → eH → Option (Int32 × eH)) (l0 : Nat) (l1 : Int32) (l2 : Int32) (l5 : Int32) (l6 : Int32) (l7 : Int32) (l8 : Int32) (h : eH) : Option (Int32 × eH) :=
  if (4 : Int32) ≤ l8 then ((h_gr h 11 l0 14).bind fun v1 => (h_si h 0 v1 l7 (1 <<< (l2 &&& 31))).bind fun h2 => (h_is h2 11 l0).bind fun _ => e_bind (F_X12_bounds N l0 l2 l1 h2) fun v3 h4 => some (l6, h4)) else ((h_gr h 11 l0 16).bind fun v5 => if l8 = l2 then (F_X12_comes_150 N k74 l0 l1 l2 l5 l6 l7 l8 v5 (l5 + l8) l6 h) else ((h_gr h 11 l0 8).bind fun v6 => (h_ai h 0 v6 ((4 * l7) + l8)).bind fun v7 => (h_gr h 11 l0 16).bind fun v8 => (h_ai h 0 v8 (l5 + l8)).bind fun v9 => if v7 ≤ v9 then ((h_gr h 11 l0 16).bind fun v10 => (h_ai h 0 v10 (l5 + l8)).bind fun v11 => F_X12_comes_150 N k74 l0 l1 l2 l5 l6 l7 l8 v5 (l5 + l8) v11 h) else ((h_gr h 11 l0 8).bind fun v12 => (h_ai h 0 v12 ((4 * l7) + l8)).bind fun v13 => F_X12_comes_150 N k74 l0 l1 l2 l5 l6 l7 l8 v5 (l5 + l8) v13 h)))
def L_X12_comes_74 (N : Nat) (l0 : Nat) (l1 : Int32) (l2 : Int32) (l5 : Int32) (l6 : Int32) (l7 : Int32) (l8 : Int32) (h : eH) : Option (Int32 × eH) :=
  e_loop (σ := Nat × Int32 × Int32 × Int32 × Int32 × Int32 × Int32 × eH) (fun k s => F_X12_comes_74b N (fun l0 l1 l2 l5 l6 l7 l8 h => k (l0, l1, l2, l5, l6, l7, l8, h)) s.1 s.2.1 s.2.2.1 s.2.2.2.1 s.2.2.2.2.1 s.2.2.2.2.2.1 s.2.2.2.2.2.2.1 s.2.2.2.2.2.2.2) N (l0, l1, l2, l5, l6, l7, l8, h)
def F_X12_comes (N : Nat) (l0 : Nat) (l1 : Int32) (l2 : Int32) (l3 : Int64) (h : eH) : Option (Int32 × eH) :=
  e_bind (F_X12_rowAt l1 l2 h) fun v1 h2 => (h_gr h2 11 l0 15).bind fun v3 => (h_ai h2 0 v3 ((4 * l1) + l2)).bind fun v4 => (h_si h2 0 v3 ((4 * l1) + l2) (v4 + 1)).bind fun h5 => (h_gr h5 11 l0 15).bind fun v6 => (h_ai h5 0 v6 ((4 * l1) + l2)).bind fun v7 => e_bind (F_X12_at l1 l2 v7 h5) fun v8 h9 => (h_gi h9 11 l0 5).bind fun v10 => (h_p h9 11 l0 5 (.int (v10 + 1))).bind fun h11 => (h_gr h11 11 l0 7).bind fun v12 => (h_gi h11 11 l0 5).bind fun v13 => (h_si h11 0 v12 v8 v13).bind fun h14 => (h_gr h14 11 l0 6).bind fun v15 => (h_sl h14 v15 v8 l3).bind fun h16 => L_X12_comes_74 N l0 l1 l2 v1 v7 v8 0 h16
def F_X12_writes_189 (N : Nat) (k120 : Nat → Int32 → Int32 → Int32 → Int64 → Int32 → Int32 → Int32 → eH → Option (Int32 × eH)) (l0 : Nat) (l1 : Int32) (l2 : Int32) (l3 : Int32) (l5 : Int64) (l7 : Int32) (l8 : Int32) (l9 : Int32) (s0 : Nat) (s1 : Int32) (s2 : Int32) (h : eH) : Option (Int32 × eH) :=
  (h_si h 0 s0 s1 s2).bind fun h1 => k120 l0 l1 l2 l3 l5 l7 l8 (l9 + 1) h1
def F_X12_writes_157 (N : Nat) (k120 : Nat → Int32 → Int32 → Int32 → Int64 → Int32 → Int32 → Int32 → eH → Option (Int32 × eH)) (l0 : Nat) (l1 : Int32) (l2 : Int32) (l3 : Int32) (l5 : Int64) (l7 : Int32) (l8 : Int32) (l9 : Int32) (s0 : Nat) (s1 : Int32) (s2 : Int32) (h : eH) : Option (Int32 × eH) :=
  (h_si h 0 s0 s1 s2).bind fun h1 => (h_gr h1 11 l0 9).bind fun v2 => if l7 = 0 then (F_X12_writes_189 N k120 l0 l1 l2 l3 l5 l7 l8 l9 v2 ((4 * l8) + l9) 0 h1) else ((h_gr h1 11 l0 19).bind fun v3 => (h_ai h1 0 v3 ((4 * l1) + l9)).bind fun v4 => F_X12_writes_189 N k120 l0 l1 l2 l3 l5 l7 l8 l9 v2 ((4 * l8) + l9) v4 h1)
def F_X12_writes_352 (N : Nat) (k221 : Nat → Int32 → Int32 → Int64 → Int32 → Int32 → eH → Option (Int32 × eH)) (k233 : Nat → Int32 → Int32 → Int64 → Int32 → Int32 → Int32 → eH → Option (Int32 × eH)) (l0 : Nat) (l2 : Int32) (l3 : Int32) (l5 : Int64) (l8 : Int32) (l9 : Int32) (l10 : Int32) (h : eH) : Option (Int32 × eH) :=
  k233 l0 l2 l3 l5 l8 l9 (l10 + 1) h
def F_X12_writes_320 (N : Nat) (k221 : Nat → Int32 → Int32 → Int64 → Int32 → Int32 → eH → Option (Int32 × eH)) (k233 : Nat → Int32 → Int32 → Int64 → Int32 → Int32 → Int32 → eH → Option (Int32 × eH)) (l0 : Nat) (l2 : Int32) (l3 : Int32) (l5 : Int64) (l8 : Int32) (l9 : Int32) (l10 : Int32) (l12 : Int32) (h : eH) : Option (Int32 × eH) :=
  if l12 = 0 then (F_X12_writes_352 N k221 k233 l0 l2 l3 l5 l8 l9 l10 h) else ((h_gr h 11 l0 9).bind fun v1 => (h_ai h 0 v1 ((4 * l8) + l9)).bind fun v2 => if v2 < l10 then (F_X12_writes_352 N k221 k233 l0 l2 l3 l5 l8 l9 l10 h) else ((h_gr h 11 l0 17).bind fun v3 => (h_ai h 0 v3 l3).bind fun v4 => (h_si h 0 v3 l3 (v4 + 1)).bind fun h5 => F_X12_writes_352 N k221 k233 l0 l2 l3 l5 l8 l9 l10 h5))
def F_X12_writes_233b (N : Nat) (k221 : Nat → Int32 → Int32 → Int64 → Int32 → Int32 → eH → Option (Int32 × eH)) (k233 : Nat → Int32 → Int32 → Int64 → Int32 → Int32 → Int32 → eH → Option (Int32 × eH)) (l0 : Nat) (l2 : Int32) (l3 : Int32) (l5 : Int64) (l8 : Int32) (l9 : Int32) (l10 : Int32) (h : eH) : Option (Int32 × eH) :=
  (h_gr h 11 l0 15).bind fun v1 => (h_ai h 0 v1 ((4 * l3) + l9)).bind fun v2 => if v2 < l10 then (k221 l0 l2 l3 l5 l8 (l9 + 1) h) else (e_bind (F_X12_at l3 l9 l10 h) fun v3 h4 => (h_gr h4 11 l0 14).bind fun v5 => (h_ai h4 0 v5 v3).bind fun v6 => e_bind (F_X12_has v6 l2 h4) fun v7 h8 => if v7 = 0 then (F_X12_writes_320 N k221 k233 l0 l2 l3 l5 l8 l9 l10 v7 h8) else ((h_gr h8 11 l0 8).bind fun v9 => (h_ai h8 0 v9 ((4 * l8) + l9)).bind fun v10 => if v10 < l10 then (F_X12_writes_320 N k221 k233 l0 l2 l3 l5 l8 l9 l10 v7 h8) else ((h_gr h8 11 l0 14).bind fun v11 => (h_ai h8 0 v11 v3).bind fun v12 => (h_si h8 0 v11 v3 (v12 &&& ((1 <<< (l2 &&& 31)) ^^^ (-1)))).bind fun h13 => (h_gr h13 11 l0 12).bind fun v14 => (h_si h13 2 v14 v3 (vp_nar .boolean 1)).bind fun h15 => F_X12_writes_352 N k221 k233 l0 l2 l3 l5 l8 l9 l10 h15)))
def L_X12_writes_233 (N : Nat) (k221 : Nat → Int32 → Int32 → Int64 → Int32 → Int32 → eH → Option (Int32 × eH)) (l0 : Nat) (l2 : Int32) (l3 : Int32) (l5 : Int64) (l8 : Int32) (l9 : Int32) (l10 : Int32) (h : eH) : Option (Int32 × eH) :=
  e_loop (σ := Nat × Int32 × Int32 × Int64 × Int32 × Int32 × Int32 × eH) (fun k s => F_X12_writes_233b N k221 (fun l0 l2 l3 l5 l8 l9 l10 h => k (l0, l2, l3, l5, l8, l9, l10, h)) s.1 s.2.1 s.2.2.1 s.2.2.2.1 s.2.2.2.2.1 s.2.2.2.2.2.1 s.2.2.2.2.2.2.1 s.2.2.2.2.2.2.2) N (l0, l2, l3, l5, l8, l9, l10, h)
def F_X12_writes_221b (N : Nat) (k221 : Nat → Int32 → Int32 → Int64 → Int32 → Int32 → eH → Option (Int32 × eH)) (l0 : Nat) (l2 : Int32) (l3 : Int32) (l5 : Int64) (l8 : Int32) (l9 : Int32) (h : eH) : Option (Int32 × eH) :=
  (h_gi h 11 l0 0).bind fun v1 => if v1 ≤ l9 then ((h_is h 11 l0).bind fun _ => e_bind (F_X12_comes N l0 l3 l2 l5 h) fun v2 h3 => some (v2, h3)) else (L_X12_writes_233 N k221 l0 l2 l3 l5 l8 l9 1 h)
def L_X12_writes_221 (N : Nat) (l0 : Nat) (l2 : Int32) (l3 : Int32) (l5 : Int64) (l8 : Int32) (l9 : Int32) (h : eH) : Option (Int32 × eH) :=
  e_loop (σ := Nat × Int32 × Int32 × Int64 × Int32 × Int32 × eH) (fun k s => F_X12_writes_221b N (fun l0 l2 l3 l5 l8 l9 h => k (l0, l2, l3, l5, l8, l9, h)) s.1 s.2.1 s.2.2.1 s.2.2.2.1 s.2.2.2.2.1 s.2.2.2.2.2.1 s.2.2.2.2.2.2) N (l0, l2, l3, l5, l8, l9, h)
def F_X12_writes_217 (N : Nat) (l0 : Nat) (l2 : Int32) (l3 : Int32) (l5 : Int64) (l8 : Int32) (s0 : Nat) (s1 : Int32) (s2 : Int32) (h : eH) : Option (Int32 × eH) :=
  (h_si h 0 s0 s1 s2).bind fun h1 => L_X12_writes_221 N l0 l2 l3 l5 l8 0 h1
def F_X12_writes_120b (N : Nat) (k120 : Nat → Int32 → Int32 → Int32 → Int64 → Int32 → Int32 → Int32 → eH → Option (Int32 × eH)) (l0 : Nat) (l1 : Int32) (l2 : Int32) (l3 : Int32) (l5 : Int64) (l7 : Int32) (l8 : Int32) (l9 : Int32) (h : eH) : Option (Int32 × eH) :=
  if (4 : Int32) ≤ l9 then ((h_gr h 11 l0 18).bind fun v1 => if l7 = 0 then ((h_gr h 11 l0 18).bind fun v2 => (h_ai h 0 v2 l1).bind fun v3 => F_X12_writes_217 N l0 l2 l3 l5 l8 v1 l1 v3 h) else (F_X12_writes_217 N l0 l2 l3 l5 l8 v1 l1 (-9) h)) else ((h_gr h 11 l0 8).bind fun v4 => if l7 = 0 then (F_X12_writes_157 N k120 l0 l1 l2 l3 l5 l7 l8 l9 v4 ((4 * l8) + l9) 0 h) else ((h_gr h 11 l0 20).bind fun v5 => (h_ai h 0 v5 ((4 * l1) + l9)).bind fun v6 => F_X12_writes_157 N k120 l0 l1 l2 l3 l5 l7 l8 l9 v4 ((4 * l8) + l9) v6 h))
def L_X12_writes_120 (N : Nat) (l0 : Nat) (l1 : Int32) (l2 : Int32) (l3 : Int32) (l5 : Int64) (l7 : Int32) (l8 : Int32) (l9 : Int32) (h : eH) : Option (Int32 × eH) :=
  e_loop (σ := Nat × Int32 × Int32 × Int32 × Int64 × Int32 × Int32 × Int32 × eH) (fun k s => F_X12_writes_120b N (fun l0 l1 l2 l3 l5 l7 l8 l9 h => k (l0, l1, l2, l3, l5, l7, l8, l9, h)) s.1 s.2.1 s.2.2.1 s.2.2.2.1 s.2.2.2.2.1 s.2.2.2.2.2.1 s.2.2.2.2.2.2.1 s.2.2.2.2.2.2.2.1 s.2.2.2.2.2.2.2.2) N (l0, l1, l2, l3, l5, l7, l8, l9, h)
def F_X12_writes_96 (N : Nat) (l0 : Nat) (l1 : Int32) (l2 : Int32) (l3 : Int32) (l5 : Int64) (s0 : Int32) (h : eH) : Option (Int32 × eH) :=
  (h_gr h 11 l0 15).bind fun v1 => (h_ai h 0 v1 ((4 * l3) + l2)).bind fun v2 => e_bind (F_X12_at l3 l2 (v2 + 1) h) fun v3 h4 => L_X12_writes_120 N l0 l1 l2 l3 l5 s0 v3 0 h4
def F_X12_writes_49 (N : Nat) (l0 : Nat) (l1 : Int32) (l2 : Int32) (l3 : Int32) (l4 : Int32) (l5 : Int64) (h : eH) : Option (Int32 × eH) :=
  (h_gr h 11 l0 15).bind fun v1 => (h_ai h 0 v1 ((4 * l3) + l2)).bind fun v2 => if v2 = 40 then (some ((-3), h)) else ((h_gr h 11 l0 4).bind fun v3 => (h_ai h 0 v3 l3).bind fun v4 => if v4 = l4 then ((h_gr h 11 l0 18).bind fun v5 => (h_ai h 0 v5 l1).bind fun v6 => if v6 = l3 then (F_X12_writes_96 N l0 l1 l2 l3 l5 1 h) else (F_X12_writes_96 N l0 l1 l2 l3 l5 0 h)) else (some ((-4), h)))
def F_X12_writes (N : Nat) (l0 : Nat) (l1 : Int32) (l2 : Int32) (l3 : Int32) (l4 : Int32) (l5 : Int64) (h : eH) : Option (Int32 × eH) :=
  e_bind (F_X12_isClient l1 h) fun v1 h2 => if v1 = 0 then (some ((-1), h2)) else ((h_is h2 11 l0).bind fun _ => e_bind (F_X12_isSite l0 l2 h2) fun v3 h4 => if v3 = 0 then (some ((-1), h4)) else ((h_is h4 11 l0).bind fun _ => e_bind (F_X12_isKey l0 l3 h4) fun v5 h6 => if v5 = 0 then (some ((-1), h6)) else (e_bind (F_X12_in (l4.toInt64) 0 1 h6) fun v7 h8 => if v7 = 0 then (some ((-1), h8)) else (if l4 = 1 then (if (0 : Int32) ≤ (lg_cmp l5 0) then (F_X12_writes_49 N l0 l1 l2 l3 l4 l5 h8) else (some ((-1), h8))) else (F_X12_writes_49 N l0 l1 l2 l3 l4 l5 h8)))))
def F_X12_blinds_25 (l0 : Nat) (l1 : Int32) (s0 : Int32) (h : eH) : Option (Int32 × eH) :=
  (h_gr h 11 l0 18).bind fun v1 => (h_si h 0 v1 l1 (-9)).bind fun h2 => some (s0, h2)
def F_X12_blinds (l0 : Nat) (l1 : Int32) (h : eH) : Option (Int32 × eH) :=
  e_bind (F_X12_isClient l1 h) fun v1 h2 => if v1 = 0 then (some ((-1), h2)) else ((h_gr h2 11 l0 18).bind fun v3 => (h_ai h2 0 v3 l1).bind fun v4 => if v4 = (-9) then (F_X12_blinds_25 l0 l1 0 h2) else (F_X12_blinds_25 l0 l1 1 h2))
def F_X12_sends_207 (N : Nat) (k48 : Nat → Int32 → Int32 → Int32 → Int32 → Int32 → Int32 → eH → Option (Int32 × eH)) (k60 : Nat → Int32 → Int32 → Int32 → Int32 → Int32 → Int32 → Int32 → eH → Option (Int32 × eH)) (l0 : Nat) (l1 : Int32) (l2 : Int32) (l3 : Int32) (l4 : Int32) (l5 : Int32) (l6 : Int32) (l7 : Int32) (s0 : Nat) (s1 : Int32) (s2 : Int32) (h : eH) : Option (Int32 × eH) :=
  (h_si h 0 s0 s1 s2).bind fun h1 => k60 l0 l1 l2 l3 l4 l5 l6 (l7 + 1) h1
def F_X12_sends_167 (N : Nat) (k48 : Nat → Int32 → Int32 → Int32 → Int32 → Int32 → Int32 → eH → Option (Int32 × eH)) (k60 : Nat → Int32 → Int32 → Int32 → Int32 → Int32 → Int32 → Int32 → eH → Option (Int32 × eH)) (l0 : Nat) (l1 : Int32) (l2 : Int32) (l3 : Int32) (l4 : Int32) (l5 : Int32) (l6 : Int32) (l7 : Int32) (l8 : Int32) (s0 : Int32) (h : eH) : Option (Int32 × eH) :=
  (h_gr h 11 l0 14).bind fun v1 => if s0 = 0 then ((h_gr h 11 l0 14).bind fun v2 => (h_ai h 0 v2 l8).bind fun v3 => F_X12_sends_207 N k48 k60 l0 l1 l2 l3 l4 l5 l6 l7 v1 l8 (v3 &&& ((1 <<< (l2 &&& 31)) ^^^ (-1))) h) else ((h_gr h 11 l0 14).bind fun v4 => (h_ai h 0 v4 l8).bind fun v5 => F_X12_sends_207 N k48 k60 l0 l1 l2 l3 l4 l5 l6 l7 v1 l8 (v5 ||| (1 <<< (l2 &&& 31))) h)
def F_X12_sends_162 (N : Nat) (k48 : Nat → Int32 → Int32 → Int32 → Int32 → Int32 → Int32 → eH → Option (Int32 × eH)) (k60 : Nat → Int32 → Int32 → Int32 → Int32 → Int32 → Int32 → Int32 → eH → Option (Int32 × eH)) (l0 : Nat) (l1 : Int32) (l2 : Int32) (l3 : Int32) (l4 : Int32) (l5 : Int32) (l6 : Int32) (l7 : Int32) (l8 : Int32) (h : eH) : Option (Int32 × eH) :=
  F_X12_sends_167 N k48 k60 l0 l1 l2 l3 l4 l5 l6 l7 l8 1 h
def F_X12_sends_166 (N : Nat) (k48 : Nat → Int32 → Int32 → Int32 → Int32 → Int32 → Int32 → eH → Option (Int32 × eH)) (k60 : Nat → Int32 → Int32 → Int32 → Int32 → Int32 → Int32 → Int32 → eH → Option (Int32 × eH)) (l0 : Nat) (l1 : Int32) (l2 : Int32) (l3 : Int32) (l4 : Int32) (l5 : Int32) (l6 : Int32) (l7 : Int32) (l8 : Int32) (h : eH) : Option (Int32 × eH) :=
  F_X12_sends_167 N k48 k60 l0 l1 l2 l3 l4 l5 l6 l7 l8 0 h
def F_X12_sends_142 (N : Nat) (k48 : Nat → Int32 → Int32 → Int32 → Int32 → Int32 → Int32 → eH → Option (Int32 × eH)) (k60 : Nat → Int32 → Int32 → Int32 → Int32 → Int32 → Int32 → Int32 → eH → Option (Int32 × eH)) (l0 : Nat) (l1 : Int32) (l2 : Int32) (l3 : Int32) (l4 : Int32) (l5 : Int32) (l6 : Int32) (l7 : Int32) (l8 : Int32) (l9 : Int32) (h : eH) : Option (Int32 × eH) :=
  if l9 = 0 then (F_X12_sends_166 N k48 k60 l0 l1 l2 l3 l4 l5 l6 l7 l8 h) else ((h_gr h 11 l0 16).bind fun v1 => (h_ai h 0 v1 (l5 + l6)).bind fun v2 => if l7 ≤ v2 then (F_X12_sends_166 N k48 k60 l0 l1 l2 l3 l4 l5 l6 l7 l8 h) else (F_X12_sends_162 N k48 k60 l0 l1 l2 l3 l4 l5 l6 l7 l8 h))
def F_X12_sends_122 (N : Nat) (k48 : Nat → Int32 → Int32 → Int32 → Int32 → Int32 → Int32 → eH → Option (Int32 × eH)) (k60 : Nat → Int32 → Int32 → Int32 → Int32 → Int32 → Int32 → Int32 → eH → Option (Int32 × eH)) (l0 : Nat) (l1 : Int32) (l2 : Int32) (l3 : Int32) (l4 : Int32) (l5 : Int32) (l6 : Int32) (l7 : Int32) (l8 : Int32) (l9 : Int32) (l10 : Int32) (h : eH) : Option (Int32 × eH) :=
  if l10 = 0 then (F_X12_sends_142 N k48 k60 l0 l1 l2 l3 l4 l5 l6 l7 l8 l9 h) else ((h_gr h 11 l0 16).bind fun v1 => (h_ai h 0 v1 (l4 + l6)).bind fun v2 => if v2 < l7 then (F_X12_sends_162 N k48 k60 l0 l1 l2 l3 l4 l5 l6 l7 l8 h) else (F_X12_sends_142 N k48 k60 l0 l1 l2 l3 l4 l5 l6 l7 l8 l9 h))
def F_X12_sends_60b (N : Nat) (k48 : Nat → Int32 → Int32 → Int32 → Int32 → Int32 → Int32 → eH → Option (Int32 × eH)) (k60 : Nat → Int32 → Int32 → Int32 → Int32 → Int32 → Int32 → Int32 → eH → Option (Int32 × eH)) (l0 : Nat) (l1 : Int32) (l2 : Int32) (l3 : Int32) (l4 : Int32) (l5 : Int32) (l6 : Int32) (l7 : Int32) (h : eH) : Option (Int32 × eH) :=
  (h_gr h 11 l0 15).bind fun v1 => (h_ai h 0 v1 ((4 * l3) + l6)).bind fun v2 => if v2 < l7 then (k48 l0 l1 l2 l3 l4 l5 (l6 + 1) h) else (e_bind (F_X12_at l3 l6 l7 h) fun v3 h4 => (h_gr h4 11 l0 14).bind fun v5 => (h_ai h4 0 v5 v3).bind fun v6 => e_bind (F_X12_has v6 l1 h4) fun v7 h8 => (h_gr h8 11 l0 14).bind fun v9 => (h_ai h8 0 v9 v3).bind fun v10 => e_bind (F_X12_has v10 l2 h8) fun v11 h12 => if v7 = 0 then (F_X12_sends_122 N k48 k60 l0 l1 l2 l3 l4 l5 l6 l7 v3 v7 v11 h12) else (if v11 = 0 then (F_X12_sends_122 N k48 k60 l0 l1 l2 l3 l4 l5 l6 l7 v3 v7 v11 h12) else (F_X12_sends_162 N k48 k60 l0 l1 l2 l3 l4 l5 l6 l7 v3 h12)))
def L_X12_sends_60 (N : Nat) (k48 : Nat → Int32 → Int32 → Int32 → Int32 → Int32 → Int32 → eH → Option (Int32 × eH)) (l0 : Nat) (l1 : Int32) (l2 : Int32) (l3 : Int32) (l4 : Int32) (l5 : Int32) (l6 : Int32) (l7 : Int32) (h : eH) : Option (Int32 × eH) :=
  e_loop (σ := Nat × Int32 × Int32 × Int32 × Int32 × Int32 × Int32 × Int32 × eH) (fun k s => F_X12_sends_60b N k48 (fun l0 l1 l2 l3 l4 l5 l6 l7 h => k (l0, l1, l2, l3, l4, l5, l6, l7, h)) s.1 s.2.1 s.2.2.1 s.2.2.2.1 s.2.2.2.2.1 s.2.2.2.2.2.1 s.2.2.2.2.2.2.1 s.2.2.2.2.2.2.2.1 s.2.2.2.2.2.2.2.2) N (l0, l1, l2, l3, l4, l5, l6, l7, h)
def F_X12_sends_284 (N : Nat) (k223 : Nat → Int32 → Int32 → Int32 → Int32 → Int32 → eH → Option (Int32 × eH)) (l0 : Nat) (l2 : Int32) (l3 : Int32) (l4 : Int32) (l5 : Int32) (l6 : Int32) (s0 : Nat) (s1 : Int32) (s2 : Int32) (h : eH) : Option (Int32 × eH) :=
  (h_si h 0 s0 s1 s2).bind fun h1 => k223 l0 l2 l3 l4 l5 (l6 + 1) h1
def F_X12_sends_223b (N : Nat) (k223 : Nat → Int32 → Int32 → Int32 → Int32 → Int32 → eH → Option (Int32 × eH)) (l0 : Nat) (l2 : Int32) (l3 : Int32) (l4 : Int32) (l5 : Int32) (l6 : Int32) (h : eH) : Option (Int32 × eH) :=
  if (4 : Int32) ≤ l6 then ((h_is h 11 l0).bind fun _ => e_bind (F_X12_bounds N l0 l2 l3 h) fun v1 h2 => (h_is h2 11 l0).bind fun _ => e_bind (F_X12_siblings N l0 l2 l3 h2) fun v3 h4 => some (v3, h4)) else ((h_gr h 11 l0 16).bind fun v5 => (h_gr h 11 l0 16).bind fun v6 => (h_ai h 0 v6 (l4 + l6)).bind fun v7 => (h_gr h 11 l0 16).bind fun v8 => (h_ai h 0 v8 (l5 + l6)).bind fun v9 => if v7 ≤ v9 then ((h_gr h 11 l0 16).bind fun v10 => (h_ai h 0 v10 (l5 + l6)).bind fun v11 => F_X12_sends_284 N k223 l0 l2 l3 l4 l5 l6 v5 (l5 + l6) v11 h) else ((h_gr h 11 l0 16).bind fun v12 => (h_ai h 0 v12 (l4 + l6)).bind fun v13 => F_X12_sends_284 N k223 l0 l2 l3 l4 l5 l6 v5 (l5 + l6) v13 h))
def L_X12_sends_223 (N : Nat) (l0 : Nat) (l2 : Int32) (l3 : Int32) (l4 : Int32) (l5 : Int32) (l6 : Int32) (h : eH) : Option (Int32 × eH) :=
  e_loop (σ := Nat × Int32 × Int32 × Int32 × Int32 × Int32 × eH) (fun k s => F_X12_sends_223b N (fun l0 l2 l3 l4 l5 l6 h => k (l0, l2, l3, l4, l5, l6, h)) s.1 s.2.1 s.2.2.1 s.2.2.2.1 s.2.2.2.2.1 s.2.2.2.2.2.1 s.2.2.2.2.2.2) N (l0, l2, l3, l4, l5, l6, h)
def F_X12_sends_48b (N : Nat) (k48 : Nat → Int32 → Int32 → Int32 → Int32 → Int32 → Int32 → eH → Option (Int32 × eH)) (l0 : Nat) (l1 : Int32) (l2 : Int32) (l3 : Int32) (l4 : Int32) (l5 : Int32) (l6 : Int32) (h : eH) : Option (Int32 × eH) :=
  (h_gi h 11 l0 0).bind fun v1 => if v1 ≤ l6 then (L_X12_sends_223 N l0 l2 l3 l4 l5 0 h) else (L_X12_sends_60 N k48 l0 l1 l2 l3 l4 l5 l6 1 h)
def L_X12_sends_48 (N : Nat) (l0 : Nat) (l1 : Int32) (l2 : Int32) (l3 : Int32) (l4 : Int32) (l5 : Int32) (l6 : Int32) (h : eH) : Option (Int32 × eH) :=
  e_loop (σ := Nat × Int32 × Int32 × Int32 × Int32 × Int32 × Int32 × eH) (fun k s => F_X12_sends_48b N (fun l0 l1 l2 l3 l4 l5 l6 h => k (l0, l1, l2, l3, l4, l5, l6, h)) s.1 s.2.1 s.2.2.1 s.2.2.2.1 s.2.2.2.2.1 s.2.2.2.2.2.1 s.2.2.2.2.2.2.1 s.2.2.2.2.2.2.2) N (l0, l1, l2, l3, l4, l5, l6, h)
def F_X12_sends (N : Nat) (l0 : Nat) (l1 : Int32) (l2 : Int32) (l3 : Int32) (h : eH) : Option (Int32 × eH) :=
  (h_is h 11 l0).bind fun _ => e_bind (F_X12_isSite l0 l1 h) fun v1 h2 => if v1 = 0 then (some ((-1), h2)) else ((h_is h2 11 l0).bind fun _ => e_bind (F_X12_isSite l0 l2 h2) fun v3 h4 => if v3 = 0 then (some ((-1), h4)) else (if l1 = l2 then (some ((-1), h4)) else ((h_is h4 11 l0).bind fun _ => e_bind (F_X12_isKey l0 l3 h4) fun v5 h6 => if v5 = 0 then (some ((-1), h6)) else (e_bind (F_X12_rowAt l3 l1 h6) fun v7 h8 => e_bind (F_X12_rowAt l3 l2 h8) fun v9 h10 => L_X12_sends_48 N l0 l1 l2 l3 v7 v9 0 h10))))
def F_X12_sum_69 (l5 : Int64) (s0 : Nat) (s1 : Int32) (h : eH) : Option (Int64 × eH) :=
  (h_pz h 11 s0 35 s1).bind fun h1 => some (l5, h1)
def F_X12_sum_64 (l5 : Int64) (s0 : Nat) (h : eH) : Option (Int64 × eH) :=
  F_X12_sum_69 l5 s0 1 h
def F_X12_sum_68 (l5 : Int64) (s0 : Nat) (h : eH) : Option (Int64 × eH) :=
  F_X12_sum_69 l5 s0 0 h
def F_X12_sum_61 (l5 : Int64) (s0 : Nat) (s1 : Int32) (s2 : Int32) (h : eH) : Option (Int64 × eH) :=
  if s1 = s2 then (F_X12_sum_68 l5 s0 h) else (F_X12_sum_64 l5 s0 h)
def F_X12_sum_50 (l1 : Int64) (l5 : Int64) (s0 : Nat) (s1 : Int32) (h : eH) : Option (Int64 × eH) :=
  if (lg_cmp l1 0) < 0 then (F_X12_sum_61 l5 s0 s1 0 h) else (F_X12_sum_61 l5 s0 s1 1 h)
def F_X12_sum_35 (l1 : Int64) (l5 : Int64) (s0 : Nat) (s1 : Int32) (s2 : Int32) (h : eH) : Option (Int64 × eH) :=
  if s1 = s2 then (if (lg_cmp l5 0) < 0 then (F_X12_sum_50 l1 l5 s0 0 h) else (F_X12_sum_50 l1 l5 s0 1 h)) else (F_X12_sum_68 l5 s0 h)
def F_X12_sum_24 (l1 : Int64) (l3 : Int64) (l5 : Int64) (s0 : Nat) (s1 : Int32) (h : eH) : Option (Int64 × eH) :=
  if (lg_cmp l3 0) < 0 then (F_X12_sum_35 l1 l5 s0 s1 0 h) else (F_X12_sum_35 l1 l5 s0 s1 1 h)
def F_X12_sum (l0 : Nat) (l1 : Int64) (l3 : Int64) (h : eH) : Option (Int64 × eH) :=
  e_let (l1 + l3) fun v1 => (h_gi h 11 l0 35).bind fun v2 => if v2 = 0 then (if (lg_cmp l1 0) < 0 then (F_X12_sum_24 l1 l3 v1 l0 0 h) else (F_X12_sum_24 l1 l3 v1 l0 1 h)) else (F_X12_sum_64 v1 l0 h)
def F_X12_common_28b (N : Nat) (k28 : Int64 → Int64 → eH → Option (Int64 × eH)) (l4 : Int64) (l6 : Int64) (h : eH) : Option (Int64 × eH) :=
  if (lg_cmp l6 0) = 0 then (some (l4, h)) else (if l6 = 0 then none else e_let (l4 - l4 / l6 * l6) fun v1 => k28 l6 v1 h)
def L_X12_common_28 (N : Nat) (l4 : Int64) (l6 : Int64) (h : eH) : Option (Int64 × eH) :=
  e_loop (σ := Int64 × Int64 × eH) (fun k s => F_X12_common_28b N (fun l4 l6 h => k (l4, l6, h)) s.1 s.2.1 s.2.2) N (l4, l6, h)
def F_X12_common_26 (N : Nat) (l4 : Int64) (s0 : Int64) (h : eH) : Option (Int64 × eH) :=
  L_X12_common_28 N l4 s0 h
def F_X12_common_12 (N : Nat) (l2 : Int64) (s0 : Int64) (h : eH) : Option (Int64 × eH) :=
  if (lg_cmp l2 0) ≤ 0 then (F_X12_common_26 N s0 l2 h) else (F_X12_common_26 N s0 (-l2) h)
def F_X12_common (N : Nat) (l0 : Int64) (l2 : Int64) (h : eH) : Option (Int64 × eH) :=
  if (lg_cmp l0 0) ≤ 0 then (F_X12_common_12 N l2 l0 h) else (F_X12_common_12 N l2 (-l0) h)
def F_X12_joined (N : Nat) (l0 : Nat) (l1 : Int32) (l2 : Int32) (l3 : Int64) (l5 : Int64) (h : eH) : Option (Int64 × eH) :=
  if l2 = 0 then (if (lg_cmp l3 l5) ≤ 0 then (some (l5, h)) else (some (l3, h))) else (if l2 = 1 then (if (0 : Int32) ≤ (lg_cmp l3 l5) then (some (l5, h)) else (some (l3, h))) else (if l2 = 2 then ((h_gr h 11 l0 4).bind fun v1 => (h_ai h 0 v1 l1).bind fun v2 => if v2 = 1 then (some ((l3 ||| l5), h)) else ((h_is h 11 l0).bind fun _ => e_bind (F_X12_sum l0 l3 l5 h) fun v3 h4 => some (v3, h4))) else (if l2 = 3 then ((h_gr h 11 l0 4).bind fun v5 => (h_ai h 0 v5 l1).bind fun v6 => if v6 = 1 then (some ((l3 &&& l5), h)) else (e_bind (F_X12_common N l3 l5 h) fun v7 h8 => some (v7, h8))) else (some (l5, h)))))
def F_X12_ruleOf_2b (N : Nat) (k2 : Nat → Int32 → Int32 → eH → Option (Int32 × eH)) (l0 : Nat) (l1 : Int32) (l2 : Int32) (h : eH) : Option (Int32 × eH) :=
  (h_gi h 11 l0 21).bind fun v1 => if v1 ≤ l2 then (some ((-9), h)) else ((h_gr h 11 l0 22).bind fun v2 => (h_ai h 0 v2 l2).bind fun v3 => if v3 = l1 then ((h_gr h 11 l0 23).bind fun v4 => (h_ai h 0 v4 l2).bind fun v5 => some (v5, h)) else (k2 l0 l1 (l2 + 1) h))
def L_X12_ruleOf_2 (N : Nat) (l0 : Nat) (l1 : Int32) (l2 : Int32) (h : eH) : Option (Int32 × eH) :=
  e_loop (σ := Nat × Int32 × Int32 × eH) (fun k s => F_X12_ruleOf_2b N (fun l0 l1 l2 h => k (l0, l1, l2, h)) s.1 s.2.1 s.2.2.1 s.2.2.2) N (l0, l1, l2, h)
def F_X12_ruleOf (N : Nat) (l0 : Nat) (l1 : Int32) (h : eH) : Option (Int32 × eH) :=
  L_X12_ruleOf_2 N l0 l1 0 h
def F_X12_joinedAll_123 (N : Nat) (k22 : Nat → Int32 → Int32 → Int32 → Int64 → Int32 → Int32 → Int32 → eH → Option (Int64 × eH)) (k40 : Nat → Int32 → Int32 → Int32 → Int64 → Int32 → Int32 → Int32 → Int32 → Int32 → eH → Option (Int64 × eH)) (l0 : Nat) (l1 : Int32) (l2 : Int32) (l3 : Int32) (l4 : Int64) (l6 : Int32) (l7 : Int32) (l8 : Int32) (l10 : Int32) (s0 : Int32) (h : eH) : Option (Int64 × eH) :=
  k40 l0 l1 l2 l3 l4 l6 l7 l8 s0 (l10 + 1) h
def F_X12_joinedAll_116 (N : Nat) (k22 : Nat → Int32 → Int32 → Int32 → Int64 → Int32 → Int32 → Int32 → eH → Option (Int64 × eH)) (k40 : Nat → Int32 → Int32 → Int32 → Int64 → Int32 → Int32 → Int32 → Int32 → Int32 → eH → Option (Int64 × eH)) (l0 : Nat) (l1 : Int32) (l2 : Int32) (l3 : Int32) (l4 : Int64) (l6 : Int32) (l7 : Int32) (l8 : Int32) (l10 : Int32) (h : eH) : Option (Int64 × eH) :=
  F_X12_joinedAll_123 N k22 k40 l0 l1 l2 l3 l4 l6 l7 l8 l10 l10 h
def F_X12_joinedAll_121 (N : Nat) (k22 : Nat → Int32 → Int32 → Int32 → Int64 → Int32 → Int32 → Int32 → eH → Option (Int64 × eH)) (k40 : Nat → Int32 → Int32 → Int32 → Int64 → Int32 → Int32 → Int32 → Int32 → Int32 → eH → Option (Int64 × eH)) (l0 : Nat) (l1 : Int32) (l2 : Int32) (l3 : Int32) (l4 : Int64) (l6 : Int32) (l7 : Int32) (l8 : Int32) (l9 : Int32) (l10 : Int32) (h : eH) : Option (Int64 × eH) :=
  F_X12_joinedAll_123 N k22 k40 l0 l1 l2 l3 l4 l6 l7 l8 l10 l9 h
def F_X12_joinedAll_85 (N : Nat) (k22 : Nat → Int32 → Int32 → Int32 → Int64 → Int32 → Int32 → Int32 → eH → Option (Int64 × eH)) (k40 : Nat → Int32 → Int32 → Int32 → Int64 → Int32 → Int32 → Int32 → Int32 → Int32 → eH → Option (Int64 × eH)) (l0 : Nat) (l1 : Int32) (l2 : Int32) (l3 : Int32) (l4 : Int64) (l6 : Int32) (l7 : Int32) (l8 : Int32) (l9 : Int32) (l10 : Int32) (s0 : Int32) (h : eH) : Option (Int64 × eH) :=
  if s0 = 0 then (F_X12_joinedAll_121 N k22 k40 l0 l1 l2 l3 l4 l6 l7 l8 l9 l10 h) else (if l9 = (-9) then (F_X12_joinedAll_116 N k22 k40 l0 l1 l2 l3 l4 l6 l7 l8 l10 h) else ((h_gr h 11 l0 7).bind fun v1 => (h_ai h 0 v1 l10).bind fun v2 => (h_gr h 11 l0 7).bind fun v3 => (h_ai h 0 v3 l9).bind fun v4 => if v4 ≤ v2 then (F_X12_joinedAll_121 N k22 k40 l0 l1 l2 l3 l4 l6 l7 l8 l9 l10 h) else (F_X12_joinedAll_116 N k22 k40 l0 l1 l2 l3 l4 l6 l7 l8 l10 h)))
def F_X12_joinedAll_84 (N : Nat) (k22 : Nat → Int32 → Int32 → Int32 → Int64 → Int32 → Int32 → Int32 → eH → Option (Int64 × eH)) (k40 : Nat → Int32 → Int32 → Int32 → Int64 → Int32 → Int32 → Int32 → Int32 → Int32 → eH → Option (Int64 × eH)) (l0 : Nat) (l1 : Int32) (l2 : Int32) (l3 : Int32) (l4 : Int64) (l6 : Int32) (l7 : Int32) (l8 : Int32) (l9 : Int32) (l10 : Int32) (h : eH) : Option (Int64 × eH) :=
  F_X12_joinedAll_85 N k22 k40 l0 l1 l2 l3 l4 l6 l7 l8 l9 l10 0 h
def F_X12_joinedAll_170 (N : Nat) (k22 : Nat → Int32 → Int32 → Int32 → Int64 → Int32 → Int32 → Int32 → eH → Option (Int64 × eH)) (l0 : Nat) (l1 : Int32) (l2 : Int32) (l3 : Int32) (l6 : Int32) (l7 : Int32) (l8 : Int32) (s0 : Int64) (h : eH) : Option (Int64 × eH) :=
  k22 l0 l1 l2 l3 s0 l6 l7 (l8 + 1) h
def F_X12_joinedAll_40b (N : Nat) (k22 : Nat → Int32 → Int32 → Int32 → Int64 → Int32 → Int32 → Int32 → eH → Option (Int64 × eH)) (k40 : Nat → Int32 → Int32 → Int32 → Int64 → Int32 → Int32 → Int32 → Int32 → Int32 → eH → Option (Int64 × eH)) (l0 : Nat) (l1 : Int32) (l2 : Int32) (l3 : Int32) (l4 : Int64) (l6 : Int32) (l7 : Int32) (l8 : Int32) (l9 : Int32) (l10 : Int32) (h : eH) : Option (Int64 × eH) :=
  if ((164 * l2) + 164) ≤ l10 then ((h_gr h 11 l0 7).bind fun v1 => (h_ai h 0 v1 l9).bind fun v2 => if l8 = 0 then ((h_gr h 11 l0 6).bind fun v7 => (h_al64 h v7 l9).bind fun v8 => F_X12_joinedAll_170 N k22 l0 l1 l2 l3 v2 l7 l8 v8 h) else ((h_gr h 11 l0 6).bind fun v3 => (h_al64 h v3 l9).bind fun v4 => (h_is h 11 l0).bind fun _ => e_bind (F_X12_joined N l0 l2 l3 l4 v4 h) fun v5 h6 => F_X12_joinedAll_170 N k22 l0 l1 l2 l3 v2 l7 l8 v5 h6)) else ((h_gr h 11 l0 14).bind fun v9 => (h_ai h 0 v9 l10).bind fun v10 => e_bind (F_X12_has v10 l1 h) fun v11 h12 => if v11 = 0 then (F_X12_joinedAll_84 N k22 k40 l0 l1 l2 l3 l4 l6 l7 l8 l9 l10 h12) else ((h_gr h12 11 l0 7).bind fun v13 => (h_ai h12 0 v13 l10).bind fun v14 => if v14 ≤ l6 then (F_X12_joinedAll_84 N k22 k40 l0 l1 l2 l3 l4 l6 l7 l8 l9 l10 h12) else (F_X12_joinedAll_85 N k22 k40 l0 l1 l2 l3 l4 l6 l7 l8 l9 l10 1 h12)))
def L_X12_joinedAll_40 (N : Nat) (k22 : Nat → Int32 → Int32 → Int32 → Int64 → Int32 → Int32 → Int32 → eH → Option (Int64 × eH)) (l0 : Nat) (l1 : Int32) (l2 : Int32) (l3 : Int32) (l4 : Int64) (l6 : Int32) (l7 : Int32) (l8 : Int32) (l9 : Int32) (l10 : Int32) (h : eH) : Option (Int64 × eH) :=
  e_loop (σ := Nat × Int32 × Int32 × Int32 × Int64 × Int32 × Int32 × Int32 × Int32 × Int32 × eH) (fun k s => F_X12_joinedAll_40b N k22 (fun l0 l1 l2 l3 l4 l6 l7 l8 l9 l10 h => k (l0, l1, l2, l3, l4, l6, l7, l8, l9, l10, h)) s.1 s.2.1 s.2.2.1 s.2.2.2.1 s.2.2.2.2.1 s.2.2.2.2.2.1 s.2.2.2.2.2.2.1 s.2.2.2.2.2.2.2.1 s.2.2.2.2.2.2.2.2.1 s.2.2.2.2.2.2.2.2.2.1 s.2.2.2.2.2.2.2.2.2.2) N (l0, l1, l2, l3, l4, l6, l7, l8, l9, l10, h)
def F_X12_joinedAll_224 (N : Nat) (l4 : Int64) (s0 : Nat) (s1 : Int32) (h : eH) : Option (Int64 × eH) :=
  (h_pz h 11 s0 35 s1).bind fun h1 => e_let (-l4) fun v2 => some (v2, h1)
def F_X12_joinedAll_207 (N : Nat) (l0 : Nat) (s0 : Int64) (h : eH) : Option (Int64 × eH) :=
  if (lg_cmp s0 (-9223372036854775808)) = 0 then (F_X12_joinedAll_224 N s0 l0 1 h) else (F_X12_joinedAll_224 N s0 l0 0 h)
def F_X12_joinedAll_22b (N : Nat) (k22 : Nat → Int32 → Int32 → Int32 → Int64 → Int32 → Int32 → Int32 → eH → Option (Int64 × eH)) (l0 : Nat) (l1 : Int32) (l2 : Int32) (l3 : Int32) (l4 : Int64) (l6 : Int32) (l7 : Int32) (l8 : Int32) (h : eH) : Option (Int64 × eH) :=
  if l7 ≤ l8 then (if l3 = 3 then ((h_gr h 11 l0 4).bind fun v1 => (h_ai h 0 v1 l2).bind fun v2 => if v2 = 0 then (if (lg_cmp l4 0) ≤ 0 then (F_X12_joinedAll_207 N l0 l4 h) else (F_X12_joinedAll_207 N l0 (-l4) h)) else (some (l4, h))) else (some (l4, h))) else (e_let (164 * l2) fun v3 => L_X12_joinedAll_40 N k22 l0 l1 l2 l3 l4 l6 l7 l8 (-9) v3 h)
def L_X12_joinedAll_22 (N : Nat) (l0 : Nat) (l1 : Int32) (l2 : Int32) (l3 : Int32) (l4 : Int64) (l6 : Int32) (l7 : Int32) (l8 : Int32) (h : eH) : Option (Int64 × eH) :=
  e_loop (σ := Nat × Int32 × Int32 × Int32 × Int64 × Int32 × Int32 × Int32 × eH) (fun k s => F_X12_joinedAll_22b N (fun l0 l1 l2 l3 l4 l6 l7 l8 h => k (l0, l1, l2, l3, l4, l6, l7, l8, h)) s.1 s.2.1 s.2.2.1 s.2.2.2.1 s.2.2.2.2.1 s.2.2.2.2.2.1 s.2.2.2.2.2.2.1 s.2.2.2.2.2.2.2.1 s.2.2.2.2.2.2.2.2) N (l0, l1, l2, l3, l4, l6, l7, l8, h)
def F_X12_joinedAll (N : Nat) (l0 : Nat) (l1 : Int32) (l2 : Int32) (l3 : Int32) (h : eH) : Option (Int64 × eH) :=
  (h_pz h 11 l0 35 0).bind fun h1 => (h_is h1 11 l0).bind fun _ => e_bind (F_X12_siblings N l0 l1 l2 h1) fun v2 h3 => L_X12_joinedAll_22 N l0 l1 l2 l3 0 0 v2 0 h3
def F_X12_merges_146 (N : Nat) (k87 : Nat → Int32 → Int32 → Int64 → Int32 → eH → Option (Int32 × eH)) (l0 : Nat) (l1 : Int32) (l2 : Int32) (l4 : Int64) (l6 : Int32) (h : eH) : Option (Int32 × eH) :=
  k87 l0 l1 l2 l4 (l6 + 1) h
def F_X12_merges_174b (N : Nat) (k174 : Nat → Int32 → Int32 → Int64 → Int32 → Int32 → eH → Option (Int32 × eH)) (l0 : Nat) (l1 : Int32) (l2 : Int32) (l4 : Int64) (l6 : Int32) (l7 : Int32) (h : eH) : Option (Int32 × eH) :=
  if (4 : Int32) ≤ l7 then ((h_is h 11 l0).bind fun _ => e_bind (F_X12_comes N l0 l2 l1 l4 h) fun v1 h2 => some (v1, h2)) else ((h_gr h 11 l0 8).bind fun v3 => (h_gr h 11 l0 16).bind fun v4 => e_bind (F_X12_rowAt l2 l1 h) fun v5 h6 => (h_ai h6 0 v4 (v5 + l7)).bind fun v7 => (h_si h6 0 v3 ((4 * l6) + l7) v7).bind fun h8 => (h_gr h8 11 l0 9).bind fun v9 => (h_gr h8 11 l0 16).bind fun v10 => e_bind (F_X12_rowAt l2 l1 h8) fun v11 h12 => (h_ai h12 0 v10 (v11 + l7)).bind fun v13 => (h_si h12 0 v9 ((4 * l6) + l7) v13).bind fun h14 => k174 l0 l1 l2 l4 l6 (l7 + 1) h14)
def L_X12_merges_174 (N : Nat) (l0 : Nat) (l1 : Int32) (l2 : Int32) (l4 : Int64) (l6 : Int32) (l7 : Int32) (h : eH) : Option (Int32 × eH) :=
  e_loop (σ := Nat × Int32 × Int32 × Int64 × Int32 × Int32 × eH) (fun k s => F_X12_merges_174b N (fun l0 l1 l2 l4 l6 l7 h => k (l0, l1, l2, l4, l6, l7, h)) s.1 s.2.1 s.2.2.1 s.2.2.2.1 s.2.2.2.2.1 s.2.2.2.2.2.1 s.2.2.2.2.2.2) N (l0, l1, l2, l4, l6, l7, h)
def F_X12_merges_87b (N : Nat) (k87 : Nat → Int32 → Int32 → Int64 → Int32 → eH → Option (Int32 × eH)) (l0 : Nat) (l1 : Int32) (l2 : Int32) (l4 : Int64) (l6 : Int32) (h : eH) : Option (Int32 × eH) :=
  if ((164 * l2) + 164) ≤ l6 then ((h_gr h 11 l0 15).bind fun v1 => (h_ai h 0 v1 ((4 * l2) + l1)).bind fun v2 => e_bind (F_X12_at l2 l1 (v2 + 1) h) fun v3 h4 => L_X12_merges_174 N l0 l1 l2 l4 v3 0 h4) else ((h_gr h 11 l0 14).bind fun v5 => (h_ai h 0 v5 l6).bind fun v6 => e_bind (F_X12_has v6 l1 h) fun v7 h8 => if v7 = 0 then (F_X12_merges_146 N k87 l0 l1 l2 l4 l6 h8) else ((h_gr h8 11 l0 10).bind fun v9 => (h_si h8 2 v9 l6 (vp_nar .boolean 1)).bind fun h10 => (h_gr h10 11 l0 13).bind fun v11 => (h_si h10 2 v11 l6 (vp_nar .boolean 1)).bind fun h12 => (h_gr h12 11 l0 14).bind fun v13 => (h_ai h12 0 v13 l6).bind fun v14 => (h_si h12 0 v13 l6 (v14 &&& ((1 <<< (l1 &&& 31)) ^^^ (-1)))).bind fun h15 => F_X12_merges_146 N k87 l0 l1 l2 l4 l6 h15))
def L_X12_merges_87 (N : Nat) (l0 : Nat) (l1 : Int32) (l2 : Int32) (l4 : Int64) (l6 : Int32) (h : eH) : Option (Int32 × eH) :=
  e_loop (σ := Nat × Int32 × Int32 × Int64 × Int32 × eH) (fun k s => F_X12_merges_87b N (fun l0 l1 l2 l4 l6 h => k (l0, l1, l2, l4, l6, h)) s.1 s.2.1 s.2.2.1 s.2.2.2.1 s.2.2.2.2.1 s.2.2.2.2.2) N (l0, l1, l2, l4, l6, h)
def F_X12_merges (N : Nat) (l0 : Nat) (l1 : Int32) (l2 : Int32) (h : eH) : Option (Int32 × eH) :=
  (h_is h 11 l0).bind fun _ => e_bind (F_X12_isSite l0 l1 h) fun v1 h2 => if v1 = 0 then (some ((-1), h2)) else ((h_is h2 11 l0).bind fun _ => e_bind (F_X12_isKey l0 l2 h2) fun v3 h4 => if v3 = 0 then (some ((-1), h4)) else ((h_is h4 11 l0).bind fun _ => e_bind (F_X12_ruleOf N l0 l2 h4) fun v5 h6 => if v5 = (-9) then (some ((-2), h6)) else ((h_is h6 11 l0).bind fun _ => e_bind (F_X12_siblings N l0 l1 l2 h6) fun v7 h8 => if (2 : Int32) ≤ v7 then ((h_gr h8 11 l0 15).bind fun v9 => (h_ai h8 0 v9 ((4 * l2) + l1)).bind fun v10 => if v10 = 40 then (some ((-3), h8)) else ((h_is h8 11 l0).bind fun _ => e_bind (F_X12_joinedAll N l0 l1 l2 v5 h8) fun v11 h12 => (h_gi h12 11 l0 35).bind fun v13 => if v13 = 0 then (e_let (164 * l2) fun v14 => L_X12_merges_87 N l0 l1 l2 v11 v14 h12) else (some ((-5), h12)))) else (some ((-2), h8)))))
def F_X12_rules_105 (N : Nat) (l0 : Nat) (l1 : Int32) (l2 : Int32) (l3 : Int32) (h : eH) : Option (Int32 × eH) :=
  (h_gr h 11 l0 22).bind fun v1 => (h_gi h 11 l0 21).bind fun v2 => (h_si h 0 v1 v2 l1).bind fun h3 => (h_gr h3 11 l0 23).bind fun v4 => (h_gi h3 11 l0 21).bind fun v5 => (h_si h3 0 v4 v5 l2).bind fun h6 => (h_gi h6 11 l0 21).bind fun v7 => (h_p h6 11 l0 21 (.int (v7 + 1))).bind fun h8 => some (l3, h8)
def F_X12_rules_24b (N : Nat) (k24 : Nat → Int32 → Int32 → Int32 → eH → Option (Int32 × eH)) (l0 : Nat) (l1 : Int32) (l2 : Int32) (l3 : Int32) (h : eH) : Option (Int32 × eH) :=
  (h_gi h 11 l0 21).bind fun v1 => if v1 ≤ l3 then ((h_gi h 11 l0 21).bind fun v2 => if v2 = 2 then ((h_gr h 11 l0 22).bind fun v3 => (h_ai h 0 v3 0).bind fun v4 => (h_gr h 11 l0 22).bind fun v5 => (h_gr h 11 l0 22).bind fun v6 => (h_ai h 0 v6 1).bind fun v7 => (h_si h 0 v5 0 v7).bind fun h8 => (h_gr h8 11 l0 23).bind fun v9 => (h_gr h8 11 l0 23).bind fun v10 => (h_ai h8 0 v10 1).bind fun v11 => (h_si h8 0 v9 0 v11).bind fun h12 => (h_p h12 11 l0 21 (.int 1)).bind fun h13 => F_X12_rules_105 N l0 l1 l2 v4 h13) else (F_X12_rules_105 N l0 l1 l2 (-9) h)) else ((h_gr h 11 l0 22).bind fun v14 => (h_ai h 0 v14 l3).bind fun v15 => if v15 = l1 then ((h_gr h 11 l0 23).bind fun v16 => (h_si h 0 v16 l3 l2).bind fun h17 => some ((-9), h17)) else (k24 l0 l1 l2 (l3 + 1) h))
def L_X12_rules_24 (N : Nat) (l0 : Nat) (l1 : Int32) (l2 : Int32) (l3 : Int32) (h : eH) : Option (Int32 × eH) :=
  e_loop (σ := Nat × Int32 × Int32 × Int32 × eH) (fun k s => F_X12_rules_24b N (fun l0 l1 l2 l3 h => k (l0, l1, l2, l3, h)) s.1 s.2.1 s.2.2.1 s.2.2.2.1 s.2.2.2.2) N (l0, l1, l2, l3, h)
def F_X12_rules (N : Nat) (l0 : Nat) (l1 : Int32) (l2 : Int32) (h : eH) : Option (Int32 × eH) :=
  (h_is h 11 l0).bind fun _ => e_bind (F_X12_isKey l0 l1 h) fun v1 h2 => if v1 = 0 then (some ((-1), h2)) else (e_bind (F_X12_in (l2.toInt64) 0 4 h2) fun v3 h4 => if v3 = 0 then (some ((-1), h4)) else (L_X12_rules_24 N l0 l1 l2 0 h4))
def F_X12_row (l0 : Nat) (l1 : Int32) (l2 : Int32) (l3 : Int32) (h : eH) : Option (Int32 × eH) :=
  (h_is h 11 l0).bind fun _ => e_bind (F_X12_isSite l0 l1 h) fun v1 h2 => if v1 = 0 then (some ((-1), h2)) else ((h_is h2 11 l0).bind fun _ => e_bind (F_X12_isKey l0 l2 h2) fun v3 h4 => if v3 = 0 then (some ((-1), h4)) else ((h_is h4 11 l0).bind fun _ => e_bind (F_X12_isSite l0 l3 h4) fun v5 h6 => if v5 = 0 then (some ((-1), h6)) else ((h_gr h6 11 l0 16).bind fun v7 => e_bind (F_X12_rowAt l2 l1 h6) fun v8 h9 => (h_ai h9 0 v7 (v8 + l3)).bind fun v10 => some (v10, h9))))
def F_X12_sibling_138 (N : Nat) (k43 : Nat → Int32 → Int32 → Int32 → Int32 → Int32 → Int32 → eH → Option (Int64 × eH)) (l0 : Nat) (l1 : Int32) (l2 : Int32) (l3 : Int32) (l4 : Int32) (l5 : Int32) (l6 : Int32) (h : eH) : Option (Int64 × eH) :=
  k43 l0 l1 l2 l3 l4 l5 (l6 + 1) h
def F_X12_sibling_43b (N : Nat) (k43 : Nat → Int32 → Int32 → Int32 → Int32 → Int32 → Int32 → eH → Option (Int64 × eH)) (l0 : Nat) (l1 : Int32) (l2 : Int32) (l3 : Int32) (l4 : Int32) (l5 : Int32) (l6 : Int32) (h : eH) : Option (Int64 × eH) :=
  if (164 : Int32) ≤ l6 then (some ((-9), h)) else (e_let ((164 * l2) + l6) fun v1 => (h_gr h 11 l0 14).bind fun v2 => (h_ai h 0 v2 v1).bind fun v3 => e_bind (F_X12_has v3 l1 h) fun v4 h5 => if v4 = 0 then (F_X12_sibling_138 N k43 l0 l1 l2 l3 l4 l5 l6 h5) else (if l5 = l3 then (if l4 = 0 then (some (((l6 / 41).toInt64), h5)) else (if l4 = 1 then (some (((l6 - l6 / 41 * 41).toInt64), h5)) else (if l4 = 2 then ((h_gr h5 11 l0 7).bind fun v8 => (h_ai h5 0 v8 v1).bind fun v9 => some ((v9.toInt64), h5)) else ((h_gr h5 11 l0 6).bind fun v6 => (h_al64 h5 v6 v1).bind fun v7 => some (v7, h5))))) else (F_X12_sibling_138 N k43 l0 l1 l2 l3 l4 (l5 + 1) l6 h5)))
def L_X12_sibling_43 (N : Nat) (l0 : Nat) (l1 : Int32) (l2 : Int32) (l3 : Int32) (l4 : Int32) (l5 : Int32) (l6 : Int32) (h : eH) : Option (Int64 × eH) :=
  e_loop (σ := Nat × Int32 × Int32 × Int32 × Int32 × Int32 × Int32 × eH) (fun k s => F_X12_sibling_43b N (fun l0 l1 l2 l3 l4 l5 l6 h => k (l0, l1, l2, l3, l4, l5, l6, h)) s.1 s.2.1 s.2.2.1 s.2.2.2.1 s.2.2.2.2.1 s.2.2.2.2.2.1 s.2.2.2.2.2.2.1 s.2.2.2.2.2.2.2) N (l0, l1, l2, l3, l4, l5, l6, h)
def F_X12_sibling (N : Nat) (l0 : Nat) (l1 : Int32) (l2 : Int32) (l3 : Int32) (l4 : Int32) (h : eH) : Option (Int64 × eH) :=
  (h_is h 11 l0).bind fun _ => e_bind (F_X12_isSite l0 l1 h) fun v1 h2 => if v1 = 0 then (some ((-1), h2)) else ((h_is h2 11 l0).bind fun _ => e_bind (F_X12_isKey l0 l2 h2) fun v3 h4 => if v3 = 0 then (some ((-1), h4)) else (if l3 < 0 then (some ((-1), h4)) else (e_bind (F_X12_in (l4.toInt64) 0 3 h4) fun v5 h6 => if v5 = 0 then (some ((-1), h6)) else (L_X12_sibling_43 N l0 l1 l2 l3 l4 0 0 h6))))
def F_X12_context_52 (l0 : Nat) (l1 : Int32) (h : eH) : Option (Int32 × eH) :=
  (h_gr h 11 l0 18).bind fun v1 => (h_ai h 0 v1 l1).bind fun v2 => some (v2, h)
def F_X12_context_37 (l0 : Nat) (l1 : Int32) (l2 : Int32) (h : eH) : Option (Int32 × eH) :=
  (h_gr h 11 l0 18).bind fun v1 => (h_ai h 0 v1 l1).bind fun v2 => if v2 = (-9) then (F_X12_context_52 l0 l1 h) else (if (0 : Int32) ≤ l2 then (if (4 : Int32) ≤ l2 then ((h_gr h 11 l0 20).bind fun v3 => (h_ai h 0 v3 (((4 * l1) + l2) - 4)).bind fun v4 => some (v4, h)) else ((h_gr h 11 l0 19).bind fun v5 => (h_ai h 0 v5 ((4 * l1) + l2)).bind fun v6 => some (v6, h))) else (F_X12_context_52 l0 l1 h))
def F_X12_context (l0 : Nat) (l1 : Int32) (l2 : Int32) (h : eH) : Option (Int32 × eH) :=
  e_bind (F_X12_isClient l1 h) fun v1 h2 => if v1 = 0 then (some ((-1), h2)) else (e_bind (F_X12_in (l2.toInt64) (-1) 7 h2) fun v3 h4 => if v3 = 0 then (some ((-1), h4)) else (if l2 < 0 then (F_X12_context_37 l0 l1 l2 h4) else ((h_is h4 11 l0).bind fun _ => e_bind (F_X12_isSite l0 (l2 - l2 / 4 * 4) h4) fun v5 h6 => if v5 = 0 then (some ((-1), h6)) else (F_X12_context_37 l0 l1 l2 h6))))
def F_X12_bit (l0 : Int32) (h : eH) : Option (Int32 × eH) :=
  if l0 = 0 then (some (0, h)) else (some (1, h))
def F_X12_isLost (l0 : Nat) (l1 : Int32) (h : eH) : Option (Int32 × eH) :=
  (h_gr h 11 l0 14).bind fun v1 => (h_ai h 0 v1 l1).bind fun v2 => if v2 = 0 then ((h_gr h 11 l0 10).bind fun v3 => (h_ai h 2 v3 l1).bind fun v4 => if v4 = 0 then ((h_z 1).bind fun z => some (z, h)) else ((h_z 0).bind fun z => some (z, h))) else ((h_z 0).bind fun z => some (z, h))
def F_X12_write (l0 : Nat) (l1 : Int32) (l2 : Int32) (l3 : Int32) (l4 : Int32) (h : eH) : Option (Int64 × eH) :=
  (h_is h 11 l0).bind fun _ => e_bind (F_X12_isWrite l0 l1 l2 l3 h) fun v1 h2 => if v1 = 0 then (some ((-1), h2)) else (e_bind (F_X12_in (l4.toInt64) 0 7 h2) fun v3 h4 => if v3 = 0 then (some ((-1), h4)) else (e_bind (F_X12_at l1 l2 l3 h4) fun v5 h6 => if l4 = 0 then ((h_gr h6 11 l0 6).bind fun v7 => (h_al64 h6 v7 v5).bind fun v8 => some (v8, h6)) else (if l4 = 1 then ((h_gr h6 11 l0 7).bind fun v9 => (h_ai h6 0 v9 v5).bind fun v10 => some ((v10.toInt64), h6)) else (if l4 = 2 then ((h_gr h6 11 l0 10).bind fun v11 => (h_ai h6 2 v11 v5).bind fun v12 => e_bind (F_X12_bit v12 h6) fun v13 h14 => some ((v13.toInt64), h14)) else (if l4 = 3 then ((h_gr h6 11 l0 11).bind fun v15 => (h_ai h6 2 v15 v5).bind fun v16 => e_bind (F_X12_bit v16 h6) fun v17 h18 => some ((v17.toInt64), h18)) else (if l4 = 4 then ((h_gr h6 11 l0 12).bind fun v19 => (h_ai h6 2 v19 v5).bind fun v20 => e_bind (F_X12_bit v20 h6) fun v21 h22 => some ((v21.toInt64), h22)) else (if l4 = 5 then ((h_gr h6 11 l0 13).bind fun v23 => (h_ai h6 2 v23 v5).bind fun v24 => e_bind (F_X12_bit v24 h6) fun v25 h26 => some ((v25.toInt64), h26)) else (if l4 = 6 then ((h_gr h6 11 l0 14).bind fun v27 => (h_ai h6 0 v27 v5).bind fun v28 => some ((v28.toInt64), h6)) else ((h_is h6 11 l0).bind fun _ => e_bind (F_X12_isLost l0 v5 h6) fun v29 h30 => e_bind (F_X12_bit v29 h30) fun v31 h32 => some ((v31.toInt64), h32))))))))))
def F_X12_ahead_80 (s0 : Int32) (h : eH) : Option (Int32 × eH) :=
  e_bind (F_X12_bit s0 h) fun v1 h2 => some (v1, h2)
def F_X12_ahead_71 (l3 : Int32) (s0 : Int32) (h : eH) : Option (Int32 × eH) :=
  if s0 < l3 then (F_X12_ahead_80 0 h) else (F_X12_ahead_80 1 h)
def F_X12_ahead (l0 : Nat) (l1 : Int32) (l2 : Int32) (l3 : Int32) (l4 : Int32) (l5 : Int32) (l6 : Int32) (h : eH) : Option (Int32 × eH) :=
  (h_is h 11 l0).bind fun _ => e_bind (F_X12_isWrite l0 l1 l2 l3 h) fun v1 h2 => if v1 = 0 then (some ((-1), h2)) else ((h_is h2 11 l0).bind fun _ => e_bind (F_X12_isWrite l0 l1 l4 l5 h2) fun v3 h4 => if v3 = 0 then (some ((-1), h4)) else (e_bind (F_X12_in (l6.toInt64) 0 1 h4) fun v5 h6 => if v5 = 0 then (some ((-1), h6)) else (e_bind (F_X12_at l1 l4 l5 h6) fun v7 h8 => e_let ((4 * v7) + l2) fun v9 => if l6 = 0 then ((h_gr h8 11 l0 8).bind fun v12 => (h_ai h8 0 v12 v9).bind fun v13 => F_X12_ahead_71 l3 v13 h8) else ((h_gr h8 11 l0 9).bind fun v10 => (h_ai h8 0 v10 v9).bind fun v11 => F_X12_ahead_71 l3 v11 h8))))
def F_X12_areAlike_54 (N : Nat) (k6 : Nat → Int32 → Int32 → Int32 → Int32 → Int32 → eH → Option (Int32 × eH)) (l0 : Nat) (l1 : Int32) (l2 : Int32) (l3 : Int32) (l5 : Int32) (s0 : Int32) (h : eH) : Option (Int32 × eH) :=
  k6 l0 l1 l2 l3 s0 (l5 + 1) h
def F_X12_areAlike_53 (N : Nat) (k6 : Nat → Int32 → Int32 → Int32 → Int32 → Int32 → eH → Option (Int32 × eH)) (l0 : Nat) (l1 : Int32) (l2 : Int32) (l3 : Int32) (l5 : Int32) (h : eH) : Option (Int32 × eH) :=
  F_X12_areAlike_54 N k6 l0 l1 l2 l3 l5 0 h
def F_X12_areAlike_118 (N : Nat) (k69 : Nat → Int32 → Int32 → Int32 → Int32 → Int32 → eH → Option (Int32 × eH)) (l0 : Nat) (l1 : Int32) (l2 : Int32) (l3 : Int32) (l5 : Int32) (s0 : Int32) (h : eH) : Option (Int32 × eH) :=
  k69 l0 l1 l2 l3 s0 (l5 + 1) h
def F_X12_areAlike_117 (N : Nat) (k69 : Nat → Int32 → Int32 → Int32 → Int32 → Int32 → eH → Option (Int32 × eH)) (l0 : Nat) (l1 : Int32) (l2 : Int32) (l3 : Int32) (l5 : Int32) (h : eH) : Option (Int32 × eH) :=
  F_X12_areAlike_118 N k69 l0 l1 l2 l3 l5 0 h
def F_X12_areAlike_69b (N : Nat) (k69 : Nat → Int32 → Int32 → Int32 → Int32 → Int32 → eH → Option (Int32 × eH)) (l0 : Nat) (l1 : Int32) (l2 : Int32) (l3 : Int32) (l4 : Int32) (l5 : Int32) (h : eH) : Option (Int32 × eH) :=
  if ((164 * l3) + 164) ≤ l5 then ((h_z l4).bind fun z => some (z, h)) else (if l4 = 0 then (F_X12_areAlike_117 N k69 l0 l1 l2 l3 l5 h) else ((h_gr h 11 l0 14).bind fun v1 => (h_ai h 0 v1 l5).bind fun v2 => e_bind (F_X12_has v2 l1 h) fun v3 h4 => (h_gr h4 11 l0 14).bind fun v5 => (h_ai h4 0 v5 l5).bind fun v6 => e_bind (F_X12_has v6 l2 h4) fun v7 h8 => if v3 = v7 then (F_X12_areAlike_118 N k69 l0 l1 l2 l3 l5 1 h8) else (F_X12_areAlike_117 N k69 l0 l1 l2 l3 l5 h8)))
def L_X12_areAlike_69 (N : Nat) (l0 : Nat) (l1 : Int32) (l2 : Int32) (l3 : Int32) (l4 : Int32) (l5 : Int32) (h : eH) : Option (Int32 × eH) :=
  e_loop (σ := Nat × Int32 × Int32 × Int32 × Int32 × Int32 × eH) (fun k s => F_X12_areAlike_69b N (fun l0 l1 l2 l3 l4 l5 h => k (l0, l1, l2, l3, l4, l5, h)) s.1 s.2.1 s.2.2.1 s.2.2.2.1 s.2.2.2.2.1 s.2.2.2.2.2.1 s.2.2.2.2.2.2) N (l0, l1, l2, l3, l4, l5, h)
def F_X12_areAlike_6b (N : Nat) (k6 : Nat → Int32 → Int32 → Int32 → Int32 → Int32 → eH → Option (Int32 × eH)) (l0 : Nat) (l1 : Int32) (l2 : Int32) (l3 : Int32) (l4 : Int32) (l5 : Int32) (h : eH) : Option (Int32 × eH) :=
  (h_gi h 11 l0 0).bind fun v1 => if v1 ≤ l5 then (e_let (164 * l3) fun v2 => L_X12_areAlike_69 N l0 l1 l2 l3 l4 v2 h) else (if l4 = 0 then (F_X12_areAlike_53 N k6 l0 l1 l2 l3 l5 h) else ((h_gr h 11 l0 16).bind fun v3 => e_bind (F_X12_rowAt l3 l1 h) fun v4 h5 => (h_ai h5 0 v3 (v4 + l5)).bind fun v6 => (h_gr h5 11 l0 16).bind fun v7 => e_bind (F_X12_rowAt l3 l2 h5) fun v8 h9 => (h_ai h9 0 v7 (v8 + l5)).bind fun v10 => if v6 = v10 then (F_X12_areAlike_54 N k6 l0 l1 l2 l3 l5 1 h9) else (F_X12_areAlike_53 N k6 l0 l1 l2 l3 l5 h9)))
def L_X12_areAlike_6 (N : Nat) (l0 : Nat) (l1 : Int32) (l2 : Int32) (l3 : Int32) (l4 : Int32) (l5 : Int32) (h : eH) : Option (Int32 × eH) :=
  e_loop (σ := Nat × Int32 × Int32 × Int32 × Int32 × Int32 × eH) (fun k s => F_X12_areAlike_6b N (fun l0 l1 l2 l3 l4 l5 h => k (l0, l1, l2, l3, l4, l5, h)) s.1 s.2.1 s.2.2.1 s.2.2.2.1 s.2.2.2.2.1 s.2.2.2.2.2.1 s.2.2.2.2.2.2) N (l0, l1, l2, l3, l4, l5, h)
def F_X12_areAlike (N : Nat) (l0 : Nat) (l1 : Int32) (l2 : Int32) (l3 : Int32) (h : eH) : Option (Int32 × eH) :=
  L_X12_areAlike_6 N l0 l1 l2 l3 1 0 h
def F_X12_alike (N : Nat) (l0 : Nat) (l1 : Int32) (l2 : Int32) (l3 : Int32) (h : eH) : Option (Int32 × eH) :=
  (h_is h 11 l0).bind fun _ => e_bind (F_X12_isSite l0 l1 h) fun v1 h2 => if v1 = 0 then (some ((-1), h2)) else ((h_is h2 11 l0).bind fun _ => e_bind (F_X12_isSite l0 l2 h2) fun v3 h4 => if v3 = 0 then (some ((-1), h4)) else ((h_is h4 11 l0).bind fun _ => e_bind (F_X12_isKey l0 l3 h4) fun v5 h6 => if v5 = 0 then (some ((-1), h6)) else ((h_is h6 11 l0).bind fun _ => e_bind (F_X12_areAlike N l0 l1 l2 l3 h6) fun v7 h8 => e_bind (F_X12_bit v7 h8) fun v9 h10 => some (v9, h10))))
def F_X12_behind_77 (N : Nat) (k23 : Nat → Int32 → Int32 → Int32 → Int32 → eH → Option (Int32 × eH)) (k38 : Nat → Int32 → Int32 → Int32 → Int32 → Int32 → Int32 → eH → Option (Int32 × eH)) (l0 : Nat) (l1 : Int32) (l2 : Int32) (l3 : Int32) (l4 : Int32) (l6 : Int32) (s0 : Int32) (h : eH) : Option (Int32 × eH) :=
  k38 l0 l1 l2 l3 l4 s0 (l6 + 1) h
def F_X12_behind_38b (N : Nat) (k23 : Nat → Int32 → Int32 → Int32 → Int32 → eH → Option (Int32 × eH)) (k38 : Nat → Int32 → Int32 → Int32 → Int32 → Int32 → Int32 → eH → Option (Int32 × eH)) (l0 : Nat) (l1 : Int32) (l2 : Int32) (l3 : Int32) (l4 : Int32) (l5 : Int32) (l6 : Int32) (h : eH) : Option (Int32 × eH) :=
  (h_gi h 11 l0 0).bind fun v1 => if v1 ≤ l6 then ((h_gr h 11 l0 16).bind fun v2 => e_bind (F_X12_rowAt l2 l1 h) fun v3 h4 => (h_ai h4 0 v2 (v3 + l4)).bind fun v5 => e_let (l3 + (l5 - v5)) fun v6 => k23 l0 l1 l2 v6 (l4 + 1) h4) else ((h_gr h 11 l0 16).bind fun v7 => e_bind (F_X12_rowAt l2 l6 h) fun v8 h9 => (h_ai h9 0 v7 (v8 + l4)).bind fun v10 => if v10 ≤ l5 then (F_X12_behind_77 N k23 k38 l0 l1 l2 l3 l4 l6 l5 h9) else (F_X12_behind_77 N k23 k38 l0 l1 l2 l3 l4 l6 v10 h9))
def L_X12_behind_38 (N : Nat) (k23 : Nat → Int32 → Int32 → Int32 → Int32 → eH → Option (Int32 × eH)) (l0 : Nat) (l1 : Int32) (l2 : Int32) (l3 : Int32) (l4 : Int32) (l5 : Int32) (l6 : Int32) (h : eH) : Option (Int32 × eH) :=
  e_loop (σ := Nat × Int32 × Int32 × Int32 × Int32 × Int32 × Int32 × eH) (fun k s => F_X12_behind_38b N k23 (fun l0 l1 l2 l3 l4 l5 l6 h => k (l0, l1, l2, l3, l4, l5, l6, h)) s.1 s.2.1 s.2.2.1 s.2.2.2.1 s.2.2.2.2.1 s.2.2.2.2.2.1 s.2.2.2.2.2.2.1 s.2.2.2.2.2.2.2) N (l0, l1, l2, l3, l4, l5, l6, h)
def F_X12_behind_23b (N : Nat) (k23 : Nat → Int32 → Int32 → Int32 → Int32 → eH → Option (Int32 × eH)) (l0 : Nat) (l1 : Int32) (l2 : Int32) (l3 : Int32) (l4 : Int32) (h : eH) : Option (Int32 × eH) :=
  (h_gi h 11 l0 0).bind fun v1 => if v1 ≤ l4 then (some (l3, h)) else (L_X12_behind_38 N k23 l0 l1 l2 l3 l4 0 0 h)
def L_X12_behind_23 (N : Nat) (l0 : Nat) (l1 : Int32) (l2 : Int32) (l3 : Int32) (l4 : Int32) (h : eH) : Option (Int32 × eH) :=
  e_loop (σ := Nat × Int32 × Int32 × Int32 × Int32 × eH) (fun k s => F_X12_behind_23b N (fun l0 l1 l2 l3 l4 h => k (l0, l1, l2, l3, l4, h)) s.1 s.2.1 s.2.2.1 s.2.2.2.1 s.2.2.2.2.1 s.2.2.2.2.2) N (l0, l1, l2, l3, l4, h)
def F_X12_behind (N : Nat) (l0 : Nat) (l1 : Int32) (l2 : Int32) (h : eH) : Option (Int32 × eH) :=
  (h_is h 11 l0).bind fun _ => e_bind (F_X12_isSite l0 l1 h) fun v1 h2 => if v1 = 0 then (some ((-1), h2)) else ((h_is h2 11 l0).bind fun _ => e_bind (F_X12_isKey l0 l2 h2) fun v3 h4 => if v3 = 0 then (some ((-1), h4)) else (L_X12_behind_23 N l0 l1 l2 0 0 h4))
def F_X12_joinsSet_178 (N : Nat) (k12 : Nat → Int32 → Int32 → Int32 → Int32 → Int32 → eH → Option (Unit × eH)) (k65 : Nat → Int32 → Int32 → Int32 → Int32 → Int32 → Int32 → Int32 → Int64 → Int32 → eH → Option (Unit × eH)) (l0 : Nat) (l1 : Int32) (l2 : Int32) (l3 : Int32) (l4 : Int32) (l5 : Int32) (l6 : Int32) (l7 : Int32) (l10 : Int32) (s0 : Int64) (s1 : Int64) (h : eH) : Option (Unit × eH) :=
  e_let (s0 ||| s1) fun v1 => k65 l0 l1 l2 l3 l4 l5 l6 l7 v1 (l10 + 1) h
def F_X12_joinsSet_170 (N : Nat) (k12 : Nat → Int32 → Int32 → Int32 → Int32 → Int32 → eH → Option (Unit × eH)) (k65 : Nat → Int32 → Int32 → Int32 → Int32 → Int32 → Int32 → Int32 → Int64 → Int32 → eH → Option (Unit × eH)) (l0 : Nat) (l1 : Int32) (l2 : Int32) (l3 : Int32) (l4 : Int32) (l5 : Int32) (l6 : Int32) (l7 : Int32) (l10 : Int32) (s0 : Int64) (h : eH) : Option (Unit × eH) :=
  F_X12_joinsSet_178 N k12 k65 l0 l1 l2 l3 l4 l5 l6 l7 l10 s0 ((1 : Int64) <<< (l10.toInt64 &&& 63)) h
def F_X12_joinsSet_177 (N : Nat) (k12 : Nat → Int32 → Int32 → Int32 → Int32 → Int32 → eH → Option (Unit × eH)) (k65 : Nat → Int32 → Int32 → Int32 → Int32 → Int32 → Int32 → Int32 → Int64 → Int32 → eH → Option (Unit × eH)) (l0 : Nat) (l1 : Int32) (l2 : Int32) (l3 : Int32) (l4 : Int32) (l5 : Int32) (l6 : Int32) (l7 : Int32) (l10 : Int32) (s0 : Int64) (h : eH) : Option (Unit × eH) :=
  F_X12_joinsSet_178 N k12 k65 l0 l1 l2 l3 l4 l5 l6 l7 l10 s0 0 h
def F_X12_joinsSet_158 (N : Nat) (k12 : Nat → Int32 → Int32 → Int32 → Int32 → Int32 → eH → Option (Unit × eH)) (k65 : Nat → Int32 → Int32 → Int32 → Int32 → Int32 → Int32 → Int32 → Int64 → Int32 → eH → Option (Unit × eH)) (l0 : Nat) (l1 : Int32) (l2 : Int32) (l3 : Int32) (l4 : Int32) (l5 : Int32) (l6 : Int32) (l7 : Int32) (l10 : Int32) (l12 : Int32) (s0 : Int64) (h : eH) : Option (Unit × eH) :=
  if l12 = 0 then (F_X12_joinsSet_177 N k12 k65 l0 l1 l2 l3 l4 l5 l6 l7 l10 s0 h) else (if l10 ≤ l6 then (F_X12_joinsSet_177 N k12 k65 l0 l1 l2 l3 l4 l5 l6 l7 l10 s0 h) else (F_X12_joinsSet_170 N k12 k65 l0 l1 l2 l3 l4 l5 l6 l7 l10 s0 h))
def F_X12_joinsSet_146 (N : Nat) (k12 : Nat → Int32 → Int32 → Int32 → Int32 → Int32 → eH → Option (Unit × eH)) (k65 : Nat → Int32 → Int32 → Int32 → Int32 → Int32 → Int32 → Int32 → Int64 → Int32 → eH → Option (Unit × eH)) (l0 : Nat) (l1 : Int32) (l2 : Int32) (l3 : Int32) (l4 : Int32) (l5 : Int32) (l6 : Int32) (l7 : Int32) (l10 : Int32) (l11 : Int32) (l12 : Int32) (s0 : Int64) (h : eH) : Option (Unit × eH) :=
  if l11 = 0 then (F_X12_joinsSet_158 N k12 k65 l0 l1 l2 l3 l4 l5 l6 l7 l10 l12 s0 h) else (if l7 < l10 then (F_X12_joinsSet_170 N k12 k65 l0 l1 l2 l3 l4 l5 l6 l7 l10 s0 h) else (F_X12_joinsSet_158 N k12 k65 l0 l1 l2 l3 l4 l5 l6 l7 l10 l12 s0 h))
def F_X12_joinsSet_132 (N : Nat) (k12 : Nat → Int32 → Int32 → Int32 → Int32 → Int32 → eH → Option (Unit × eH)) (k65 : Nat → Int32 → Int32 → Int32 → Int32 → Int32 → Int32 → Int32 → Int64 → Int32 → eH → Option (Unit × eH)) (l0 : Nat) (l1 : Int32) (l2 : Int32) (l3 : Int32) (l4 : Int32) (l5 : Int32) (l6 : Int32) (l7 : Int32) (l8 : Int64) (l10 : Int32) (l11 : Int32) (s0 : Int32) (h : eH) : Option (Unit × eH) :=
  if l11 = 0 then (F_X12_joinsSet_146 N k12 k65 l0 l1 l2 l3 l4 l5 l6 l7 l10 l11 s0 l8 h) else (if s0 = 0 then (F_X12_joinsSet_146 N k12 k65 l0 l1 l2 l3 l4 l5 l6 l7 l10 l11 s0 l8 h) else (F_X12_joinsSet_170 N k12 k65 l0 l1 l2 l3 l4 l5 l6 l7 l10 l8 h))
def F_X12_joinsSet_131 (N : Nat) (k12 : Nat → Int32 → Int32 → Int32 → Int32 → Int32 → eH → Option (Unit × eH)) (k65 : Nat → Int32 → Int32 → Int32 → Int32 → Int32 → Int32 → Int32 → Int64 → Int32 → eH → Option (Unit × eH)) (l0 : Nat) (l1 : Int32) (l2 : Int32) (l3 : Int32) (l4 : Int32) (l5 : Int32) (l6 : Int32) (l7 : Int32) (l8 : Int64) (l10 : Int32) (l11 : Int32) (h : eH) : Option (Unit × eH) :=
  F_X12_joinsSet_132 N k12 k65 l0 l1 l2 l3 l4 l5 l6 l7 l8 l10 l11 0 h
def F_X12_joinsSet_224 (N : Nat) (k12 : Nat → Int32 → Int32 → Int32 → Int32 → Int32 → eH → Option (Unit × eH)) (l0 : Nat) (l1 : Int32) (l2 : Int32) (l3 : Int32) (l4 : Int32) (l5 : Int32) (s0 : Nat) (s1 : Int32) (s2 : Int32) (h : eH) : Option (Unit × eH) :=
  (h_si h 0 s0 s1 s2).bind fun h1 => k12 l0 l1 l2 l3 l4 (l5 + 1) h1
def F_X12_joinsSet_65b (N : Nat) (k12 : Nat → Int32 → Int32 → Int32 → Int32 → Int32 → eH → Option (Unit × eH)) (k65 : Nat → Int32 → Int32 → Int32 → Int32 → Int32 → Int32 → Int32 → Int64 → Int32 → eH → Option (Unit × eH)) (l0 : Nat) (l1 : Int32) (l2 : Int32) (l3 : Int32) (l4 : Int32) (l5 : Int32) (l6 : Int32) (l7 : Int32) (l8 : Int64) (l10 : Int32) (h : eH) : Option (Unit × eH) :=
  (h_gr h 11 l0 15).bind fun v1 => (h_ai h 0 v1 ((4 * l1) + l5)).bind fun v2 => if v2 < l10 then ((h_gr h 11 l0 37).bind fun v3 => (h_sl h v3 ((4 * l2) + l5) l8).bind fun h4 => (h_gr h4 11 l0 36).bind fun v5 => if l6 ≤ l7 then (F_X12_joinsSet_224 N k12 l0 l1 l2 l3 l4 l5 v5 ((4 * l2) + l5) l7 h4) else (F_X12_joinsSet_224 N k12 l0 l1 l2 l3 l4 l5 v5 ((4 * l2) + l5) l6 h4)) else ((h_gr h 11 l0 14).bind fun v6 => e_bind (F_X12_at l1 l5 l10 h) fun v7 h8 => (h_ai h8 0 v6 v7).bind fun v9 => e_bind (F_X12_has v9 l3 h8) fun v10 h11 => if l4 = 0 then (F_X12_joinsSet_131 N k12 k65 l0 l1 l2 l3 l4 l5 l6 l7 l8 l10 v10 h11) else ((h_gr h11 11 l0 37).bind fun v12 => (h_al64 h11 v12 ((4 * l4) + l5)).bind fun v13 => if (lg_cmp ((v13 >>> (l10.toInt64 &&& 63)) &&& 1) 1) = 0 then (F_X12_joinsSet_132 N k12 k65 l0 l1 l2 l3 l4 l5 l6 l7 l8 l10 v10 1 h11) else (F_X12_joinsSet_131 N k12 k65 l0 l1 l2 l3 l4 l5 l6 l7 l8 l10 v10 h11)))
def L_X12_joinsSet_65 (N : Nat) (k12 : Nat → Int32 → Int32 → Int32 → Int32 → Int32 → eH → Option (Unit × eH)) (l0 : Nat) (l1 : Int32) (l2 : Int32) (l3 : Int32) (l4 : Int32) (l5 : Int32) (l6 : Int32) (l7 : Int32) (l8 : Int64) (l10 : Int32) (h : eH) : Option (Unit × eH) :=
  e_loop (σ := Nat × Int32 × Int32 × Int32 × Int32 × Int32 × Int32 × Int32 × Int64 × Int32 × eH) (fun k s => F_X12_joinsSet_65b N k12 (fun l0 l1 l2 l3 l4 l5 l6 l7 l8 l10 h => k (l0, l1, l2, l3, l4, l5, l6, l7, l8, l10, h)) s.1 s.2.1 s.2.2.1 s.2.2.2.1 s.2.2.2.2.1 s.2.2.2.2.2.1 s.2.2.2.2.2.2.1 s.2.2.2.2.2.2.2.1 s.2.2.2.2.2.2.2.2.1 s.2.2.2.2.2.2.2.2.2.1 s.2.2.2.2.2.2.2.2.2.2) N (l0, l1, l2, l3, l4, l5, l6, l7, l8, l10, h)
def F_X12_joinsSet_57 (N : Nat) (k12 : Nat → Int32 → Int32 → Int32 → Int32 → Int32 → eH → Option (Unit × eH)) (l0 : Nat) (l1 : Int32) (l2 : Int32) (l3 : Int32) (l4 : Int32) (l5 : Int32) (l6 : Int32) (s0 : Int32) (h : eH) : Option (Unit × eH) :=
  L_X12_joinsSet_65 N k12 l0 l1 l2 l3 l4 l5 l6 s0 0 1 h
def F_X12_joinsSet_12b (N : Nat) (k12 : Nat → Int32 → Int32 → Int32 → Int32 → Int32 → eH → Option (Unit × eH)) (l0 : Nat) (l1 : Int32) (l2 : Int32) (l3 : Int32) (l4 : Int32) (l5 : Int32) (h : eH) : Option (Unit × eH) :=
  (h_gi h 11 l0 0).bind fun v1 => if v1 ≤ l5 then (some ((), h)) else ((h_gr h 11 l0 16).bind fun v2 => e_bind (F_X12_rowAt l1 l3 h) fun v3 h4 => (h_ai h4 0 v2 (v3 + l5)).bind fun v5 => if l4 = 0 then (F_X12_joinsSet_57 N k12 l0 l1 l2 l3 l4 l5 v5 0 h4) else ((h_gr h4 11 l0 36).bind fun v6 => (h_ai h4 0 v6 ((4 * l4) + l5)).bind fun v7 => F_X12_joinsSet_57 N k12 l0 l1 l2 l3 l4 l5 v5 v7 h4))
def L_X12_joinsSet_12 (N : Nat) (l0 : Nat) (l1 : Int32) (l2 : Int32) (l3 : Int32) (l4 : Int32) (l5 : Int32) (h : eH) : Option (Unit × eH) :=
  e_loop (σ := Nat × Int32 × Int32 × Int32 × Int32 × Int32 × eH) (fun k s => F_X12_joinsSet_12b N (fun l0 l1 l2 l3 l4 l5 h => k (l0, l1, l2, l3, l4, l5, h)) s.1 s.2.1 s.2.2.1 s.2.2.2.1 s.2.2.2.2.1 s.2.2.2.2.2.1 s.2.2.2.2.2.2) N (l0, l1, l2, l3, l4, l5, h)
def F_X12_joinsSet (N : Nat) (l0 : Nat) (l1 : Int32) (l2 : Int32) (l3 : Int32) (h : eH) : Option (Unit × eH) :=
  e_let (l2 &&& ((1 <<< (l3 &&& 31)) ^^^ (-1))) fun v1 => L_X12_joinsSet_12 N l0 l1 l2 l3 v1 0 h
def F_X12_areLike_74 (N : Nat) (k5 : Nat → Int32 → Int32 → Int32 → Int32 → eH → Option (Int32 × eH)) (l0 : Nat) (l1 : Int32) (l2 : Int32) (l4 : Int32) (s0 : Int32) (h : eH) : Option (Int32 × eH) :=
  k5 l0 l1 l2 s0 (l4 + 1) h
def F_X12_areLike_73 (N : Nat) (k5 : Nat → Int32 → Int32 → Int32 → Int32 → eH → Option (Int32 × eH)) (l0 : Nat) (l1 : Int32) (l2 : Int32) (l4 : Int32) (h : eH) : Option (Int32 × eH) :=
  F_X12_areLike_74 N k5 l0 l1 l2 l4 0 h
def F_X12_areLike_5b (N : Nat) (k5 : Nat → Int32 → Int32 → Int32 → Int32 → eH → Option (Int32 × eH)) (l0 : Nat) (l1 : Int32) (l2 : Int32) (l3 : Int32) (l4 : Int32) (h : eH) : Option (Int32 × eH) :=
  (h_gi h 11 l0 0).bind fun v1 => if v1 ≤ l4 then ((h_z l3).bind fun z => some (z, h)) else (if l3 = 0 then (F_X12_areLike_73 N k5 l0 l1 l2 l4 h) else ((h_gr h 11 l0 36).bind fun v2 => (h_ai h 0 v2 ((4 * l1) + l4)).bind fun v3 => (h_gr h 11 l0 36).bind fun v4 => (h_ai h 0 v4 ((4 * l2) + l4)).bind fun v5 => if v3 = v5 then ((h_gr h 11 l0 37).bind fun v6 => (h_al64 h v6 ((4 * l1) + l4)).bind fun v7 => (h_gr h 11 l0 37).bind fun v8 => (h_al64 h v8 ((4 * l2) + l4)).bind fun v9 => if (lg_cmp v7 v9) = 0 then (F_X12_areLike_74 N k5 l0 l1 l2 l4 1 h) else (F_X12_areLike_73 N k5 l0 l1 l2 l4 h)) else (F_X12_areLike_73 N k5 l0 l1 l2 l4 h)))
def L_X12_areLike_5 (N : Nat) (l0 : Nat) (l1 : Int32) (l2 : Int32) (l3 : Int32) (l4 : Int32) (h : eH) : Option (Int32 × eH) :=
  e_loop (σ := Nat × Int32 × Int32 × Int32 × Int32 × eH) (fun k s => F_X12_areLike_5b N (fun l0 l1 l2 l3 l4 h => k (l0, l1, l2, l3, l4, h)) s.1 s.2.1 s.2.2.1 s.2.2.2.1 s.2.2.2.2.1 s.2.2.2.2.2) N (l0, l1, l2, l3, l4, h)
def F_X12_areLike (N : Nat) (l0 : Nat) (l1 : Int32) (l2 : Int32) (h : eH) : Option (Int32 × eH) :=
  L_X12_areLike_5 N l0 l1 l2 1 0 h
def F_X12_laysSets_83 (N : Nat) (k2 : Nat → Int32 → Int32 → eH → Option (Unit × eH)) (k52 : Nat → Int32 → Int32 → Int32 → eH → Option (Unit × eH)) (l0 : Nat) (l1 : Int32) (l2 : Int32) (l4 : Int32) (s0 : Nat) (s1 : Int32) (s2 : Int32) (h : eH) : Option (Unit × eH) :=
  (h_si h 0 s0 s1 s2).bind fun h1 => k52 l0 l1 l2 (l4 + (-1)) h1
def F_X12_laysSets_52b (N : Nat) (k2 : Nat → Int32 → Int32 → eH → Option (Unit × eH)) (k52 : Nat → Int32 → Int32 → Int32 → eH → Option (Unit × eH)) (l0 : Nat) (l1 : Int32) (l2 : Int32) (l4 : Int32) (h : eH) : Option (Unit × eH) :=
  if l4 ≤ 0 then (k2 l0 l1 (l2 + 1) h) else ((h_gr h 11 l0 38).bind fun v1 => (h_is h 11 l0).bind fun _ => e_bind (F_X12_areLike N l0 l4 l2 h) fun v2 h3 => if v2 = 0 then ((h_gr h3 11 l0 38).bind fun v4 => (h_ai h3 0 v4 l2).bind fun v5 => F_X12_laysSets_83 N k2 k52 l0 l1 l2 l4 v1 l2 v5 h3) else (F_X12_laysSets_83 N k2 k52 l0 l1 l2 l4 v1 l2 l4 h3))
def L_X12_laysSets_52 (N : Nat) (k2 : Nat → Int32 → Int32 → eH → Option (Unit × eH)) (l0 : Nat) (l1 : Int32) (l2 : Int32) (l4 : Int32) (h : eH) : Option (Unit × eH) :=
  e_loop (σ := Nat × Int32 × Int32 × Int32 × eH) (fun k s => F_X12_laysSets_52b N k2 (fun l0 l1 l2 l4 h => k (l0, l1, l2, l4, h)) s.1 s.2.1 s.2.2.1 s.2.2.2.1 s.2.2.2.2) N (l0, l1, l2, l4, h)
def F_X12_laysSets_19b (N : Nat) (k2 : Nat → Int32 → Int32 → eH → Option (Unit × eH)) (k19 : Nat → Int32 → Int32 → Int32 → eH → Option (Unit × eH)) (l0 : Nat) (l1 : Int32) (l2 : Int32) (l3 : Int32) (h : eH) : Option (Unit × eH) :=
  e_bind (F_X12_has l2 l3 h) fun v1 h2 => if v1 = 0 then (k19 l0 l1 l2 (l3 + (-1)) h2) else ((h_is h2 11 l0).bind fun _ => e_bind (F_X12_joinsSet N l0 l1 l2 l3 h2) fun v3 h4 => (h_gr h4 11 l0 38).bind fun v5 => (h_si h4 0 v5 l2 l2).bind fun h6 => e_let (l2 - 1) fun v7 => L_X12_laysSets_52 N k2 l0 l1 l2 v7 h6)
def L_X12_laysSets_19 (N : Nat) (k2 : Nat → Int32 → Int32 → eH → Option (Unit × eH)) (l0 : Nat) (l1 : Int32) (l2 : Int32) (l3 : Int32) (h : eH) : Option (Unit × eH) :=
  e_loop (σ := Nat × Int32 × Int32 × Int32 × eH) (fun k s => F_X12_laysSets_19b N k2 (fun l0 l1 l2 l3 h => k (l0, l1, l2, l3, h)) s.1 s.2.1 s.2.2.1 s.2.2.2.1 s.2.2.2.2) N (l0, l1, l2, l3, h)
def F_X12_laysSets_2b (N : Nat) (k2 : Nat → Int32 → Int32 → eH → Option (Unit × eH)) (l0 : Nat) (l1 : Int32) (l2 : Int32) (h : eH) : Option (Unit × eH) :=
  (h_gi h 11 l0 0).bind fun v1 => if (1 <<< (v1 &&& 31)) ≤ l2 then (some ((), h)) else ((h_gi h 11 l0 0).bind fun v2 => e_let (v2 - 1) fun v3 => L_X12_laysSets_19 N k2 l0 l1 l2 v3 h)
def L_X12_laysSets_2 (N : Nat) (l0 : Nat) (l1 : Int32) (l2 : Int32) (h : eH) : Option (Unit × eH) :=
  e_loop (σ := Nat × Int32 × Int32 × eH) (fun k s => F_X12_laysSets_2b N (fun l0 l1 l2 h => k (l0, l1, l2, h)) s.1 s.2.1 s.2.2.1 s.2.2.2) N (l0, l1, l2, h)
def F_X12_laysSets (N : Nat) (l0 : Nat) (l1 : Int32) (h : eH) : Option (Unit × eH) :=
  L_X12_laysSets_2 N l0 l1 1 h
def F_X12_setOf (l0 : Int32) (l1 : Int32) (h : eH) : Option (Int32 × eH) :=
  some (((l0 >>> ((4 * l1) &&& 31)) &&& 15), h)
def F_X12_isAll_44 (N : Nat) (k4 : Nat → Int32 → Int32 → Int32 → eH → Option (Int32 × eH)) (l0 : Nat) (l1 : Int32) (l3 : Int32) (s0 : Int32) (h : eH) : Option (Int32 × eH) :=
  k4 l0 l1 s0 (l3 + 1) h
def F_X12_isAll_43 (N : Nat) (k4 : Nat → Int32 → Int32 → Int32 → eH → Option (Int32 × eH)) (l0 : Nat) (l1 : Int32) (l3 : Int32) (h : eH) : Option (Int32 × eH) :=
  F_X12_isAll_44 N k4 l0 l1 l3 0 h
def F_X12_isAll_4b (N : Nat) (k4 : Nat → Int32 → Int32 → Int32 → eH → Option (Int32 × eH)) (l0 : Nat) (l1 : Int32) (l2 : Int32) (l3 : Int32) (h : eH) : Option (Int32 × eH) :=
  (h_gi h 11 l0 0).bind fun v1 => if v1 ≤ l3 then ((h_z l2).bind fun z => some (z, h)) else (if l2 = 0 then (F_X12_isAll_43 N k4 l0 l1 l3 h) else ((h_gr h 11 l0 38).bind fun v2 => e_bind (F_X12_setOf l1 l3 h) fun v3 h4 => (h_ai h4 0 v2 v3).bind fun v5 => (h_gr h4 11 l0 38).bind fun v6 => e_bind (F_X12_setOf l1 0 h4) fun v7 h8 => (h_ai h8 0 v6 v7).bind fun v9 => if v5 = v9 then (F_X12_isAll_44 N k4 l0 l1 l3 1 h8) else (F_X12_isAll_43 N k4 l0 l1 l3 h8)))
def L_X12_isAll_4 (N : Nat) (l0 : Nat) (l1 : Int32) (l2 : Int32) (l3 : Int32) (h : eH) : Option (Int32 × eH) :=
  e_loop (σ := Nat × Int32 × Int32 × Int32 × eH) (fun k s => F_X12_isAll_4b N (fun l0 l1 l2 l3 h => k (l0, l1, l2, l3, h)) s.1 s.2.1 s.2.2.1 s.2.2.2.1 s.2.2.2.2) N (l0, l1, l2, l3, h)
def F_X12_isAll (N : Nat) (l0 : Nat) (l1 : Int32) (h : eH) : Option (Int32 × eH) :=
  L_X12_isAll_4 N l0 l1 1 1 h
def F_X12_sent (l0 : Int32) (l1 : Int32) (l2 : Int32) (h : eH) : Option (Int32 × eH) :=
  e_bind (F_X12_setOf l0 l1 h) fun v1 h2 => some ((l0 ||| (v1 <<< ((4 * l2) &&& 31))), h2)
def F_X12_fewest_144 (N : Nat) (k39 : Nat → Int32 → Int32 → eH → Option (Int32 × eH)) (k72 : Nat → Int32 → Int32 → Int32 → Int32 → eH → Option (Int32 × eH)) (l0 : Nat) (l2 : Int32) (l3 : Int32) (l4 : Int32) (l5 : Int32) (h : eH) : Option (Int32 × eH) :=
  k72 l0 l2 l3 l4 (l5 + 1) h
def F_X12_fewest_72b (N : Nat) (k39 : Nat → Int32 → Int32 → eH → Option (Int32 × eH)) (k72 : Nat → Int32 → Int32 → Int32 → Int32 → eH → Option (Int32 × eH)) (l0 : Nat) (l2 : Int32) (l3 : Int32) (l4 : Int32) (l5 : Int32) (h : eH) : Option (Int32 × eH) :=
  (h_gi h 11 l0 0).bind fun v1 => (h_gi h 11 l0 0).bind fun v2 => if (v1 * v2) ≤ l5 then (k39 l0 l2 (l3 + 1) h) else ((h_gi h 11 l0 0).bind fun v3 => if v3 = 0 then none else (h_gi h 11 l0 0).bind fun v4 => if v4 = 0 then none else e_bind (F_X12_sent l4 (l5 / v3) (l5 - l5 / v4 * v4) h) fun v5 h6 => (h_gr h6 11 l0 39).bind fun v7 => (h_ai h6 0 v7 v5).bind fun v8 => if (0 : Int32) ≤ v8 then (F_X12_fewest_144 N k39 k72 l0 l2 l3 l4 l5 h6) else ((h_gr h6 11 l0 39).bind fun v9 => (h_gr h6 11 l0 39).bind fun v10 => (h_ai h6 0 v10 l4).bind fun v11 => (h_si h6 0 v9 v5 (v11 + 1)).bind fun h12 => (h_gr h12 11 l0 40).bind fun v13 => (h_si h12 0 v13 l2 v5).bind fun h14 => F_X12_fewest_144 N k39 k72 l0 (l2 + 1) l3 l4 l5 h14))
def L_X12_fewest_72 (N : Nat) (k39 : Nat → Int32 → Int32 → eH → Option (Int32 × eH)) (l0 : Nat) (l2 : Int32) (l3 : Int32) (l4 : Int32) (l5 : Int32) (h : eH) : Option (Int32 × eH) :=
  e_loop (σ := Nat × Int32 × Int32 × Int32 × Int32 × eH) (fun k s => F_X12_fewest_72b N k39 (fun l0 l2 l3 l4 l5 h => k (l0, l2, l3, l4, l5, h)) s.1 s.2.1 s.2.2.1 s.2.2.2.1 s.2.2.2.2.1 s.2.2.2.2.2) N (l0, l2, l3, l4, l5, h)
def F_X12_fewest_39b (N : Nat) (k39 : Nat → Int32 → Int32 → eH → Option (Int32 × eH)) (l0 : Nat) (l2 : Int32) (l3 : Int32) (h : eH) : Option (Int32 × eH) :=
  if l2 ≤ l3 then (some ((-9), h)) else ((h_gr h 11 l0 40).bind fun v1 => (h_ai h 0 v1 l3).bind fun v2 => (h_is h 11 l0).bind fun _ => e_bind (F_X12_isAll N l0 v2 h) fun v3 h4 => if v3 = 0 then (L_X12_fewest_72 N k39 l0 l2 l3 v2 0 h4) else ((h_gr h4 11 l0 39).bind fun v5 => (h_ai h4 0 v5 v2).bind fun v6 => some (v6, h4)))
def L_X12_fewest_39 (N : Nat) (l0 : Nat) (l2 : Int32) (l3 : Int32) (h : eH) : Option (Int32 × eH) :=
  e_loop (σ := Nat × Int32 × Int32 × eH) (fun k s => F_X12_fewest_39b N (fun l0 l2 l3 h => k (l0, l2, l3, h)) s.1 s.2.1 s.2.2.1 s.2.2.2) N (l0, l2, l3, h)
def F_X12_fewest_2b (N : Nat) (k2 : Nat → Int32 → Int32 → eH → Option (Int32 × eH)) (l0 : Nat) (l1 : Int32) (l2 : Int32) (h : eH) : Option (Int32 × eH) :=
  if (65536 : Int32) ≤ l2 then ((h_gr h 11 l0 39).bind fun v1 => (h_si h 0 v1 l1 0).bind fun h2 => (h_gr h2 11 l0 40).bind fun v3 => (h_si h2 0 v3 0 l1).bind fun h4 => L_X12_fewest_39 N l0 1 0 h4) else ((h_gr h 11 l0 39).bind fun v5 => (h_si h 0 v5 l2 (-1)).bind fun h6 => k2 l0 l1 (l2 + 1) h6)
def L_X12_fewest_2 (N : Nat) (l0 : Nat) (l1 : Int32) (l2 : Int32) (h : eH) : Option (Int32 × eH) :=
  e_loop (σ := Nat × Int32 × Int32 × eH) (fun k s => F_X12_fewest_2b N (fun l0 l1 l2 h => k (l0, l1, l2, h)) s.1 s.2.1 s.2.2.1 s.2.2.2) N (l0, l1, l2, h)
def F_X12_fewest (N : Nat) (l0 : Nat) (l1 : Int32) (h : eH) : Option (Int32 × eH) :=
  L_X12_fewest_2 N l0 l1 0 h
def F_X12_spread_146 (N : Nat) (k74 : Nat → Int32 → Int32 → Int32 → eH → Option (Int32 × eH)) (l0 : Nat) (l3 : Int32) (l4 : Int32) (l5 : Int32) (h : eH) : Option (Int32 × eH) :=
  k74 l0 l3 l4 (l5 + 1) h
def F_X12_spread_74b (N : Nat) (k74 : Nat → Int32 → Int32 → Int32 → eH → Option (Int32 × eH)) (l0 : Nat) (l3 : Int32) (l4 : Int32) (l5 : Int32) (h : eH) : Option (Int32 × eH) :=
  (h_gi h 11 l0 0).bind fun v1 => (h_gi h 11 l0 0).bind fun v2 => if (v1 * v2) ≤ l5 then (some ((-9), h)) else (if l4 ≤ 0 then (some ((-9), h)) else ((h_gi h 11 l0 0).bind fun v3 => if v3 = 0 then none else e_let (l5 / v3) fun v4 => (h_gi h 11 l0 0).bind fun v5 => if v5 = 0 then none else e_let (l5 - l5 / v5 * v5) fun v6 => if v4 = v6 then (F_X12_spread_146 N k74 l0 l3 l4 l5 h) else (e_bind (F_X12_sent l3 v4 v6 h) fun v7 h8 => (h_is h8 11 l0).bind fun _ => e_bind (F_X12_fewest N l0 v7 h8) fun v9 h10 => if v9 = (l4 - 1) then (some (((10 * v4) + v6), h10)) else (F_X12_spread_146 N k74 l0 l3 l4 l5 h10))))
def L_X12_spread_74 (N : Nat) (l0 : Nat) (l3 : Int32) (l4 : Int32) (l5 : Int32) (h : eH) : Option (Int32 × eH) :=
  e_loop (σ := Nat × Int32 × Int32 × Int32 × eH) (fun k s => F_X12_spread_74b N (fun l0 l3 l4 l5 h => k (l0, l3, l4, l5, h)) s.1 s.2.1 s.2.2.1 s.2.2.2.1 s.2.2.2.2) N (l0, l3, l4, l5, h)
def F_X12_spread_30b (N : Nat) (k30 : Nat → Int32 → Int32 → Int32 → eH → Option (Int32 × eH)) (l0 : Nat) (l2 : Int32) (l3 : Int32) (l4 : Int32) (h : eH) : Option (Int32 × eH) :=
  (h_gi h 11 l0 0).bind fun v1 => if v1 ≤ l4 then ((h_is h 11 l0).bind fun _ => e_bind (F_X12_fewest N l0 l3 h) fun v2 h3 => if l2 = 0 then (some (v2, h3)) else (L_X12_spread_74 N l0 l3 v2 0 h3)) else (e_let (l3 ||| ((1 <<< (l4 &&& 31)) <<< ((4 * l4) &&& 31))) fun v4 => k30 l0 l2 v4 (l4 + 1) h)
def L_X12_spread_30 (N : Nat) (l0 : Nat) (l2 : Int32) (l3 : Int32) (l4 : Int32) (h : eH) : Option (Int32 × eH) :=
  e_loop (σ := Nat × Int32 × Int32 × Int32 × eH) (fun k s => F_X12_spread_30b N (fun l0 l2 l3 l4 h => k (l0, l2, l3, l4, h)) s.1 s.2.1 s.2.2.1 s.2.2.2.1 s.2.2.2.2) N (l0, l2, l3, l4, h)
def F_X12_spread (N : Nat) (l0 : Nat) (l1 : Int32) (l2 : Int32) (h : eH) : Option (Int32 × eH) :=
  (h_is h 11 l0).bind fun _ => e_bind (F_X12_isKey l0 l1 h) fun v1 h2 => if v1 = 0 then (some ((-1), h2)) else (e_bind (F_X12_in (l2.toInt64) 0 1 h2) fun v3 h4 => if v3 = 0 then (some ((-1), h4)) else ((h_is h4 11 l0).bind fun _ => e_bind (F_X12_laysSets N l0 l1 h4) fun v5 h6 => L_X12_spread_30 N l0 l2 0 0 h6))
def F_X12_rule (l0 : Nat) (l1 : Int32) (l2 : Int32) (h : eH) : Option (Int32 × eH) :=
  if l1 < 0 then (some ((-1), h)) else (e_bind (F_X12_in (l2.toInt64) 0 1 h) fun v1 h2 => if v1 = 0 then (some ((-1), h2)) else ((h_gi h2 11 l0 21).bind fun v3 => if l1 < v3 then (if l2 = 0 then ((h_gr h2 11 l0 22).bind fun v6 => (h_ai h2 0 v6 l1).bind fun v7 => some (v7, h2)) else ((h_gr h2 11 l0 23).bind fun v4 => (h_ai h2 0 v4 l1).bind fun v5 => some (v5, h2))) else (some ((-9), h2))))
def F_X12_counted_112 (N : Nat) (k5 : Nat → Int32 → Int32 → Int32 → Int32 → eH → Option (Int32 × eH)) (k17 : Nat → Int32 → Int32 → Int32 → Int32 → Int32 → eH → Option (Int32 × eH)) (l0 : Nat) (l1 : Int32) (l2 : Int32) (l3 : Int32) (l4 : Int32) (l5 : Int32) (s0 : Int32) (h : eH) : Option (Int32 × eH) :=
  e_bind (F_X12_bit s0 h) fun v1 h2 => e_let (l3 + v1) fun v3 => k17 l0 l1 l2 v3 l4 (l5 + 1) h2
def F_X12_counted_107 (N : Nat) (k5 : Nat → Int32 → Int32 → Int32 → Int32 → eH → Option (Int32 × eH)) (k17 : Nat → Int32 → Int32 → Int32 → Int32 → Int32 → eH → Option (Int32 × eH)) (l0 : Nat) (l1 : Int32) (l2 : Int32) (l3 : Int32) (l4 : Int32) (l5 : Int32) (h : eH) : Option (Int32 × eH) :=
  F_X12_counted_112 N k5 k17 l0 l1 l2 l3 l4 l5 1 h
def F_X12_counted_111 (N : Nat) (k5 : Nat → Int32 → Int32 → Int32 → Int32 → eH → Option (Int32 × eH)) (k17 : Nat → Int32 → Int32 → Int32 → Int32 → Int32 → eH → Option (Int32 × eH)) (l0 : Nat) (l1 : Int32) (l2 : Int32) (l3 : Int32) (l4 : Int32) (l5 : Int32) (h : eH) : Option (Int32 × eH) :=
  F_X12_counted_112 N k5 k17 l0 l1 l2 l3 l4 l5 0 h
def F_X12_counted_93 (N : Nat) (k5 : Nat → Int32 → Int32 → Int32 → Int32 → eH → Option (Int32 × eH)) (k17 : Nat → Int32 → Int32 → Int32 → Int32 → Int32 → eH → Option (Int32 × eH)) (l0 : Nat) (l1 : Int32) (l2 : Int32) (l3 : Int32) (l4 : Int32) (l5 : Int32) (l6 : Int32) (h : eH) : Option (Int32 × eH) :=
  if l2 = 5 then ((h_is h 11 l0).bind fun _ => e_bind (F_X12_isLost l0 l6 h) fun v1 h2 => if v1 = 0 then (F_X12_counted_111 N k5 k17 l0 l1 l2 l3 l4 l5 h2) else (F_X12_counted_107 N k5 k17 l0 l1 l2 l3 l4 l5 h2)) else (F_X12_counted_111 N k5 k17 l0 l1 l2 l3 l4 l5 h)
def F_X12_counted_78 (N : Nat) (k5 : Nat → Int32 → Int32 → Int32 → Int32 → eH → Option (Int32 × eH)) (k17 : Nat → Int32 → Int32 → Int32 → Int32 → Int32 → eH → Option (Int32 × eH)) (l0 : Nat) (l1 : Int32) (l2 : Int32) (l3 : Int32) (l4 : Int32) (l5 : Int32) (l6 : Int32) (h : eH) : Option (Int32 × eH) :=
  if l2 = 4 then ((h_gr h 11 l0 11).bind fun v1 => (h_ai h 2 v1 l6).bind fun v2 => if v2 = 0 then (F_X12_counted_93 N k5 k17 l0 l1 l2 l3 l4 l5 l6 h) else (F_X12_counted_107 N k5 k17 l0 l1 l2 l3 l4 l5 h)) else (F_X12_counted_93 N k5 k17 l0 l1 l2 l3 l4 l5 l6 h)
def F_X12_counted_63 (N : Nat) (k5 : Nat → Int32 → Int32 → Int32 → Int32 → eH → Option (Int32 × eH)) (k17 : Nat → Int32 → Int32 → Int32 → Int32 → Int32 → eH → Option (Int32 × eH)) (l0 : Nat) (l1 : Int32) (l2 : Int32) (l3 : Int32) (l4 : Int32) (l5 : Int32) (l6 : Int32) (h : eH) : Option (Int32 × eH) :=
  if l2 = 3 then ((h_gr h 11 l0 13).bind fun v1 => (h_ai h 2 v1 l6).bind fun v2 => if v2 = 0 then (F_X12_counted_78 N k5 k17 l0 l1 l2 l3 l4 l5 l6 h) else (F_X12_counted_107 N k5 k17 l0 l1 l2 l3 l4 l5 h)) else (F_X12_counted_78 N k5 k17 l0 l1 l2 l3 l4 l5 l6 h)
def F_X12_counted_17b (N : Nat) (k5 : Nat → Int32 → Int32 → Int32 → Int32 → eH → Option (Int32 × eH)) (k17 : Nat → Int32 → Int32 → Int32 → Int32 → Int32 → eH → Option (Int32 × eH)) (l0 : Nat) (l1 : Int32) (l2 : Int32) (l3 : Int32) (l4 : Int32) (l5 : Int32) (h : eH) : Option (Int32 × eH) :=
  (h_gr h 11 l0 15).bind fun v1 => (h_ai h 0 v1 ((4 * l1) + l4)).bind fun v2 => if v2 < l5 then (k5 l0 l1 l2 l3 (l4 + 1) h) else (e_bind (F_X12_at l1 l4 l5 h) fun v3 h4 => if l2 = 1 then (F_X12_counted_107 N k5 k17 l0 l1 l2 l3 l4 l5 h4) else (if l2 = 2 then ((h_gr h4 11 l0 12).bind fun v5 => (h_ai h4 2 v5 v3).bind fun v6 => if v6 = 0 then (F_X12_counted_63 N k5 k17 l0 l1 l2 l3 l4 l5 v3 h4) else (F_X12_counted_107 N k5 k17 l0 l1 l2 l3 l4 l5 h4)) else (F_X12_counted_63 N k5 k17 l0 l1 l2 l3 l4 l5 v3 h4)))
def L_X12_counted_17 (N : Nat) (k5 : Nat → Int32 → Int32 → Int32 → Int32 → eH → Option (Int32 × eH)) (l0 : Nat) (l1 : Int32) (l2 : Int32) (l3 : Int32) (l4 : Int32) (l5 : Int32) (h : eH) : Option (Int32 × eH) :=
  e_loop (σ := Nat × Int32 × Int32 × Int32 × Int32 × Int32 × eH) (fun k s => F_X12_counted_17b N k5 (fun l0 l1 l2 l3 l4 l5 h => k (l0, l1, l2, l3, l4, l5, h)) s.1 s.2.1 s.2.2.1 s.2.2.2.1 s.2.2.2.2.1 s.2.2.2.2.2.1 s.2.2.2.2.2.2) N (l0, l1, l2, l3, l4, l5, h)
def F_X12_counted_5b (N : Nat) (k5 : Nat → Int32 → Int32 → Int32 → Int32 → eH → Option (Int32 × eH)) (l0 : Nat) (l1 : Int32) (l2 : Int32) (l3 : Int32) (l4 : Int32) (h : eH) : Option (Int32 × eH) :=
  (h_gi h 11 l0 0).bind fun v1 => if v1 ≤ l4 then (some (l3, h)) else (L_X12_counted_17 N k5 l0 l1 l2 l3 l4 1 h)
def L_X12_counted_5 (N : Nat) (l0 : Nat) (l1 : Int32) (l2 : Int32) (l3 : Int32) (l4 : Int32) (h : eH) : Option (Int32 × eH) :=
  e_loop (σ := Nat × Int32 × Int32 × Int32 × Int32 × eH) (fun k s => F_X12_counted_5b N (fun l0 l1 l2 l3 l4 h => k (l0, l1, l2, l3, l4, h)) s.1 s.2.1 s.2.2.1 s.2.2.2.1 s.2.2.2.2.1 s.2.2.2.2.2) N (l0, l1, l2, l3, l4, h)
def F_X12_counted (N : Nat) (l0 : Nat) (l1 : Int32) (l2 : Int32) (h : eH) : Option (Int32 × eH) :=
  L_X12_counted_5 N l0 l1 l2 0 0 h
def F_X12_tally (N : Nat) (l0 : Nat) (l1 : Int32) (l2 : Int32) (h : eH) : Option (Int32 × eH) :=
  (h_is h 11 l0).bind fun _ => e_bind (F_X12_isKey l0 l1 h) fun v1 h2 => if v1 = 0 then (some ((-1), h2)) else (e_bind (F_X12_in (l2.toInt64) 0 6 h2) fun v3 h4 => if v3 = 0 then (some ((-1), h4)) else (if l2 = 0 then ((h_gr h4 11 l0 4).bind fun v9 => (h_ai h4 0 v9 l1).bind fun v10 => some (v10, h4)) else (if l2 = 6 then ((h_gr h4 11 l0 17).bind fun v7 => (h_ai h4 0 v7 l1).bind fun v8 => some (v8, h4)) else ((h_is h4 11 l0).bind fun _ => e_bind (F_X12_counted N l0 l1 l2 h4) fun v5 h6 => some (v5, h6)))))
def F_X12_count (l0 : Nat) (l1 : Int32) (h : eH) : Option (Int32 × eH) :=
  if l1 = 0 then ((h_gi h 11 l0 0).bind fun v1 => some (v1, h)) else (if l1 = 1 then ((h_gi h 11 l0 3).bind fun v2 => some (v2, h)) else (if l1 = 2 then ((h_gi h 11 l0 1).bind fun v3 => some (v3, h)) else (if l1 = 3 then ((h_gi h 11 l0 2).bind fun v4 => some (v4, h)) else (if l1 = 4 then ((h_gi h 11 l0 5).bind fun v5 => some (v5, h)) else (if l1 = 5 then ((h_gi h 11 l0 24).bind fun v6 => some (v6, h)) else (some ((-1), h)))))))
