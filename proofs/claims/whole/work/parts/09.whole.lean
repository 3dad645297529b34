/-! THE LAW FROM ITS ENTRY: what the Statement gives of the start is what the walks stand on; what is left is law_true, over functions alone -/
theorem e_nin_of {w : Cond} (h : e_isNest w = true) {A : Array Value} {U : State} (hb : w.before A U = true) : va_Nw w U := by
  cases w with
  | arrayOver ty => cases ty with
    | object C => exact va_AO.of hb
    | _ => simp [e_isNest] at h
  | fieldLinkNest => exact va_Nw.of rfl hb
  | methodLinkNest => exact va_Nw.of rfl hb
  | _ => simp [e_isNest] at h
theorem e_hin {C : String} {T : u_T} {N : Nat} (h : ∀ z, z < N → e_in (u_lay C T z)) : ∀ w ∈ u_ws C T N, w ∈ lw_tbl := fun w hw => by
  obtain ⟨k, hk, rfl⟩ := List.mem_map.mp hw
  exact (h k (List.mem_range.mp hk)).1
theorem e_known {s : State} {b : Nat} (hts : ∀ w ∈ lw_tbl, w.before #[Value.ref b] s = true) : ∀ k : Nat, ∃ r : ClassId × (Nat → Nat), ∀ q, vwCl[k]? = some q → u_Kn s q.1 q.2.1 q.2.2 r.1 r.2

  | 0 => by
    obtain ⟨c, iS, h⟩ := u_known (C := RX0) (T := TX0) (N := 3) (n := 3) hts (e_hin lay_X0) (hts _ tw_293.1)
    exact ⟨(c, iS), fun q hq => by cases hq; exact h⟩
  | 1 => by
    obtain ⟨c, iS, h⟩ := u_known (C := RX1) (T := TX1) (N := 1) (n := 1) hts (e_hin lay_X1) (hts _ tw_200.1)
    exact ⟨(c, iS), fun q hq => by cases hq; exact h⟩
  | 2 => by
    obtain ⟨c, iS, h⟩ := u_known (C := RX2) (T := TX2) (N := 3) (n := 3) hts (e_hin lay_X2) (hts _ tw_173.1)
    exact ⟨(c, iS), fun q hq => by cases hq; exact h⟩
  | 3 => by
    obtain ⟨c, iS, h⟩ := u_known (C := RX3) (T := TX3) (N := 11) (n := 11) hts (e_hin lay_X3) (hts _ tw_194.1)
    exact ⟨(c, iS), fun q hq => by cases hq; exact h⟩
  | 4 => by
    obtain ⟨c, iS, h⟩ := u_known (C := RX4) (T := TX4) (N := 2) (n := 2) hts (e_hin lay_X4) (hts _ tw_188.1)
    exact ⟨(c, iS), fun q hq => by cases hq; exact h⟩
  | 5 => by
    obtain ⟨c, iS, h⟩ := u_known (C := RX5) (T := TX5) (N := 3) (n := 3) hts (e_hin lay_X5) (hts _ tw_136.1)
    exact ⟨(c, iS), fun q hq => by cases hq; exact h⟩
  | 6 => by
    obtain ⟨c, iS, h⟩ := u_known (C := RX6) (T := TX6) (N := 4) (n := 4) hts (e_hin lay_X6) (hts _ tw_152.1)
    exact ⟨(c, iS), fun q hq => by cases hq; exact h⟩
  | 7 => by
    obtain ⟨c, iS, h⟩ := u_known (C := RX7) (T := TX7) (N := 6) (n := 6) hts (e_hin lay_X7) (hts _ tw_102.1)
    exact ⟨(c, iS), fun q hq => by cases hq; exact h⟩
  | 8 => by
    obtain ⟨c, iS, h⟩ := u_known (C := RX8) (T := TX8) (N := 4) (n := 4) hts (e_hin lay_X8) (hts _ tw_260.1)
    exact ⟨(c, iS), fun q hq => by cases hq; exact h⟩
  | 9 => by
    obtain ⟨c, iS, h⟩ := u_known (C := RX10) (T := TX10) (N := 5) (n := 5) hts (e_hin lay_X10) (hts _ tw_76.1)
    exact ⟨(c, iS), fun q hq => by cases hq; exact h⟩
  | 10 => by
    obtain ⟨c, iS, h⟩ := u_known (C := RX11) (T := TX11) (N := 12) (n := 12) hts (e_hin lay_X11) (hts _ tw_68.1)
    exact ⟨(c, iS), fun q hq => by cases hq; exact h⟩
  | 11 => by
    obtain ⟨c, iS, h⟩ := u_known (C := RX12) (T := TX12) (N := 41) (n := 41) hts (e_hin lay_X12) (hts _ tw_913.1)
    exact ⟨(c, iS), fun q hq => by cases hq; exact h⟩
  | k + 12 => ⟨(0, fun _ => 0), fun q hq => by simp [vwCl] at hq⟩
def e_tyT : List FieldType := [.int, .long, .boolean, .object RX4, .object RX8, .object RX0]
theorem e_arrP {s : State} {A : Array Value} {ty : FieldType} (h : (Cond.arrayClass ty).before A s = true) (hp : ∀ C, ty ≠ .object C) : ∃ cA, ArrOfT s cA ty ∧ va_RA s cA ty := by
  obtain ⟨c, k, comp, h1, h2, h3⟩ := Cond.arrayClass_spec h
  refine ⟨c, fun n z => ⟨fun k h => (by cases h), k, h2, comp, h3⟩, ?_⟩
  cases ty with
  | object C => exact absurd rfl (hp C)
  | _ => exact h1
theorem e_arrO {s : State} {A : Array Value} {C : String} (h : (Cond.arrayOver (.object C)).before A s = true) : ∃ cA, ArrOfT s cA (.object C) ∧ va_RA s cA (.object C) := by
  obtain ⟨comp, c, k, h1, h2, h3, h4, h5⟩ := Cond.arrayOver_spec h
  exact ⟨c, fun n z => ⟨fun k h => (by cases h), k, h3, comp, h4⟩, k, comp, h3, h4, h1, h5⟩
theorem e_arrs {s : State} {b : Nat} (hts : ∀ w ∈ lw_tbl, w.before #[Value.ref b] s = true) : ∀ t : Nat, ∃ cA : ClassId, ∀ ty, e_tyT[t]? = some ty → ArrOfT s cA ty ∧ va_RA s cA ty
  | 0 => by obtain ⟨c, h⟩ := e_arrP (hts _ tw_100.1) (fun C h => by cases h); exact ⟨c, fun ty hty => by cases hty; exact h⟩
  | 1 => by obtain ⟨c, h⟩ := e_arrP (hts _ tw_209.1) (fun C h => by cases h); exact ⟨c, fun ty hty => by cases hty; exact h⟩
  | 2 => by obtain ⟨c, h⟩ := e_arrP (hts _ tw_1051.1) (fun C h => by cases h); exact ⟨c, fun ty hty => by cases hty; exact h⟩
  | 3 => by obtain ⟨c, h⟩ := e_arrO (hts _ tw_132.1); exact ⟨c, fun ty hty => by cases hty; exact h⟩
  | 4 => by obtain ⟨c, h⟩ := e_arrO (hts _ tw_259.1); exact ⟨c, fun ty hty => by cases hty; exact h⟩
  | 5 => by obtain ⟨c, h⟩ := e_arrO (hts _ tw_134.1); exact ⟨c, fun ty hty => by cases hty; exact h⟩
  | t + 6 => ⟨0, fun ty hty => by simp [e_tyT] at hty⟩
def e_tm (i : Nat) : Term := .string "SideVersions$Plan" (e_sidx.getD i 0)
theorem e_strs {s : State} {b : Nat} (hgv : (Jvm.Cond.and given_1 narrow_1).before #[Value.ref b] s = true) : ∃ adK adV : Nat → Nat, vk_S 5 e_slen e_sbyt adK adV (fun q => s.heap.size ≤ q) s s.heap ∧ ∀ i : Nat, i < 5 → (e_tm i).eval #[Value.ref b] s none [] s = some (.ref (adK i)) := by
  have hs := flat_of_before _ hgv
  refine vk_Sof (tm := e_tm) (fun i hi => ?_) (fun i hi => ?_) (fun i hi => ?_) (fun i hi => ?_) (fun i hi => ?_) (fun i hi j hj => ?_) (fun i j hi hj hij => ?_) (fun a h1 h2 => absurd h1 (Nat.not_lt.mpr h2))
  · exact Nat.lt_of_le_of_lt (show e_slen.getD i 0 ≤ 5 by revert i; decide) (by decide)
  · have h : ∀ i, i < 5 → Cond.exactly (e_tm i) "java/lang/String" ∈ flatC (Jvm.Cond.and given_1 narrow_1) := by decide +kernel
    exact hs _ (h i hi)
  · have h : ∀ i, i < 5 → (Cond.eq (.field (e_tm i) "java/lang/String" "coder" "B") (.int 0)) ∈ flatC (Jvm.Cond.and given_1 narrow_1) := by decide +kernel
    exact hs _ (h i hi)
  · have h : ∀ i, i < 5 → (Cond.arrayOf (.field (e_tm i) "java/lang/String" "value" "[B") .byte) ∈ flatC (Jvm.Cond.and given_1 narrow_1) := by decide +kernel
    exact hs _ (h i hi)
  · have h : ∀ i, i < 5 → (Cond.eq (.length (.field (e_tm i) "java/lang/String" "value" "[B")) (.int (Int32.ofNat (e_slen.getD i 0)))) ∈ flatC (Jvm.Cond.and given_1 narrow_1) := by decide +kernel
    exact hs _ (h i hi)
  · have h : ∀ i, i < 5 → ∀ j, j < e_slen.getD i 0 → (Cond.eq (.elem (.field (e_tm i) "java/lang/String" "value" "[B") (.int (Int32.ofNat j))) (.int ((e_sbyt.getD i []).getD j 0))) ∈ flatC (Jvm.Cond.and given_1 narrow_1) := by decide +kernel
    exact hs _ (h i hi j hj)
  · have h : ∀ i, i < 5 → ∀ j, j < 5 → i < j → Cond.not (Cond.eq (e_tm i) (e_tm j)) ∈ flatC (Jvm.Cond.and given_1 narrow_1) := by decide +kernel
    rcases Nat.lt_or_gt_of_ne hij with h1 | h1
    · exact Or.inl (hs _ (h i hi j hj h1))
    · exact Or.inr (hs _ (h j hj i hi h1))
theorem e_srs : ∀ i, i < 5 → Cond.stringRef "SideVersions$Plan" (e_sidx.getD i 0) (e_stx.getD i "") ∈ lw_tbl := by decide +kernel
theorem sw_421 : Cond.laysStatic "java/lang/String" "COMPACT_STRINGS" "Z" ∈ lw_tbl := List.mem_of_getElem? (i := 421) (by decide +kernel)
theorem sw_437 : Cond.laysStatic "jdk/internal/util/Preconditions" "SIOOBE_FORMATTER" "Ljava/util/function/BiFunction;" ∈ lw_tbl := List.mem_of_getElem? (i := 437) (by decide +kernel)
set_option maxRecDepth 100000 in
set_option maxHeartbeats 4000000 in
/-- from the entry, for every script of at most 3584 ints, the law comes to its end with true -/
theorem whole_start {p : Program} {e : Env} {s : State} {m : MethodId} {below : List Frame} {meth : Method} {c : Code} (l : Launch) (hflags : l.flags = flags0) {b L : Nat} {xs : Nat → Int32} (hL : L ≤ 3584) (C0 : lw_At p s m meth c b L xs) : W p l e room_1 s m #[Value.ref b] below meth c s.heap [] 0 0 (lw_Z below #[Value.ref b] s) (entryFrame m ([Value.ref b] : List Value).toArray 4) := by
  obtain ⟨hx, hb, hr, hml, hown, hts, hX, hbl, hlocks, hgv⟩ := C0
  have hs := flat_of_before _ hgv
  obtain ⟨D, hD⟩ := Classical.axiomOfChoice (e_known hts)
  obtain ⟨cA, hcA⟩ := Classical.axiomOfChoice (e_arrs hts)
  obtain ⟨adK, adV, hS5, hev⟩ := e_strs hgv
  have hA : ∀ a : Nat, a < s.heap.size → ¬ s.heap.size ≤ a := fun a h1 h2 => absurd h1 (Nat.not_lt.mpr h2)
  have hcs : (Cond.eq (.static "java/lang/String" "COMPACT_STRINGS" "Z") (.int 1)).before #[Value.ref b] s = true := hs _ (by decide +kernel)
  have hsf : (Cond.isRef (.static "jdk/internal/util/Preconditions" "SIOOBE_FORMATTER" "Ljava/util/function/BiFunction;")).before #[Value.ref b] s = true := hs _ (by decide +kernel)
  have hZ1 := va_Zof (A := fun q => s.heap.size ≤ q) (hts _ sw_421) (hts _ sw_61.1) (va_eqt hcs) hA
  obtain ⟨vf, hvf, hvr⟩ := Cond.isRef_spec hsf
  have hZ2 := va_Zof (A := fun q => s.heap.size ≤ q) (hts _ sw_437) (hts _ sw_63.1) hvf hA
  have hvt : ∃ t : Option Nat, vf = va_rf t := by
    cases vf with
    | null => exact ⟨none, rfl⟩
    | ref a => exact ⟨some a, rfl⟩
    | _ => simp [Value.isRef] at hvr
  obtain ⟨t, rfl⟩ := hvt
  have hC : e_Cx ((fun k => (D k).1, fun k => (D k).2), (cA, (adK, adV))) s.heap.size s := by
    refine ⟨⟨fun k q hq => hD k q hq, fun k q hk => ?_⟩, fun w hw a => word_at (U := s) (State.WarmedH.refl s) (good_of_word hw.2) (hts w hw.1), fun w hw => e_nin_of hw.2 (hts w hw.1), ⟨hS5, hZ1, t, hZ2⟩, fun i hi => vk_R.of (hts _ (e_srs i hi)) (hev i hi), Nat.le_refl _⟩
    match k, hk with
    | 0, hk => cases hk; exact hcA 0 _ rfl
    | 1, hk => cases hk; exact hcA 1 _ rfl
    | 2, hk => cases hk; exact hcA 2 _ rfl
    | 3, hk => cases hk; exact hcA 3 _ rfl
    | 4, hk => cases hk; exact hcA 4 _ rfl
    | 5, hk => cases hk; exact hcA 5 _ rfl
    | k + 6, hk => simp [e_tys] at hk
  obtain ⟨hf, hlaw⟩ := law_true ((fun k => (D k).1, fun k => (D k).2), (cA, (adK, adV))) (fun i j hi hj hij => hS5.2 i j hi hj hij) s.heap.size L hL xs
  have hl := lv_entry ([.ref b]) (n := 4) (Nat.le_of_ble_eq_true rfl)
  rw [lg_entry_eq]
  generalize (lg_sl ([.ref b]) ++ List.replicate (4 - (lg_sl ([.ref b])).length) Slot.unset).toArray = ls at hl ⊢
  have hl : lv_has ls 4 [(0, .ref b)] := hl
  let q : eT := (p, l, e, room_1, s, m, #[Value.ref b], below, meth, c, ((fun k => (D k).1, fun k => (D k).2), (cA, (adK, adV))), s.heap.size, s.heap.size, 4, 0, 0, fun _ _ => lw_Z below #[Value.ref b] s)
  have hq : e_B q RL cL_law 4 2048 84000 ret meth.name := ⟨hx, hb, hml, rfl, hown, hC, hlocks, rfl, rfl, hr, rfl, Nat.zero_le _, Nat.zero_le _⟩
  have hXq : e_X q b L xs := ⟨hX, hbl, Nat.not_le.mpr hbl⟩
  have hFq : e_F q := ⟨rfl, rfl, rfl, b, rfl⟩
  have hz := P_L_law_0 (q := q) (lb := b) (h0 := hf) (n0 := s.heap.size) (nm := meth.name) (L := L) (xs := xs) (fun c s hc hs => e_B.mv hq (by exact hc) (by exact hs)) hXq hFq 100000 (fun _ => none)
  exact hz hlaw s.heap [] ls ⟨rfl, fun a o h => by cases h⟩ va_S.rf hl
