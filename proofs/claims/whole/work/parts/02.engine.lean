/-! THE ENGINE. A heap of the system as a function (eH), one judgement (e_K) for 'from here the method comes to its end with X', and one row an instruction. -/
abbrev eO : Type := (Nat × vp_A) ⊕ (Nat × (Nat → Value))
abbrev eH : Type := Nat → Option eO
abbrev oI (t n : Nat) (f : Nat → Int32) : eO := .inl (t, (n, .inl f))
abbrev oL (t n : Nat) (f : Nat → Int64) : eO := .inl (t, (n, .inr (.inl f)))
abbrev oR (t n : Nat) (f : Nat → Option Nat) : eO := .inl (t, (n, .inr (.inr (.inr (.inr f)))))
abbrev oB (c : Nat) (V : Nat → Value) : eO := .inr (c, V)
def h_set (h : eH) (a : Nat) (o : eO) : eH := fun q => if q = a then some o else h q
def e_let {α β : Type} (x : α) (f : α → β) : β := f x
def e_bind {α β : Type} (x : Option (α × eH)) (f : α → eH → Option β) : Option β := x.bind fun z => f z.1 z.2
/-- a loop, at most n rounds of it -/
def e_loop {σ α : Type} (body : (σ → Option α) → σ → Option α) : Nat → σ → Option α
  | 0, _ => none
  | n + 1, s => body (e_loop body n) s
def e_max (x y : Int32) : Int32 := if x < y then y else x
def e_min (x y : Int32) : Int32 := if y < x then y else x
def e_maxL (x y : Int64) : Int64 := if y < x then x else y
def e_minL (x y : Int64) : Int64 := if y < x then y else x
/-- what a landed array or field gives; none where the machine would throw -/
def h_ai (h : eH) (t a : Nat) (i : Int32) : Option Int32 := match h a with
  | some (.inl (t', (n, .inl f))) => if t' = t ∧ ¬ i < 0 ∧ i.toNatClampNeg < n then some (f i.toNatClampNeg) else none
  | _ => none
def h_al64 (h : eH) (a : Nat) (i : Int32) : Option Int64 := match h a with
  | some (.inl (t', (n, .inr (.inl f)))) => if t' = 1 ∧ ¬ i < 0 ∧ i.toNatClampNeg < n then some (f i.toNatClampNeg) else none
  | _ => none
def h_ar (h : eH) (t a : Nat) (i : Int32) : Option Nat := match h a with
  | some (.inl (t', (n, .inr (.inr (.inr (.inr f)))))) => if t' = t ∧ ¬ i < 0 ∧ i.toNatClampNeg < n then f i.toNatClampNeg else none
  | _ => none
def h_len (h : eH) (a : Nat) : Option Int32 := match h a with
  | some (.inl (t', (n, _))) => if t' < 6 then some (Int32.ofNat n) else none
  | _ => none
def h_si (h : eH) (t a : Nat) (i x : Int32) : Option eH := match h a with
  | some (.inl (t', (n, .inl f))) => if t' = t ∧ ¬ i < 0 ∧ i.toNatClampNeg < n then some (h_set h a (oI t n (upd f i.toNatClampNeg x))) else none
  | _ => none
def h_sl (h : eH) (a : Nat) (i : Int32) (x : Int64) : Option eH := match h a with
  | some (.inl (t', (n, .inr (.inl f)))) => if t' = 1 ∧ ¬ i < 0 ∧ i.toNatClampNeg < n then some (h_set h a (oL 1 n (vp_updL f i.toNatClampNeg x))) else none
  | _ => none
def h_sr (h : eH) (t c a : Nat) (i : Int32) (x : Nat) : Option eH := match h a with
  | some (.inl (t', (n, .inr (.inr (.inr (.inr f)))))) => match h x with
    | some (.inr (c', _)) => if t' = t ∧ c' = c ∧ ¬ i < 0 ∧ i.toNatClampNeg < n then some (h_set h a (oR t n (va_up f i.toNatClampNeg (some x)))) else none
    | _ => none
  | _ => none
def h_g (h : eH) (c a k : Nat) : Option Value := match h a with
  | some (.inr (c', V)) => if c' = c then some (V k) else none
  | _ => none
def h_gi (h : eH) (c a k : Nat) : Option Int32 := (h_g h c a k).bind fun v => match v with
  | .int x => some x
  | _ => none
def h_gl (h : eH) (c a k : Nat) : Option Int64 := (h_g h c a k).bind fun v => match v with
  | .long x => some x
  | _ => none
def h_gr (h : eH) (c a k : Nat) : Option Nat := (h_g h c a k).bind fun v => match v with
  | .ref x => some x
  | _ => none
def h_p (h : eH) (c a k : Nat) (v : Value) : Option eH := match h a with
  | some (.inr (c', V)) => if c' = c then some (h_set h a (oB c (updV V k v))) else none
  | _ => none
/-- an object of a class is there -/
def h_is (h : eH) (c a : Nat) : Option Unit := match h a with
  | some (.inr (c', _)) => if c' = c then some () else none
  | _ => none
/-- a boolean -/
def h_z (x : Int32) : Option Int32 := if x = 0 ∨ x = 1 then some x else none
/-- the words, and what the machine is known to be -/
abbrev eG : Type := va_G × ((Nat → ClassId) × ((Nat → Nat) × (Nat → Nat)))
def e_tys (G : eG) : List (ClassId × FieldType) := [(G.2.1 0, .int), (G.2.1 1, .long), (G.2.1 2, .boolean), (G.2.1 3, .object RX4), (G.2.1 4, .object RX8), (G.2.1 5, .object RX0)]
def e_at (G : eG) (a : Nat) (o : eO) (H : Heap) : Prop := match o with
  | .inl x => H[a]? = some (vp_cell (G.2.1 x.1) x.2)
  | .inr x => ∃ r : vw_C, vwCl[x.1]? = some r ∧ t_OB a (G.1.1 x.1) r.2.2 (G.1.2 x.1) H x.2
def e_Hs (G : eG) (B0 n : Nat) (h : eH) (H : Heap) : Prop := H.size = n ∧ ∀ a o, h a = some o → B0 ≤ a ∧ e_at G a o H
def e_in (w : Cond) : Prop := w ∈ lw_tbl ∧ goodWord w = true
def e_isNest : Cond → Bool
  | .fieldLinkNest _ _ _ _ _ _ => true
  | .methodLinkNest _ _ _ _ => true
  | .arrayOver (.object _) => true
  | _ => false
def e_nin (w : Cond) : Prop := w ∈ lw_tbl ∧ e_isNest w = true
def e_slen : List Nat := [5, 4, 5, 5, 5]
def e_sbyt : List (List Int32) := [[119, 104, 111, 108, 101], [98, 105, 116, 115], [115, 105, 116, 101, 115], [98, 111, 117, 110, 100], [108, 105, 109, 105, 116]]
def e_sidx : List Nat := [58, 68, 70, 75, 76]
def e_stx : List String := ["whole", "bits", "sites", "bound", "limit"]
/-- the texts of the String constants, and the statics that the JDK reads -/
def e_Zs (G : eG) (B0 : Nat) (U : State) (H : Heap) : Prop :=
  vk_S 5 e_slen e_sbyt G.2.2.1 G.2.2.2 (fun q => B0 ≤ q) U H ∧ va_Z "java/lang/String" "COMPACT_STRINGS" "Z" (.int 1) (fun q => B0 ≤ q) U H ∧
  (∃ t : Option Nat, va_Z "jdk/internal/util/Preconditions" "SIOOBE_FORMATTER" "Ljava/util/function/BiFunction;" (va_rf t) (fun q => B0 ≤ q) U H)
def e_Sr (G : eG) (U : State) : Prop := ∀ i : Nat, i < 5 → vk_R "SideVersions$Plan" (e_sidx.getD i 0) (e_stx.getD i "") (G.2.2.1 i) U
def e_Cx (G : eG) (B0 : Nat) (U : State) : Prop :=
  va_K G.1 vwCl (e_tys G) U ∧ (∀ w, e_in w → ∀ a, w.before a U = true) ∧ (∀ w, e_nin w → va_Nw w U) ∧ e_Zs G B0 U U.heap ∧ e_Sr G U ∧ B0 ≤ U.heap.size
theorem e_nin_warm {s U : State} (hW : s.WarmedH U.vm) {w : Cond} (h : e_isNest w = true) (hZ : va_Nw w s) : va_Nw w U := by
  cases w with
  | arrayOver ty => cases ty with
    | object C => exact va_AO.moved hW.alike hZ
    | _ => simp [e_isNest] at h
  | fieldLinkNest => exact va_Nw.warmF hW hZ
  | methodLinkNest => exact va_Nw.warmM hW hZ
  | _ => simp [e_isNest] at h
theorem e_Zs.go {G : eG} {B0 : Nat} {u U : State} {H H1 : Heap} (hvm : u.vm.Alike U.vm) (hq : ∀ a : Nat, a < H.size → ¬ B0 ≤ a → H1[a]? = H[a]?) (h : e_Zs G B0 u H) : e_Zs G B0 U H1 := by
  obtain ⟨h1, h2, t, h3⟩ := h
  exact ⟨(vk_S.moved hvm h1).kept hq, (va_Z.moved hvm h2).kept hq, t, (va_Z.moved hvm h3).kept hq⟩
/-- the context goes on: to a state whose heap has the old cells below B0 -/
theorem e_Cx.go {G : eG} {B0 : Nat} {s U : State} (hW : s.WarmedH U.vm) (hsz : s.heap.size ≤ U.heap.size) (hq : ∀ a : Nat, a < s.heap.size → ¬ B0 ≤ a → U.heap[a]? = s.heap[a]?) (h : e_Cx G B0 s) : e_Cx G B0 U := by
  obtain ⟨h1, h2, h3, h4, h5, h6⟩ := h
  exact ⟨va_K.moved hW.alike h1, fun w hw a => word_at hW (good_of_word hw.2) (h2 w hw #[]), fun w hw => e_nin_warm hW hw.2 (h3 w hw), h4.go hW.alike hq, fun i hi => vk_R.warm hW (h5 i hi), Nat.le_trans h6 hsz⟩
theorem e_Cx.same {G : eG} {B0 : Nat} {s U : State} (hv : s.vm = U.vm) (hh : U.heap = s.heap) (h : e_Cx G B0 s) : e_Cx G B0 U := by
  refine e_Cx.go (s := s) ?_ (by rw [hh]; exact Nat.le_refl _) (fun a _ _ => by rw [hh]) h
  rw [← hv]; exact State.WarmedH.refl s
abbrev eT : Type := Program × Launch × Env × Room × State × MethodId × Array Value × List Frame × Method × Code × eG × Nat × Nat × Nat × Nat × Nat × (Option Value → eH → State → Prop)
def e_l (q : eT) : Launch := q.2.1
def e_R (q : eT) : Room := q.2.2.2.1
def e_G (q : eT) : eG := q.2.2.2.2.2.2.2.2.2.2.1
def e_B0 (q : eT) : Nat := q.2.2.2.2.2.2.2.2.2.2.2.1
def e_n (q : eT) : Nat := q.2.2.2.2.2.2.2.2.2.2.2.2.1
def e_c (q : eT) : Nat := q.2.2.2.2.2.2.2.2.2.2.2.2.2.2.1
def e_s (q : eT) : Nat := q.2.2.2.2.2.2.2.2.2.2.2.2.2.2.2.1
/-- the same place with another heap size, other counts of made cells and slots -/
def e_mv (q : eT) (n c s : Nat) : eT := (q.1, q.2.1, q.2.2.1, q.2.2.2.1, q.2.2.2.2.1, q.2.2.2.2.2.1, q.2.2.2.2.2.2.1, q.2.2.2.2.2.2.2.1, q.2.2.2.2.2.2.2.2.1, q.2.2.2.2.2.2.2.2.2.1, q.2.2.2.2.2.2.2.2.2.2.1, q.2.2.2.2.2.2.2.2.2.2.2.1, n, q.2.2.2.2.2.2.2.2.2.2.2.2.2.1, c, s, q.2.2.2.2.2.2.2.2.2.2.2.2.2.2.2.2)
/-- what a method's walk stands on: the machine, the method's bytes, its class, the room for its callees, what it returns -/
def e_B (q : eT) (own : String) (cc : ByteArray) (nl fr lo : Nat) (ret : Option FieldType) (nm : String) : Prop := match q with
  | (p, _, _, R, s, m, _, _, meth, c, G, B0, _, nL, c0, s0, _) => p.tables.exec = Jvm.exec ∧ c.code = cc ∧ c.maxLocals = nL ∧ nL = nl ∧ s.vm.findClass own = some m.cls ∧ e_Cx G B0 s ∧ meth.locks = false ∧ R.frames = fr ∧ R.locals = lo ∧ meth.sig.returnType = ret ∧ meth.name = nm ∧ c0 ≤ R.cells ∧ s0 ≤ R.slots
def e_Q (G : eG) (B0 n : Nat) (r : Option Value) (h : eH) : Array Value → State → Outcome → State → Prop := fun _ st o t => o = .returned r ∧ e_Hs G B0 n h t.heap ∧ va_F (fun x => B0 ≤ x) st t
/-- how the walk ends: by the method's return, with as many cells as its room has -/
def e_E (q : eT) : Prop := match q with
  | (_, _, _, R, s, _, args, below, _, _, G, B0, n, _, c0, s0, Qf) => Qf = (fun o h => MQ below (e_Q G B0 n o h) args s c0 s0 (fun x => B0 ≤ x)) ∧ R.cells = c0 ∧ R.slots = s0
def e_K {ρ : Type} (en : ρ → Option Value) (q : eT) (r0 : ρ) (h0 : eH) (pc : Nat) (ls : List (Nat × Value)) (st : List Value) (h : eH) (X : Option (ρ × eH)) : Prop :=
  X = some (r0, h0) → match q with
  | (p, l, e, R, s, m, args, below, meth, c, G, B0, n, nL, c0, s0, Qf) => ∀ (H : Heap) (locs : List Loc) (la : Array Slot), e_Hs G B0 n h H → va_S (fun x => B0 ≤ x) s.heap H locs → lv_has la nL ls →
      W p l e R s m args below meth c H locs c0 s0 (Qf (en r0) h0) (F0 m pc la st)
def e_P (G : eG) (B0 n : Nat) (av : List Value) (h : eH) : Array Value → State → Prop := fun v U => v = av.toArray ∧ e_Hs G B0 n h U.heap ∧ e_Cx G B0 U
/-- A CONTRACT: wherever F says what the method does, the machine does it; mc cells, ms slots are made -/
def e_CA {ρ : Type} (en : ρ → Option Value) (l : Launch) (G : eG) (B0 n : Nat) (y : MethodName) (cc : ByteArray) (nL : Nat) (ret : Option FieldType) (fr lo mc ms : Nat) (av : List Value) (F : eH → Option (ρ × eH)) : Prop :=
  ∀ h r h', F h = some (r, h') → Met l y [Cond.code y cc nL ret] { frames := fr, cells := mc, slots := ms, locals := lo } (e_P G B0 n av h) (e_Q G B0 (n + mc) (en r) h') mc ms (fun x => B0 ≤ x)
abbrev e_C {ρ : Type} (en : ρ → Option Value) (l : Launch) (G : eG) (B0 n : Nat) (y : MethodName) (cc : ByteArray) (nL : Nat) (ret : Option FieldType) (fr lo : Nat) (av : List Value) (F : eH → Option (ρ × eH)) : Prop := e_CA en l G B0 n y cc nL ret fr lo 0 0 av F
def eI (r : Int32) : Option Value := some (.int r)
def eL (r : Int64) : Option Value := some (.long r)
def eV (_ : Unit) : Option Value := none
def eR (r : Option Nat) : Option Value := some (va_rf r)

section EK
variable {ρ : Type} {en : ρ → Option Value} {q : eT} {r0 : ρ} {h0 : eH} {pc : Nat} {ls : List (Nat × Value)} {st : List Value} {h : eH} {X X1 X2 : Option (ρ × eH)} {own : String} {cc : ByteArray} {nl fr lo : Nat} {ret : Option FieldType} {nm : String}
theorem k_none (hX : X = none) : e_K en q r0 h0 pc ls st h X := by
  subst hX
  intro hh; cases hh
theorem k_bind {α : Type} {x : Option α} {f : α → Option (ρ × eH)} (hh : ∀ v, x = some v → e_K en q r0 h0 pc ls st h (f v)) : e_K en q r0 h0 pc ls st h (x.bind f) := by
  cases x with
  | none => exact k_none rfl
  | some v => exact hh v rfl
theorem k_let {α : Type} {x : α} {f : α → Option (ρ × eH)} {pc : Nat} {ls : List (Nat × Value)} {mk : α → List Value} (hh : ∀ v, v = x → e_K en q r0 h0 pc ls (mk v) h (f v)) : e_K en q r0 h0 pc ls (mk x) h (e_let x f) := hh x rfl
theorem k_ite {c : Prop} {dc : Decidable c} (k1 : c → e_K en q r0 h0 pc ls st h X1) (k2 : ¬ c → e_K en q r0 h0 pc ls st h X2) : e_K en q r0 h0 pc ls st h (@ite _ c dc X1 X2) := by
  by_cases hc : c
  · rw [if_pos hc]; exact k1 hc
  · rw [if_neg hc]; exact k2 hc
theorem k_sub {ls' : List (Nat × Value)} (ks : List Nat) (hl : lv_pick ls ks = ls') (kk : e_K en q r0 h0 pc ls' st h X) : e_K en q r0 h0 pc ls st h X := by
  obtain ⟨p, l, e, R, s, m, args, below, meth, c, G, B0, nn, nL, c0, s0, Qf⟩ := q
  exact fun hX H locs la hH hS hla => kk hX H locs la hH hS (lv_sub hla ks hl)

theorem k_iadd (hq : e_B q own cc nl fr lo ret nm) {x y : Int32} (hd : decode cc pc = .ok (.iadd, 1))  (kk : e_K en q r0 h0 (pc + 1) ls (.int (x + y) :: st) h X) : e_K en q r0 h0 pc ls (.int y :: .int x :: st) h X := by
  obtain ⟨p, l, e, R, s, m, args, below, meth, c, G, B0, nn, nL, c0, s0, Qf⟩ := q
  obtain ⟨hx, hb, -⟩ := hq
  exact fun hX H locs la hH hS hla => lv_iadd hx hb hd (kk hX H locs la hH hS hla)
theorem k_isub (hq : e_B q own cc nl fr lo ret nm) {x y : Int32} (hd : decode cc pc = .ok (.isub, 1))  (kk : e_K en q r0 h0 (pc + 1) ls (.int (x - y) :: st) h X) : e_K en q r0 h0 pc ls (.int y :: .int x :: st) h X := by
  obtain ⟨p, l, e, R, s, m, args, below, meth, c, G, B0, nn, nL, c0, s0, Qf⟩ := q
  obtain ⟨hx, hb, -⟩ := hq
  exact fun hX H locs la hH hS hla => lv_isub hx hb hd (kk hX H locs la hH hS hla)
theorem k_imul (hq : e_B q own cc nl fr lo ret nm) {x y : Int32} (hd : decode cc pc = .ok (.imul, 1))  (kk : e_K en q r0 h0 (pc + 1) ls (.int (x * y) :: st) h X) : e_K en q r0 h0 pc ls (.int y :: .int x :: st) h X := by
  obtain ⟨p, l, e, R, s, m, args, below, meth, c, G, B0, nn, nL, c0, s0, Qf⟩ := q
  obtain ⟨hx, hb, -⟩ := hq
  exact fun hX H locs la hH hS hla => lv_imul hx hb hd (kk hX H locs la hH hS hla)
theorem k_iand (hq : e_B q own cc nl fr lo ret nm) {x y : Int32} (hd : decode cc pc = .ok (.iand, 1))  (kk : e_K en q r0 h0 (pc + 1) ls (.int (x &&& y) :: st) h X) : e_K en q r0 h0 pc ls (.int y :: .int x :: st) h X := by
  obtain ⟨p, l, e, R, s, m, args, below, meth, c, G, B0, nn, nL, c0, s0, Qf⟩ := q
  obtain ⟨hx, hb, -⟩ := hq
  exact fun hX H locs la hH hS hla => lv_iand hx hb hd (kk hX H locs la hH hS hla)
theorem k_ior (hq : e_B q own cc nl fr lo ret nm) {x y : Int32} (hd : decode cc pc = .ok (.ior, 1))  (kk : e_K en q r0 h0 (pc + 1) ls (.int (x ||| y) :: st) h X) : e_K en q r0 h0 pc ls (.int y :: .int x :: st) h X := by
  obtain ⟨p, l, e, R, s, m, args, below, meth, c, G, B0, nn, nL, c0, s0, Qf⟩ := q
  obtain ⟨hx, hb, -⟩ := hq
  exact fun hX H locs la hH hS hla => lv_ior hx hb hd (kk hX H locs la hH hS hla)
theorem k_ixor (hq : e_B q own cc nl fr lo ret nm) {x y : Int32} (hd : decode cc pc = .ok (.ixor, 1))  (kk : e_K en q r0 h0 (pc + 1) ls (.int (x ^^^ y) :: st) h X) : e_K en q r0 h0 pc ls (.int y :: .int x :: st) h X := by
  obtain ⟨p, l, e, R, s, m, args, below, meth, c, G, B0, nn, nL, c0, s0, Qf⟩ := q
  obtain ⟨hx, hb, -⟩ := hq
  exact fun hX H locs la hH hS hla => lv_ixor hx hb hd (kk hX H locs la hH hS hla)
theorem k_ladd (hq : e_B q own cc nl fr lo ret nm) {x y : Int64} (hd : decode cc pc = .ok (.ladd, 1))  (kk : e_K en q r0 h0 (pc + 1) ls (.long (x + y) :: st) h X) : e_K en q r0 h0 pc ls (.long y :: .long x :: st) h X := by
  obtain ⟨p, l, e, R, s, m, args, below, meth, c, G, B0, nn, nL, c0, s0, Qf⟩ := q
  obtain ⟨hx, hb, -⟩ := hq
  exact fun hX H locs la hH hS hla => lv_ladd hx hb hd (kk hX H locs la hH hS hla)
theorem k_lsub (hq : e_B q own cc nl fr lo ret nm) {x y : Int64} (hd : decode cc pc = .ok (.lsub, 1))  (kk : e_K en q r0 h0 (pc + 1) ls (.long (x - y) :: st) h X) : e_K en q r0 h0 pc ls (.long y :: .long x :: st) h X := by
  obtain ⟨p, l, e, R, s, m, args, below, meth, c, G, B0, nn, nL, c0, s0, Qf⟩ := q
  obtain ⟨hx, hb, -⟩ := hq
  exact fun hX H locs la hH hS hla => lv_lsub hx hb hd (kk hX H locs la hH hS hla)
theorem k_lmul (hq : e_B q own cc nl fr lo ret nm) {x y : Int64} (hd : decode cc pc = .ok (.lmul, 1))  (kk : e_K en q r0 h0 (pc + 1) ls (.long (x * y) :: st) h X) : e_K en q r0 h0 pc ls (.long y :: .long x :: st) h X := by
  obtain ⟨p, l, e, R, s, m, args, below, meth, c, G, B0, nn, nL, c0, s0, Qf⟩ := q
  obtain ⟨hx, hb, -⟩ := hq
  exact fun hX H locs la hH hS hla => lv_lmul hx hb hd (kk hX H locs la hH hS hla)
theorem k_land (hq : e_B q own cc nl fr lo ret nm) {x y : Int64} (hd : decode cc pc = .ok (.land, 1))  (kk : e_K en q r0 h0 (pc + 1) ls (.long (x &&& y) :: st) h X) : e_K en q r0 h0 pc ls (.long y :: .long x :: st) h X := by
  obtain ⟨p, l, e, R, s, m, args, below, meth, c, G, B0, nn, nL, c0, s0, Qf⟩ := q
  obtain ⟨hx, hb, -⟩ := hq
  exact fun hX H locs la hH hS hla => lv_land hx hb hd (kk hX H locs la hH hS hla)
theorem k_lor (hq : e_B q own cc nl fr lo ret nm) {x y : Int64} (hd : decode cc pc = .ok (.lor, 1))  (kk : e_K en q r0 h0 (pc + 1) ls (.long (x ||| y) :: st) h X) : e_K en q r0 h0 pc ls (.long y :: .long x :: st) h X := by
  obtain ⟨p, l, e, R, s, m, args, below, meth, c, G, B0, nn, nL, c0, s0, Qf⟩ := q
  obtain ⟨hx, hb, -⟩ := hq
  exact fun hX H locs la hH hS hla => lv_lor hx hb hd (kk hX H locs la hH hS hla)
theorem k_lxor (hq : e_B q own cc nl fr lo ret nm) {x y : Int64} (hd : decode cc pc = .ok (.lxor, 1))  (kk : e_K en q r0 h0 (pc + 1) ls (.long (x ^^^ y) :: st) h X) : e_K en q r0 h0 pc ls (.long y :: .long x :: st) h X := by
  obtain ⟨p, l, e, R, s, m, args, below, meth, c, G, B0, nn, nL, c0, s0, Qf⟩ := q
  obtain ⟨hx, hb, -⟩ := hq
  exact fun hX H locs la hH hS hla => lv_lxor hx hb hd (kk hX H locs la hH hS hla)
theorem k_ineg (hq : e_B q own cc nl fr lo ret nm) {x : Int32} (hd : decode cc pc = .ok (.ineg, 1))  (kk : e_K en q r0 h0 (pc + 1) ls (.int (-x) :: st) h X) : e_K en q r0 h0 pc ls (.int x :: st) h X := by
  obtain ⟨p, l, e, R, s, m, args, below, meth, c, G, B0, nn, nL, c0, s0, Qf⟩ := q
  obtain ⟨hx, hb, -⟩ := hq
  exact fun hX H locs la hH hS hla => lv_ineg hx hb hd (kk hX H locs la hH hS hla)
theorem k_lneg (hq : e_B q own cc nl fr lo ret nm) {x : Int64} (hd : decode cc pc = .ok (.lneg, 1))  (kk : e_K en q r0 h0 (pc + 1) ls (.long (-x) :: st) h X) : e_K en q r0 h0 pc ls (.long x :: st) h X := by
  obtain ⟨p, l, e, R, s, m, args, below, meth, c, G, B0, nn, nL, c0, s0, Qf⟩ := q
  obtain ⟨hx, hb, -⟩ := hq
  exact fun hX H locs la hH hS hla => lv_lneg hx hb hd (kk hX H locs la hH hS hla)
theorem k_ishl (hq : e_B q own cc nl fr lo ret nm) {x y : Int32} (hd : decode cc pc = .ok (.ishl, 1))  (kk : e_K en q r0 h0 (pc + 1) ls (.int (x <<< (y &&& 31)) :: st) h X) : e_K en q r0 h0 pc ls (.int y :: .int x :: st) h X := by
  obtain ⟨p, l, e, R, s, m, args, below, meth, c, G, B0, nn, nL, c0, s0, Qf⟩ := q
  obtain ⟨hx, hb, -⟩ := hq
  exact fun hX H locs la hH hS hla => lv_ishl hx hb hd (kk hX H locs la hH hS hla)
theorem k_ishr (hq : e_B q own cc nl fr lo ret nm) {x y : Int32} (hd : decode cc pc = .ok (.ishr, 1))  (kk : e_K en q r0 h0 (pc + 1) ls (.int (x >>> (y &&& 31)) :: st) h X) : e_K en q r0 h0 pc ls (.int y :: .int x :: st) h X := by
  obtain ⟨p, l, e, R, s, m, args, below, meth, c, G, B0, nn, nL, c0, s0, Qf⟩ := q
  obtain ⟨hx, hb, -⟩ := hq
  exact fun hX H locs la hH hS hla => lv_ishr hx hb hd (kk hX H locs la hH hS hla)
theorem k_iushr (hq : e_B q own cc nl fr lo ret nm) {x y : Int32} (hd : decode cc pc = .ok (.iushr, 1))  (kk : e_K en q r0 h0 (pc + 1) ls (.int ((x.toUInt32 >>> (y.toUInt32 &&& Int32.toUInt32 31)).toInt32) :: st) h X) : e_K en q r0 h0 pc ls (.int y :: .int x :: st) h X := by
  obtain ⟨p, l, e, R, s, m, args, below, meth, c, G, B0, nn, nL, c0, s0, Qf⟩ := q
  obtain ⟨hx, hb, -⟩ := hq
  exact fun hX H locs la hH hS hla => lv_iushr hx hb hd rfl (kk hX H locs la hH hS hla)
theorem k_lushr (hq : e_B q own cc nl fr lo ret nm) {x : Int64} {y : Int32} (hd : decode cc pc = .ok (.lushr, 1))  (kk : e_K en q r0 h0 (pc + 1) ls (.long ((x.toUInt64 >>> (y.toInt64.toUInt64 &&& Int64.toUInt64 63)).toInt64) :: st) h X) : e_K en q r0 h0 pc ls (.int y :: .long x :: st) h X := by
  obtain ⟨p, l, e, R, s, m, args, below, meth, c, G, B0, nn, nL, c0, s0, Qf⟩ := q
  obtain ⟨hx, hb, -⟩ := hq
  exact fun hX H locs la hH hS hla => lv_lushr hx hb hd rfl (kk hX H locs la hH hS hla)
theorem k_lshl (hq : e_B q own cc nl fr lo ret nm) {x : Int64} {y : Int32} (hd : decode cc pc = .ok (.lshl, 1))  (kk : e_K en q r0 h0 (pc + 1) ls (.long (x <<< (y.toInt64 &&& 63)) :: st) h X) : e_K en q r0 h0 pc ls (.int y :: .long x :: st) h X := by
  obtain ⟨p, l, e, R, s, m, args, below, meth, c, G, B0, nn, nL, c0, s0, Qf⟩ := q
  obtain ⟨hx, hb, -⟩ := hq
  exact fun hX H locs la hH hS hla => lv_lshl hx hb hd rfl (kk hX H locs la hH hS hla)
theorem k_lshr (hq : e_B q own cc nl fr lo ret nm) {x : Int64} {y : Int32} (hd : decode cc pc = .ok (.lshr, 1))  (kk : e_K en q r0 h0 (pc + 1) ls (.long (x >>> (y.toInt64 &&& 63)) :: st) h X) : e_K en q r0 h0 pc ls (.int y :: .long x :: st) h X := by
  obtain ⟨p, l, e, R, s, m, args, below, meth, c, G, B0, nn, nL, c0, s0, Qf⟩ := q
  obtain ⟨hx, hb, -⟩ := hq
  exact fun hX H locs la hH hS hla => lv_lshr hx hb hd rfl (kk hX H locs la hH hS hla)
theorem k_i2l (hq : e_B q own cc nl fr lo ret nm) {x : Int32} (hd : decode cc pc = .ok (.i2l, 1))  (kk : e_K en q r0 h0 (pc + 1) ls (.long x.toInt64 :: st) h X) : e_K en q r0 h0 pc ls (.int x :: st) h X := by
  obtain ⟨p, l, e, R, s, m, args, below, meth, c, G, B0, nn, nL, c0, s0, Qf⟩ := q
  obtain ⟨hx, hb, -⟩ := hq
  exact fun hX H locs la hH hS hla => lv_i2l hx hb hd rfl (kk hX H locs la hH hS hla)
theorem k_l2i (hq : e_B q own cc nl fr lo ret nm) {x : Int64} (hd : decode cc pc = .ok (.l2i, 1))  (kk : e_K en q r0 h0 (pc + 1) ls (.int x.toInt32 :: st) h X) : e_K en q r0 h0 pc ls (.long x :: st) h X := by
  obtain ⟨p, l, e, R, s, m, args, below, meth, c, G, B0, nn, nL, c0, s0, Qf⟩ := q
  obtain ⟨hx, hb, -⟩ := hq
  exact fun hX H locs la hH hS hla => lv_l2i hx hb hd rfl (kk hX H locs la hH hS hla)
theorem k_i2c (hq : e_B q own cc nl fr lo ret nm) {x : Int32} (hd : decode cc pc = .ok (.i2c, 1))  (kk : e_K en q r0 h0 (pc + 1) ls (.int (x.toUInt32 % 65536).toInt32 :: st) h X) : e_K en q r0 h0 pc ls (.int x :: st) h X := by
  obtain ⟨p, l, e, R, s, m, args, below, meth, c, G, B0, nn, nL, c0, s0, Qf⟩ := q
  obtain ⟨hx, hb, -⟩ := hq
  exact fun hX H locs la hH hS hla => lv_i2c hx hb hd rfl (kk hX H locs la hH hS hla)
theorem k_lcmp (hq : e_B q own cc nl fr lo ret nm) {x y : Int64} (hd : decode cc pc = .ok (.lcmp, 1))  (kk : e_K en q r0 h0 (pc + 1) ls (.int (lg_cmp x y) :: st) h X) : e_K en q r0 h0 pc ls (.long y :: .long x :: st) h X := by
  obtain ⟨p, l, e, R, s, m, args, below, meth, c, G, B0, nn, nL, c0, s0, Qf⟩ := q
  obtain ⟨hx, hb, -⟩ := hq
  exact fun hX H locs la hH hS hla => W.lcmp hx hb hd (kk hX H locs la hH hS hla)
theorem k_iconst (hq : e_B q own cc nl fr lo ret nm) {n : Int} {v : Int32} (hd : decode cc pc = .ok (.iconst n, 1)) (hv : Int32.ofInt n = v) (kk : e_K en q r0 h0 (pc + 1) ls (.int v :: st) h X) : e_K en q r0 h0 pc ls (st) h X := by
  obtain ⟨p, l, e, R, s, m, args, below, meth, c, G, B0, nn, nL, c0, s0, Qf⟩ := q
  obtain ⟨hx, hb, -⟩ := hq
  exact fun hX H locs la hH hS hla => lv_iconst hx hb hd hv (kk hX H locs la hH hS hla)
theorem k_bipush (hq : e_B q own cc nl fr lo ret nm) {n : Int} {v : Int32} (hd : decode cc pc = .ok (.bipush n, 2)) (hv : (Int8.ofInt n).toInt32 = v) (kk : e_K en q r0 h0 (pc + 2) ls (.int v :: st) h X) : e_K en q r0 h0 pc ls (st) h X := by
  obtain ⟨p, l, e, R, s, m, args, below, meth, c, G, B0, nn, nL, c0, s0, Qf⟩ := q
  obtain ⟨hx, hb, -⟩ := hq
  exact fun hX H locs la hH hS hla => lv_bipush hx hb hd hv (kk hX H locs la hH hS hla)
theorem k_sipush (hq : e_B q own cc nl fr lo ret nm) {n : Int} {v : Int32} (hd : decode cc pc = .ok (.sipush n, 3)) (hv : (Int16.ofInt n).toInt32 = v) (kk : e_K en q r0 h0 (pc + 3) ls (.int v :: st) h X) : e_K en q r0 h0 pc ls (st) h X := by
  obtain ⟨p, l, e, R, s, m, args, below, meth, c, G, B0, nn, nL, c0, s0, Qf⟩ := q
  obtain ⟨hx, hb, -⟩ := hq
  exact fun hX H locs la hH hS hla => lv_sipush hx hb hd hv (kk hX H locs la hH hS hla)
theorem k_lconst (hq : e_B q own cc nl fr lo ret nm) {n : Fin 2} {v : Int64} (hd : decode cc pc = .ok (.lconst n, 1)) (hv : Int64.ofNat (n : Nat) = v) (kk : e_K en q r0 h0 (pc + 1) ls (.long v :: st) h X) : e_K en q r0 h0 pc ls (st) h X := by
  obtain ⟨p, l, e, R, s, m, args, below, meth, c, G, B0, nn, nL, c0, s0, Qf⟩ := q
  obtain ⟨hx, hb, -⟩ := hq
  exact fun hX H locs la hH hS hla => lv_lconst hx hb hd hv (kk hX H locs la hH hS hla)
theorem k_aconst_null (hq : e_B q own cc nl fr lo ret nm)  (hd : decode cc pc = .ok (.aconst_null, 1))  (kk : e_K en q r0 h0 (pc + 1) ls (.null :: st) h X) : e_K en q r0 h0 pc ls (st) h X := by
  obtain ⟨p, l, e, R, s, m, args, below, meth, c, G, B0, nn, nL, c0, s0, Qf⟩ := q
  obtain ⟨hx, hb, -⟩ := hq
  exact fun hX H locs la hH hS hla => lv_null hx hb hd (kk hX H locs la hH hS hla)
theorem k_dup (hq : e_B q own cc nl fr lo ret nm) {va : Value} (hd : decode cc pc = .ok (.dup, 1)) (hc : va.category = 1) (kk : e_K en q r0 h0 (pc + 1) ls (va :: va :: st) h X) : e_K en q r0 h0 pc ls (va :: st) h X := by
  obtain ⟨p, l, e, R, s, m, args, below, meth, c, G, B0, nn, nL, c0, s0, Qf⟩ := q
  obtain ⟨hx, hb, -⟩ := hq
  exact fun hX H locs la hH hS hla => lv_dup hx hb hd hc (kk hX H locs la hH hS hla)
theorem k_pop (hq : e_B q own cc nl fr lo ret nm) {va : Value} (hd : decode cc pc = .ok (.pop, 1)) (hc : va.category = 1) (kk : e_K en q r0 h0 (pc + 1) ls (st) h X) : e_K en q r0 h0 pc ls (va :: st) h X := by
  obtain ⟨p, l, e, R, s, m, args, below, meth, c, G, B0, nn, nL, c0, s0, Qf⟩ := q
  obtain ⟨hx, hb, -⟩ := hq
  exact fun hX H locs la hH hS hla => lv_pop hx hb hd hc (kk hX H locs la hH hS hla)
theorem k_dup2_11 (hq : e_B q own cc nl fr lo ret nm) {va vb : Value} (hd : decode cc pc = .ok (.dup2, 1)) (hc : va.category = 1) (hc2 : vb.category = 1) (kk : e_K en q r0 h0 (pc + 1) ls (va :: vb :: va :: vb :: st) h X) : e_K en q r0 h0 pc ls (va :: vb :: st) h X := by
  obtain ⟨p, l, e, R, s, m, args, below, meth, c, G, B0, nn, nL, c0, s0, Qf⟩ := q
  obtain ⟨hx, hb, -⟩ := hq
  exact fun hX H locs la hH hS hla => lv_dup2_11 hx hb hd hc hc2 (kk hX H locs la hH hS hla)
theorem k_dup2_2 (hq : e_B q own cc nl fr lo ret nm) {va : Value} (hd : decode cc pc = .ok (.dup2, 1)) (hc : va.category = 2) (kk : e_K en q r0 h0 (pc + 1) ls (va :: va :: st) h X) : e_K en q r0 h0 pc ls (va :: st) h X := by
  obtain ⟨p, l, e, R, s, m, args, below, meth, c, G, B0, nn, nL, c0, s0, Qf⟩ := q
  obtain ⟨hx, hb, -⟩ := hq
  exact fun hX H locs la hH hS hla => lv_dup2_2 hx hb hd hc (kk hX H locs la hH hS hla)
theorem k_iload_n (hq : e_B q own cc nl fr lo ret nm) {k : Fin 4} (hd : decode cc pc = .ok (.iload_n k, 1)) (j : Nat) {x : Int32} (hj : ls[j]? = some ((k : Nat), .int x)) (kk : e_K en q r0 h0 (pc + 1) ls (.int x :: st) h X) : e_K en q r0 h0 pc ls st h X := by
  obtain ⟨p, l, e, R, s, m, args, below, meth, c, G, B0, nn, nL, c0, s0, Qf⟩ := q
  obtain ⟨hx, hb, -⟩ := hq
  exact fun hX H locs la hH hS hla => lv_iload_n hx hb hd rfl (lv_at hla j hj) (kk hX H locs la hH hS hla)
theorem k_iload (hq : e_B q own cc nl fr lo ret nm) {i : Nat} (hd : decode cc pc = .ok (.iload i, 2)) (j : Nat) {x : Int32} (hj : ls[j]? = some (i, .int x)) (kk : e_K en q r0 h0 (pc + 2) ls (.int x :: st) h X) : e_K en q r0 h0 pc ls st h X := by
  obtain ⟨p, l, e, R, s, m, args, below, meth, c, G, B0, nn, nL, c0, s0, Qf⟩ := q
  obtain ⟨hx, hb, -⟩ := hq
  exact fun hX H locs la hH hS hla => lv_iload hx hb hd (lv_at hla j hj) (kk hX H locs la hH hS hla)
theorem k_lload_n (hq : e_B q own cc nl fr lo ret nm) {k : Fin 4} (hd : decode cc pc = .ok (.lload_n k, 1)) (j : Nat) {x : Int64} (hj : ls[j]? = some ((k : Nat), .long x)) (kk : e_K en q r0 h0 (pc + 1) ls (.long x :: st) h X) : e_K en q r0 h0 pc ls st h X := by
  obtain ⟨p, l, e, R, s, m, args, below, meth, c, G, B0, nn, nL, c0, s0, Qf⟩ := q
  obtain ⟨hx, hb, -⟩ := hq
  exact fun hX H locs la hH hS hla => lv_lload_n hx hb hd rfl (lv_at hla j hj) (kk hX H locs la hH hS hla)
theorem k_lload (hq : e_B q own cc nl fr lo ret nm) {i : Nat} (hd : decode cc pc = .ok (.lload i, 2)) (j : Nat) {x : Int64} (hj : ls[j]? = some (i, .long x)) (kk : e_K en q r0 h0 (pc + 2) ls (.long x :: st) h X) : e_K en q r0 h0 pc ls st h X := by
  obtain ⟨p, l, e, R, s, m, args, below, meth, c, G, B0, nn, nL, c0, s0, Qf⟩ := q
  obtain ⟨hx, hb, -⟩ := hq
  exact fun hX H locs la hH hS hla => lv_lload hx hb hd (lv_at hla j hj) (kk hX H locs la hH hS hla)
theorem k_aload_n (hq : e_B q own cc nl fr lo ret nm) {k : Fin 4} (hd : decode cc pc = .ok (.aload_n k, 1)) (j : Nat) {x : Nat} (hj : ls[j]? = some ((k : Nat), .ref x)) (kk : e_K en q r0 h0 (pc + 1) ls (.ref x :: st) h X) : e_K en q r0 h0 pc ls st h X := by
  obtain ⟨p, l, e, R, s, m, args, below, meth, c, G, B0, nn, nL, c0, s0, Qf⟩ := q
  obtain ⟨hx, hb, -⟩ := hq
  exact fun hX H locs la hH hS hla => lv_aload_n hx hb hd rfl (lv_at hla j hj) (kk hX H locs la hH hS hla)
theorem k_aload (hq : e_B q own cc nl fr lo ret nm) {i : Nat} (hd : decode cc pc = .ok (.aload i, 2)) (j : Nat) {x : Nat} (hj : ls[j]? = some (i, .ref x)) (kk : e_K en q r0 h0 (pc + 2) ls (.ref x :: st) h X) : e_K en q r0 h0 pc ls st h X := by
  obtain ⟨p, l, e, R, s, m, args, below, meth, c, G, B0, nn, nL, c0, s0, Qf⟩ := q
  obtain ⟨hx, hb, -⟩ := hq
  exact fun hX H locs la hH hS hla => lv_aload hx hb hd (lv_at hla j hj) (kk hX H locs la hH hS hla)
theorem k_qload_n (hq : e_B q own cc nl fr lo ret nm) {k : Fin 4} (hd : decode cc pc = .ok (.aload_n k, 1)) (j : Nat) {x : Option Nat} (hj : ls[j]? = some ((k : Nat), va_rf x)) (kk : e_K en q r0 h0 (pc + 1) ls (va_rf x :: st) h X) : e_K en q r0 h0 pc ls st h X := by
  obtain ⟨p, l, e, R, s, m, args, below, meth, c, G, B0, nn, nL, c0, s0, Qf⟩ := q
  obtain ⟨hx, hb, -⟩ := hq
  cases x with
  | none => exact fun hX H locs la hH hS hla => lv_aload_nN hx hb hd rfl (lv_at hla j hj) (kk hX H locs la hH hS hla)
  | some x => exact fun hX H locs la hH hS hla => lv_aload_n hx hb hd rfl (lv_at hla j hj) (kk hX H locs la hH hS hla)
theorem k_qload (hq : e_B q own cc nl fr lo ret nm) {i : Nat} (hd : decode cc pc = .ok (.aload i, 2)) (j : Nat) {x : Option Nat} (hj : ls[j]? = some (i, va_rf x)) (kk : e_K en q r0 h0 (pc + 2) ls (va_rf x :: st) h X) : e_K en q r0 h0 pc ls st h X := by
  obtain ⟨p, l, e, R, s, m, args, below, meth, c, G, B0, nn, nL, c0, s0, Qf⟩ := q
  obtain ⟨hx, hb, -⟩ := hq
  cases x with
  | none => exact fun hX H locs la hH hS hla => lv_aloadN hx hb hd (lv_at hla j hj) (kk hX H locs la hH hS hla)
  | some x => exact fun hX H locs la hH hS hla => lv_aload hx hb hd (lv_at hla j hj) (kk hX H locs la hH hS hla)
theorem k_istore_n (hq : e_B q own cc nl fr lo ret nm) {k : Fin 4} {i : Nat} (hd : decode cc pc = .ok (.istore_n k, 1)) (hi : (k : Nat) = i) {x : Int32} {ls' : List (Nat × Value)} (hn : i < nl) (hl : (i, Value.int x) :: ls.filter (fun q => !(q.1 == i) && !(q.1 + 1 == i && q.2.category == 2)) = ls') (kk : e_K en q r0 h0 (pc + 1) ls' st h X) : e_K en q r0 h0 pc ls (Value.int x :: st) h X := by
  obtain ⟨p, l, e, R, s, m, args, below, meth, c, G, B0, nn, nL, c0, s0, Qf⟩ := q
  obtain ⟨hx, hb, hml, hnl, -⟩ := hq
  subst hnl
  exact fun hX H locs la hH hS hla => lv_istore_n hx hb hd hi hla hn hl (fun la2 hla2 => kk hX H locs la2 hH hS hla2)
theorem k_istore (hq : e_B q own cc nl fr lo ret nm) {i : Nat} (hd : decode cc pc = .ok (.istore i, 2)) {x : Int32} {ls' : List (Nat × Value)} (hn : i < nl) (hl : (i, Value.int x) :: ls.filter (fun q => !(q.1 == i) && !(q.1 + 1 == i && q.2.category == 2)) = ls') (kk : e_K en q r0 h0 (pc + 2) ls' st h X) : e_K en q r0 h0 pc ls (Value.int x :: st) h X := by
  obtain ⟨p, l, e, R, s, m, args, below, meth, c, G, B0, nn, nL, c0, s0, Qf⟩ := q
  obtain ⟨hx, hb, hml, hnl, -⟩ := hq
  subst hnl
  exact fun hX H locs la hH hS hla => lv_istore hx hb hd hla hn hl (fun la2 hla2 => kk hX H locs la2 hH hS hla2)
theorem k_lstore_n (hq : e_B q own cc nl fr lo ret nm) {k : Fin 4} {i : Nat} (hd : decode cc pc = .ok (.lstore_n k, 1)) (hi : (k : Nat) = i) {x : Int64} {ls' : List (Nat × Value)} (hn : i + 1 < nl) (hl : (i, Value.long x) :: ls.filter (fun q => !(q.1 == i) && (!(q.1 == i + 1) && !(q.1 + 1 == i && q.2.category == 2))) = ls') (kk : e_K en q r0 h0 (pc + 1) ls' st h X) : e_K en q r0 h0 pc ls (Value.long x :: st) h X := by
  obtain ⟨p, l, e, R, s, m, args, below, meth, c, G, B0, nn, nL, c0, s0, Qf⟩ := q
  obtain ⟨hx, hb, hml, hnl, -⟩ := hq
  subst hnl
  exact fun hX H locs la hH hS hla => lv_lstore_n hx hb hd hi hla hn hl (fun la2 hla2 => kk hX H locs la2 hH hS hla2)
theorem k_lstore (hq : e_B q own cc nl fr lo ret nm) {i : Nat} (hd : decode cc pc = .ok (.lstore i, 2)) {x : Int64} {ls' : List (Nat × Value)} (hn : i + 1 < nl) (hl : (i, Value.long x) :: ls.filter (fun q => !(q.1 == i) && (!(q.1 == i + 1) && !(q.1 + 1 == i && q.2.category == 2))) = ls') (kk : e_K en q r0 h0 (pc + 2) ls' st h X) : e_K en q r0 h0 pc ls (Value.long x :: st) h X := by
  obtain ⟨p, l, e, R, s, m, args, below, meth, c, G, B0, nn, nL, c0, s0, Qf⟩ := q
  obtain ⟨hx, hb, hml, hnl, -⟩ := hq
  subst hnl
  exact fun hX H locs la hH hS hla => lv_lstore hx hb hd hla hn hl (fun la2 hla2 => kk hX H locs la2 hH hS hla2)
theorem k_astore_n (hq : e_B q own cc nl fr lo ret nm) {k : Fin 4} {i : Nat} (hd : decode cc pc = .ok (.astore_n k, 1)) (hi : (k : Nat) = i) {x : Nat} {ls' : List (Nat × Value)} (hn : i < nl) (hl : (i, Value.ref x) :: ls.filter (fun q => !(q.1 == i) && !(q.1 + 1 == i && q.2.category == 2)) = ls') (kk : e_K en q r0 h0 (pc + 1) ls' st h X) : e_K en q r0 h0 pc ls (Value.ref x :: st) h X := by
  obtain ⟨p, l, e, R, s, m, args, below, meth, c, G, B0, nn, nL, c0, s0, Qf⟩ := q
  obtain ⟨hx, hb, hml, hnl, -⟩ := hq
  subst hnl
  exact fun hX H locs la hH hS hla => lv_astore_n hx hb hd hi hla hn hl (fun la2 hla2 => kk hX H locs la2 hH hS hla2)
theorem k_astore (hq : e_B q own cc nl fr lo ret nm) {i : Nat} (hd : decode cc pc = .ok (.astore i, 2)) {x : Nat} {ls' : List (Nat × Value)} (hn : i < nl) (hl : (i, Value.ref x) :: ls.filter (fun q => !(q.1 == i) && !(q.1 + 1 == i && q.2.category == 2)) = ls') (kk : e_K en q r0 h0 (pc + 2) ls' st h X) : e_K en q r0 h0 pc ls (Value.ref x :: st) h X := by
  obtain ⟨p, l, e, R, s, m, args, below, meth, c, G, B0, nn, nL, c0, s0, Qf⟩ := q
  obtain ⟨hx, hb, hml, hnl, -⟩ := hq
  subst hnl
  exact fun hX H locs la hH hS hla => lv_astore hx hb hd hla hn hl (fun la2 hla2 => kk hX H locs la2 hH hS hla2)
theorem k_qstore_n (hq : e_B q own cc nl fr lo ret nm) {k : Fin 4} {i : Nat} (hd : decode cc pc = .ok (.astore_n k, 1)) (hi : (k : Nat) = i) {x : Option Nat} {ls' : List (Nat × Value)} (hn : i < nl) (hl : (i, va_rf x) :: ls.filter (fun q => !(q.1 == i) && !(q.1 + 1 == i && q.2.category == 2)) = ls') (kk : e_K en q r0 h0 (pc + 1) ls' st h X) : e_K en q r0 h0 pc ls (va_rf x :: st) h X := by
  obtain ⟨p, l, e, R, s, m, args, below, meth, c, G, B0, nn, nL, c0, s0, Qf⟩ := q
  obtain ⟨hx, hb, hml, hnl, -⟩ := hq
  subst hnl
  cases x with
  | none => exact fun hX H locs la hH hS hla => lv_astore_nN hx hb hd hi hla hn hl (fun la2 hla2 => kk hX H locs la2 hH hS hla2)
  | some x => exact fun hX H locs la hH hS hla => lv_astore_n hx hb hd hi hla hn hl (fun la2 hla2 => kk hX H locs la2 hH hS hla2)
theorem k_qstore (hq : e_B q own cc nl fr lo ret nm) {i : Nat} (hd : decode cc pc = .ok (.astore i, 2)) {x : Option Nat} {ls' : List (Nat × Value)} (hn : i < nl) (hl : (i, va_rf x) :: ls.filter (fun q => !(q.1 == i) && !(q.1 + 1 == i && q.2.category == 2)) = ls') (kk : e_K en q r0 h0 (pc + 2) ls' st h X) : e_K en q r0 h0 pc ls (va_rf x :: st) h X := by
  obtain ⟨p, l, e, R, s, m, args, below, meth, c, G, B0, nn, nL, c0, s0, Qf⟩ := q
  obtain ⟨hx, hb, hml, hnl, -⟩ := hq
  subst hnl
  cases x with
  | none => exact fun hX H locs la hH hS hla => lv_astoreN hx hb hd hla hn hl (fun la2 hla2 => kk hX H locs la2 hH hS hla2)
  | some x => exact fun hX H locs la hH hS hla => lv_astore hx hb hd hla hn hl (fun la2 hla2 => kk hX H locs la2 hH hS hla2)
theorem k_iinc (hq : e_B q own cc nl fr lo ret nm) {i : Nat} {n : Int} (hd : decode cc pc = .ok (.iinc i n, 3)) (j : Nat) {x v : Int32} {ls' : List (Nat × Value)} (hj : ls[j]? = some (i, .int x)) (hv : x + Int32.ofInt n = v) (hn : i < nl) (hl : (i, Value.int v) :: ls.filter (fun q => !(q.1 == i) && !(q.1 + 1 == i && q.2.category == 2)) = ls') (kk : e_K en q r0 h0 (pc + 3) ls' st h X) : e_K en q r0 h0 pc ls st h X := by
  obtain ⟨p, l, e, R, s, m, args, below, meth, c, G, B0, nn, nL, c0, s0, Qf⟩ := q
  obtain ⟨hx, hb, hml, hnl, -⟩ := hq
  subst hnl
  exact fun hX H locs la hH hS hla => lv_iinc hx hb hd hla hj hv hn hl (fun la2 hla2 => kk hX H locs la2 hH hS hla2)
theorem k_icmp_eq (hq : e_B q own cc nl fr lo ret nm) {x y : Int32} {off : Int} {tgt : Nat} {dc : Decidable (x = y)} (hd : decode cc pc = .ok (.if_icmp .eq off, 3)) (ht : (pc : Int) + off = (tgt : Int)) (k1 : x = y → e_K en q r0 h0 tgt ls st h X1) (k2 : ¬ (x = y) → e_K en q r0 h0 (pc + 3) ls st h X2) : e_K en q r0 h0 pc ls (.int y :: .int x :: st) h (@ite _ (x = y) dc X1 X2) := by
  by_cases hc : x = y
  · rw [if_pos hc]
    have kk := k1 hc
    clear k1 k2
    obtain ⟨p, l, e, R, s, m, args, below, meth, c, G, B0, nn, nL, c0, s0, Qf⟩ := q
    obtain ⟨hx, hb, -⟩ := hq
    exact fun hX H locs la hH hS hla => lv_icmp_eq hx hb hd ht (fun _ => kk hX H locs la hH hS hla) (fun z => absurd hc z)
  · rw [if_neg hc]
    have kk := k2 hc
    clear k1 k2
    obtain ⟨p, l, e, R, s, m, args, below, meth, c, G, B0, nn, nL, c0, s0, Qf⟩ := q
    obtain ⟨hx, hb, -⟩ := hq
    exact fun hX H locs la hH hS hla => lv_icmp_eq hx hb hd ht (fun z => absurd z hc) (fun _ => kk hX H locs la hH hS hla)
theorem k_if_eq (hq : e_B q own cc nl fr lo ret nm) {x : Int32} {off : Int} {tgt : Nat} {dc : Decidable (x = 0)} (hd : decode cc pc = .ok (.ifCond .eq off, 3)) (ht : (pc : Int) + off = (tgt : Int)) (k1 : x = 0 → e_K en q r0 h0 tgt ls st h X1) (k2 : ¬ (x = 0) → e_K en q r0 h0 (pc + 3) ls st h X2) : e_K en q r0 h0 pc ls (.int x :: st) h (@ite _ (x = 0) dc X1 X2) := by
  by_cases hc : x = 0
  · rw [if_pos hc]
    have kk := k1 hc
    clear k1 k2
    obtain ⟨p, l, e, R, s, m, args, below, meth, c, G, B0, nn, nL, c0, s0, Qf⟩ := q
    obtain ⟨hx, hb, -⟩ := hq
    exact fun hX H locs la hH hS hla => lv_if_eq hx hb hd ht (fun _ => kk hX H locs la hH hS hla) (fun z => absurd hc z)
  · rw [if_neg hc]
    have kk := k2 hc
    clear k1 k2
    obtain ⟨p, l, e, R, s, m, args, below, meth, c, G, B0, nn, nL, c0, s0, Qf⟩ := q
    obtain ⟨hx, hb, -⟩ := hq
    exact fun hX H locs la hH hS hla => lv_if_eq hx hb hd ht (fun z => absurd z hc) (fun _ => kk hX H locs la hH hS hla)
theorem k_icmp_ne (hq : e_B q own cc nl fr lo ret nm) {x y : Int32} {off : Int} {tgt : Nat} {dc : Decidable (x = y)} (hd : decode cc pc = .ok (.if_icmp .ne off, 3)) (ht : (pc : Int) + off = (tgt : Int)) (k1 : x = y → e_K en q r0 h0 (pc + 3) ls st h X1) (k2 : ¬ (x = y) → e_K en q r0 h0 tgt ls st h X2) : e_K en q r0 h0 pc ls (.int y :: .int x :: st) h (@ite _ (x = y) dc X1 X2) := by
  by_cases hc : x = y
  · rw [if_pos hc]
    have kk := k1 hc
    clear k1 k2
    obtain ⟨p, l, e, R, s, m, args, below, meth, c, G, B0, nn, nL, c0, s0, Qf⟩ := q
    obtain ⟨hx, hb, -⟩ := hq
    exact fun hX H locs la hH hS hla => lv_icmp_ne hx hb hd ht (fun z => absurd hc z) (fun _ => kk hX H locs la hH hS hla)
  · rw [if_neg hc]
    have kk := k2 hc
    clear k1 k2
    obtain ⟨p, l, e, R, s, m, args, below, meth, c, G, B0, nn, nL, c0, s0, Qf⟩ := q
    obtain ⟨hx, hb, -⟩ := hq
    exact fun hX H locs la hH hS hla => lv_icmp_ne hx hb hd ht (fun _ => kk hX H locs la hH hS hla) (fun z => absurd z hc)
theorem k_if_ne (hq : e_B q own cc nl fr lo ret nm) {x : Int32} {off : Int} {tgt : Nat} {dc : Decidable (x = 0)} (hd : decode cc pc = .ok (.ifCond .ne off, 3)) (ht : (pc : Int) + off = (tgt : Int)) (k1 : x = 0 → e_K en q r0 h0 (pc + 3) ls st h X1) (k2 : ¬ (x = 0) → e_K en q r0 h0 tgt ls st h X2) : e_K en q r0 h0 pc ls (.int x :: st) h (@ite _ (x = 0) dc X1 X2) := by
  by_cases hc : x = 0
  · rw [if_pos hc]
    have kk := k1 hc
    clear k1 k2
    obtain ⟨p, l, e, R, s, m, args, below, meth, c, G, B0, nn, nL, c0, s0, Qf⟩ := q
    obtain ⟨hx, hb, -⟩ := hq
    exact fun hX H locs la hH hS hla => lv_if_ne hx hb hd ht (fun z => absurd hc z) (fun _ => kk hX H locs la hH hS hla)
  · rw [if_neg hc]
    have kk := k2 hc
    clear k1 k2
    obtain ⟨p, l, e, R, s, m, args, below, meth, c, G, B0, nn, nL, c0, s0, Qf⟩ := q
    obtain ⟨hx, hb, -⟩ := hq
    exact fun hX H locs la hH hS hla => lv_if_ne hx hb hd ht (fun _ => kk hX H locs la hH hS hla) (fun z => absurd z hc)
theorem k_icmp_lt (hq : e_B q own cc nl fr lo ret nm) {x y : Int32} {off : Int} {tgt : Nat} {dc : Decidable (x < y)} (hd : decode cc pc = .ok (.if_icmp .lt off, 3)) (ht : (pc : Int) + off = (tgt : Int)) (k1 : x < y → e_K en q r0 h0 tgt ls st h X1) (k2 : ¬ (x < y) → e_K en q r0 h0 (pc + 3) ls st h X2) : e_K en q r0 h0 pc ls (.int y :: .int x :: st) h (@ite _ (x < y) dc X1 X2) := by
  by_cases hc : x < y
  · rw [if_pos hc]
    have kk := k1 hc
    clear k1 k2
    obtain ⟨p, l, e, R, s, m, args, below, meth, c, G, B0, nn, nL, c0, s0, Qf⟩ := q
    obtain ⟨hx, hb, -⟩ := hq
    exact fun hX H locs la hH hS hla => lv_icmp_lt hx hb hd ht (fun _ => kk hX H locs la hH hS hla) (fun z => absurd hc z)
  · rw [if_neg hc]
    have kk := k2 hc
    clear k1 k2
    obtain ⟨p, l, e, R, s, m, args, below, meth, c, G, B0, nn, nL, c0, s0, Qf⟩ := q
    obtain ⟨hx, hb, -⟩ := hq
    exact fun hX H locs la hH hS hla => lv_icmp_lt hx hb hd ht (fun z => absurd z hc) (fun _ => kk hX H locs la hH hS hla)
theorem k_if_lt (hq : e_B q own cc nl fr lo ret nm) {x : Int32} {off : Int} {tgt : Nat} {dc : Decidable (x < 0)} (hd : decode cc pc = .ok (.ifCond .lt off, 3)) (ht : (pc : Int) + off = (tgt : Int)) (k1 : x < 0 → e_K en q r0 h0 tgt ls st h X1) (k2 : ¬ (x < 0) → e_K en q r0 h0 (pc + 3) ls st h X2) : e_K en q r0 h0 pc ls (.int x :: st) h (@ite _ (x < 0) dc X1 X2) := by
  by_cases hc : x < 0
  · rw [if_pos hc]
    have kk := k1 hc
    clear k1 k2
    obtain ⟨p, l, e, R, s, m, args, below, meth, c, G, B0, nn, nL, c0, s0, Qf⟩ := q
    obtain ⟨hx, hb, -⟩ := hq
    exact fun hX H locs la hH hS hla => lv_if_lt hx hb hd ht (fun _ => kk hX H locs la hH hS hla) (fun z => absurd hc z)
  · rw [if_neg hc]
    have kk := k2 hc
    clear k1 k2
    obtain ⟨p, l, e, R, s, m, args, below, meth, c, G, B0, nn, nL, c0, s0, Qf⟩ := q
    obtain ⟨hx, hb, -⟩ := hq
    exact fun hX H locs la hH hS hla => lv_if_lt hx hb hd ht (fun z => absurd z hc) (fun _ => kk hX H locs la hH hS hla)
theorem k_icmp_ge (hq : e_B q own cc nl fr lo ret nm) {x y : Int32} {off : Int} {tgt : Nat} {dc : Decidable (y ≤ x)} (hd : decode cc pc = .ok (.if_icmp .ge off, 3)) (ht : (pc : Int) + off = (tgt : Int)) (k1 : y ≤ x → e_K en q r0 h0 tgt ls st h X1) (k2 : ¬ (y ≤ x) → e_K en q r0 h0 (pc + 3) ls st h X2) : e_K en q r0 h0 pc ls (.int y :: .int x :: st) h (@ite _ (y ≤ x) dc X1 X2) := by
  by_cases hc : y ≤ x
  · rw [if_pos hc]
    have kk := k1 hc
    clear k1 k2
    obtain ⟨p, l, e, R, s, m, args, below, meth, c, G, B0, nn, nL, c0, s0, Qf⟩ := q
    obtain ⟨hx, hb, -⟩ := hq
    exact fun hX H locs la hH hS hla => lv_icmp_ge hx hb hd ht (fun _ => kk hX H locs la hH hS hla) (fun z => absurd hc z)
  · rw [if_neg hc]
    have kk := k2 hc
    clear k1 k2
    obtain ⟨p, l, e, R, s, m, args, below, meth, c, G, B0, nn, nL, c0, s0, Qf⟩ := q
    obtain ⟨hx, hb, -⟩ := hq
    exact fun hX H locs la hH hS hla => lv_icmp_ge hx hb hd ht (fun z => absurd z hc) (fun _ => kk hX H locs la hH hS hla)
theorem k_if_ge (hq : e_B q own cc nl fr lo ret nm) {x : Int32} {off : Int} {tgt : Nat} {dc : Decidable (0 ≤ x)} (hd : decode cc pc = .ok (.ifCond .ge off, 3)) (ht : (pc : Int) + off = (tgt : Int)) (k1 : 0 ≤ x → e_K en q r0 h0 tgt ls st h X1) (k2 : ¬ (0 ≤ x) → e_K en q r0 h0 (pc + 3) ls st h X2) : e_K en q r0 h0 pc ls (.int x :: st) h (@ite _ (0 ≤ x) dc X1 X2) := by
  by_cases hc : 0 ≤ x
  · rw [if_pos hc]
    have kk := k1 hc
    clear k1 k2
    obtain ⟨p, l, e, R, s, m, args, below, meth, c, G, B0, nn, nL, c0, s0, Qf⟩ := q
    obtain ⟨hx, hb, -⟩ := hq
    exact fun hX H locs la hH hS hla => lv_if_ge hx hb hd ht (fun _ => kk hX H locs la hH hS hla) (fun z => absurd hc z)
  · rw [if_neg hc]
    have kk := k2 hc
    clear k1 k2
    obtain ⟨p, l, e, R, s, m, args, below, meth, c, G, B0, nn, nL, c0, s0, Qf⟩ := q
    obtain ⟨hx, hb, -⟩ := hq
    exact fun hX H locs la hH hS hla => lv_if_ge hx hb hd ht (fun z => absurd z hc) (fun _ => kk hX H locs la hH hS hla)
theorem k_icmp_gt (hq : e_B q own cc nl fr lo ret nm) {x y : Int32} {off : Int} {tgt : Nat} {dc : Decidable (y < x)} (hd : decode cc pc = .ok (.if_icmp .gt off, 3)) (ht : (pc : Int) + off = (tgt : Int)) (k1 : y < x → e_K en q r0 h0 tgt ls st h X1) (k2 : ¬ (y < x) → e_K en q r0 h0 (pc + 3) ls st h X2) : e_K en q r0 h0 pc ls (.int y :: .int x :: st) h (@ite _ (y < x) dc X1 X2) := by
  by_cases hc : y < x
  · rw [if_pos hc]
    have kk := k1 hc
    clear k1 k2
    obtain ⟨p, l, e, R, s, m, args, below, meth, c, G, B0, nn, nL, c0, s0, Qf⟩ := q
    obtain ⟨hx, hb, -⟩ := hq
    exact fun hX H locs la hH hS hla => lv_icmp_gt hx hb hd ht (fun _ => kk hX H locs la hH hS hla) (fun z => absurd hc z)
  · rw [if_neg hc]
    have kk := k2 hc
    clear k1 k2
    obtain ⟨p, l, e, R, s, m, args, below, meth, c, G, B0, nn, nL, c0, s0, Qf⟩ := q
    obtain ⟨hx, hb, -⟩ := hq
    exact fun hX H locs la hH hS hla => lv_icmp_gt hx hb hd ht (fun z => absurd z hc) (fun _ => kk hX H locs la hH hS hla)
theorem k_if_gt (hq : e_B q own cc nl fr lo ret nm) {x : Int32} {off : Int} {tgt : Nat} {dc : Decidable (0 < x)} (hd : decode cc pc = .ok (.ifCond .gt off, 3)) (ht : (pc : Int) + off = (tgt : Int)) (k1 : 0 < x → e_K en q r0 h0 tgt ls st h X1) (k2 : ¬ (0 < x) → e_K en q r0 h0 (pc + 3) ls st h X2) : e_K en q r0 h0 pc ls (.int x :: st) h (@ite _ (0 < x) dc X1 X2) := by
  by_cases hc : 0 < x
  · rw [if_pos hc]
    have kk := k1 hc
    clear k1 k2
    obtain ⟨p, l, e, R, s, m, args, below, meth, c, G, B0, nn, nL, c0, s0, Qf⟩ := q
    obtain ⟨hx, hb, -⟩ := hq
    exact fun hX H locs la hH hS hla => lv_if_gt hx hb hd ht (fun _ => kk hX H locs la hH hS hla) (fun z => absurd hc z)
  · rw [if_neg hc]
    have kk := k2 hc
    clear k1 k2
    obtain ⟨p, l, e, R, s, m, args, below, meth, c, G, B0, nn, nL, c0, s0, Qf⟩ := q
    obtain ⟨hx, hb, -⟩ := hq
    exact fun hX H locs la hH hS hla => lv_if_gt hx hb hd ht (fun z => absurd z hc) (fun _ => kk hX H locs la hH hS hla)
theorem k_icmp_le (hq : e_B q own cc nl fr lo ret nm) {x y : Int32} {off : Int} {tgt : Nat} {dc : Decidable (x ≤ y)} (hd : decode cc pc = .ok (.if_icmp .le off, 3)) (ht : (pc : Int) + off = (tgt : Int)) (k1 : x ≤ y → e_K en q r0 h0 tgt ls st h X1) (k2 : ¬ (x ≤ y) → e_K en q r0 h0 (pc + 3) ls st h X2) : e_K en q r0 h0 pc ls (.int y :: .int x :: st) h (@ite _ (x ≤ y) dc X1 X2) := by
  by_cases hc : x ≤ y
  · rw [if_pos hc]
    have kk := k1 hc
    clear k1 k2
    obtain ⟨p, l, e, R, s, m, args, below, meth, c, G, B0, nn, nL, c0, s0, Qf⟩ := q
    obtain ⟨hx, hb, -⟩ := hq
    exact fun hX H locs la hH hS hla => lv_icmp_le hx hb hd ht (fun _ => kk hX H locs la hH hS hla) (fun z => absurd hc z)
  · rw [if_neg hc]
    have kk := k2 hc
    clear k1 k2
    obtain ⟨p, l, e, R, s, m, args, below, meth, c, G, B0, nn, nL, c0, s0, Qf⟩ := q
    obtain ⟨hx, hb, -⟩ := hq
    exact fun hX H locs la hH hS hla => lv_icmp_le hx hb hd ht (fun z => absurd z hc) (fun _ => kk hX H locs la hH hS hla)
theorem k_if_le (hq : e_B q own cc nl fr lo ret nm) {x : Int32} {off : Int} {tgt : Nat} {dc : Decidable (x ≤ 0)} (hd : decode cc pc = .ok (.ifCond .le off, 3)) (ht : (pc : Int) + off = (tgt : Int)) (k1 : x ≤ 0 → e_K en q r0 h0 tgt ls st h X1) (k2 : ¬ (x ≤ 0) → e_K en q r0 h0 (pc + 3) ls st h X2) : e_K en q r0 h0 pc ls (.int x :: st) h (@ite _ (x ≤ 0) dc X1 X2) := by
  by_cases hc : x ≤ 0
  · rw [if_pos hc]
    have kk := k1 hc
    clear k1 k2
    obtain ⟨p, l, e, R, s, m, args, below, meth, c, G, B0, nn, nL, c0, s0, Qf⟩ := q
    obtain ⟨hx, hb, -⟩ := hq
    exact fun hX H locs la hH hS hla => lv_if_le hx hb hd ht (fun _ => kk hX H locs la hH hS hla) (fun z => absurd hc z)
  · rw [if_neg hc]
    have kk := k2 hc
    clear k1 k2
    obtain ⟨p, l, e, R, s, m, args, below, meth, c, G, B0, nn, nL, c0, s0, Qf⟩ := q
    obtain ⟨hx, hb, -⟩ := hq
    exact fun hX H locs la hH hS hla => lv_if_le hx hb hd ht (fun z => absurd z hc) (fun _ => kk hX H locs la hH hS hla)
theorem k_goto (hq : e_B q own cc nl fr lo ret nm) {off : Int} {tgt : Nat} (hd : decode cc pc = .ok (.goto off, 3)) (ht : (pc : Int) + off = (tgt : Int)) (kk : e_K en q r0 h0 tgt ls st h X) : e_K en q r0 h0 pc ls st h X := by
  obtain ⟨p, l, e, R, s, m, args, below, meth, c, G, B0, nn, nL, c0, s0, Qf⟩ := q
  obtain ⟨hx, hb, -⟩ := hq
  exact fun hX H locs la hH hS hla => lv_goto hx hb hd ht (kk hX H locs la hH hS hla)
theorem k_ifnull (hq : e_B q own cc nl fr lo ret nm) {off : Int} {tgt : Nat} {r : Option Nat} {f : Nat → Option (ρ × eH)} (hd : decode cc pc = .ok (.ifnull off, 3)) (ht : (pc : Int) + off = (tgt : Int)) (k1 : r = none → e_K en q r0 h0 tgt ls st h X1) (k2 : ∀ a, r = some a → e_K en q r0 h0 (pc + 3) ls st h (f a)) : e_K en q r0 h0 pc ls (va_rf r :: st) h (r.elim X1 f) := by
  cases r with
  | none =>
    have kk := k1 rfl
    clear k1 k2
    obtain ⟨p, l, e, R, s, m, args, below, meth, c, G, B0, nn, nL, c0, s0, Qf⟩ := q
    obtain ⟨hx, hb, -⟩ := hq
    exact fun hX H locs la hH hS hla => lv_ifnullN hx hb hd ht (kk hX H locs la hH hS hla)
  | some a =>
    have kk := k2 a rfl
    clear k1 k2
    obtain ⟨p, l, e, R, s, m, args, below, meth, c, G, B0, nn, nL, c0, s0, Qf⟩ := q
    obtain ⟨hx, hb, -⟩ := hq
    exact fun hX H locs la hH hS hla => lv_ifnull hx hb hd (kk hX H locs la hH hS hla)
theorem k_ifnonnull (hq : e_B q own cc nl fr lo ret nm) {off : Int} {tgt : Nat} {r : Option Nat} {f : Nat → Option (ρ × eH)} (hd : decode cc pc = .ok (.ifnonnull off, 3)) (ht : (pc : Int) + off = (tgt : Int)) (k1 : r = none → e_K en q r0 h0 (pc + 3) ls st h X1) (k2 : ∀ a, r = some a → e_K en q r0 h0 tgt ls st h (f a)) : e_K en q r0 h0 pc ls (va_rf r :: st) h (r.elim X1 f) := by
  cases r with
  | none =>
    have kk := k1 rfl
    clear k1 k2
    obtain ⟨p, l, e, R, s, m, args, below, meth, c, G, B0, nn, nL, c0, s0, Qf⟩ := q
    obtain ⟨hx, hb, -⟩ := hq
    exact fun hX H locs la hH hS hla => lv_ifnonnullN hx hb hd (kk hX H locs la hH hS hla)
  | some a =>
    have kk := k2 a rfl
    clear k1 k2
    obtain ⟨p, l, e, R, s, m, args, below, meth, c, G, B0, nn, nL, c0, s0, Qf⟩ := q
    obtain ⟨hx, hb, -⟩ := hq
    exact fun hX H locs la hH hS hla => lv_ifnonnull hx hb hd ht (kk hX H locs la hH hS hla)
theorem k_tableOut (hq : e_B q own cc nl fr lo ret nm) {dflt lo1 hi : Int} {offs : Array Int} {len tgt : Nat} {x : Int32} (hd : decode cc pc = .ok (.tableswitch dflt lo1 hi offs, len)) (hh : x.toInt < lo1 ∨ hi < x.toInt) (ht : (pc : Int) + dflt = (tgt : Int)) (kk : e_K en q r0 h0 tgt ls st h X) : e_K en q r0 h0 pc ls (.int x :: st) h X := by
  obtain ⟨p, l, e, R, s, m, args, below, meth, c, G, B0, nn, nL, c0, s0, Qf⟩ := q
  obtain ⟨hx, hb, -⟩ := hq
  exact fun hX H locs la hH hS hla => lv_tableOut hx hb hd hh ht (kk hX H locs la hH hS hla)
theorem k_tableIn (hq : e_B q own cc nl fr lo ret nm) {dflt lo1 hi : Int} {offs : Array Int} {len tgt : Nat} {x : Int32} {off : Int} (hd : decode cc pc = .ok (.tableswitch dflt lo1 hi offs, len)) (g1 : ¬ x.toInt < lo1) (g2 : ¬ hi < x.toInt) (ho : offs[(x.toInt - lo1).toNat]? = some off) (ht : (pc : Int) + off = (tgt : Int)) (kk : e_K en q r0 h0 tgt ls st h X) : e_K en q r0 h0 pc ls (.int x :: st) h X := by
  obtain ⟨p, l, e, R, s, m, args, below, meth, c, G, B0, nn, nL, c0, s0, Qf⟩ := q
  obtain ⟨hx, hb, -⟩ := hq
  exact fun hX H locs la hH hS hla => lv_tableIn hx hb hd g1 g2 ho ht (kk hX H locs la hH hS hla)
theorem k_idiv (hq : e_B q own cc nl fr lo ret nm) {x y : Int32} (hd : decode cc pc = .ok (.idiv, 1)) (kk : ¬ y = 0 → e_K en q r0 h0 (pc + 1) ls (.int (x / y) :: st) h X) : e_K en q r0 h0 pc ls (.int y :: .int x :: st) h (if y = 0 then none else X) := by
  by_cases hy : y = 0
  · rw [if_pos hy]; exact k_none rfl
  · rw [if_neg hy]
    have kk := kk hy
    obtain ⟨p, l, e, R, s, m, args, below, meth, c, G, B0, nn, nL, c0, s0, Qf⟩ := q
    obtain ⟨hx, hb, -⟩ := hq
    exact fun hX H locs la hH hS hla => lv_idiv hx hb hd hy (kk hX H locs la hH hS hla)
theorem k_irem (hq : e_B q own cc nl fr lo ret nm) {x y : Int32} (hd : decode cc pc = .ok (.irem, 1)) (kk : ¬ y = 0 → e_K en q r0 h0 (pc + 1) ls (.int (x - x / y * y) :: st) h X) : e_K en q r0 h0 pc ls (.int y :: .int x :: st) h (if y = 0 then none else X) := by
  by_cases hy : y = 0
  · rw [if_pos hy]; exact k_none rfl
  · rw [if_neg hy]
    have kk := kk hy
    obtain ⟨p, l, e, R, s, m, args, below, meth, c, G, B0, nn, nL, c0, s0, Qf⟩ := q
    obtain ⟨hx, hb, -⟩ := hq
    exact fun hX H locs la hH hS hla => lv_irem hx hb hd hy (kk hX H locs la hH hS hla)
theorem k_ldiv (hq : e_B q own cc nl fr lo ret nm) {x y : Int64} (hd : decode cc pc = .ok (.ldiv, 1)) (kk : ¬ y = 0 → e_K en q r0 h0 (pc + 1) ls (.long (x / y) :: st) h X) : e_K en q r0 h0 pc ls (.long y :: .long x :: st) h (if y = 0 then none else X) := by
  by_cases hy : y = 0
  · rw [if_pos hy]; exact k_none rfl
  · rw [if_neg hy]
    have kk := kk hy
    obtain ⟨p, l, e, R, s, m, args, below, meth, c, G, B0, nn, nL, c0, s0, Qf⟩ := q
    obtain ⟨hx, hb, -⟩ := hq
    exact fun hX H locs la hH hS hla => lv_ldiv hx hb hd hy (kk hX H locs la hH hS hla)
theorem k_lrem (hq : e_B q own cc nl fr lo ret nm) {x y : Int64} (hd : decode cc pc = .ok (.lrem, 1)) (kk : ¬ y = 0 → e_K en q r0 h0 (pc + 1) ls (.long (x - x / y * y) :: st) h X) : e_K en q r0 h0 pc ls (.long y :: .long x :: st) h (if y = 0 then none else X) := by
  by_cases hy : y = 0
  · rw [if_pos hy]; exact k_none rfl
  · rw [if_neg hy]
    have kk := kk hy
    obtain ⟨p, l, e, R, s, m, args, below, meth, c, G, B0, nn, nL, c0, s0, Qf⟩ := q
    obtain ⟨hx, hb, -⟩ := hq
    exact fun hX H locs la hH hS hla => lv_lrem hx hb hd hy (kk hX H locs la hH hS hla)
theorem h_ai_spec {h : eH} {t a : Nat} {i v : Int32} (hv : h_ai h t a i = some v) : ∃ (n : Nat) (f : Nat → Int32), h a = some (oI t n f) ∧ vp_in i n ∧ v = f i.toNatClampNeg := by
  unfold h_ai at hv
  split at hv
  · rename_i t' n f ho
    split at hv
    · rename_i hc
      obtain ⟨rfl, h1, h2⟩ := hc
      cases hv
      exact ⟨n, f, ho, fun z => z.elim h1 (fun z => absurd h2 (Nat.not_lt.mpr z)), rfl⟩
    · cases hv
  · cases hv
theorem h_al64_spec {h : eH} {a : Nat} {i : Int32} {v : Int64} (hv : h_al64 h a i = some v) : ∃ (n : Nat) (f : Nat → Int64), h a = some (oL 1 n f) ∧ vp_in i n ∧ v = f i.toNatClampNeg := by
  unfold h_al64 at hv
  split at hv
  · rename_i t' n f ho
    split at hv
    · rename_i hc
      obtain ⟨rfl, h1, h2⟩ := hc
      cases hv
      exact ⟨n, f, ho, fun z => z.elim h1 (fun z => absurd h2 (Nat.not_lt.mpr z)), rfl⟩
    · cases hv
  · cases hv
theorem h_ar_spec {h : eH} {t a : Nat} {i : Int32} {v : Nat} (hv : h_ar h t a i = some v) : ∃ (n : Nat) (f : Nat → Option Nat), h a = some (oR t n f) ∧ vp_in i n ∧ f i.toNatClampNeg = some v := by
  unfold h_ar at hv
  split at hv
  · rename_i t' n f ho
    split at hv
    · rename_i hc
      obtain ⟨rfl, h1, h2⟩ := hc
      exact ⟨n, f, ho, fun z => z.elim h1 (fun z => absurd h2 (Nat.not_lt.mpr z)), hv⟩
    · cases hv
  · cases hv
theorem h_len_spec {h : eH} {a : Nat} {v : Int32} (hv : h_len h a = some v) : ∃ (t : Nat) (x : vp_A), h a = some (.inl (t, x)) ∧ t < 6 ∧ v = Int32.ofNat x.1 := by
  unfold h_len at hv
  split at hv
  · rename_i t' n f ho
    split at hv
    · rename_i hc
      cases hv
      exact ⟨t', (n, f), ho, hc, rfl⟩
    · cases hv
  · cases hv
theorem h_si_spec {h h' : eH} {t a : Nat} {i x : Int32} (hv : h_si h t a i x = some h') : ∃ (n : Nat) (f : Nat → Int32), h a = some (oI t n f) ∧ vp_in i n ∧ h' = h_set h a (oI t n (upd f i.toNatClampNeg x)) := by
  unfold h_si at hv
  split at hv
  · rename_i t' n f ho
    split at hv
    · rename_i hc
      obtain ⟨rfl, h1, h2⟩ := hc
      cases hv
      exact ⟨n, f, ho, fun z => z.elim h1 (fun z => absurd h2 (Nat.not_lt.mpr z)), rfl⟩
    · cases hv
  · cases hv
theorem h_sl_spec {h h' : eH} {a : Nat} {i : Int32} {x : Int64} (hv : h_sl h a i x = some h') : ∃ (n : Nat) (f : Nat → Int64), h a = some (oL 1 n f) ∧ vp_in i n ∧ h' = h_set h a (oL 1 n (vp_updL f i.toNatClampNeg x)) := by
  unfold h_sl at hv
  split at hv
  · rename_i t' n f ho
    split at hv
    · rename_i hc
      obtain ⟨rfl, h1, h2⟩ := hc
      cases hv
      exact ⟨n, f, ho, fun z => z.elim h1 (fun z => absurd h2 (Nat.not_lt.mpr z)), rfl⟩
    · cases hv
  · cases hv
theorem h_sr_spec {h h' : eH} {t c a : Nat} {i : Int32} {x : Nat} (hv : h_sr h t c a i x = some h') : ∃ (n : Nat) (f : Nat → Option Nat) (V : Nat → Value), h a = some (oR t n f) ∧ h x = some (oB c V) ∧ vp_in i n ∧ h' = h_set h a (oR t n (va_up f i.toNatClampNeg (some x))) := by
  unfold h_sr at hv
  split at hv
  · rename_i t' n f ho
    split at hv
    · rename_i c' V hox
      split at hv
      · rename_i hc
        obtain ⟨rfl, rfl, h1, h2⟩ := hc
        cases hv
        exact ⟨n, f, V, ho, hox, fun z => z.elim h1 (fun z => absurd h2 (Nat.not_lt.mpr z)), rfl⟩
      · cases hv
    · cases hv
  · cases hv
theorem h_g_spec {h : eH} {c a k : Nat} {v : Value} (hv : h_g h c a k = some v) : ∃ V : Nat → Value, h a = some (oB c V) ∧ v = V k := by
  unfold h_g at hv
  split at hv
  · rename_i c' V ho
    split at hv
    · rename_i hc
      subst hc
      cases hv
      exact ⟨V, ho, rfl⟩
    · cases hv
  · cases hv
theorem h_gi_spec {h : eH} {c a k : Nat} {v : Int32} (hv : h_gi h c a k = some v) : h_g h c a k = some (.int v) := by
  unfold h_gi at hv
  obtain ⟨w, h1, h2⟩ := Option.bind_eq_some_iff.mp hv
  cases w <;> first | (cases h2; exact h1) | (cases h2)
theorem h_gl_spec {h : eH} {c a k : Nat} {v : Int64} (hv : h_gl h c a k = some v) : h_g h c a k = some (.long v) := by
  unfold h_gl at hv
  obtain ⟨w, h1, h2⟩ := Option.bind_eq_some_iff.mp hv
  cases w <;> first | (cases h2; exact h1) | (cases h2)
theorem h_gr_spec {h : eH} {c a k : Nat} {v : Nat} (hv : h_gr h c a k = some v) : h_g h c a k = some (.ref v) := by
  unfold h_gr at hv
  obtain ⟨w, h1, h2⟩ := Option.bind_eq_some_iff.mp hv
  cases w <;> first | (cases h2; exact h1) | (cases h2)
theorem h_p_spec {h h' : eH} {c a k : Nat} {v : Value} (hv : h_p h c a k v = some h') : ∃ V : Nat → Value, h a = some (oB c V) ∧ h' = h_set h a (oB c (updV V k v)) := by
  unfold h_p at hv
  split at hv
  · rename_i c' V ho
    split at hv
    · rename_i hc
      subst hc
      cases hv
      exact ⟨V, ho, rfl⟩
    · cases hv
  · cases hv
theorem h_is_spec {h : eH} {c a : Nat} {v : Unit} (hv : h_is h c a = some v) : ∃ V : Nat → Value, h a = some (oB c V) := by
  unfold h_is at hv
  split at hv
  · rename_i c' V ho
    split at hv
    · rename_i hc
      subst hc
      exact ⟨V, ho⟩
    · cases hv
  · cases hv
theorem h_z_spec {x v : Int32} (hv : h_z x = some v) : (x = 0 ∨ x = 1) ∧ v = x := by
  unfold h_z at hv
  split at hv
  · rename_i hc
    cases hv
    exact ⟨hc, rfl⟩
  · cases hv
theorem e_at.kept {G : eG} {a : Nat} {o : eO} {H H1 : Heap} (hh : e_at G a o H) (hq : H1[a]? = H[a]?) : e_at G a o H1 := by
  cases o with
  | inl x => exact hq.trans hh
  | inr x =>
    obtain ⟨r, h1, h2⟩ := hh
    exact ⟨r, h1, h2.kept hq⟩
theorem e_at.lt {G : eG} {a : Nat} {o : eO} {H : Heap} (hh : e_at G a o H) : a < H.size := by
  cases o with
  | inl x => exact (Array.getElem?_eq_some_iff.mp hh).1
  | inr x =>
    obtain ⟨r, h1, cell, h2, -⟩ := hh
    exact (Array.getElem?_eq_some_iff.mp h2).1
theorem e_Hs.set {G : eG} {B0 n : Nat} {h : eH} {a : Nat} {o o' : eO} {H H1 : Heap} (hH : e_Hs G B0 n h H) (ho : h a = some o) (he : e_at G a o' H1) (z : H1.size = H.size) (oq : ∀ q : Nat, q ≠ a → H1[q]? = H[q]?) : e_Hs G B0 n (h_set h a o') H1 := by
  refine ⟨by rw [z]; exact hH.1, fun b u hb => ?_⟩
  unfold h_set at hb
  split at hb
  · rename_i hba
    subst hba
    cases hb
    exact ⟨(hH.2 b o ho).1, he⟩
  · rename_i hba
    exact ⟨(hH.2 b u hb).1, (hH.2 b u hb).2.kept (oq b hba)⟩
theorem e_arr {G : eG} {U : State} {B0 : Nat} (hC : e_Cx G B0 U) (t : Nat) {ty : FieldType} (ht : (e_tys G)[t]? = some (G.2.1 t, ty)) : ArrOfT U (G.2.1 t) ty ∧ va_RA U (G.2.1 t) ty := hC.1.2 t _ ht

theorem k_iald (hq : e_B q own cc nl fr lo ret nm) {a : Nat} {i : Int32} {f : Int32 → Option (ρ × eH)} (hd : decode cc pc = .ok (.iaload, 1)) (kk : ∀ v, e_K en q r0 h0 (pc + 1) ls (.int v :: st) h (f v)) : e_K en q r0 h0 pc ls (.int i :: .ref a :: st) h ((h_ai h 0 a i).bind f) := by
  refine k_bind fun v hv => ?_
  have kk := kk v
  obtain ⟨n, g, ho, hin, hvv⟩ := h_ai_spec hv
  obtain ⟨p, l, e, R, s, m, args, below, meth, c, G, B0, nn, nL, c0, s0, Qf⟩ := q
  obtain ⟨hx, hb, hml, hnl, hown, hC, hlk, hfr, hlo, hret, hnm, hc0, hs0⟩ := hq
  refine fun hX H locs la hH hS hla => ?_
  have hlt : i.toNatClampNeg < n := Nat.not_le.mp fun z => hin (Or.inr z)
  have hat : H[a]? = some (vp_cell (G.2.1 0) (n, .inl g)) := (hH.2 a _ ho).2
  exact W.iald (v := .int v) hx hb hat ((e_arr hC 0 rfl).1 n (fun j => .int (g j))) (fun z => by cases z) (by show ¬ (i < 0 ∨ (arrV _ _ _).slots.size ≤ _); rw [arrV_size]; exact hin) (by show (arrV _ _ _).slots[_]? = _; rw [arrV_read _ _ hlt, hvv]) rfl rfl hd (kk hX H locs la hH hS hla)
theorem k_zald (hq : e_B q own cc nl fr lo ret nm) {a : Nat} {i : Int32} {f : Int32 → Option (ρ × eH)} (hd : decode cc pc = .ok (.baload, 1)) (kk : ∀ v, e_K en q r0 h0 (pc + 1) ls (.int v :: st) h (f v)) : e_K en q r0 h0 pc ls (.int i :: .ref a :: st) h ((h_ai h 2 a i).bind f) := by
  refine k_bind fun v hv => ?_
  have kk := kk v
  obtain ⟨n, g, ho, hin, hvv⟩ := h_ai_spec hv
  obtain ⟨p, l, e, R, s, m, args, below, meth, c, G, B0, nn, nL, c0, s0, Qf⟩ := q
  obtain ⟨hx, hb, hml, hnl, hown, hC, hlk, hfr, hlo, hret, hnm, hc0, hs0⟩ := hq
  refine fun hX H locs la hH hS hla => ?_
  have hlt : i.toNatClampNeg < n := Nat.not_le.mp fun z => hin (Or.inr z)
  have hat : H[a]? = some (vp_cell (G.2.1 2) (n, .inl g)) := (hH.2 a _ ho).2
  exact W.zald (v := .int v) hx hb hat ((e_arr hC 2 rfl).1 n (fun j => .int (g j))) (fun z => by cases z) (by show ¬ (i < 0 ∨ (arrV _ _ _).slots.size ≤ _); rw [arrV_size]; exact hin) (by show (arrV _ _ _).slots[_]? = _; rw [arrV_read _ _ hlt, hvv]) rfl rfl hd (kk hX H locs la hH hS hla)
theorem k_lald (hq : e_B q own cc nl fr lo ret nm) {a : Nat} {i : Int32} {f : Int64 → Option (ρ × eH)} (hd : decode cc pc = .ok (.laload, 1)) (kk : ∀ v, e_K en q r0 h0 (pc + 1) ls (.long v :: st) h (f v)) : e_K en q r0 h0 pc ls (.int i :: .ref a :: st) h ((h_al64 h a i).bind f) := by
  refine k_bind fun v hv => ?_
  have kk := kk v
  obtain ⟨n, g, ho, hin, hvv⟩ := h_al64_spec hv
  obtain ⟨p, l, e, R, s, m, args, below, meth, c, G, B0, nn, nL, c0, s0, Qf⟩ := q
  obtain ⟨hx, hb, hml, hnl, hown, hC, hlk, hfr, hlo, hret, hnm, hc0, hs0⟩ := hq
  refine fun hX H locs la hH hS hla => ?_
  have hlt : i.toNatClampNeg < n := Nat.not_le.mp fun z => hin (Or.inr z)
  have hat : H[a]? = some (vp_cell (G.2.1 1) (n, .inr (.inl g))) := (hH.2 a _ ho).2
  exact W.lald (v := .long v) hx hb hat ((e_arr hC 1 rfl).1 n (fun j => .long (g j))) (fun z => by cases z) (by show ¬ (i < 0 ∨ (arrV _ _ _).slots.size ≤ _); rw [arrV_size]; exact hin) (by show (arrV _ _ _).slots[_]? = _; rw [arrV_read _ _ hlt, hvv]) rfl rfl hd (kk hX H locs la hH hS hla)
theorem k_aald (hq : e_B q own cc nl fr lo ret nm) (t : Nat) {C : String} (hty : ∀ G : eG, (e_tys G)[t]? = some (G.2.1 t, .object C)) {a : Nat} {i : Int32} {f : Nat → Option (ρ × eH)} (hd : decode cc pc = .ok (.aaload, 1)) (kk : ∀ v, e_K en q r0 h0 (pc + 1) ls (.ref v :: st) h (f v)) : e_K en q r0 h0 pc ls (.int i :: .ref a :: st) h ((h_ar h t a i).bind f) := by
  refine k_bind fun v hv => ?_
  have kk := kk v
  obtain ⟨n, g, ho, hin, hvv⟩ := h_ar_spec hv
  obtain ⟨p, l, e, R, s, m, args, below, meth, c, G, B0, nn, nL, c0, s0, Qf⟩ := q
  obtain ⟨hx, hb, hml, hnl, hown, hC, hlk, hfr, hlo, hret, hnm, hc0, hs0⟩ := hq
  refine fun hX H locs la hH hS hla => ?_
  have hlt : i.toNatClampNeg < n := Nat.not_le.mp fun z => hin (Or.inr z)
  have hat : H[a]? = some (vp_cell (G.2.1 t) (n, .inr (.inr (.inr (.inr g))))) := (hH.2 a _ ho).2
  exact W.aald (v := .ref v) (ty := .object C) hx hb hat ((e_arr hC t (hty G)).1 n (fun j => va_rf (g j))) rfl (fun z => by cases z) (by show ¬ (i < 0 ∨ (arrV _ _ _).slots.size ≤ _); rw [arrV_size]; exact hin) (by show (arrV _ _ _).slots[_]? = _; rw [arrV_read _ _ hlt, hvv]; rfl) rfl rfl hd (kk hX H locs la hH hS hla)
theorem k_alen (hq : e_B q own cc nl fr lo ret nm) {a : Nat} {f : Int32 → Option (ρ × eH)} (hd : decode cc pc = .ok (.arraylength, 1)) (kk : ∀ v, e_K en q r0 h0 (pc + 1) ls (.int v :: st) h (f v)) : e_K en q r0 h0 pc ls (.ref a :: st) h ((h_len h a).bind f) := by
  refine k_bind fun v hv => ?_
  have kk := kk v
  obtain ⟨t, x, ho, ht6, rfl⟩ := h_len_spec hv
  obtain ⟨p, l, e, R, s, m, args, below, meth, c, G, B0, nn, nL, c0, s0, Qf⟩ := q
  obtain ⟨hx, hb, hml, hnl, hown, hC, hlk, hfr, hlo, hret, hnm, hc0, hs0⟩ := hq
  refine fun hX H locs la hH hS hla => ?_
  have hty : ∃ ty, (e_tys G)[t]? = some (G.2.1 t, ty) := by
    rcases (show t = 0 ∨ t = 1 ∨ t = 2 ∨ t = 3 ∨ t = 4 ∨ t = 5 by omega) with rfl | rfl | rfl | rfl | rfl | rfl <;> exact ⟨_, rfl⟩
  obtain ⟨ty, hty⟩ := hty
  have hat : va_P G.1 vwCl [(a, .inl (G.2.1 t, x))] H := by
    intro k z hz
    cases k with
    | zero => cases hz; exact (hH.2 a _ ho).2
    | succ k => cases hz
  exact va_alen (q0 := 0) (t0 := t) hx hb hC.1 hat rfl hty rfl hd (kk hX H locs la hH hS hla)
theorem k_iast (hq : e_B q own cc nl fr lo ret nm) {a : Nat} {i : Int32} {x : Int32} {f : eH → Option (ρ × eH)} (hd : decode cc pc = .ok (.iastore, 1)) (kk : ∀ h', e_K en q r0 h0 (pc + 1) ls st h' (f h')) : e_K en q r0 h0 pc ls (.int x :: .int i :: .ref a :: st) h ((h_si h 0 a i (x)).bind f) := by
  refine k_bind fun v hv => ?_
  have kk := kk v
  obtain ⟨n, g, ho, hin, rfl⟩ := h_si_spec hv
  obtain ⟨p, l, e, R, s, m, args, below, meth, c, G, B0, nn, nL, c0, s0, Qf⟩ := q
  obtain ⟨hx, hb, hml, hnl, hown, hC, hlk, hfr, hlo, hret, hnm, hc0, hs0⟩ := hq
  refine fun hX H locs la hH hS hla => ?_
  have hat : H[a]? = some (vp_cell (G.2.1 0) (n, .inl g)) := (hH.2 a _ ho).2
  refine W.iast hx hb hat ((e_arr hC 0 rfl).1 n (fun j => .int (g j))) (fun z => by cases z) (by show ¬ (i < 0 ∨ (arrV _ _ _).slots.size ≤ _); rw [arrV_size]; exact hin) rfl rfl hd fun H1 e1 z1 o1 => ?_
  refine kk hX H1 _ la (hH.set ho ?_ z1 o1) (hS.put z1 o1 (hH.2 a _ ho).1) hla
  show H1[a]? = some (vp_cell _ _)
  rw [e1, vp_cell_i, vp_cell_i, arrV_store]
  congr 2
  funext w
  by_cases hw : w = i.toNatClampNeg
  · subst hw
    simp [updV, upd]
  · simp [updV, upd, vp_updL, va_up, hw]
theorem k_zast (hq : e_B q own cc nl fr lo ret nm) {a : Nat} {i : Int32} {x : Int32} {f : eH → Option (ρ × eH)} (hd : decode cc pc = .ok (.bastore, 1)) (kk : ∀ h', e_K en q r0 h0 (pc + 1) ls st h' (f h')) : e_K en q r0 h0 pc ls (.int x :: .int i :: .ref a :: st) h ((h_si h 2 a i (vp_nar .boolean x)).bind f) := by
  refine k_bind fun v hv => ?_
  have kk := kk v
  obtain ⟨n, g, ho, hin, rfl⟩ := h_si_spec hv
  obtain ⟨p, l, e, R, s, m, args, below, meth, c, G, B0, nn, nL, c0, s0, Qf⟩ := q
  obtain ⟨hx, hb, hml, hnl, hown, hC, hlk, hfr, hlo, hret, hnm, hc0, hs0⟩ := hq
  refine fun hX H locs la hH hS hla => ?_
  have hat : H[a]? = some (vp_cell (G.2.1 2) (n, .inl g)) := (hH.2 a _ ho).2
  refine W.zast hx hb hat ((e_arr hC 2 rfl).1 n (fun j => .int (g j))) (fun z => by cases z) (by show ¬ (i < 0 ∨ (arrV _ _ _).slots.size ≤ _); rw [arrV_size]; exact hin) rfl rfl hd fun H1 e1 z1 o1 => ?_
  refine kk hX H1 _ la (hH.set ho ?_ z1 o1) (hS.put z1 o1 (hH.2 a _ ho).1) hla
  show H1[a]? = some (vp_cell _ _)
  rw [e1, vp_cell_i, vp_cell_i, arrV_store]
  congr 2
  funext w
  by_cases hw : w = i.toNatClampNeg
  · subst hw
    simp [updV, upd, vp_nar]
    try rfl
  · simp [updV, upd, vp_updL, va_up, hw]
theorem k_last (hq : e_B q own cc nl fr lo ret nm) {a : Nat} {i : Int32} {x : Int64} {f : eH → Option (ρ × eH)} (hd : decode cc pc = .ok (.lastore, 1)) (kk : ∀ h', e_K en q r0 h0 (pc + 1) ls st h' (f h')) : e_K en q r0 h0 pc ls (.long x :: .int i :: .ref a :: st) h ((h_sl h a i (x)).bind f) := by
  refine k_bind fun v hv => ?_
  have kk := kk v
  obtain ⟨n, g, ho, hin, rfl⟩ := h_sl_spec hv
  obtain ⟨p, l, e, R, s, m, args, below, meth, c, G, B0, nn, nL, c0, s0, Qf⟩ := q
  obtain ⟨hx, hb, hml, hnl, hown, hC, hlk, hfr, hlo, hret, hnm, hc0, hs0⟩ := hq
  refine fun hX H locs la hH hS hla => ?_
  have hat : H[a]? = some (vp_cell (G.2.1 1) (n, .inr (.inl g))) := (hH.2 a _ ho).2
  refine W.last hx hb hat ((e_arr hC 1 rfl).1 n (fun j => .long (g j))) (fun z => by cases z) (by show ¬ (i < 0 ∨ (arrV _ _ _).slots.size ≤ _); rw [arrV_size]; exact hin) rfl rfl hd fun H1 e1 z1 o1 => ?_
  refine kk hX H1 _ la (hH.set ho ?_ z1 o1) (hS.put z1 o1 (hH.2 a _ ho).1) hla
  show H1[a]? = some (vp_cell _ _)
  rw [e1, vp_cell_l, vp_cell_l, arrV_store]
  congr 2
  funext w
  by_cases hw : w = i.toNatClampNeg
  · subst hw
    simp [updV, vp_updL]
  · simp [updV, upd, vp_updL, va_up, hw]
theorem k_aast (hq : e_B q own cc nl fr lo ret nm) (t ci : Nat) {r1 : vw_C} (hty : ∀ G : eG, (e_tys G)[t]? = some (G.2.1 t, .object r1.1)) (hci : vwCl[ci]? = some r1) {a x : Nat} {i : Int32} {f : eH → Option (ρ × eH)} (hd : decode cc pc = .ok (.aastore, 1)) (kk : ∀ h', e_K en q r0 h0 (pc + 1) ls st h' (f h')) : e_K en q r0 h0 pc ls (.ref x :: .int i :: .ref a :: st) h ((h_sr h t ci a i x).bind f) := by
  refine k_bind fun v hv => ?_
  have kk := kk v
  obtain ⟨n, g, V, ho, hox, hin, rfl⟩ := h_sr_spec hv
  obtain ⟨p, l, e, R, s, m, args, below, meth, c, G, B0, nn, nL, c0, s0, Qf⟩ := q
  obtain ⟨hx, hb, hml, hnl, hown, hC, hlk, hfr, hlo, hret, hnm, hc0, hs0⟩ := hq
  refine fun hX H locs la hH hS hla => ?_
  have hlt : i.toNatClampNeg < n := Nat.not_le.mp fun z => hin (Or.inr z)
  have hi0 : ¬ i < 0 := fun z => hin (Or.inl z)
  have hat : H[a]? = some (vp_cell (G.2.1 t) (n, .inr (.inr (.inr (.inr g))))) := (hH.2 a _ ho).2
  obtain ⟨r', hr', cellV, g1, g2, g3, -⟩ := (hH.2 x _ hox).2
  have hcls := (hC.1.1 ci r1 hci).2
  obtain ⟨kA, comp, k1, k2, k3, -⟩ := (e_arr hC t (hty G)).2
  have hcomp : comp = G.1.1 ci := Option.some.inj (k3.symm.trans hcls.1)
  subst hcomp
  obtain ⟨kC, hkC, -⟩ := hcls.2
  refine W.aast hx hb hat (fun w z => by cases z) (fun z => by cases z) k1 k2 rfl hkC ⟨hi0, by show _ < (arrV _ _ _).slots.size; rw [arrV_size]; exact hlt⟩ g1 (fun w z => by rw [g3] at z; cases z) (by rw [g2]; exact hkC) (by rw [g2]; exact va_assign hcls) rfl rfl hd fun H1 e1 z1 o1 => ?_
  refine kk hX H1 _ la (hH.set ho ?_ z1 o1) (hS.put z1 o1 (hH.2 a _ ho).1) hla
  show H1[a]? = some (vp_cell _ _)
  rw [e1, vp_cell_q, vp_cell_q, arrV_store]
  congr 2
  funext w
  by_cases hw : w = i.toNatClampNeg
  · subst hw
    simp [updV, va_up, va_rf]
  · simp [updV, va_up, hw]
theorem k_gi (hq : e_B q own cc nl fr lo ret nm) {C : String} {T : u_T} {N : Nat} (ci k : Nat) {index : Nat} (hci : vwCl[ci]? = some (C, T, N)) (hk : k < N) (hlay : e_in (u_lay C T k)) (hlink : e_in (.fieldLink own index (T k).1 (T k).2.1 (T k).2.2.1)) {a : Nat} {f : Int32 → Option (ρ × eH)} (hd : decode cc pc = .ok (.getfield index, 3)) (kk : ∀ v, e_K en q r0 h0 (pc + 3) ls (.int v :: st) h (f v)) : e_K en q r0 h0 pc ls (.ref a :: st) h ((h_gi h ci a k).bind f) := by
  refine k_bind fun v hv => ?_
  have kk := kk v
  obtain ⟨V, ho, hvv⟩ := h_g_spec (h_gi_spec hv)
  obtain ⟨p, l, e, R, s, m, args, below, meth, c, G, B0, nn, nL, c0, s0, Qf⟩ := q
  obtain ⟨hx, hb, hml, hnl, hown, hC, hlk, hfr, hlo, hret, hnm, hc0, hs0⟩ := hq
  refine fun hX H locs la hH hS hla => ?_
  obtain ⟨r, hr, cell, q1, q2, q3, q4⟩ := (hH.2 a _ ho).2
  have hrr : r = (C, T, N) := Option.some.inj (hr.symm.trans hci)
  subst hrr
  obtain ⟨hSl, hfc, kC, hkC, hkind⟩ := hC.1.1 ci _ hci
  obtain ⟨cf, kf, fi, fd, hi, hsl⟩ := hSl k hk
  have hly := hC.2.1 _ hlay args
  have hly2 : (Cond.lays C (T k).1 (T k).2.1 (T k).2.2.1).before args s = true ∨ (Cond.laysFinal C (T k).1 (T k).2.1 (T k).2.2.1).before args s = true := by
    unfold u_lay at hly
    split at hly
    · exact Or.inr hly
    · exact Or.inl hly
  exact W.getf hx hb hown (hC.2.1 _ hlink _) hi (u_facts hfc hkC hly2 hi).1 q1 (by rw [q3]; exact fun z => by cases z) (v := .int v) (by rw [hsl, q4 k hk, hvv]) rfl rfl hd (kk hX H locs la hH hS hla)
theorem k_gl (hq : e_B q own cc nl fr lo ret nm) {C : String} {T : u_T} {N : Nat} (ci k : Nat) {index : Nat} (hci : vwCl[ci]? = some (C, T, N)) (hk : k < N) (hlay : e_in (u_lay C T k)) (hlink : e_in (.fieldLink own index (T k).1 (T k).2.1 (T k).2.2.1)) {a : Nat} {f : Int64 → Option (ρ × eH)} (hd : decode cc pc = .ok (.getfield index, 3)) (kk : ∀ v, e_K en q r0 h0 (pc + 3) ls (.long v :: st) h (f v)) : e_K en q r0 h0 pc ls (.ref a :: st) h ((h_gl h ci a k).bind f) := by
  refine k_bind fun v hv => ?_
  have kk := kk v
  obtain ⟨V, ho, hvv⟩ := h_g_spec (h_gl_spec hv)
  obtain ⟨p, l, e, R, s, m, args, below, meth, c, G, B0, nn, nL, c0, s0, Qf⟩ := q
  obtain ⟨hx, hb, hml, hnl, hown, hC, hlk, hfr, hlo, hret, hnm, hc0, hs0⟩ := hq
  refine fun hX H locs la hH hS hla => ?_
  obtain ⟨r, hr, cell, q1, q2, q3, q4⟩ := (hH.2 a _ ho).2
  have hrr : r = (C, T, N) := Option.some.inj (hr.symm.trans hci)
  subst hrr
  obtain ⟨hSl, hfc, kC, hkC, hkind⟩ := hC.1.1 ci _ hci
  obtain ⟨cf, kf, fi, fd, hi, hsl⟩ := hSl k hk
  have hly := hC.2.1 _ hlay args
  have hly2 : (Cond.lays C (T k).1 (T k).2.1 (T k).2.2.1).before args s = true ∨ (Cond.laysFinal C (T k).1 (T k).2.1 (T k).2.2.1).before args s = true := by
    unfold u_lay at hly
    split at hly
    · exact Or.inr hly
    · exact Or.inl hly
  exact W.getf hx hb hown (hC.2.1 _ hlink _) hi (u_facts hfc hkC hly2 hi).1 q1 (by rw [q3]; exact fun z => by cases z) (v := .long v) (by rw [hsl, q4 k hk, hvv]) rfl rfl hd (kk hX H locs la hH hS hla)
theorem k_gr (hq : e_B q own cc nl fr lo ret nm) {C : String} {T : u_T} {N : Nat} (ci k : Nat) {index : Nat} (hci : vwCl[ci]? = some (C, T, N)) (hk : k < N) (hlay : e_in (u_lay C T k)) (hlink : e_in (.fieldLink own index (T k).1 (T k).2.1 (T k).2.2.1)) {a : Nat} {f : Nat → Option (ρ × eH)} (hd : decode cc pc = .ok (.getfield index, 3)) (kk : ∀ v, e_K en q r0 h0 (pc + 3) ls (.ref v :: st) h (f v)) : e_K en q r0 h0 pc ls (.ref a :: st) h ((h_gr h ci a k).bind f) := by
  refine k_bind fun v hv => ?_
  have kk := kk v
  obtain ⟨V, ho, hvv⟩ := h_g_spec (h_gr_spec hv)
  obtain ⟨p, l, e, R, s, m, args, below, meth, c, G, B0, nn, nL, c0, s0, Qf⟩ := q
  obtain ⟨hx, hb, hml, hnl, hown, hC, hlk, hfr, hlo, hret, hnm, hc0, hs0⟩ := hq
  refine fun hX H locs la hH hS hla => ?_
  obtain ⟨r, hr, cell, q1, q2, q3, q4⟩ := (hH.2 a _ ho).2
  have hrr : r = (C, T, N) := Option.some.inj (hr.symm.trans hci)
  subst hrr
  obtain ⟨hSl, hfc, kC, hkC, hkind⟩ := hC.1.1 ci _ hci
  obtain ⟨cf, kf, fi, fd, hi, hsl⟩ := hSl k hk
  have hly := hC.2.1 _ hlay args
  have hly2 : (Cond.lays C (T k).1 (T k).2.1 (T k).2.2.1).before args s = true ∨ (Cond.laysFinal C (T k).1 (T k).2.1 (T k).2.2.1).before args s = true := by
    unfold u_lay at hly
    split at hly
    · exact Or.inr hly
    · exact Or.inl hly
  exact W.getf hx hb hown (hC.2.1 _ hlink _) hi (u_facts hfc hkC hly2 hi).1 q1 (by rw [q3]; exact fun z => by cases z) (v := .ref v) (by rw [hsl, q4 k hk, hvv]) rfl rfl hd (kk hX H locs la hH hS hla)
theorem k_giN (hq : e_B q own cc nl fr lo ret nm) {C : String} {T : u_T} {N : Nat} (ci k : Nat) {index : Nat} (hci : vwCl[ci]? = some (C, T, N)) (hk : k < N) (hlay : e_in (u_lay C T k)) (hlink : e_nin (.fieldLinkNest own index (T k).1 (T k).2.1 (T k).2.2.1 "SideVersions")) {a : Nat} {f : Int32 → Option (ρ × eH)} (hd : decode cc pc = .ok (.getfield index, 3)) (kk : ∀ v, e_K en q r0 h0 (pc + 3) ls (.int v :: st) h (f v)) : e_K en q r0 h0 pc ls (.ref a :: st) h ((h_gi h ci a k).bind f) := by
  refine k_bind fun v hv => ?_
  have kk := kk v
  obtain ⟨V, ho, hvv⟩ := h_g_spec (h_gi_spec hv)
  obtain ⟨p, l, e, R, s, m, args, below, meth, c, G, B0, nn, nL, c0, s0, Qf⟩ := q
  obtain ⟨hx, hb, hml, hnl, hown, hC, hlk, hfr, hlo, hret, hnm, hc0, hs0⟩ := hq
  refine fun hX H locs la hH hS hla => ?_
  obtain ⟨r, hr, cell, q1, q2, q3, q4⟩ := (hH.2 a _ ho).2
  have hrr : r = (C, T, N) := Option.some.inj (hr.symm.trans hci)
  subst hrr
  obtain ⟨hSl, hfc, kC, hkC, hkind⟩ := hC.1.1 ci _ hci
  obtain ⟨cf, kf, fi, fd, hi, hsl⟩ := hSl k hk
  have hly := hC.2.1 _ hlay args
  have hly2 : (Cond.lays C (T k).1 (T k).2.1 (T k).2.2.1).before args s = true ∨ (Cond.laysFinal C (T k).1 (T k).2.1 (T k).2.2.1).before args s = true := by
    unfold u_lay at hly
    split at hly
    · exact Or.inr hly
    · exact Or.inl hly
  exact va_Wgetf hx hb hown (va_Nw.use rfl (hC.2.2.1 _ hlink)) hi (u_facts hfc hkC hly2 hi).1 q1 (by rw [q3]; exact fun z => by cases z) (v := .int v) (by rw [hsl, q4 k hk, hvv]) rfl rfl hd (kk hX H locs la hH hS hla)
theorem k_glN (hq : e_B q own cc nl fr lo ret nm) {C : String} {T : u_T} {N : Nat} (ci k : Nat) {index : Nat} (hci : vwCl[ci]? = some (C, T, N)) (hk : k < N) (hlay : e_in (u_lay C T k)) (hlink : e_nin (.fieldLinkNest own index (T k).1 (T k).2.1 (T k).2.2.1 "SideVersions")) {a : Nat} {f : Int64 → Option (ρ × eH)} (hd : decode cc pc = .ok (.getfield index, 3)) (kk : ∀ v, e_K en q r0 h0 (pc + 3) ls (.long v :: st) h (f v)) : e_K en q r0 h0 pc ls (.ref a :: st) h ((h_gl h ci a k).bind f) := by
  refine k_bind fun v hv => ?_
  have kk := kk v
  obtain ⟨V, ho, hvv⟩ := h_g_spec (h_gl_spec hv)
  obtain ⟨p, l, e, R, s, m, args, below, meth, c, G, B0, nn, nL, c0, s0, Qf⟩ := q
  obtain ⟨hx, hb, hml, hnl, hown, hC, hlk, hfr, hlo, hret, hnm, hc0, hs0⟩ := hq
  refine fun hX H locs la hH hS hla => ?_
  obtain ⟨r, hr, cell, q1, q2, q3, q4⟩ := (hH.2 a _ ho).2
  have hrr : r = (C, T, N) := Option.some.inj (hr.symm.trans hci)
  subst hrr
  obtain ⟨hSl, hfc, kC, hkC, hkind⟩ := hC.1.1 ci _ hci
  obtain ⟨cf, kf, fi, fd, hi, hsl⟩ := hSl k hk
  have hly := hC.2.1 _ hlay args
  have hly2 : (Cond.lays C (T k).1 (T k).2.1 (T k).2.2.1).before args s = true ∨ (Cond.laysFinal C (T k).1 (T k).2.1 (T k).2.2.1).before args s = true := by
    unfold u_lay at hly
    split at hly
    · exact Or.inr hly
    · exact Or.inl hly
  exact va_Wgetf hx hb hown (va_Nw.use rfl (hC.2.2.1 _ hlink)) hi (u_facts hfc hkC hly2 hi).1 q1 (by rw [q3]; exact fun z => by cases z) (v := .long v) (by rw [hsl, q4 k hk, hvv]) rfl rfl hd (kk hX H locs la hH hS hla)
theorem k_grN (hq : e_B q own cc nl fr lo ret nm) {C : String} {T : u_T} {N : Nat} (ci k : Nat) {index : Nat} (hci : vwCl[ci]? = some (C, T, N)) (hk : k < N) (hlay : e_in (u_lay C T k)) (hlink : e_nin (.fieldLinkNest own index (T k).1 (T k).2.1 (T k).2.2.1 "SideVersions")) {a : Nat} {f : Nat → Option (ρ × eH)} (hd : decode cc pc = .ok (.getfield index, 3)) (kk : ∀ v, e_K en q r0 h0 (pc + 3) ls (.ref v :: st) h (f v)) : e_K en q r0 h0 pc ls (.ref a :: st) h ((h_gr h ci a k).bind f) := by
  refine k_bind fun v hv => ?_
  have kk := kk v
  obtain ⟨V, ho, hvv⟩ := h_g_spec (h_gr_spec hv)
  obtain ⟨p, l, e, R, s, m, args, below, meth, c, G, B0, nn, nL, c0, s0, Qf⟩ := q
  obtain ⟨hx, hb, hml, hnl, hown, hC, hlk, hfr, hlo, hret, hnm, hc0, hs0⟩ := hq
  refine fun hX H locs la hH hS hla => ?_
  obtain ⟨r, hr, cell, q1, q2, q3, q4⟩ := (hH.2 a _ ho).2
  have hrr : r = (C, T, N) := Option.some.inj (hr.symm.trans hci)
  subst hrr
  obtain ⟨hSl, hfc, kC, hkC, hkind⟩ := hC.1.1 ci _ hci
  obtain ⟨cf, kf, fi, fd, hi, hsl⟩ := hSl k hk
  have hly := hC.2.1 _ hlay args
  have hly2 : (Cond.lays C (T k).1 (T k).2.1 (T k).2.2.1).before args s = true ∨ (Cond.laysFinal C (T k).1 (T k).2.1 (T k).2.2.1).before args s = true := by
    unfold u_lay at hly
    split at hly
    · exact Or.inr hly
    · exact Or.inl hly
  exact va_Wgetf hx hb hown (va_Nw.use rfl (hC.2.2.1 _ hlink)) hi (u_facts hfc hkC hly2 hi).1 q1 (by rw [q3]; exact fun z => by cases z) (v := .ref v) (by rw [hsl, q4 k hk, hvv]) rfl rfl hd (kk hX H locs la hH hS hla)
theorem k_p (hq : e_B q own cc nl fr lo ret nm) {C : String} {T : u_T} {N : Nat} (ci k : Nat) {index : Nat} (hci : vwCl[ci]? = some (C, T, N)) (hk : k < N) (hlays : ∀ z, z < N → e_in (u_lay C T z)) (ty0 : Nat → FieldType) (hty : ∀ k, k < N → parseFieldDescriptor (T k).2.2.1 = some (ty0 k)) (hnmT : ∀ a, a < N → ∀ b, b < N → a ≠ b → (T a).2.1 ≠ (T b).2.1) (hlink : e_in (.fieldLink own index (T k).1 (T k).2.1 (T k).2.2.1)) (hfin : (T k).2.2.2 = false) {a : Nat} {v : Value} {f : eH → Option (ρ × eH)} (hn : narrow (ty0 k) v = v) (hfit : fits (ty0 k) v = true) (hd : decode cc pc = .ok (.putfield index, 3)) (kk : ∀ h', e_K en q r0 h0 (pc + 3) ls st h' (f h')) : e_K en q r0 h0 pc ls (v :: .ref a :: st) h ((h_p h ci a k v).bind f) := by
  refine k_bind fun h' hv => ?_
  have kk := kk h'
  obtain ⟨V, ho, rfl⟩ := h_p_spec hv
  obtain ⟨p, l, e, R, s, m, args, below, meth, c, G, B0, nn, nL, c0, s0, Qf⟩ := q
  obtain ⟨hx, hb, hml, hnl, hown, hC, hlk, hfr, hlo, hret, hnm, hc0, hs0⟩ := hq
  refine fun hX H locs la hH hS hla => ?_
  obtain ⟨r, hr, cell, q1, q2, q3, q4⟩ := (hH.2 a _ ho).2
  have hrr : r = (C, T, N) := Option.some.inj (hr.symm.trans hci)
  subst hrr
  obtain ⟨hSl, hfc, kC, hkC, hkind⟩ := hC.1.1 ci _ hci
  obtain ⟨cf, kf, fi, fd, hi, hsl⟩ := hSl k hk
  have hap : ∀ x y, x < N → y < N → x ≠ y → (G.1.2 ci) x ≠ (G.1.2 ci) y := by
    intro x y hxN hyN hne
    obtain ⟨_, _, _, fa, hia, ea⟩ := hSl x hxN
    obtain ⟨_, _, _, fb, hib, eb⟩ := hSl y hyN
    have gl : ∀ z, z < N → (Cond.lays C (T z).1 (T z).2.1 (T z).2.2.1).before args s = true ∨ (Cond.laysFinal C (T z).1 (T z).2.1 (T z).2.2.1).before args s = true := by
      intro z hz
      have hly := hC.2.1 _ (hlays z hz) args
      unfold u_lay at hly
      split at hly
      · exact Or.inr hly
      · exact Or.inl hly
    rw [← ea, ← eb]
    refine u_apart (gl x hxN) (gl y hyN) hia hib ?_
    rw [(State.fieldFound?_type hia (hty x hxN)).1, (State.fieldFound?_type hib (hty y hyN)).1]
    exact hnmT x hxN y hyN hne
  have hlay := hC.2.1 _ (hlays k hk) args
  unfold u_lay at hlay
  rw [if_neg (by rw [hfin]; decide)] at hlay
  have hst := (u_facts hfc hkC (Or.inl hlay) hi).1
  have h6 := u_store hfc hkC hkind hlay hi (hty k hk) hn hfit
  refine W.putK hx hb (f := fd) ⟨hown, (hC.2.1 _ hlink _), ⟨_, _, _, hi⟩, hst⟩ (by rw [q2]; exact h6) q1 q3 (by rw [hsl]; exact k2_hasslot (q4 k hk)) rfl rfl hd fun H1 e1 e3 e4 => ?_
  rw [hsl] at e1
  exact kk hX H1 _ la (hH.set ho ⟨_, hci, _, e1, q2, q3, t_set q4 hap hk v⟩ e3 e4) (hS.put e3 e4 (hH.2 a _ ho).1) hla
theorem k_pF (hq : e_B q own cc nl fr lo ret nm) {C : String} {T : u_T} {N : Nat} (ci k : Nat) {index : Nat} (hci : vwCl[ci]? = some (C, T, N)) (hk : k < N) (hlays : ∀ z, z < N → e_in (u_lay C T z)) (ty0 : Nat → FieldType) (hty : ∀ k, k < N → parseFieldDescriptor (T k).2.2.1 = some (ty0 k)) (hnmT : ∀ a, a < N → ∀ b, b < N → a ≠ b → (T a).2.1 ≠ (T b).2.1) (hlink : e_in (.fieldLink own index (T k).1 (T k).2.1 (T k).2.2.1)) (hfin : (T k).2.2.2 = true) (hdecl : (T k).1 = own) (hinit : nm = "<init>") {a : Nat} {v : Value} {f : eH → Option (ρ × eH)} (hn : narrow (ty0 k) v = v) (hfit : fits (ty0 k) v = true) (hd : decode cc pc = .ok (.putfield index, 3)) (kk : ∀ h', e_K en q r0 h0 (pc + 3) ls st h' (f h')) : e_K en q r0 h0 pc ls (v :: .ref a :: st) h ((h_p h ci a k v).bind f) := by
  refine k_bind fun h' hv => ?_
  have kk := kk h'
  obtain ⟨V, ho, rfl⟩ := h_p_spec hv
  obtain ⟨p, l, e, R, s, m, args, below, meth, c, G, B0, nn, nL, c0, s0, Qf⟩ := q
  obtain ⟨hx, hb, hml, hnl, hown, hC, hlk, hfr, hlo, hret, hnm, hc0, hs0⟩ := hq
  refine fun hX H locs la hH hS hla => ?_
  obtain ⟨r, hr, cell, q1, q2, q3, q4⟩ := (hH.2 a _ ho).2
  have hrr : r = (C, T, N) := Option.some.inj (hr.symm.trans hci)
  subst hrr
  obtain ⟨hSl, hfc, kC, hkC, hkind⟩ := hC.1.1 ci _ hci
  obtain ⟨cf, kf, fi, fd, hi, hsl⟩ := hSl k hk
  have hap : ∀ x y, x < N → y < N → x ≠ y → (G.1.2 ci) x ≠ (G.1.2 ci) y := by
    intro x y hxN hyN hne
    obtain ⟨_, _, _, fa, hia, ea⟩ := hSl x hxN
    obtain ⟨_, _, _, fb, hib, eb⟩ := hSl y hyN
    have gl : ∀ z, z < N → (Cond.lays C (T z).1 (T z).2.1 (T z).2.2.1).before args s = true ∨ (Cond.laysFinal C (T z).1 (T z).2.1 (T z).2.2.1).before args s = true := by
      intro z hz
      have hly := hC.2.1 _ (hlays z hz) args
      unfold u_lay at hly
      split at hly
      · exact Or.inr hly
      · exact Or.inl hly
    rw [← ea, ← eb]
    refine u_apart (gl x hxN) (gl y hyN) hia hib ?_
    rw [(State.fieldFound?_type hia (hty x hxN)).1, (State.fieldFound?_type hib (hty y hyN)).1]
    exact hnmT x hxN y hyN hne
  have hlay := hC.2.1 _ (hlays k hk) args
  unfold u_lay at hlay
  rw [if_pos hfin] at hlay
  have hst := (u_facts hfc hkC (Or.inr hlay) hi).1
  have hcf : m.cls = cf := by
    obtain ⟨_, _, c', _, _, _, -, -, hf', -, -, -, hown2, -⟩ := Cond.laysFinal_spec hlay
    have e1 : c' = cf := by have := hi.symm.trans hf'; simp at this; exact this.1.symm
    rw [hdecl] at hown2
    rw [← e1]; exact Option.some.inj (hown.symm.trans hown2)
  have h6 := u_fits hfc hkC hkind (Or.inr hlay) hi (hty k hk) hn hfit
  refine W.putFinK hx hb hown (hC.2.1 _ hlink _) hi hst hcf (by rw [hnm]; exact hinit) (by rw [q2]; exact h6) q1 q3 (by rw [hsl]; exact k2_hasslot (q4 k hk)) rfl rfl hd fun H1 e1 e3 e4 => ?_
  rw [hsl] at e1
  exact kk hX H1 _ la (hH.set ho ⟨_, hci, _, e1, q2, q3, t_set q4 hap hk v⟩ e3 e4) (hS.put e3 e4 (hH.2 a _ ho).1) hla
theorem k_pN (hq : e_B q own cc nl fr lo ret nm) {C : String} {T : u_T} {N : Nat} (ci k : Nat) {index : Nat} (hci : vwCl[ci]? = some (C, T, N)) (hk : k < N) (hlays : ∀ z, z < N → e_in (u_lay C T z)) (ty0 : Nat → FieldType) (hty : ∀ k, k < N → parseFieldDescriptor (T k).2.2.1 = some (ty0 k)) (hnmT : ∀ a, a < N → ∀ b, b < N → a ≠ b → (T a).2.1 ≠ (T b).2.1) (hlink : e_nin (.fieldLinkNest own index (T k).1 (T k).2.1 (T k).2.2.1 "SideVersions")) (hfin : (T k).2.2.2 = false) {a : Nat} {v : Value} {f : eH → Option (ρ × eH)} (hn : narrow (ty0 k) v = v) (hfit : fits (ty0 k) v = true) (hd : decode cc pc = .ok (.putfield index, 3)) (kk : ∀ h', e_K en q r0 h0 (pc + 3) ls st h' (f h')) : e_K en q r0 h0 pc ls (v :: .ref a :: st) h ((h_p h ci a k v).bind f) := by
  refine k_bind fun h' hv => ?_
  have kk := kk h'
  obtain ⟨V, ho, rfl⟩ := h_p_spec hv
  obtain ⟨p, l, e, R, s, m, args, below, meth, c, G, B0, nn, nL, c0, s0, Qf⟩ := q
  obtain ⟨hx, hb, hml, hnl, hown, hC, hlk, hfr, hlo, hret, hnm, hc0, hs0⟩ := hq
  refine fun hX H locs la hH hS hla => ?_
  obtain ⟨r, hr, cell, q1, q2, q3, q4⟩ := (hH.2 a _ ho).2
  have hrr : r = (C, T, N) := Option.some.inj (hr.symm.trans hci)
  subst hrr
  obtain ⟨hSl, hfc, kC, hkC, hkind⟩ := hC.1.1 ci _ hci
  obtain ⟨cf, kf, fi, fd, hi, hsl⟩ := hSl k hk
  have hap : ∀ x y, x < N → y < N → x ≠ y → (G.1.2 ci) x ≠ (G.1.2 ci) y := by
    intro x y hxN hyN hne
    obtain ⟨_, _, _, fa, hia, ea⟩ := hSl x hxN
    obtain ⟨_, _, _, fb, hib, eb⟩ := hSl y hyN
    have gl : ∀ z, z < N → (Cond.lays C (T z).1 (T z).2.1 (T z).2.2.1).before args s = true ∨ (Cond.laysFinal C (T z).1 (T z).2.1 (T z).2.2.1).before args s = true := by
      intro z hz
      have hly := hC.2.1 _ (hlays z hz) args
      unfold u_lay at hly
      split at hly
      · exact Or.inr hly
      · exact Or.inl hly
    rw [← ea, ← eb]
    refine u_apart (gl x hxN) (gl y hyN) hia hib ?_
    rw [(State.fieldFound?_type hia (hty x hxN)).1, (State.fieldFound?_type hib (hty y hyN)).1]
    exact hnmT x hxN y hyN hne
  have hlay := hC.2.1 _ (hlays k hk) args
  unfold u_lay at hlay
  rw [if_neg (by rw [hfin]; decide)] at hlay
  have hst := (u_facts hfc hkC (Or.inl hlay) hi).1
  have h6 := u_store hfc hkC hkind hlay hi (hty k hk) hn hfit
  refine va_WputK hx hb (f := fd) hown (va_Nw.use rfl (hC.2.2.1 _ hlink)) hi hst (by rw [q2]; exact h6) q1 q3 (by rw [hsl]; exact k2_hasslot (q4 k hk)) rfl rfl hd fun H1 e1 e3 e4 => ?_
  rw [hsl] at e1
  exact kk hX H1 _ la (hH.set ho ⟨_, hci, _, e1, q2, q3, t_set q4 hap hk v⟩ e3 e4) (hS.put e3 e4 (hH.2 a _ ho).1) hla
theorem e_blind {G : eG} {B0 n : Nat} {av : List Value} {h : eH} : FrameBlind (e_P G B0 n av h) := by
  intro a U g mk hP
  obtain ⟨h1, h2, h3⟩ := hP
  exact ⟨h1, h2, e_Cx.same (s := U) rfl rfl h3⟩
theorem e_ran {p : Program} {l : Launch} {e : Env} {R : Room} {s : State} {m : MethodId} {args : Array Value} {below : List Frame} {meth : Method} {c : Code} {G : eG} {B0 n nL c0 s0 mc ms : Nat} {H : Heap} {locs : List Loc} {la : Array Slot} {st0 rest : List Value} {r' : Option Value} {h1 : eH} {a1 : Array Value} {Q : State → Prop}
    (hr : va_Run p l e R s m args below meth c H locs c0 s0 mc ms (F0 m pc la st0) rest (e_Q G B0 n r' h1 a1) (fun x => B0 ≤ x)) (hS : va_S (fun x => B0 ≤ x) s.heap H locs)
    (kk : ∀ (H1 : Heap) (locs1 : List Loc), e_Hs G B0 n h1 H1 → va_S (fun x => B0 ≤ x) s.heap H1 locs1 → W p l e R s m args below meth c H1 locs1 (c0 + mc) (s0 + ms) Q (F0 m (pc + 3) la (r'.toList ++ rest))) : W p l e R s m args below meth c H locs c0 s0 Q (F0 m pc la st0) := by
  intro T hT X
  obtain ⟨v, st₀, t, T', L, hh0, X', hL, e1, e2, ⟨hv, hHs, hz, hk⟩, st⟩ := hr T hT X
  cases hv
  rw [hh0] at hz hk
  obtain ⟨t2, a1, b1⟩ := kk T'.heap (locs ++ L) (by rw [e1]; exact hHs) ⟨Nat.le_trans hS.1 (by rw [e1]; exact hz), fun x g1 g2 => by rw [e1, hk x (Nat.lt_of_lt_of_le g1 hS.1) g2]; exact hS.2.1 x g1 g2, fun x hx => by
      rcases List.mem_append.mp hx with z | z
      · exact hS.2.2 x z
      · exact hL x z⟩ T' rfl X'
  exact ⟨t2, st t2 a1, b1⟩
theorem k_callS (hq : e_B q own cc nl fr lo ret nm) {ρ' : Type} {en' : ρ' → Option Value} {y : MethodName} {bytes : ByteArray} {maxL fr' lo' idx na : Nat} {ret' : Option FieldType} {As : List Value} {st0 : List Value} {F' : eH → Option (ρ' × eH)} {f : ρ' → eH → Option (ρ × eH)} (hM : e_C en' (e_l q) (e_G q) (e_B0 q) (e_n q) y bytes maxL ret' fr' lo' As F') (wcode : e_in (.code y bytes maxL ret')) (wini : e_in (.initialized y.cls)) (wlink : e_in (.methodLink own idx y)) (wst : e_in (.static y)) (hy : y.cls ≠ "java/lang/invoke/MethodHandle" ∧ y.cls ≠ "java/lang/invoke/VarHandle" ∧ (parseMethodDescriptor y.desc).map (fun d => d.parameters.length) = some na) (hna : As.length = na) (hfl : fr' + 1 ≤ fr ∧ 8 + (maxL + 11) + lo' ≤ lo) (hst : st0 = As.reverse ++ st) (hW8 : (st.map fun v => v.category).sum ≤ 8) (hd : decode cc pc = .ok (.invokestatic idx, 3)) (kk : ∀ r h', e_K en q r0 h0 (pc + 3) ls ((en' r).toList ++ st) h' (f r h')) : e_K en q r0 h0 pc ls st0 h (e_bind (F' h) f) := by
  unfold e_bind
  refine k_bind fun v hv => ?_
  obtain ⟨r', h1⟩ := v
  have kk := kk r' h1
  have hMet := hM h r' h1 hv
  subst hst
  obtain ⟨p, l, e, R, s, m, args, below, meth, c, G, B0, nn, nL, c0, s0, Qf⟩ := q
  obtain ⟨hx, hb, hml, hnl, hown, hC, hlk, hfr, hlo, hret, hnm, hc0, hs0⟩ := hq
  refine fun hX H locs la hH hS hla => ?_
  have hgo : ∀ U : State, U.heap = H → s.WarmedH U.vm → e_Cx G B0 U := fun U hU hW => hC.go hW (by rw [hU]; exact hS.1) (fun a g1 g2 => by rw [hU]; exact hS.2.1 a g1 g2)
  refine e_ran (nL := nL) (va_runS (As := As) (rest := st) (Ts := []) ⟨hx, hb, hml, hown, fun w hw => by cases hw⟩ hMet ⟨⟨rfl, rfl, by rw [hfr]; exact hfl.1, by rw [hlo]; exact hfl.2, fun w hw a' U hW => by rw [List.mem_singleton.mp hw]; exact word_at hW (good_of_word wcode.2) (hC.2.1 _ wcode #[]), List.mem_singleton.mpr rfl, hC.2.1 _ wcode _, hC.2.1 _ wini _, ⟨hy.1, hy.2.1⟩, fun sig hs => by have h2 := hy.2.2; rw [hs] at h2; exact (Option.some.inj h2).symm, hC.2.1 _ wlink _⟩, hC.2.1 _ wst _⟩ ⟨e_blind, fun U hU hW => ⟨rfl, by rw [hU]; exact hH, hgo U hU hW⟩⟩ rfl hna hla.1 rfl (by show 2 * 0 + _ ≤ 8; omega) hd ⟨hc0, hs0⟩) hS fun H1 locs1 g5 g6 => ?_
  exact kk hX H1 locs1 la g5 g6 hla
theorem k_callV (hq : e_B q own cc nl fr lo ret nm) {ρ' : Type} {en' : ρ' → Option Value} {y : MethodName} {bytes : ByteArray} {maxL fr' lo' idx na : Nat} {ret' : Option FieldType} {As : List Value} {st0 : List Value} {F' : eH → Option (ρ' × eH)} {f : ρ' → eH → Option (ρ × eH)} {b : Nat} (ci : Nat) {C : String} {T : u_T} {N : Nat} (hci : vwCl[ci]? = some (C, T, N)) (hM : e_C en' (e_l q) (e_G q) (e_B0 q) (e_n q) y bytes maxL ret' fr' lo' (.ref b :: As) F') (wcode : e_in (.code y bytes maxL ret')) (wini : e_in (.initialized y.cls)) (wlink : e_in (.methodLink own idx y)) (winst : e_in (.instanceMethod y)) (wsel : e_in (.selects C y y)) (hy : y.cls ≠ "java/lang/invoke/MethodHandle" ∧ y.cls ≠ "java/lang/invoke/VarHandle" ∧ (parseMethodDescriptor y.desc).map (fun d => d.parameters.length) = some na) (hna : As.length = na) (hfl : fr' + 1 ≤ fr ∧ 8 + (maxL + 11) + lo' ≤ lo) (hst : st0 = As.reverse ++ .ref b :: st) (hW8 : (st.map fun v => v.category).sum ≤ 8) (hd : decode cc pc = .ok (.invokevirtual idx, 3)) (kk : ∀ r h', e_K en q r0 h0 (pc + 3) ls ((en' r).toList ++ st) h' (f r h')) : e_K en q r0 h0 pc ls st0 h ((h_is h ci b).bind fun _ => e_bind (F' h) f) := by
  refine k_bind fun _ hv0 => ?_
  obtain ⟨Vb, hob⟩ := h_is_spec hv0
  unfold e_bind
  refine k_bind fun v hv => ?_
  obtain ⟨r', h1⟩ := v
  have kk := kk r' h1
  have hMet := hM h r' h1 hv
  subst hst
  obtain ⟨p, l, e, R, s, m, args, below, meth, c, G, B0, nn, nL, c0, s0, Qf⟩ := q
  obtain ⟨hx, hb, hml, hnl, hown, hC, hlk, hfr, hlo, hret, hnm, hc0, hs0⟩ := hq
  refine fun hX H locs la hH hS hla => ?_
  have hgo : ∀ U : State, U.heap = H → s.WarmedH U.vm → e_Cx G B0 U := fun U hU hW => hC.go hW (by rw [hU]; exact hS.1) (fun a g1 g2 => by rw [hU]; exact hS.2.1 a g1 g2)
  obtain ⟨rr, hrr, cellB, g1, g2, g3, -⟩ := (hH.2 b _ hob).2
  have hcl := (hC.1.1 ci _ hci).2.1
  refine e_ran (nL := nL) (va_runV (As := As) (rest := st) (Ts := []) ⟨hx, hb, hml, hown, fun w hw => by cases hw⟩ hMet ⟨⟨rfl, rfl, by rw [hfr]; exact hfl.1, by rw [hlo]; exact hfl.2, fun w hw a' U hW => by rw [List.mem_singleton.mp hw]; exact word_at hW (good_of_word wcode.2) (hC.2.1 _ wcode #[]), List.mem_singleton.mpr rfl, hC.2.1 _ wcode _, hC.2.1 _ wini _, ⟨hy.1, hy.2.1⟩, fun sig hs => by have h2 := hy.2.2; rw [hs] at h2; exact (Option.some.inj h2).symm, hC.2.1 _ wlink _⟩, hC.2.1 _ winst _, hC.2.1 _ wsel _⟩ ⟨e_blind, ⟨cellB, g1, by rw [g3]; rfl, by rw [g2]; exact hcl⟩, fun U hU hW => ⟨rfl, by rw [hU]; exact hH, hgo U hU hW⟩⟩ rfl hna hla.1 rfl (by show 2 * 0 + _ ≤ 8; omega) hd ⟨hc0, hs0⟩) hS fun H1 locs1 g5 g6 => ?_
  exact kk hX H1 locs1 la g5 g6 hla
theorem k_callI (hq : e_B q own cc nl fr lo ret nm) {ρ' : Type} {en' : ρ' → Option Value} {y : MethodName} {bytes : ByteArray} {maxL fr' lo' idx na : Nat}  {As : List Value} {st0 : List Value} {F' : eH → Option (ρ' × eH)} {f : ρ' → eH → Option (ρ × eH)} {b : Nat} (hM : e_C en' (e_l q) (e_G q) (e_B0 q) (e_n q) y bytes maxL none fr' lo' (.ref b :: As) F') (wcode : e_in (.code y bytes maxL none)) (wini : e_in (.initialized y.cls)) (wlink : e_in (.methodLink own idx y)) (winst : e_in (.instanceMethod y)) (hy1 : y.name = "<init>") (hy : y.cls ≠ "java/lang/invoke/MethodHandle" ∧ y.cls ≠ "java/lang/invoke/VarHandle" ∧ (parseMethodDescriptor y.desc).map (fun d => d.parameters.length) = some na) (hna : As.length = na) (hfl : fr' + 1 ≤ fr ∧ 8 + (maxL + 11) + lo' ≤ lo) (hst : st0 = As.reverse ++ .ref b :: st) (hW8 : (st.map fun v => v.category).sum ≤ 8) (hd : decode cc pc = .ok (.invokespecial idx, 3)) (kk : ∀ r h', e_K en q r0 h0 (pc + 3) ls ((en' r).toList ++ st) h' (f r h')) : e_K en q r0 h0 pc ls st0 h (e_bind (F' h) f) := by
  unfold e_bind
  refine k_bind fun v hv => ?_
  obtain ⟨r', h1⟩ := v
  have kk := kk r' h1
  have hMet := hM h r' h1 hv
  subst hst
  obtain ⟨p, l, e, R, s, m, args, below, meth, c, G, B0, nn, nL, c0, s0, Qf⟩ := q
  obtain ⟨hx, hb, hml, hnl, hown, hC, hlk, hfr, hlo, hret, hnm, hc0, hs0⟩ := hq
  refine fun hX H locs la hH hS hla => ?_
  have hgo : ∀ U : State, U.heap = H → s.WarmedH U.vm → e_Cx G B0 U := fun U hU hW => hC.go hW (by rw [hU]; exact hS.1) (fun a g1 g2 => by rw [hU]; exact hS.2.1 a g1 g2)
  refine e_ran (nL := nL) (va_runI (As := As) (rest := st) (Ts := []) ⟨hx, hb, hml, hown, fun w hw => by cases hw⟩ hMet ⟨⟨rfl, rfl, by rw [hfr]; exact hfl.1, by rw [hlo]; exact hfl.2, fun w hw a' U hW => by rw [List.mem_singleton.mp hw]; exact word_at hW (good_of_word wcode.2) (hC.2.1 _ wcode #[]), List.mem_singleton.mpr rfl, hC.2.1 _ wcode _, hC.2.1 _ wini _, ⟨hy.1, hy.2.1⟩, fun sig hs => by have h2 := hy.2.2; rw [hs] at h2; exact (Option.some.inj h2).symm, hC.2.1 _ wlink _⟩, hy1, hC.2.1 _ winst _⟩ ⟨e_blind, fun U hU hW => ⟨rfl, by rw [hU]; exact hH, hgo U hU hW⟩⟩ rfl hna hla.1 rfl (by show 2 * 0 + _ ≤ 8; omega) hd ⟨hc0, hs0⟩) hS fun H1 locs1 g5 g6 => ?_
  exact kk hX H1 locs1 la g5 g6 hla
theorem k_callSN (hq : e_B q own cc nl fr lo ret nm) {ρ' : Type} {en' : ρ' → Option Value} {y : MethodName} {bytes : ByteArray} {maxL fr' lo' idx na : Nat} {ret' : Option FieldType} {As : List Value} {st0 : List Value} {F' : eH → Option (ρ' × eH)} {f : ρ' → eH → Option (ρ × eH)} (hM : e_C en' (e_l q) (e_G q) (e_B0 q) (e_n q) y bytes maxL ret' fr' lo' As F') (wcode : e_in (.code y bytes maxL ret')) (wini : e_in (.initialized y.cls)) (wlink : e_nin (.methodLinkNest own idx y "SideVersions")) (wst : e_in (.static y)) (hy : y.cls ≠ "java/lang/invoke/MethodHandle" ∧ y.cls ≠ "java/lang/invoke/VarHandle" ∧ (parseMethodDescriptor y.desc).map (fun d => d.parameters.length) = some na) (hna : As.length = na) (hfl : fr' + 1 ≤ fr ∧ 8 + (maxL + 11) + lo' ≤ lo) (hst : st0 = As.reverse ++ st) (hW8 : (st.map fun v => v.category).sum ≤ 8) (hd : decode cc pc = .ok (.invokestatic idx, 3)) (kk : ∀ r h', e_K en q r0 h0 (pc + 3) ls ((en' r).toList ++ st) h' (f r h')) : e_K en q r0 h0 pc ls st0 h (e_bind (F' h) f) := by
  unfold e_bind
  refine k_bind fun v hv => ?_
  obtain ⟨r', h1⟩ := v
  have kk := kk r' h1
  have hMet := hM h r' h1 hv
  subst hst
  obtain ⟨p, l, e, R, s, m, args, below, meth, c, G, B0, nn, nL, c0, s0, Qf⟩ := q
  obtain ⟨hx, hb, hml, hnl, hown, hC, hlk, hfr, hlo, hret, hnm, hc0, hs0⟩ := hq
  refine fun hX H locs la hH hS hla => ?_
  have hgo : ∀ U : State, U.heap = H → s.WarmedH U.vm → e_Cx G B0 U := fun U hU hW => hC.go hW (by rw [hU]; exact hS.1) (fun a g1 g2 => by rw [hU]; exact hS.2.1 a g1 g2)
  refine e_ran (nL := nL) (va_runSN (As := As) (rest := st) (Ts := []) ⟨hx, hb, hml, hown, fun w hw => by cases hw⟩ hMet ⟨⟨⟨rfl, rfl, by rw [hfr]; exact hfl.1, by rw [hlo]; exact hfl.2, fun w hw a' U hW => by rw [List.mem_singleton.mp hw]; exact word_at hW (good_of_word wcode.2) (hC.2.1 _ wcode #[]), List.mem_singleton.mpr rfl⟩, hC.2.1 _ wcode _, hC.2.1 _ wini _, ⟨hy.1, hy.2.1⟩, fun sig hs => by have h2 := hy.2.2; rw [hs] at h2; exact (Option.some.inj h2).symm, va_Nw.use rfl (hC.2.2.1 _ wlink)⟩, hC.2.1 _ wst _, trivial⟩ ⟨e_blind, fun U hU hW => ⟨rfl, by rw [hU]; exact hH, hgo U hU hW⟩⟩ rfl hna hla.1 rfl (by show 2 * 0 + _ ≤ 8; omega) hd ⟨hc0, hs0⟩) hS fun H1 locs1 g5 g6 => ?_
  exact kk hX H1 locs1 la g5 g6 hla
theorem k_callIN (hq : e_B q own cc nl fr lo ret nm) {ρ' : Type} {en' : ρ' → Option Value} {y : MethodName} {bytes : ByteArray} {maxL fr' lo' idx na : Nat}  {As : List Value} {st0 : List Value} {F' : eH → Option (ρ' × eH)} {f : ρ' → eH → Option (ρ × eH)} {b : Nat} (hM : e_C en' (e_l q) (e_G q) (e_B0 q) (e_n q) y bytes maxL none fr' lo' (.ref b :: As) F') (wcode : e_in (.code y bytes maxL none)) (wini : e_in (.initialized y.cls)) (wlink : e_nin (.methodLinkNest own idx y "SideVersions")) (winst : e_in (.instanceMethod y)) (hy1 : y.name = "<init>") (hy : y.cls ≠ "java/lang/invoke/MethodHandle" ∧ y.cls ≠ "java/lang/invoke/VarHandle" ∧ (parseMethodDescriptor y.desc).map (fun d => d.parameters.length) = some na) (hna : As.length = na) (hfl : fr' + 1 ≤ fr ∧ 8 + (maxL + 11) + lo' ≤ lo) (hst : st0 = As.reverse ++ .ref b :: st) (hW8 : (st.map fun v => v.category).sum ≤ 8) (hd : decode cc pc = .ok (.invokespecial idx, 3)) (kk : ∀ r h', e_K en q r0 h0 (pc + 3) ls ((en' r).toList ++ st) h' (f r h')) : e_K en q r0 h0 pc ls st0 h (e_bind (F' h) f) := by
  unfold e_bind
  refine k_bind fun v hv => ?_
  obtain ⟨r', h1⟩ := v
  have kk := kk r' h1
  have hMet := hM h r' h1 hv
  subst hst
  obtain ⟨p, l, e, R, s, m, args, below, meth, c, G, B0, nn, nL, c0, s0, Qf⟩ := q
  obtain ⟨hx, hb, hml, hnl, hown, hC, hlk, hfr, hlo, hret, hnm, hc0, hs0⟩ := hq
  refine fun hX H locs la hH hS hla => ?_
  have hgo : ∀ U : State, U.heap = H → s.WarmedH U.vm → e_Cx G B0 U := fun U hU hW => hC.go hW (by rw [hU]; exact hS.1) (fun a g1 g2 => by rw [hU]; exact hS.2.1 a g1 g2)
  refine e_ran (nL := nL) (va_runIN (As := As) (rest := st) (Ts := []) ⟨hx, hb, hml, hown, fun w hw => by cases hw⟩ hMet ⟨⟨⟨rfl, rfl, by rw [hfr]; exact hfl.1, by rw [hlo]; exact hfl.2, fun w hw a' U hW => by rw [List.mem_singleton.mp hw]; exact word_at hW (good_of_word wcode.2) (hC.2.1 _ wcode #[]), List.mem_singleton.mpr rfl⟩, hC.2.1 _ wcode _, hC.2.1 _ wini _, ⟨hy.1, hy.2.1⟩, fun sig hs => by have h2 := hy.2.2; rw [hs] at h2; exact (Option.some.inj h2).symm, va_Nw.use rfl (hC.2.2.1 _ wlink)⟩, hy1, hC.2.1 _ winst _⟩ ⟨e_blind, fun U hU hW => ⟨rfl, by rw [hU]; exact hH, hgo U hU hW⟩⟩ rfl hna hla.1 rfl (by show 2 * 0 + _ ≤ 8; omega) hd ⟨hc0, hs0⟩) hS fun H1 locs1 g5 g6 => ?_
  exact kk hX H1 locs1 la g5 g6 hla
theorem k_objInit (hq : e_B q own cc nl fr lo ret nm) {idx a : Nat} (wlink : e_in (.methodLink own idx Lib.objectInit)) (winst : e_in (.instanceMethod Lib.objectInit)) (wcode : e_in (.code Lib.objectInit ⟨#[0xb1]⟩ 1 none)) (hf1 : 1 ≤ fr) (hl1 : (st.map fun v => v.category).sum + 12 ≤ lo) (hd : decode cc pc = .ok (.invokespecial idx, 3)) (kk : e_K en q r0 h0 (pc + 3) ls st h X) : e_K en q r0 h0 pc ls (.ref a :: st) h X := by
  obtain ⟨p, l, e, R, s, m, args, below, meth, c, G, B0, nn, nL, c0, s0, Qf⟩ := q
  obtain ⟨hx, hb, hml, hnl, hown, hC, hlk, hfr, hlo, hret, hnm, hc0, hs0⟩ := hq
  refine fun hX H locs la hH hS hla => ?_
  refine W.objInit hx hb hown (hC.2.1 _ wlink _) (hC.2.1 _ winst _) (hC.2.1 _ wcode _) rfl (by rw [hml]; exact hla.1) rfl hd (by rw [hfr]; exact hf1) (by show 2 * 0 + _ + 12 ≤ _; rw [hlo]; omega) ?_
  exact kk hX H locs la hH hS hla
theorem k_ldc2 (hq : e_B q own cc nl fr lo ret nm) {idx : Nat} {v : Int64} (hc : e_in (.constantLong own idx v)) (hd : decode cc pc = .ok (.ldc2_w idx, 3)) (kk : e_K en q r0 h0 (pc + 3) ls (.long v :: st) h X) : e_K en q r0 h0 pc ls st h X := by
  obtain ⟨p, l, e, R, s, m, args, below, meth, c, G, B0, nn, nL, c0, s0, Qf⟩ := q
  obtain ⟨hx, hb, hml, hnl, hown, hC, hlk, hfr, hlo, hret, hnm, hc0, hs0⟩ := hq
  exact fun hX H locs la hH hS hla => W.ldc2 hx hb hown (hC.2.1 _ hc _) rfl hd (kk hX H locs la hH hS hla)
theorem k_ldc (hq : e_B q own cc nl fr lo ret nm) {idx : Nat} {v : Int32} (hc : e_in (.constant own idx v)) (hd : decode cc pc = .ok (.ldc idx, 2)) (kk : e_K en q r0 h0 (pc + 2) ls (.int v :: st) h X) : e_K en q r0 h0 pc ls st h X := by
  obtain ⟨p, l, e, R, s, m, args, below, meth, c, G, B0, nn, nL, c0, s0, Qf⟩ := q
  obtain ⟨hx, hb, hml, hnl, hown, hC, hlk, hfr, hlo, hret, hnm, hc0, hs0⟩ := hq
  exact fun hX H locs la hH hS hla => W.ldc hx hb hown (hC.2.1 _ hc _) rfl hd (kk hX H locs la hH hS hla)
theorem k_ldcS (hq : e_B q own cc nl fr lo ret nm) {idx : Nat} (i : Nat) (hi : i < 5) (hown1 : own = "SideVersions$Plan") (hidx : e_sidx.getD i 0 = idx) (hd : decode cc pc = .ok (.ldc idx, 2)) (kk : e_K en q r0 h0 (pc + 2) ls (.ref ((e_G q).2.2.1 i) :: st) h X) : e_K en q r0 h0 pc ls st h X := by
  obtain ⟨p, l, e, R, s, m, args, below, meth, c, G, B0, nn, nL, c0, s0, Qf⟩ := q
  obtain ⟨hx, hb, hml, hnl, hown, hC, hlk, hfr, hlo, hret, hnm, hc0, hs0⟩ := hq
  subst hown1
  subst hidx
  exact fun hX H locs la hH hS hla => va_ldcS hx hb hown (hC.2.2.2.2.1 i hi) hd (kk hX H locs la hH hS hla)
theorem k_loop {σ : Type} {body : (σ → Option (ρ × eH)) → σ → Option (ρ × eH)} {mk : σ → List (Nat × Value)} {hp : σ → eH} (hb : ∀ k : σ → Option (ρ × eH), (∀ s, e_K en q r0 h0 pc (mk s) [] (hp s) (k s)) → ∀ s, e_K en q r0 h0 pc (mk s) [] (hp s) (body k s)) : ∀ (n : Nat) (s : σ), e_K en q r0 h0 pc (mk s) [] (hp s) (e_loop body n s) := by
  intro n
  induction n with
  | zero => intro s; exact k_none rfl
  | succ n ih => intro s; exact hb _ ih s
theorem e_ne {x k : Int32} {a : Int} (hh : ¬ x = k) (hk : k.toInt = a) : x.toInt ≠ a := fun z => hh (Int32.toInt_inj.mp (z.trans hk.symm))
theorem k_idivK (hq : e_B q own cc nl fr lo ret nm) {x y : Int32} (hy : ¬ y = 0) (hd : decode cc pc = .ok (.idiv, 1)) (kk : e_K en q r0 h0 (pc + 1) ls (.int (x / y) :: st) h X) : e_K en q r0 h0 pc ls (.int y :: .int x :: st) h X := by
  obtain ⟨p, l, e, R, s, m, args, below, meth, c, G, B0, nn, nL, c0, s0, Qf⟩ := q
  obtain ⟨hx, hb, -⟩ := hq
  exact fun hX H locs la hH hS hla => lv_idiv hx hb hd hy (kk hX H locs la hH hS hla)
theorem k_iremK (hq : e_B q own cc nl fr lo ret nm) {x y : Int32} (hy : ¬ y = 0) (hd : decode cc pc = .ok (.irem, 1)) (kk : e_K en q r0 h0 (pc + 1) ls (.int (x - x / y * y) :: st) h X) : e_K en q r0 h0 pc ls (.int y :: .int x :: st) h X := by
  obtain ⟨p, l, e, R, s, m, args, below, meth, c, G, B0, nn, nL, c0, s0, Qf⟩ := q
  obtain ⟨hx, hb, -⟩ := hq
  exact fun hX H locs la hH hS hla => lv_irem hx hb hd hy (kk hX H locs la hH hS hla)
theorem k_ldivK (hq : e_B q own cc nl fr lo ret nm) {x y : Int64} (hy : ¬ y = 0) (hd : decode cc pc = .ok (.ldiv, 1)) (kk : e_K en q r0 h0 (pc + 1) ls (.long (x / y) :: st) h X) : e_K en q r0 h0 pc ls (.long y :: .long x :: st) h X := by
  obtain ⟨p, l, e, R, s, m, args, below, meth, c, G, B0, nn, nL, c0, s0, Qf⟩ := q
  obtain ⟨hx, hb, -⟩ := hq
  exact fun hX H locs la hH hS hla => lv_ldiv hx hb hd hy (kk hX H locs la hH hS hla)
theorem k_lremK (hq : e_B q own cc nl fr lo ret nm) {x y : Int64} (hy : ¬ y = 0) (hd : decode cc pc = .ok (.lrem, 1)) (kk : e_K en q r0 h0 (pc + 1) ls (.long (x - x / y * y) :: st) h X) : e_K en q r0 h0 pc ls (.long y :: .long x :: st) h X := by
  obtain ⟨p, l, e, R, s, m, args, below, meth, c, G, B0, nn, nL, c0, s0, Qf⟩ := q
  obtain ⟨hx, hb, -⟩ := hq
  exact fun hX H locs la hH hS hla => lv_lrem hx hb hd hy (kk hX H locs la hH hS hla)
def h_pz (h : eH) (c a k : Nat) (x : Int32) : Option eH := if x = 0 ∨ x = 1 then h_p h c a k (.int x) else none
theorem k_pz (hq : e_B q own cc nl fr lo ret nm) {C : String} {T : u_T} {N : Nat} (ci k : Nat) {index : Nat} (hci : vwCl[ci]? = some (C, T, N)) (hk : k < N) (hlays : ∀ z, z < N → e_in (u_lay C T z)) (ty0 : Nat → FieldType) (hty : ∀ k, k < N → parseFieldDescriptor (T k).2.2.1 = some (ty0 k)) (hnmT : ∀ a, a < N → ∀ b, b < N → a ≠ b → (T a).2.1 ≠ (T b).2.1) (hlink : e_in (.fieldLink own index (T k).1 (T k).2.1 (T k).2.2.1)) (hfin : (T k).2.2.2 = false) {a : Nat} {x : Int32} {f : eH → Option (ρ × eH)} (hz : ty0 k = .boolean) (hd : decode cc pc = .ok (.putfield index, 3)) (kk : ∀ h', e_K en q r0 h0 (pc + 3) ls st h' (f h')) : e_K en q r0 h0 pc ls (.int x :: .ref a :: st) h ((h_pz h ci a k x).bind f) := by
  unfold h_pz
  by_cases hx : x = 0 ∨ x = 1
  · rw [if_pos hx]
    refine k_p hq ci k hci hk hlays ty0 hty hnmT hlink hfin ?_ ?_ hd kk
    · rw [hz]; rcases hx with h1 | h1 <;> rw [h1] <;> rfl
    · rw [hz]; rcases hx with h1 | h1 <;> rw [h1] <;> rfl
  · rw [if_neg hx]; exact k_none rfl
theorem k_mmax (hq : e_B q own cc nl fr lo ret nm) {idx : Nat} {x y : Int32} (wlink : e_in (.methodLink own idx Lib.Math.max.name)) (wst : e_in (.static Lib.Math.max.name)) (wini : e_in (.initialized "java/lang/Math")) (wcode : e_in (.code Lib.Math.max.name Lib.Math.max.code 2 (some .int))) (hf1 : 1 ≤ fr) (hl1 : (st.map fun v => v.category).sum + 13 ≤ lo) (hd : decode cc pc = .ok (.invokestatic idx, 3)) (kk : e_K en q r0 h0 (pc + 3) ls (.int (e_max x y) :: st) h X) : e_K en q r0 h0 pc ls (.int y :: .int x :: st) h X := by
  obtain ⟨p, l, e, R, s, m, args, below, meth, c, G, B0, nn, nL, c0, s0, Qf⟩ := q
  obtain ⟨hx, hb, hml, hnl, hown, hC, hlk, hfr, hlo, hret, hnm, hc0, hs0⟩ := hq
  exact fun hX H locs la hH hS hla => va_mmax hx hb (hml.trans hla.1.symm) hown (hC.2.1 _ wlink _) (hC.2.1 _ wst _) (hC.2.1 _ wini _) (hC.2.1 _ wcode _) (by rw [hfr]; exact hf1) (by rw [hlo]; exact hl1) hc0 hs0 hd (kk hX H locs la hH hS hla)
theorem k_mmin (hq : e_B q own cc nl fr lo ret nm) {idx : Nat} {x y : Int32} (wlink : e_in (.methodLink own idx Lib.Math.min.name)) (wst : e_in (.static Lib.Math.min.name)) (wini : e_in (.initialized "java/lang/Math")) (wcode : e_in (.code Lib.Math.min.name Lib.Math.min.code 2 (some .int))) (hf1 : 1 ≤ fr) (hl1 : (st.map fun v => v.category).sum + 13 ≤ lo) (hd : decode cc pc = .ok (.invokestatic idx, 3)) (kk : e_K en q r0 h0 (pc + 3) ls (.int (e_min x y) :: st) h X) : e_K en q r0 h0 pc ls (.int y :: .int x :: st) h X := by
  obtain ⟨p, l, e, R, s, m, args, below, meth, c, G, B0, nn, nL, c0, s0, Qf⟩ := q
  obtain ⟨hx, hb, hml, hnl, hown, hC, hlk, hfr, hlo, hret, hnm, hc0, hs0⟩ := hq
  exact fun hX H locs la hH hS hla => va_mmin hx hb (hml.trans hla.1.symm) hown (hC.2.1 _ wlink _) (hC.2.1 _ wst _) (hC.2.1 _ wini _) (hC.2.1 _ wcode _) (by rw [hfr]; exact hf1) (by rw [hlo]; exact hl1) hc0 hs0 hd (kk hX H locs la hH hS hla)
theorem k_mmaxL (hq : e_B q own cc nl fr lo ret nm) {idx : Nat} {x y : Int64} (wlink : e_in (.methodLink own idx Lib.MathLoose.max_long.x)) (wst : e_in (.static Lib.MathLoose.max_long.x)) (wini : e_in (.initialized "java/lang/Math")) (wcode : e_in (.code Lib.MathLoose.max_long.x Lib.MathLoose.max_long.code 4 (some .long))) (hf1 : 1 ≤ fr) (hl1 : (st.map fun v => v.category).sum + 15 ≤ lo) (hd : decode cc pc = .ok (.invokestatic idx, 3)) (kk : e_K en q r0 h0 (pc + 3) ls (.long (e_maxL x y) :: st) h X) : e_K en q r0 h0 pc ls (.long y :: .long x :: st) h X := by
  obtain ⟨p, l, e, R, s, m, args, below, meth, c, G, B0, nn, nL, c0, s0, Qf⟩ := q
  obtain ⟨hx, hb, hml, hnl, hown, hC, hlk, hfr, hlo, hret, hnm, hc0, hs0⟩ := hq
  exact fun hX H locs la hH hS hla => va_mmax_long hx hb (hml.trans hla.1.symm) hown (hC.2.1 _ wlink _) (hC.2.1 _ wst _) (hC.2.1 _ wini _) (hC.2.1 _ wcode _) (by rw [hfr]; exact hf1) (by rw [hlo]; exact hl1) hc0 hs0 hd (kk hX H locs la hH hS hla)
theorem k_mminL (hq : e_B q own cc nl fr lo ret nm) {idx : Nat} {x y : Int64} (wlink : e_in (.methodLink own idx Lib.MathLoose.min_long.x)) (wst : e_in (.static Lib.MathLoose.min_long.x)) (wini : e_in (.initialized "java/lang/Math")) (wcode : e_in (.code Lib.MathLoose.min_long.x Lib.MathLoose.min_long.code 4 (some .long))) (hf1 : 1 ≤ fr) (hl1 : (st.map fun v => v.category).sum + 15 ≤ lo) (hd : decode cc pc = .ok (.invokestatic idx, 3)) (kk : e_K en q r0 h0 (pc + 3) ls (.long (e_minL x y) :: st) h X) : e_K en q r0 h0 pc ls (.long y :: .long x :: st) h X := by
  obtain ⟨p, l, e, R, s, m, args, below, meth, c, G, B0, nn, nL, c0, s0, Qf⟩ := q
  obtain ⟨hx, hb, hml, hnl, hown, hC, hlk, hfr, hlo, hret, hnm, hc0, hs0⟩ := hq
  exact fun hX H locs la hH hS hla => va_mmin_long hx hb (hml.trans hla.1.symm) hown (hC.2.1 _ wlink _) (hC.2.1 _ wst _) (hC.2.1 _ wini _) (hC.2.1 _ wcode _) (by rw [hfr]; exact hf1) (by rw [hlo]; exact hl1) hc0 hs0 hd (kk hX H locs la hH hS hla)
end EK
theorem k_iret {q : eT} {r0 : Int32} {h0 : eH} {pc : Nat} {ls : List (Nat × Value)} {h : eH} {own : String} {cc : ByteArray} {nl fr lo : Nat} {nm : String} (hq : e_B q own cc nl fr lo (some .int) nm) {v : Int32} (hd : decode cc pc = .ok (.ireturn, 1)) (he : e_E q) : e_K eI q r0 h0 pc ls [.int v] h (some (v, h)) := by
  obtain ⟨p, l, e, R, s, m, args, below, meth, c, G, B0, nn, nL, c0, s0, Qf⟩ := q
  obtain ⟨hx, hb, hml, hnl, hown, hC, hlk, hfr, hlo, hret, hnm, hc0, hs0⟩ := hq
  obtain ⟨he, -, -⟩ := he
  intro hX H locs la hH hS hla
  cases hX
  subst he
  exact W.iret hx hb hret (fun t ht hW => ⟨rfl, by rw [ht]; exact hH, hS.F ht⟩) hS.2.2 hd hlk
theorem k_lret {q : eT} {r0 : Int64} {h0 : eH} {pc : Nat} {ls : List (Nat × Value)} {h : eH} {own : String} {cc : ByteArray} {nl fr lo : Nat} {nm : String} (hq : e_B q own cc nl fr lo (some .long) nm) {v : Int64} (hd : decode cc pc = .ok (.lreturn, 1)) (he : e_E q) : e_K eL q r0 h0 pc ls [.long v] h (some (v, h)) := by
  obtain ⟨p, l, e, R, s, m, args, below, meth, c, G, B0, nn, nL, c0, s0, Qf⟩ := q
  obtain ⟨hx, hb, hml, hnl, hown, hC, hlk, hfr, hlo, hret, hnm, hc0, hs0⟩ := hq
  obtain ⟨he, -, -⟩ := he
  intro hX H locs la hH hS hla
  cases hX
  subst he
  exact W.lret hx hb hret (fun t ht hW => ⟨rfl, by rw [ht]; exact hH, hS.F ht⟩) hS.2.2 hd hlk
theorem k_vret {q : eT} {r0 : Unit} {h0 : eH} {pc : Nat} {ls : List (Nat × Value)} {h : eH} {own : String} {cc : ByteArray} {nl fr lo : Nat} {nm : String} (hq : e_B q own cc nl fr lo none nm) (hd : decode cc pc = .ok (.return_, 1)) (he : e_E q) : e_K eV q r0 h0 pc ls [] h (some ((), h)) := by
  obtain ⟨p, l, e, R, s, m, args, below, meth, c, G, B0, nn, nL, c0, s0, Qf⟩ := q
  obtain ⟨hx, hb, hml, hnl, hown, hC, hlk, hfr, hlo, hret, hnm, hc0, hs0⟩ := hq
  obtain ⟨he, -, -⟩ := he
  intro hX H locs la hH hS hla
  cases hX
  subst he
  exact W.vret hx hb hret (fun t ht hW => ⟨rfl, by rw [ht]; exact hH, hS.F ht⟩) hS.2.2 hd hlk
theorem k_aret {q : eT} {r0 : Option Nat} {h0 : eH} {pc : Nat} {ls : List (Nat × Value)} {h : eH} {own : String} {cc : ByteArray} {nl fr lo : Nat} {nm : String} {C : String} (hq : e_B q own cc nl fr lo (some (.object C)) nm) {v : Option Nat} (hd : decode cc pc = .ok (.areturn, 1)) (he : e_E q) : e_K eR q r0 h0 pc ls [va_rf v] h (some (v, h)) := by
  obtain ⟨p, l, e, R, s, m, args, below, meth, c, G, B0, nn, nL, c0, s0, Qf⟩ := q
  obtain ⟨hx, hb, hml, hnl, hown, hC, hlk, hfr, hlo, hret, hnm, hc0, hs0⟩ := hq
  obtain ⟨he, -, -⟩ := he
  intro hX H locs la hH hS hla
  cases hX
  subst he
  exact W.aret hx hb hret (Or.inl ⟨_, rfl⟩) (va_rf_or _) (fun t ht hW => ⟨rfl, by rw [ht]; exact hH, hS.F ht⟩) hS.2.2 hd hlk
theorem k_zret {q : eT} {r0 : Int32} {h0 : eH} {pc : Nat} {ls : List (Nat × Value)} {h : eH} {own : String} {cc : ByteArray} {nl fr lo : Nat} {nm : String} (hq : e_B q own cc nl fr lo (some .boolean) nm) {v : Int32} (hd : decode cc pc = .ok (.ireturn, 1)) (he : e_E q) : e_K eI q r0 h0 pc ls [.int v] h ((h_z v).bind fun v => some (v, h)) := by
  refine k_bind fun w hw => ?_
  obtain ⟨hz, rfl⟩ := h_z_spec hw
  obtain ⟨p, l, e, R, s, m, args, below, meth, c, G, B0, nn, nL, c0, s0, Qf⟩ := q
  obtain ⟨hx, hb, hml, hnl, hown, hC, hlk, hfr, hlo, hret, hnm, hc0, hs0⟩ := hq
  obtain ⟨he, -, -⟩ := he
  intro hX H locs la hH hS hla
  have hn : narrow .boolean (.int w) = .int w := by
    rcases hz with h1 | h1 <;> rw [h1] <;> rfl
  cases hX
  subst he
  exact W.zret hx hb hret hn (fun t ht hW => ⟨rfl, by rw [ht]; exact hH, hS.F ht⟩) hS.2.2 hd hlk
def h_ch (x : Int32) : Option Int32 := if (x.toUInt32 % 65536).toInt32 = x then some x else none
theorem k_cret {q : eT} {r0 : Int32} {h0 : eH} {pc : Nat} {ls : List (Nat × Value)} {h : eH} {own : String} {cc : ByteArray} {nl fr lo : Nat} {nm : String} (hq : e_B q own cc nl fr lo (some .char) nm) {v : Int32} (hd : decode cc pc = .ok (.ireturn, 1)) (he : e_E q) (hn : narrow .char (.int v) = .int v) : e_K eI q r0 h0 pc ls [.int v] h (some (v, h)) := by
  obtain ⟨p, l, e, R, s, m, args, below, meth, c, G, B0, nn, nL, c0, s0, Qf⟩ := q
  obtain ⟨hx, hb, hml, hnl, hown, hC, hlk, hfr, hlo, hret, hnm, hc0, hs0⟩ := hq
  obtain ⟨he, -, -⟩ := he
  intro hX H locs la hH hS hla
  cases hX
  subst he
  exact W.zret hx hb hret hn (fun t ht hW => ⟨rfl, by rw [ht]; exact hH, hS.F ht⟩) hS.2.2 hd hlk
theorem e_mkA {ρ : Type} {en : ρ → Option Value} {l : Launch} {G : eG} {B0 n : Nat} {y : MethodName} {cc : ByteArray} {nL fr lo mc ms : Nat} {ret : Option FieldType} {av : List Value} {F : eH → Option (ρ × eH)} (hy : plainName y.cls = true) (hlen : (lg_sl av).length ≤ nL)
    (body : ∀ (q : eT) (r0 : ρ) (h0 h : eH), e_B q y.cls cc nL fr lo ret y.name → e_E (e_mv q (n + mc) mc ms) → e_l q = l → e_G q = G → e_B0 q = B0 → e_n q = n → e_c q = 0 → e_s q = 0 → e_K en q r0 h0 0 (lv_args 0 av) [] h (F h)) : e_CA en l G B0 n y cc nL ret fr lo mc ms av F := by
  intro h r h' hF
  refine Met.ofW hy rfl ?_
  intro p e s m args below meth c s₁ B hml hv
  obtain ⟨rfl, hHs, hCx⟩ := hv
  have hb := body (p, l, e, (headSpec [Cond.code y cc nL ret] { frames := fr, cells := mc, slots := ms, locals := lo }).room, s, m, av.toArray, below, meth, c, G, B0, n, nL, 0, 0, fun o h => MQ below (e_Q G B0 (n + mc) o h) av.toArray s mc ms (fun x => B0 ≤ x)) r h' h ⟨B.exec, B.bytes, hml, rfl, findClass_of_methodNamed B.named, hCx, B.notSynchronized, rfl, rfl, B.returns, (name_of_methodNamed B.named B.method).1, Nat.zero_le _, Nat.zero_le _⟩ ⟨rfl, rfl, rfl⟩ rfl rfl rfl rfl rfl rfl
  have hl := lv_entry av hlen
  rw [lg_entry_eq]
  generalize (lg_sl av ++ List.replicate (nL - (lg_sl av).length) Slot.unset).toArray = ls at hl ⊢
  exact hb hF s.heap [] ls hHs va_S.rf hl
theorem e_mk {ρ : Type} {en : ρ → Option Value} {l : Launch} {G : eG} {B0 n : Nat} {y : MethodName} {cc : ByteArray} {nL fr lo : Nat} {ret : Option FieldType} {av : List Value} {F : eH → Option (ρ × eH)} (hy : plainName y.cls = true) (hlen : (lg_sl av).length ≤ nL)
    (body : ∀ (q : eT) (r0 : ρ) (h0 h : eH), e_B q y.cls cc nL fr lo ret y.name → e_E q → e_l q = l → e_G q = G → e_B0 q = B0 → e_n q = n → e_K en q r0 h0 0 (lv_args 0 av) [] h (F h)) : e_C en l G B0 n y cc nL ret fr lo av F := by
  refine e_mkA hy hlen fun q r0 h0 h hq he e1 e2 e3 e4 e5 e6 => body q r0 h0 h hq ?_ e1 e2 e3 e4
  obtain ⟨p, l, e, R, s, m, args, below, meth, c, G, B0, nn, nL, c0, s0, Qf⟩ := q
  have e4 : nn = n := e4
  have e5 : c0 = 0 := e5
  have e6 : s0 = 0 := e6
  subst e4; subst e5; subst e6
  exact he
theorem e_B.mv {q : eT} {own : String} {cc : ByteArray} {nl fr lo : Nat} {ret : Option FieldType} {nm : String} (hq : e_B q own cc nl fr lo ret nm) {n c s : Nat} (hc : c ≤ (e_R q).cells) (hs : s ≤ (e_R q).slots) : e_B (e_mv q n c s) own cc nl fr lo ret nm := by
  obtain ⟨p, l, e, R, s1, m, args, below, meth, c1, G, B0, nn, nL, c0, s0, Qf⟩ := q
  obtain ⟨hx, hb, hml, hnl, hown, hC, hlk, hfr, hlo, hret, hnm, hc0, hs0⟩ := hq
  exact ⟨hx, hb, hml, hnl, hown, hC, hlk, hfr, hlo, hret, hnm, hc, hs⟩
theorem e_Hs.al {G : eG} {B0 n : Nat} {h : eH} {o : eO} {H H1 : Heap} (hB : B0 ≤ H.size) (hH : e_Hs G B0 n h H) (he : e_at G n o H1) (z : H1.size = H.size + 1) (oq : ∀ q : Nat, q < H.size → H1[q]? = H[q]?) : e_Hs G B0 (n + 1) (h_set h n o) H1 := by
  obtain ⟨hn, hH⟩ := hH
  refine ⟨by rw [z, hn], fun b u hb => ?_⟩
  unfold h_set at hb
  split at hb
  · rename_i hba
    subst hba
    cases hb
    exact ⟨by rw [← hn]; exact hB, he⟩
  · obtain ⟨g1, g2⟩ := hH b u hb
    exact ⟨g1, g2.kept (oq b g2.lt)⟩
theorem e_Sal {A : Nat → Prop} {H0 H H1 : Heap} {locs : List Loc} (hS : va_S A H0 H locs) (z : H1.size = H.size + 1) (oq : ∀ q : Nat, q < H.size → H1[q]? = H[q]?) : va_S A H0 H1 locs := ⟨Nat.le_trans hS.1 (by omega), fun x h1 h2 => (oq x (Nat.lt_of_lt_of_le h1 hS.1)).trans (hS.2.1 x h1 h2), hS.2.2⟩
theorem k_new {ρ : Type} {en : ρ → Option Value} {q : eT} {r0 : ρ} {h0 : eH} {pc : Nat} {ls : List (Nat × Value)} {st : List Value} {h : eH} {X : Option (ρ × eH)} {own : String} {cc : ByteArray} {nl fr lo : Nat} {ret : Option FieldType} {nm : String} (hq : e_B q own cc nl fr lo ret nm) {C : String} {T : u_T} {N : Nat} (ci : Nat) {index : Nat} (hci : vwCl[ci]? = some (C, T, N)) (hlays : ∀ z, z < N → e_in (u_lay C T z)) (ty0 : Nat → FieldType) (hty : ∀ k, k < N → parseFieldDescriptor (T k).2.2.1 = some (ty0 k)) (wcl : e_in (.classLink own index C)) (win : e_in (.instantiable C N)) (wini : e_in (.initialized C)) (hbc : e_c q + 1 ≤ (e_R q).cells) (hbs : e_s q + N ≤ (e_R q).slots) (hd : decode cc pc = .ok (.new index, 3)) (kk : e_K en (e_mv q (e_n q + 1) (e_c q + 1) (e_s q + N)) r0 h0 (pc + 3) ls (.ref (e_n q) :: st) (h_set h (e_n q) (oB ci (fun k => defaultValue (ty0 k)))) X) : e_K en q r0 h0 pc ls st h X := by
  obtain ⟨p, l, e, R, s, m, args, below, meth, c, G, B0, nn, nL, c0, s0, Qf⟩ := q
  obtain ⟨hx, hb, hml, hnl, hown, hC, hlk, hfr, hlo, hret, hnm, hc0, hs0⟩ := hq
  refine fun hX H locs la hH hS hla => ?_
  have hK := hC.1.1 ci _ hci
  have hnn : H.size = nn := hH.1
  refine W.newcK hx hb hown (hC.2.1 _ wcl _) (hC.2.1 _ win _) (hC.2.1 _ wini _) rfl hd hbc hbs hK.2.1 hnn fun H1 kC hkC e1 z1 o1 => ?_
  have o1 : ∀ x : Nat, x < H.size → H1[x]? = H[x]? := fun x hx => o1 x (by rw [← hnn]; exact hx)
  have z1 : H1.size = H.size + 1 := by rw [z1, hnn]
  have hlb : ∀ w ∈ u_ws C T N, w.before args s = true := fun w hw => by
    obtain ⟨k, hk, rfl⟩ := List.mem_map.mp hw
    exact hC.2.1 _ (hlays k (List.mem_range.mp hk)) args
  exact kk hX H1 locs la (hH.al (Nat.le_trans hC.2.2.2.2.2 hS.1) ⟨_, hci, u_born ty0 hlb (fun w hw => hw) hK hkC e1 hty⟩ z1 o1) (e_Sal hS z1 o1) hla
theorem k_newI {ρ : Type} {en : ρ → Option Value} {q : eT} {r0 : ρ} {h0 : eH} {pc : Nat} {ls : List (Nat × Value)} {st : List Value} {h : eH} {X : Option (ρ × eH)} {own : String} {cc : ByteArray} {nl fr lo : Nat} {ret : Option FieldType} {nm : String} (hq : e_B q own cc nl fr lo ret nm) {K : Nat} {x : Int32} (hx0 : ¬ x < 0) (hxK : x.toNatClampNeg = K) (hbytes : K * componentBytes (newarray.typeOf .int) ≤ 536870912) (warr : e_in (.arrayClass (newarray.typeOf .int))) (hbc : e_c q + 1 ≤ (e_R q).cells) (hbs : e_s q + K ≤ (e_R q).slots) (hd : decode cc pc = .ok (.newarray .int, 2)) (kk : e_K en (e_mv q (e_n q + 1) (e_c q + 1) (e_s q + K)) r0 h0 (pc + 2) ls (.ref (e_n q) :: st) (h_set h (e_n q) (oI 0 K (fun _ => 0))) X) : e_K en q r0 h0 pc ls (.int x :: st) h X := by
  obtain ⟨p, l, e, R, s, m, args, below, meth, c, G, B0, nn, nL, c0, s0, Qf⟩ := q
  obtain ⟨hx, hb, hml, hnl, hown, hC, hlk, hfr, hlo, hret, hnm, hc0, hs0⟩ := hq
  refine fun hX H locs la hH hS hla => ?_
  have hnn : H.size = nn := hH.1
  refine va_newaK hx hb (hC.2.1 _ warr _) rfl hd rfl hx0 hxK hbytes hbc hbs hnn fun H1 cA e1 z1 o1 hAr hNm => ?_
  have o1 : ∀ x : Nat, x < H.size → H1[x]? = H[x]? := fun x hx => o1 x (by rw [← hnn]; exact hx)
  have z1 : H1.size = H.size + 1 := by rw [z1, hnn]
  have hcA : cA = G.2.1 0 := Option.some.inj (hNm.symm.trans (e_arr hC 0 rfl).2)
  subst hcA
  exact kk hX H1 locs la (hH.al (Nat.le_trans hC.2.2.2.2.2 hS.1) (show H1[nn]? = some (vp_cell _ _) by rw [vp_cell_i]; exact e1) z1 o1) (e_Sal hS z1 o1) hla
theorem k_newL {ρ : Type} {en : ρ → Option Value} {q : eT} {r0 : ρ} {h0 : eH} {pc : Nat} {ls : List (Nat × Value)} {st : List Value} {h : eH} {X : Option (ρ × eH)} {own : String} {cc : ByteArray} {nl fr lo : Nat} {ret : Option FieldType} {nm : String} (hq : e_B q own cc nl fr lo ret nm) {K : Nat} {x : Int32} (hx0 : ¬ x < 0) (hxK : x.toNatClampNeg = K) (hbytes : K * componentBytes (newarray.typeOf .long) ≤ 536870912) (warr : e_in (.arrayClass (newarray.typeOf .long))) (hbc : e_c q + 1 ≤ (e_R q).cells) (hbs : e_s q + K ≤ (e_R q).slots) (hd : decode cc pc = .ok (.newarray .long, 2)) (kk : e_K en (e_mv q (e_n q + 1) (e_c q + 1) (e_s q + K)) r0 h0 (pc + 2) ls (.ref (e_n q) :: st) (h_set h (e_n q) (oL 1 K (fun _ => 0))) X) : e_K en q r0 h0 pc ls (.int x :: st) h X := by
  obtain ⟨p, l, e, R, s, m, args, below, meth, c, G, B0, nn, nL, c0, s0, Qf⟩ := q
  obtain ⟨hx, hb, hml, hnl, hown, hC, hlk, hfr, hlo, hret, hnm, hc0, hs0⟩ := hq
  refine fun hX H locs la hH hS hla => ?_
  have hnn : H.size = nn := hH.1
  refine va_newaK hx hb (hC.2.1 _ warr _) rfl hd rfl hx0 hxK hbytes hbc hbs hnn fun H1 cA e1 z1 o1 hAr hNm => ?_
  have o1 : ∀ x : Nat, x < H.size → H1[x]? = H[x]? := fun x hx => o1 x (by rw [← hnn]; exact hx)
  have z1 : H1.size = H.size + 1 := by rw [z1, hnn]
  have hcA : cA = G.2.1 1 := Option.some.inj (hNm.symm.trans (e_arr hC 1 rfl).2)
  subst hcA
  exact kk hX H1 locs la (hH.al (Nat.le_trans hC.2.2.2.2.2 hS.1) (show H1[nn]? = some (vp_cell _ _) by rw [vp_cell_l]; exact e1) z1 o1) (e_Sal hS z1 o1) hla
theorem k_newZ {ρ : Type} {en : ρ → Option Value} {q : eT} {r0 : ρ} {h0 : eH} {pc : Nat} {ls : List (Nat × Value)} {st : List Value} {h : eH} {X : Option (ρ × eH)} {own : String} {cc : ByteArray} {nl fr lo : Nat} {ret : Option FieldType} {nm : String} (hq : e_B q own cc nl fr lo ret nm) {K : Nat} {x : Int32} (hx0 : ¬ x < 0) (hxK : x.toNatClampNeg = K) (hbytes : K * componentBytes (newarray.typeOf .boolean) ≤ 536870912) (warr : e_in (.arrayClass (newarray.typeOf .boolean))) (hbc : e_c q + 1 ≤ (e_R q).cells) (hbs : e_s q + K ≤ (e_R q).slots) (hd : decode cc pc = .ok (.newarray .boolean, 2)) (kk : e_K en (e_mv q (e_n q + 1) (e_c q + 1) (e_s q + K)) r0 h0 (pc + 2) ls (.ref (e_n q) :: st) (h_set h (e_n q) (oI 2 K (fun _ => 0))) X) : e_K en q r0 h0 pc ls (.int x :: st) h X := by
  obtain ⟨p, l, e, R, s, m, args, below, meth, c, G, B0, nn, nL, c0, s0, Qf⟩ := q
  obtain ⟨hx, hb, hml, hnl, hown, hC, hlk, hfr, hlo, hret, hnm, hc0, hs0⟩ := hq
  refine fun hX H locs la hH hS hla => ?_
  have hnn : H.size = nn := hH.1
  refine va_newaK hx hb (hC.2.1 _ warr _) rfl hd rfl hx0 hxK hbytes hbc hbs hnn fun H1 cA e1 z1 o1 hAr hNm => ?_
  have o1 : ∀ x : Nat, x < H.size → H1[x]? = H[x]? := fun x hx => o1 x (by rw [← hnn]; exact hx)
  have z1 : H1.size = H.size + 1 := by rw [z1, hnn]
  have hcA : cA = G.2.1 2 := Option.some.inj (hNm.symm.trans (e_arr hC 2 rfl).2)
  subst hcA
  exact kk hX H1 locs la (hH.al (Nat.le_trans hC.2.2.2.2.2 hS.1) (show H1[nn]? = some (vp_cell _ _) by rw [vp_cell_i]; exact e1) z1 o1) (e_Sal hS z1 o1) hla
theorem k_newR {ρ : Type} {en : ρ → Option Value} {q : eT} {r0 : ρ} {h0 : eH} {pc : Nat} {ls : List (Nat × Value)} {st : List Value} {h : eH} {X : Option (ρ × eH)} {own : String} {cc : ByteArray} {nl fr lo : Nat} {ret : Option FieldType} {nm : String} (hq : e_B q own cc nl fr lo ret nm) (t : Nat) {C : String} (hty : ∀ G : eG, (e_tys G)[t]? = some (G.2.1 t, .object C)) {K index : Nat} {x : Int32} (hx0 : ¬ x < 0) (hxK : x.toNatClampNeg = K) (hbytes : K * 4 ≤ 536870912) (wcl : e_in (.classLink own index C)) (wov : e_nin (.arrayOver (.object C))) (hbc : e_c q + 1 ≤ (e_R q).cells) (hbs : e_s q + K ≤ (e_R q).slots) (hd : decode cc pc = .ok (.anewarray index, 3)) (kk : e_K en (e_mv q (e_n q + 1) (e_c q + 1) (e_s q + K)) r0 h0 (pc + 3) ls (.ref (e_n q) :: st) (h_set h (e_n q) (oR t K (fun _ => none))) X) : e_K en q r0 h0 pc ls (.int x :: st) h X := by
  obtain ⟨p, l, e, R, s, m, args, below, meth, c, G, B0, nn, nL, c0, s0, Qf⟩ := q
  obtain ⟨hx, hb, hml, hnl, hown, hC, hlk, hfr, hlo, hret, hnm, hc0, hs0⟩ := hq
  subst hxK
  refine fun hX H locs la hH hS hla => ?_
  have hnn : H.size = nn := hH.1
  refine W.anew hx hb hown (hC.2.1 _ wcl _) (va_AO.use (hC.2.2.1 _ wov)) rfl hd rfl hx0 hbytes hbc hbs fun cA kA comp f1 f2 f3 f4 => ?_
  generalize hH1 : H.push ({ cls := cA, slots := Array.replicate x.toNatClampNeg .null, vm := .none } : Cell) = H1
  have z1 : H1.size = H.size + 1 := by rw [← hH1, Array.size_push]
  have e1 : H1[H.size]? = some (arrV cA x.toNatClampNeg (fun _ => .null)) := by rw [← hH1, Array.getElem?_push_size, ← arrV_new]
  have o1 : ∀ x : Nat, x < H.size → H1[x]? = H[x]? := fun x hx => by rw [← hH1, Array.getElem?_push, if_neg (Nat.ne_of_lt hx)]
  obtain ⟨kA', comp', g1, g2, g3, g4⟩ := (e_arr hC t (hty G)).2
  have hcA : cA = G.2.1 t := Option.some.inj (f1.symm.trans g4)
  subst hcA
  rw [hnn] at e1 ⊢
  exact kk hX H1 locs la (hH.al (Nat.le_trans hC.2.2.2.2.2 hS.1) (show H1[nn]? = some (vp_cell _ _) by rw [vp_cell_q]; exact e1) z1 o1) (e_Sal hS z1 o1) hla
theorem k_callIA {ρ : Type} {en : ρ → Option Value} {q : eT} {r0 : ρ} {h0 : eH} {pc : Nat} {ls : List (Nat × Value)} {st : List Value} {h : eH} {own : String} {cc : ByteArray} {nl fr lo : Nat} {ret : Option FieldType} {nm : String} (hq : e_B q own cc nl fr lo ret nm) {y : MethodName} {bytes : ByteArray} {maxL fr' lo' idx na mc ms b : Nat} {As : List Value} {st0 : List Value} {F' : eH → Option (Unit × eH)} {f : Unit → eH → Option (ρ × eH)} (hM : e_CA eV (e_l q) (e_G q) (e_B0 q) (e_n q) y bytes maxL none fr' lo' mc ms (.ref b :: As) F') (wcode : e_in (.code y bytes maxL none)) (wini : e_in (.initialized y.cls)) (wlink : e_in (.methodLink own idx y)) (winst : e_in (.instanceMethod y)) (hy1 : y.name = "<init>") (hy : y.cls ≠ "java/lang/invoke/MethodHandle" ∧ y.cls ≠ "java/lang/invoke/VarHandle" ∧ (parseMethodDescriptor y.desc).map (fun d => d.parameters.length) = some na) (hna : As.length = na) (hfl : fr' + 1 ≤ fr ∧ 8 + (maxL + 11) + lo' ≤ lo) (hst : st0 = As.reverse ++ .ref b :: st) (hW8 : (st.map fun v => v.category).sum ≤ 8) (hbc : e_c q + mc ≤ (e_R q).cells) (hbs : e_s q + ms ≤ (e_R q).slots) (hd : decode cc pc = .ok (.invokespecial idx, 3)) (kk : ∀ r h', e_K en (e_mv q (e_n q + mc) (e_c q + mc) (e_s q + ms)) r0 h0 (pc + 3) ls st h' (f r h')) : e_K en q r0 h0 pc ls st0 h (e_bind (F' h) f) := by
  unfold e_bind
  refine k_bind fun v hv => ?_
  obtain ⟨r', h1⟩ := v
  have kk := kk r' h1
  have hMet := hM h r' h1 hv
  subst hst
  obtain ⟨p, l, e, R, s, m, args, below, meth, c, G, B0, nn, nL, c0, s0, Qf⟩ := q
  obtain ⟨hx, hb, hml, hnl, hown, hC, hlk, hfr, hlo, hret, hnm, hc0, hs0⟩ := hq
  refine fun hX H locs la hH hS hla => ?_
  have hgo : ∀ U : State, U.heap = H → s.WarmedH U.vm → e_Cx G B0 U := fun U hU hW => hC.go hW (by rw [hU]; exact hS.1) (fun a g1 g2 => by rw [hU]; exact hS.2.1 a g1 g2)
  refine e_ran (nL := nL) (va_runI (As := As) (rest := st) (Ts := []) ⟨hx, hb, hml, hown, fun w hw => by cases hw⟩ hMet ⟨⟨rfl, rfl, by rw [hfr]; exact hfl.1, by rw [hlo]; exact hfl.2, fun w hw a' U hW => by rw [List.mem_singleton.mp hw]; exact word_at hW (good_of_word wcode.2) (hC.2.1 _ wcode #[]), List.mem_singleton.mpr rfl, hC.2.1 _ wcode _, hC.2.1 _ wini _, ⟨hy.1, hy.2.1⟩, fun sig hs => by have h2 := hy.2.2; rw [hs] at h2; exact (Option.some.inj h2).symm, hC.2.1 _ wlink _⟩, hy1, hC.2.1 _ winst _⟩ ⟨e_blind, fun U hU hW => ⟨rfl, by rw [hU]; exact hH, hgo U hU hW⟩⟩ rfl hna hla.1 rfl (by show 2 * 0 + _ ≤ 8; omega) hd ⟨hbc, hbs⟩) hS fun H1 locs1 g5 g6 => ?_
  exact kk hX H1 locs1 la g5 g6 hla
theorem k_callINA {ρ : Type} {en : ρ → Option Value} {q : eT} {r0 : ρ} {h0 : eH} {pc : Nat} {ls : List (Nat × Value)} {st : List Value} {h : eH} {own : String} {cc : ByteArray} {nl fr lo : Nat} {ret : Option FieldType} {nm : String} (hq : e_B q own cc nl fr lo ret nm) {y : MethodName} {bytes : ByteArray} {maxL fr' lo' idx na mc ms b : Nat} {As : List Value} {st0 : List Value} {F' : eH → Option (Unit × eH)} {f : Unit → eH → Option (ρ × eH)} (hM : e_CA eV (e_l q) (e_G q) (e_B0 q) (e_n q) y bytes maxL none fr' lo' mc ms (.ref b :: As) F') (wcode : e_in (.code y bytes maxL none)) (wini : e_in (.initialized y.cls)) (wlink : e_nin (.methodLinkNest own idx y "SideVersions")) (winst : e_in (.instanceMethod y)) (hy1 : y.name = "<init>") (hy : y.cls ≠ "java/lang/invoke/MethodHandle" ∧ y.cls ≠ "java/lang/invoke/VarHandle" ∧ (parseMethodDescriptor y.desc).map (fun d => d.parameters.length) = some na) (hna : As.length = na) (hfl : fr' + 1 ≤ fr ∧ 8 + (maxL + 11) + lo' ≤ lo) (hst : st0 = As.reverse ++ .ref b :: st) (hW8 : (st.map fun v => v.category).sum ≤ 8) (hbc : e_c q + mc ≤ (e_R q).cells) (hbs : e_s q + ms ≤ (e_R q).slots) (hd : decode cc pc = .ok (.invokespecial idx, 3)) (kk : ∀ r h', e_K en (e_mv q (e_n q + mc) (e_c q + mc) (e_s q + ms)) r0 h0 (pc + 3) ls st h' (f r h')) : e_K en q r0 h0 pc ls st0 h (e_bind (F' h) f) := by
  unfold e_bind
  refine k_bind fun v hv => ?_
  obtain ⟨r', h1⟩ := v
  have kk := kk r' h1
  have hMet := hM h r' h1 hv
  subst hst
  obtain ⟨p, l, e, R, s, m, args, below, meth, c, G, B0, nn, nL, c0, s0, Qf⟩ := q
  obtain ⟨hx, hb, hml, hnl, hown, hC, hlk, hfr, hlo, hret, hnm, hc0, hs0⟩ := hq
  refine fun hX H locs la hH hS hla => ?_
  have hgo : ∀ U : State, U.heap = H → s.WarmedH U.vm → e_Cx G B0 U := fun U hU hW => hC.go hW (by rw [hU]; exact hS.1) (fun a g1 g2 => by rw [hU]; exact hS.2.1 a g1 g2)
  refine e_ran (nL := nL) (va_runIN (As := As) (rest := st) (Ts := []) ⟨hx, hb, hml, hown, fun w hw => by cases hw⟩ hMet ⟨⟨⟨rfl, rfl, by rw [hfr]; exact hfl.1, by rw [hlo]; exact hfl.2, fun w hw a' U hW => by rw [List.mem_singleton.mp hw]; exact word_at hW (good_of_word wcode.2) (hC.2.1 _ wcode #[]), List.mem_singleton.mpr rfl⟩, hC.2.1 _ wcode _, hC.2.1 _ wini _, ⟨hy.1, hy.2.1⟩, fun sig hs => by have h2 := hy.2.2; rw [hs] at h2; exact (Option.some.inj h2).symm, va_Nw.use rfl (hC.2.2.1 _ wlink)⟩, hy1, hC.2.1 _ winst _⟩ ⟨e_blind, fun U hU hW => ⟨rfl, by rw [hU]; exact hH, hgo U hU hW⟩⟩ rfl hna hla.1 rfl (by show 2 * 0 + _ ≤ 8; omega) hd ⟨hbc, hbs⟩) hS fun H1 locs1 g5 g6 => ?_
  exact kk hX H1 locs1 la g5 g6 hla
