def R_law : String := "SideVersionsLaw"
def lw_P (b : Addr) (xs : List Int32) (args : Array Value) (s : State) : Prop := args = #[.ref b] ∧ s.IntsAt b xs ∧ xs.length ≤ 3584 ∧ (Jvm.Cond.and given_1 narrow_1).before args s = true
def lw_Q (_ : Array Value) (s : State) (o : Outcome) (t : State) : Prop := o = .returned (some (.int 1)) ∧ Framed s o t [] 600000 7302250
def lw_Z (below : List Frame) (a : Array Value) (s : State) : State → Prop := fun t => ∃ o, t.status = .running ∧ Ended t below o ∧ lw_Q a s o t
/-- the law's own end, with 1 on the stack, nothing written that was there before, its room as the claim has it -/
theorem lw_ret {p : Program} {l : Launch} {e : Env} {s : State} {m : MethodId} {below : List Frame} {meth : Method} {c : Code} {b : Nat} (hx : p.tables.exec = Jvm.exec) (hb : c.code = code) (hr : meth.sig.returnType = ret) (hlocks : meth.locks = false) {pc : Nat} {H : Heap} {ls : Array Slot} (hdg : decode code pc = .ok (.ireturn, 1)) : W p l e room_1 s m #[Value.ref b] below meth c H [] 600000 7302250 (lw_Z below #[Value.ref b] s) (F0 m pc ls [.int 1]) := by
  intro T hT X
  obtain ⟨fs, hret, hrun, hended, hW, hframe⟩ := X.leave (v := some (.int 1)) (hlocks := hlocks) (fun h => by rw [hr] at h; cases h)
  have hmeth' : T.vm.method? m = some meth := X.method'
  refine ⟨T.setFrames fs, ?_, .returned (some (.int 1)), hrun, hended, rfl, ⟨_, rfl⟩, hW, hframe⟩
  jvm_step X.here [X.here.top, hx, hb, hdg, hmeth', hr, ret, narrow_b1]
  (try refine ⟨rfl, ?_⟩); (try refine ⟨rfl, ?_⟩)
  first | (intro acts; rw [hret _ acts rfl rfl rfl]) | rw [hret _ _ rfl rfl rfl]
  exact Steps.refl _
/-- what holds at the law's entry: the machine, the code, the tables' words (any of lw_tbl by 'hts w (by decide +kernel)'), the script of L ints xs at the cell b, what the Statement gives of the start (any of its parts by flat_of_before) -/
def lw_At (p : Program) (s : State) (m : MethodId) (meth : Method) (c : Code) (b L : Nat) (xs : Nat → Int32) : Prop :=
  p.tables.exec = Jvm.exec ∧ c.code = code ∧ meth.sig.returnType = ret ∧ c.maxLocals = 4 ∧ s.vm.findClass R_law = some m.cls ∧ (∀ w ∈ lw_tbl, w.before #[Value.ref b] s = true) ∧ va_X b L xs s s.heap ∧ b < s.heap.size ∧ meth.locks = false ∧ (Jvm.Cond.and given_1 narrow_1).before #[Value.ref b] s = true

/-! what the walks of the makers and of the law need besides -/
def s_cell (L : Nat) (xs : Nat → Int32) (i : Int32) : Option Int32 := if ¬ i < 0 ∧ i.toNatClampNeg < L then some (xs i.toNatClampNeg) else none
def e_st (q : eT) : State := q.2.2.2.2.1
def e_ar (q : eT) : Array Value := q.2.2.2.2.2.2.1
def e_be (q : eT) : List Frame := q.2.2.2.2.2.2.2.1
def e_Qf (q : eT) : Option Value → eH → State → Prop := q.2.2.2.2.2.2.2.2.2.2.2.2.2.2.2.2
/-- the script lies where nothing is written -/
def e_X (q : eT) (b L : Nat) (xs : Nat → Int32) : Prop := va_X b L xs (e_st q) (e_st q).heap ∧ b < (e_st q).heap.size ∧ ¬ e_B0 q ≤ b
/-- the law's own end -/
def e_F (q : eT) : Prop := e_R q = room_1 ∧ e_B0 q = (e_st q).heap.size ∧ e_Qf q = (fun _ _ => lw_Z (e_be q) (e_ar q) (e_st q)) ∧ ∃ b : Nat, e_ar q = #[Value.ref b]
section EM
variable {ρ : Type} {en : ρ → Option Value} {q : eT} {r0 : ρ} {h0 : eH} {pc : Nat} {ls : List (Nat × Value)} {st : List Value} {h : eH} {X : Option (ρ × eH)} {own : String} {cc : ByteArray} {nl fr lo : Nat} {ret : Option FieldType} {nm : String}
theorem k_leth {x : eH} {f : eH → Option (ρ × eH)} (hh : ∀ h', h' = x → e_K en q r0 h0 pc ls st h' (f h')) : e_K en q r0 h0 pc ls st x (e_let x f) := hh x rfl
theorem k_loopA {σ : Type} {body : (σ → Option (ρ × eH)) → σ → Option (ρ × eH)} {mk : σ → List (Nat × Value)} {hp : σ → eH} {qq : σ → eT} (hb : ∀ k : σ → Option (ρ × eH), (∀ s, e_K en (qq s) r0 h0 pc (mk s) [] (hp s) (k s)) → ∀ s, e_K en (qq s) r0 h0 pc (mk s) [] (hp s) (body k s)) : ∀ (n : Nat) (s : σ), e_K en (qq s) r0 h0 pc (mk s) [] (hp s) (e_loop body n s) := by
  intro n
  induction n with
  | zero => intro s; exact k_none rfl
  | succ n ih => intro s; exact hb _ ih s
theorem k_sld {b L : Nat} {xs : Nat → Int32} (hq : e_B q own cc nl fr lo ret nm) (hX : e_X q b L xs) {i : Int32} {f : Int32 → Option (ρ × eH)} (hd : decode cc pc = .ok (.iaload, 1)) (kk : ∀ v, e_K en q r0 h0 (pc + 1) ls (.int v :: st) h (f v)) : e_K en q r0 h0 pc ls (.int i :: .ref b :: st) h ((s_cell L xs i).bind f) := by
  refine k_bind fun v hv => ?_
  have kk := kk v
  obtain ⟨p, l, e, R, s, m, args, below, meth, c, G, B0, nn, nL, c0, s0, Qf⟩ := q
  obtain ⟨hx, hb, hml, hnl, hown, hC, hlk, hfr, hlo, hret, hnm, hc0, hs0⟩ := hq
  obtain ⟨hX1, hX2, hX3⟩ := hX
  unfold s_cell at hv
  split at hv
  · rename_i hin
    cases hv
    exact fun hX H locs la hH hS hla => va_sld (A := fun x => B0 ≤ x) hx hb hX1 hX2 hX3 hS (fun z => z.elim hin.1 (fun z => absurd hin.2 (Nat.not_lt.mpr z))) hd (kk hX H locs la hH hS hla)
  · cases hv
theorem k_slen {b L : Nat} {xs : Nat → Int32} (hq : e_B q own cc nl fr lo ret nm) (hX : e_X q b L xs) (hd : decode cc pc = .ok (.arraylength, 1)) (kk : e_K en q r0 h0 (pc + 1) ls (.int (Int32.ofNat L) :: st) h X) : e_K en q r0 h0 pc ls (.ref b :: st) h X := by
  obtain ⟨p, l, e, R, s, m, args, below, meth, c, G, B0, nn, nL, c0, s0, Qf⟩ := q
  obtain ⟨hx, hb, hml, hnl, hown, hC, hlk, hfr, hlo, hret, hnm, hc0, hs0⟩ := hq
  obtain ⟨hX1, hX2, hX3⟩ := hX
  exact fun hX H locs la hH hS hla => va_slen (A := fun x => B0 ≤ x) hx hb hX1 hX2 hX3 hS hd (kk hX H locs la hH hS hla)
end EM
theorem k_lawret0 {q : eT} {h0 h : eH} {pc : Nat} {ls : List (Nat × Value)} {st : List Value} : e_K eI q 1 h0 pc ls st h (some (0, h)) := by
  intro hX
  have h1 : (0 : Int32) = 1 := congrArg Prod.fst (Option.some.inj hX)
  exact absurd h1 (by decide)
theorem k_lawret {q : eT} {h0 h : eH} {pc : Nat} {ls : List (Nat × Value)} {nm : String} (hq : e_B q RL cL_law 4 2048 84000 ret nm) (hd : decode cL_law pc = .ok (.ireturn, 1)) (hF : e_F q) : e_K eI q 1 h0 pc ls [.int 1] h (some (1, h)) := by
  obtain ⟨p, l, e, R, s, m, args, below, meth, c, G, B0, nn, nL, c0, s0, Qf⟩ := q
  obtain ⟨hx, hb, hml, hnl, hown, hC, hlk, hfr, hlo, hret, hnm, hc0, hs0⟩ := hq
  obtain ⟨f1, f2, f3, b, f4⟩ := hF
  dsimp only [e_R, e_B0, e_st, e_Qf, e_be, e_ar] at f1 f2 f3 f4
  subst f1; subst f2; subst f4; subst f3
  intro hX H locs la hH hS hla
  refine va_forget (fun z hz => hS.2.2 z hz) ?_
  refine W.widen (k := 600000) (n := 7302250) hc0 hs0 ?_
  exact lw_ret hx hb hret hlk hd
theorem e_mv_self {q : eT} {n : Nat} (e4 : e_n q = n) (e5 : e_c q = 0) (e6 : e_s q = 0) : e_mv q (n + 0) 0 0 = q := by
  obtain ⟨p, l, e, R, s, m, args, below, meth, c, G, B0, nn, nL, c0, s0, Qf⟩ := q
  have e4 : nn = n := e4
  have e5 : c0 = 0 := e5
  have e6 : s0 = 0 := e6
  subst e4; subst e5; subst e6
  rfl
theorem e_E_room {q : eT} {n c s : Nat} (he : e_E (e_mv q n c s)) : (e_R q).cells = c ∧ (e_R q).slots = s := by
  obtain ⟨p, l, e, R, s1, m, args, below, meth, c1, G, B0, nn, nL, c0, s0, Qf⟩ := q
  exact ⟨he.2.1, he.2.2⟩
