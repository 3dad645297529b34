/-! DOTS, what is left of them; JOURNAL -/
def sz (f : Nat → Nat) : Nat → Nat
  | 0 => 0
  | t + 1 => sz f t + f t
theorem sz_s (f : Nat → Nat) (t : Nat) : sz f (t + 1) = sz f t + f t := rfl
theorem sz_cong {f g : Nat → Nat} : ∀ {n : Nat}, (∀ t, t < n → f t = g t) → sz f n = sz g n
  | 0, _ => rfl
  | n + 1, h => by rw [sz_s, sz_s, sz_cong (fun t ht => h t (by omega)), h n (by omega)]
section DOTS2
variable {B : Nat} {I : Nat → Nat → Int32} {J : Nat → Nat → Int64} {d e t n i : Nat}
theorem s_size {N : Nat} (hN : 5 < N) (hd : isD d) : F_X1_size N (B + d) (HP B I J) = some (nI (sz (fun t => ct (g64 (J (d + 1) t)) 64) 4), HP B I J) := by
  unfold F_X1_size L_X1_size_4
  have e1 := e_loop_f (body := fun (k : Nat × Int32 × Int32 × eH → Option (Int32 × eH)) s => F_X1_size_4b N (fun l0 l1 l2 h => k (l0, l1, l2, h)) s.1 s.2.1 s.2.2.1 s.2.2.2) (fun i => (B + d, nI (sz (fun t => ct (g64 (J (d + 1) t)) 64) i), nI i, HP B I J)) 4 (N := N) (fun i hi k0 => by
    show F_X1_size_4b N _ (B + d) (nI (sz (fun t => ct (g64 (J (d + 1) t)) 64) i)) (nI i) (HP B I J) = k0 _
    unfold F_X1_size_4b
    rw [if_neg (k4_lt i hi)]
    simp only [d_gr hd, d_al hd hi, Option.bind_some, s_bits, e_bind_some, e_let, nI_1, nI_add, sz_s]) (by omega)
  refine Eq.trans e1 ?_
  show F_X1_size_4b N _ (B + d) (nI (sz (fun t => ct (g64 (J (d + 1) t)) 64) 4)) (nI 4) (HP B I J) = _
  unfold F_X1_size_4b
  rw [if_pos k4_n]
theorem s_coveredTotal {N : Nat} (hN : 5 < N) (hd : isD d) {x : Int32} {m : Nat → Nat} (hm : ∀ t, t < 4 → rn x t = nI (m t)) : F_X1_coveredTotal N (B + d) x (HP B I J) = some (nI (sz (fun t => ct (g64 (J (d + 1) t &&& cv (m t))) 64) 4), HP B I J) := by
  unfold F_X1_coveredTotal L_X1_coveredTotal_4
  have e1 := e_loop_f (body := fun (k : Nat × Int32 × Int32 × Int32 × eH → Option (Int32 × eH)) s => F_X1_coveredTotal_4b N (fun l0 l1 l2 l3 h => k (l0, l1, l2, l3, h)) s.1 s.2.1 s.2.2.1 s.2.2.2.1 s.2.2.2.2) (fun i => (B + d, x, nI (sz (fun t => ct (g64 (J (d + 1) t &&& cv (m t))) 64) i), nI i, HP B I J)) 4 (N := N) (fun i hi k0 => by
    show F_X1_coveredTotal_4b N _ (B + d) (x) (nI (sz (fun t => ct (g64 (J (d + 1) t &&& cv (m t))) 64) i)) (nI i) (HP B I J) = k0 _
    unfold F_X1_coveredTotal_4b
    rw [if_neg (k4_lt i hi)]
    simp only [d_gr hd, d_al hd hi, s_covered (hm i hi), Option.bind_some, s_bits, e_bind_some, e_let, nI_1, nI_add, sz_s]) (by omega)
  refine Eq.trans e1 ?_
  show F_X1_coveredTotal_4b N _ (B + d) (x) (nI (sz (fun t => ct (g64 (J (d + 1) t &&& cv (m t))) 64) 4)) (nI 4) (HP B I J) = _
  unfold F_X1_coveredTotal_4b
  rw [if_pos k4_n]
theorem s_addCovered {N : Nat} (hN : 5 < N) (hd : isD d) (he : isD e) (hde : e + 1 ≠ d + 1) {x : Int32} {m : Nat → Nat} (hm : ∀ t, t < 4 → rn x t = nI (m t)) : F_X1_addCovered N (B + d) (B + e) x (HP B I J) = some ((), HP B I (wN J (d + 1) 4 (fun t => J (d + 1) t ||| (J (e + 1) t &&& cv (m t))))) := by
  unfold F_X1_addCovered L_X1_addCovered_2
  have e1 := e_loop_f (body := fun (k : Nat × Nat × Int32 × Int32 × eH → Option (Unit × eH)) s => F_X1_addCovered_2b N (fun l0 l1 l2 l3 h => k (l0, l1, l2, l3, h)) s.1 s.2.1 s.2.2.1 s.2.2.2.1 s.2.2.2.2) (fun i => (B + d, B + e, x, nI i, HP B I (wN J (d + 1) i (fun t => J (d + 1) t ||| (J (e + 1) t &&& cv (m t)))))) 4 (N := N) (fun i hi k0 => by
    show F_X1_addCovered_2b N _ (B + d) (B + e) (x) (nI i) (HP B I (wN J (d + 1) i (fun t => J (d + 1) t ||| (J (e + 1) t &&& cv (m t))))) = k0 _
    unfold F_X1_addCovered_2b
    rw [if_neg (k4_lt i hi)]
    simp only [d_gr hd, d_gr he, d_al hd hi, d_al he hi, d_sl hd hi, s_covered (hm i hi), e_bind_some, Option.bind_some, nI_1, wN_at J (d + 1) i _ (Nat.le_refl i), wN_c J i _ i hde, wN_s J (d + 1) i (fun t => J (d + 1) t ||| (J (e + 1) t &&& cv (m t)))]) (by omega)
  simp only [wN_0] at e1
  refine Eq.trans e1 ?_
  show F_X1_addCovered_2b N _ (B + d) (B + e) (x) (nI 4) (HP B I (wN J (d + 1) 4 (fun t => J (d + 1) t ||| (J (e + 1) t &&& cv (m t))))) = _
  unfold F_X1_addCovered_2b
  rw [if_pos k4_n]
theorem s_removeCovered {N : Nat} (hN : 5 < N) (hd : isD d) {x : Int32} {m : Nat → Nat} (hm : ∀ t, t < 4 → rn x t = nI (m t)) : F_X1_removeCovered N (B + d) x (HP B I J) = some ((), HP B I (wN J (d + 1) 4 (fun t => J (d + 1) t &&& (cv (m t) ^^^ (-1))))) := by
  unfold F_X1_removeCovered L_X1_removeCovered_2
  have e1 := e_loop_f (body := fun (k : Nat × Int32 × Int32 × eH → Option (Unit × eH)) s => F_X1_removeCovered_2b N (fun l0 l1 l2 h => k (l0, l1, l2, h)) s.1 s.2.1 s.2.2.1 s.2.2.2) (fun i => (B + d, x, nI i, HP B I (wN J (d + 1) i (fun t => J (d + 1) t &&& (cv (m t) ^^^ (-1)))))) 4 (N := N) (fun i hi k0 => by
    show F_X1_removeCovered_2b N _ (B + d) (x) (nI i) (HP B I (wN J (d + 1) i (fun t => J (d + 1) t &&& (cv (m t) ^^^ (-1))))) = k0 _
    unfold F_X1_removeCovered_2b
    rw [if_neg (k4_lt i hi)]
    simp only [d_gr hd, d_al hd hi, d_sl hd hi, s_covered (hm i hi), e_bind_some, Option.bind_some, nI_1, wN_at J (d + 1) i _ (Nat.le_refl i), wN_s J (d + 1) i (fun t => J (d + 1) t &&& (cv (m t) ^^^ (-1)))]) (by omega)
  simp only [wN_0] at e1
  refine Eq.trans e1 ?_
  show F_X1_removeCovered_2b N _ (B + d) (x) (nI 4) (HP B I (wN J (d + 1) 4 (fun t => J (d + 1) t &&& (cv (m t) ^^^ (-1))))) = _
  unfold F_X1_removeCovered_2b
  rw [if_pos k4_n]
theorem s_join {N : Nat} (hN : 5 < N) (hd : isD d) (he : isD e) (hde : e + 1 ≠ d + 1) {x x2 : Int32} {m m2 : Nat → Nat} (hm : ∀ t, t < 4 → rn x t = nI (m t)) (hm2 : ∀ t, t < 4 → rn x2 t = nI (m2 t)) : F_X1_join N (B + d) x (B + e) x2 (HP B I J) = some ((), HP B I (wN J (d + 1) 4 (fun t => J (d + 1) t &&& J (e + 1) t ||| J (d + 1) t &&& (cv (m2 t) ^^^ (-1)) ||| J (e + 1) t &&& (cv (m t) ^^^ (-1))))) := by
  unfold F_X1_join L_X1_join_3
  have e1 := e_loop_f (body := fun (k : Nat × Int32 × Nat × Int32 × Int32 × eH → Option (Unit × eH)) s => F_X1_join_3b N (fun l0 l1 l2 l3 l4 h => k (l0, l1, l2, l3, l4, h)) s.1 s.2.1 s.2.2.1 s.2.2.2.1 s.2.2.2.2.1 s.2.2.2.2.2) (fun i => (B + d, x, B + e, x2, nI i, HP B I (wN J (d + 1) i (fun t => J (d + 1) t &&& J (e + 1) t ||| J (d + 1) t &&& (cv (m2 t) ^^^ (-1)) ||| J (e + 1) t &&& (cv (m t) ^^^ (-1)))))) 4 (N := N) (fun i hi k0 => by
    show F_X1_join_3b N _ (B + d) (x) (B + e) (x2) (nI i) (HP B I (wN J (d + 1) i (fun t => J (d + 1) t &&& J (e + 1) t ||| J (d + 1) t &&& (cv (m2 t) ^^^ (-1)) ||| J (e + 1) t &&& (cv (m t) ^^^ (-1))))) = k0 _
    unfold F_X1_join_3b
    rw [if_neg (k4_lt i hi)]
    simp only [d_gr hd, d_gr he, d_al hd hi, d_al he hi, d_sl hd hi, s_covered (hm i hi), s_covered (hm2 i hi), e_bind_some, Option.bind_some, nI_1, wN_at J (d + 1) i _ (Nat.le_refl i), wN_c J i _ i hde, wN_s J (d + 1) i (fun t => J (d + 1) t &&& J (e + 1) t ||| J (d + 1) t &&& (cv (m2 t) ^^^ (-1)) ||| J (e + 1) t &&& (cv (m t) ^^^ (-1)))]) (by omega)
  simp only [wN_0] at e1
  refine Eq.trans e1 ?_
  show F_X1_join_3b N _ (B + d) (x) (B + e) (x2) (nI 4) (HP B I (wN J (d + 1) 4 (fun t => J (d + 1) t &&& J (e + 1) t ||| J (d + 1) t &&& (cv (m2 t) ^^^ (-1)) ||| J (e + 1) t &&& (cv (m t) ^^^ (-1))))) = _
  unfold F_X1_join_3b
  rw [if_pos k4_n]
theorem s_gone (hd : isD d) (ht : t < 4) {x : Int32} {m : Nat} (hm : rn x t = nI m) : F_X1_gone (B + d) x (nI t) (HP B I J) = some (cv m &&& (J (d + 1) t ^^^ (-1)), HP B I J) := by
  unfold F_X1_gone
  simp only [if_neg (nI_n0 (show t < 2 ^ 31 by omega)), d_gr hd, d_len hd, d_al hd ht, s_covered hm, e_bind_some, Option.bind_some, if_neg (k4_lt t ht)]
end DOTS2
