/-! THE MERGER of the class -/
def eu (a b : Int64) : Nat → Int64 × Int64
  | 0 => (a, b)
  | i + 1 => ((eu a b i).2, (eu a b i).1 - (eu a b i).1 / (eu a b i).2 * (eu a b i).2)
def gcdL (a b : Int64) : Int64 := ex (fun i => !decide ((eu a b i).2 = 0)) (fun i => (eu a b i).1) (eu a b 1000).1 1000 0
theorem k1000_lt {i : Nat} (h : i < 1000) : ¬ (1000 : Int32) ≤ nI i := nI_ge h (by decide)
theorem k1000_n : (1000 : Int32) ≤ nI 1000 := nI_le (Nat.le_refl 1000) (by decide)
theorem s_divisorOf {N : Nat} (hN : 1001 < N) (a b : Int64) (h : eH) : F_X6_divisorOf N a b h = some (gcdL a b, h) := by
  have e0 : F_X6_divisorOf N a b h = ex (fun i => !decide ((eu a b i).2 = 0)) (fun i => some ((eu a b i).1, h)) (some ((eu a b 1000).1, h)) 1000 0 := by
    unfold F_X6_divisorOf L_X6_divisorOf_9
    have e1 := e_loop_e (body := fun (k : Int64 × Int64 × Int32 × eH → Option (Int64 × eH)) s => F_X6_divisorOf_9b N (fun l4 l6 l8 h => k (l4, l6, l8, h)) s.1 s.2.1 s.2.2.1 s.2.2.2) (fun i => ((eu a b i).1, (eu a b i).2, nI i, h)) (fun i => !decide ((eu a b i).2 = 0)) (fun i => some ((eu a b i).1, h)) (some ((eu a b 1000).1, h)) (1000) (N := N) (fun i hi k0 => by
      show F_X6_divisorOf_9b N _ ((eu a b i).1) ((eu a b i).2) (nI i) (h) = if _ = true then k0 _ else _
      unfold F_X6_divisorOf_9b
      rw [if_neg (k1000_lt hi)]
      simp only [lg_cmp0, e_let, nI_1]
      by_cases e : (eu a b i).2 = 0
      · rw [if_pos e, decide_eq_true e]; rfl
      · rw [if_neg e, if_neg e, decide_eq_false e]; rfl) (fun k0 => by
      show F_X6_divisorOf_9b N _ ((eu a b 1000).1) ((eu a b 1000).2) (nI 1000) (h) = _
      unfold F_X6_divisorOf_9b
      rw [if_pos k1000_n]) (by omega)
    exact e1
  rw [e0]
  exact (ex_map (fun z => some (z, h)) (g := fun i => !decide ((eu a b i).2 = 0)) (r := fun i => (eu a b i).1) (e := (eu a b 1000).1) 1000 0).symm
