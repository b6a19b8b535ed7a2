/-! MOST: the reference goes through all orders by number -/
theorem drop_cons {o : List Nat} {i : Nat} (h : i < o.length) : o.drop i = o.getD i 0 :: o.drop (i + 1) := by
  rw [List.drop_eq_getElem_cons h, List.getD_eq_getElem?_getD, List.getElem?_eq_getElem h]; rfl
theorem getD_mem {o : List Nat} {i : Nat} (h : i < o.length) : o.getD i 0 ∈ o := by
  rw [List.getD_eq_getElem?_getD, List.getElem?_eq_getElem h]; exact List.getElem_mem h
theorem best_some {w q p0 : Nat} {F G P : Nat → Nat} {s : Int × List Nat} : ∀ (L : List (List Nat)) (s : Int × List Nat), 0 ≤ s.1 → 0 ≤ (L.foldl (stp w F G P p0) s).1
  | [], _, h => h
  | o :: L, s, h => by
    rw [List.foldl_cons]
    refine best_some (q := q) (s := s) L _ ?_
    unfold stp
    split
    · simp only []; omega
    · exact h
theorem best_ne (w q p0 : Nat) (F G P : Nat → Nat) : ((lay q q []).foldl (stp w F G P p0) (-1, [])).1 ≠ -1 := by
  have hl : 0 < (lay q q []).length := by rw [lay_len, fr_full]; exact pw_pos q q (Nat.le_refl q)
  match hL : lay q q [] with
  | [] => rw [hL] at hl; exact absurd hl (by simp)
  | o :: L =>
    rw [List.foldl_cons]
    have := best_some (w := w) (q := q) (p0 := p0) (F := F) (G := G) (P := P) (s := (-1, [])) L (stp w F G P p0 (-1, []) o) (by
      unfold stp
      rw [if_pos (by simp only []; omega)]
      simp only []; omega)
    omega
