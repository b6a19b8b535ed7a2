/-! the plain calls: class and reference side by side -/
theorem L0 : (0 : Int32) = iI 0 := rfl
theorem L1 : (1 : Int32) = iI 1 := rfl
theorem L2 : (2 : Int32) = iI 2 := rfl
theorem L3 : (3 : Int32) = iI 3 := rfl
theorem L4 : (4 : Int32) = iI 4 := rfl
theorem L6 : (6 : Int32) = iI 6 := rfl
theorem L8 : (8 : Int32) = iI 8 := rfl
theorem L9 : (9 : Int32) = iI 9 := rfl
theorem L16 : (16 : Int32) = iI 16 := rfl
theorem L32 : (32 : Int32) = iI 32 := rfl
theorem L96 : (96 : Int32) = iI 96 := rfl
theorem L300 : (300 : Int32) = iI 300 := rfl
theorem L99999 : (99999 : Int32) = iI 99999 := rfl
theorem same_k {r : Int32} {K : Prop} (h : K) : (r = r → K) ∧ (¬ r = r → False) := ⟨fun _ => h, fun n => n rfl⟩
theorem same_of {r r' : Int32} {K : Prop} (e : r = r') (h : K) : (r = r' → K) ∧ (¬ r = r' → False) := ⟨fun _ => h, fun n => n e⟩
theorem ok_isPerson {n : Nat} {z : Int} {Post : Int32 → Prop} (hn : n ≤ 8) (hz : -2147483648 ≤ z) (hz2 : z ≤ 2147483647) (h1 : 0 ≤ z → z < n → Post 1) (h0 : ¬ (0 ≤ z ∧ z < n) → Post 0) : wp_X1_isPerson (iI z) (nN n) Post := by
  unfold wp_X1_isPerson
  rw [L0, i_lt (by omega) (by omega) (by omega) (by omega), i_le (by omega) (by omega) (by omega) (by omega)]
  exact ⟨fun c => h0 (by omega), fun c => ⟨fun c2 => h0 (by omega), fun c2 => h1 (by omega) (by omega)⟩⟩
theorem ok_isSum {z : Int} {Post : Int32 → Prop} (hz : -2147483648 ≤ z) (hz2 : z ≤ 2147483647) (h1 : 0 ≤ z → z ≤ 99999 → Post 1) (h0 : ¬ (0 ≤ z ∧ z ≤ 99999) → Post 0) : wp_X8_isSum (iI z) Post := by
  unfold wp_X8_isSum
  rw [L99999, show (iI z < 0) = (iI z < iI 0) from rfl, i_lt (by omega) (by omega) (by omega) (by omega), i_lt (by omega) (by omega) (by omega) (by omega)]
  exact ⟨fun c => h0 (by omega), fun c => ⟨fun c2 => h0 (by omega), fun c2 => h1 (by omega) (by omega)⟩⟩
theorem one_ne : ¬ (1 : Int32) = 0 := by decide
theorem upd_n {n : Nat} {P : Nat → Nat} {a : Nat → Int32} (ha : ∀ i, i < n → a i = nN (P i)) (j v : Nat) : ∀ i, i < n → upd a j (nN v) i = nN ((fun t => if t = j then v else P t) i) := by
  intro i hi
  unfold upd
  by_cases h : i = j
  · simp only [h, if_true]
  · simp only [if_neg h]; exact ha i hi
/-- THE DAY as both hold it: q MEETINGS of F i and G i -/
def DayR (n q : Nat) (F G : Nat → Nat) (fa sa da : Nat → Int32) : Prop := q ≤ 16 ∧ (∀ i, i < q → F i < n ∧ G i < n ∧ F i ≠ G i) ∧ (∀ i, i < q → fa i = nN (F i) ∧ sa i = nN (G i)) ∧ (∀ i, i < q → da (2 * i) = nN (F i) ∧ da (2 * i + 1) = nN (G i))
