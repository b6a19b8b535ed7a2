/-! PENNIES -/
theorem mt_ge {w a b : Nat} (ha : a ≤ 99999) (h : (a ≤ b ∧ w ≠ 1) ∨ (b ≤ a ∧ w = 1)) : a ≤ mt w a b := by
  unfold mt held
  split
  · omega
  · next hc =>
    rw [if_pos (by omega)]
    split <;> omega
theorem sh_pos {a b : Nat} (ha : 0 < a) (hb : 0 < b) : 0 < sh a b := by
  unfold sh
  rw [if_neg (by omega)]
  exact Nat.gcd_pos_of_pos_left b ha
theorem mt_lt {w a b : Nat} (h : ¬ ((a ≤ b ∧ w ≠ 1) ∨ (b < a ∧ w = 1))) (hab : a ≠ b) (ha : 0 < a) (hb : 0 < b) : mt w a b = a - pas w (dist a b) (sh a b) := by
  have := sh_pos ha hb
  unfold mt held
  rw [if_neg (by omega), if_neg h, Nat.one_mul]
theorem pas_pos {w d g : Nat} (hw : w ≠ 2) (hg : 0 < g) : 0 < pas w d g := by
  unfold pas
  rw [if_neg hw]
  split
  · split
    · exact Nat.mul_pos hg (by omega)
    · omega
  · exact hg
def pen (w a b x : Nat) : Prop := a ≤ mt w (a - x) b + x
