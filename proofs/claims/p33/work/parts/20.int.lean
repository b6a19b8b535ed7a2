/-! whole numbers behind the machine's ints -/
def iI (z : Int) : Int32 := Int32.ofInt z
theorem i_add (a b : Int) : iI a + iI b = iI (a + b) := (Int32.ofInt_add a b).symm
theorem i_sub (a b : Int) : iI a - iI b = iI (a - b) := (Int32.ofInt_sub a b).symm
theorem i_mul (a b : Int) : iI a * iI b = iI (a * b) := (Int32.ofInt_mul a b).symm
theorem i_neg (a : Int) : -iI a = iI (-a) := (Int32.ofInt_neg a).symm
theorem i_int {a : Int} (h1 : -2147483648 ≤ a) (h2 : a ≤ 2147483647) : (iI a).toInt = a :=
  Int32.toInt_ofInt_of_le (show (-2 ^ 31 : Int) ≤ a from h1) (show a < (2 ^ 31 : Int) from Int.lt_of_le_of_lt h2 (by decide))
theorem i_ex (x : Int32) : ∃ z : Int, x = iI z ∧ -2147483648 ≤ z ∧ z ≤ 2147483647 :=
  ⟨x.toInt, (Int32.ofInt_toInt x).symm, Int32.le_toInt x, by have := Int32.toInt_lt x; omega⟩
theorem i_lt {a b : Int} (h1 : -2147483648 ≤ a) (h2 : a ≤ 2147483647) (h3 : -2147483648 ≤ b) (h4 : b ≤ 2147483647) : (iI a < iI b) ↔ a < b := by
  rw [Int32.lt_iff_toInt_lt, i_int h1 h2, i_int h3 h4]
theorem i_le {a b : Int} (h1 : -2147483648 ≤ a) (h2 : a ≤ 2147483647) (h3 : -2147483648 ≤ b) (h4 : b ≤ 2147483647) : (iI a ≤ iI b) ↔ a ≤ b := by
  rw [Int32.le_iff_toInt_le, i_int h1 h2, i_int h3 h4]
theorem i_eq {a b : Int} (h1 : -2147483648 ≤ a) (h2 : a ≤ 2147483647) (h3 : -2147483648 ≤ b) (h4 : b ≤ 2147483647) : (iI a = iI b) ↔ a = b := by
  rw [← Int32.toInt_inj, i_int h1 h2, i_int h3 h4]
theorem i_nat {a : Int} (h1 : 0 ≤ a) (h2 : a ≤ 2147483647) : Int32.toNatClampNeg (iI a) = a.toNat := by
  show ((iI a).toInt).toNat = a.toNat
  rw [i_int (by omega) h2]
theorem i_in {a : Int} {n : Nat} (h1 : 0 ≤ a) (h2 : a < n) (hn : n ≤ 100000) : vp_in (iI a) n := by
  unfold vp_in
  rw [i_nat h1 (by omega), show (0 : Int32) = iI 0 from rfl, i_lt (by omega) (by omega) (by omega) (by omega)]
  omega
theorem i_div {a b : Int} (ha : 0 ≤ a) (ha2 : a ≤ 2147483647) (hb : 0 < b) (hb2 : b ≤ 2147483647) : iI a / iI b = iI (a / b) := by
  have hq : 0 ≤ a / b := Int.ediv_nonneg ha (by omega)
  have hq2 : a / b ≤ a := Int.ediv_le_self b ha
  refine Int32.toInt_inj.1 ?_
  rw [Int32.toInt_div_of_ne_right _ _ (fun h => ?_), i_int (by omega) ha2, i_int (by omega) hb2, i_int (by omega) (by omega), Int.tdiv_eq_ediv_of_nonneg ha]
  rw [show (-1 : Int32) = iI (-1) from rfl, i_eq (by omega) hb2 (by omega) (by omega)] at h
  omega
theorem i_rem {a b : Int} (ha : 0 ≤ a) (ha2 : a ≤ 2147483647) (hb : 0 < b) (hb2 : b ≤ 2147483647) : iI a - iI a / iI b * iI b = iI (a % b) := by
  rw [i_div ha ha2 hb hb2, i_mul, i_sub, Int.emod_def, Int.mul_comm]
/-- sums that are no less than nothing, as they stand in the machine -/
abbrev nN (n : Nat) : Int32 := iI (n : Int)
theorem n_div {a b : Nat} (ha : a ≤ 2147483647) (hb : 0 < b) (hb2 : b ≤ 2147483647) : nN a / nN b = nN (a / b) := by
  rw [i_div (by omega) (by omega) (by omega) (by omega)]; rfl
theorem n_rem {a b : Nat} (ha : a ≤ 2147483647) (hb : 0 < b) (hb2 : b ≤ 2147483647) : nN a - nN a / nN b * nN b = nN (a % b) := by
  rw [i_rem (by omega) (by omega) (by omega) (by omega)]; rfl
theorem n_nat {a : Nat} (h2 : a ≤ 2147483647) : Int32.toNatClampNeg (nN a) = a := by
  rw [i_nat (by omega) (by omega)]; omega
theorem n_add (a b : Nat) : nN a + nN b = nN (a + b) := by rw [i_add]; rfl
theorem n_mul (a b : Nat) : nN a * nN b = nN (a * b) := by rw [i_mul]; rfl
theorem n_sub {a b : Nat} (h : b ≤ a) : nN a - nN b = nN (a - b) := by rw [i_sub]; congr 1; omega
theorem n_in {a n : Nat} (h2 : a < n) (hn : n ≤ 100000) : vp_in (nN a) n := i_in (by omega) (by omega) hn
theorem n_lt {a b : Nat} (h1 : a ≤ 2147483647) (h2 : b ≤ 2147483647) : (nN a < nN b) ↔ a < b := by
  rw [i_lt (by omega) (by omega) (by omega) (by omega)]; omega
theorem n_le {a b : Nat} (h1 : a ≤ 2147483647) (h2 : b ≤ 2147483647) : (nN a ≤ nN b) ↔ a ≤ b := by
  rw [i_le (by omega) (by omega) (by omega) (by omega)]; omega
theorem n_eq {a b : Nat} (h1 : a ≤ 2147483647) (h2 : b ≤ 2147483647) : (nN a = nN b) ↔ a = b := by
  rw [i_eq (by omega) (by omega) (by omega) (by omega)]; omega
/-- the greatest sum that goes into both: nothing, if one has nothing -/
def sh (a b : Nat) : Nat := if a = 0 ∨ b = 0 then 0 else Nat.gcd a b
theorem sh_comm (a b : Nat) : sh a b = sh b a := by
  unfold sh; rw [Nat.gcd_comm]; simp only [Or.comm]
theorem sh_le_l (a b : Nat) : sh a b ≤ a := by
  unfold sh; split
  · omega
  · exact Nat.le_of_dvd (by omega) (Nat.gcd_dvd_left a b)
theorem sh_le_r (a b : Nat) : sh a b ≤ b := by rw [sh_comm]; exact sh_le_l b a
theorem ok_greatestDivisor {a b : Nat} {Post : Int32 → Prop} (ha : a ≤ 1000000) (hb : b ≤ 900000) (h : Post (nN (Nat.gcd a b))) : wp_X8_greatestDivisor (nN a) (nN b) Post := by
  unfold wp_X8_greatestDivisor
  intro k hk
  have key : ∀ (N t l g : Nat), l < N → t + l ≤ 900000 → g ≤ 1000000 → Nat.gcd g l = Nat.gcd a b → k (nN t) (nN l) (nN g) := by
    intro N
    induction N with
    | zero => intro t l g h1; omega
    | succ N ih =>
      intro t l g h1 h2 h3 h4
      apply hk
      refine ⟨fun c => ?_, fun _ => ⟨fun c => ?_, fun c => ⟨?_, ?_⟩⟩⟩
      · rw [show (1000000 : Int32) = nN 1000000 from rfl, n_le (by omega) (by omega)] at c; omega
      · rw [show (0 : Int32) = nN 0 from rfl, n_le (by omega) (by omega)] at c
        have hl : l = 0 := by omega
        subst hl
        rw [Nat.gcd_zero_right] at h4
        rw [h4]; exact h
      · rw [show (0 : Int32) = nN 0 from rfl, n_le (by omega) (by omega)] at c
        rw [show (0 : Int32) = nN 0 from rfl, n_eq (by omega) (by omega)]; omega
      · rw [show (0 : Int32) = nN 0 from rfl, n_le (by omega) (by omega)] at c
        have hlp : 0 < l := by omega
        have hm := Nat.mod_lt g hlp
        rw [n_rem (by omega) hlp (by omega), show nN t + 1 = nN (t + 1) from n_add t 1]
        exact ih (t + 1) (g % l) l (by omega) (by omega) (by omega) (by rw [Nat.gcd_comm, ← Nat.gcd_rec, Nat.gcd_comm]; exact h4)
  exact key (b + 1) 0 b a (by omega) (by omega) ha rfl
theorem ok_sharedBy {a b : Nat} {Post : Int32 → Prop} (ha : a ≤ 1000000) (hb : b ≤ 900000) (h : Post (nN (sh a b))) : wp_X8_sharedBy (nN a) (nN b) Post := by
  unfold wp_X8_sharedBy
  unfold sh at h
  rw [show (0 : Int32) = nN 0 from rfl, n_eq (by omega) (by omega), n_eq (by omega) (by omega)]
  refine ⟨fun c => ?_, fun c => ⟨fun c2 => ?_, fun c2 => ?_⟩⟩
  · rw [if_pos (Or.inl c)] at h; exact h
  · rw [if_neg (by omega)] at h; exact ok_greatestDivisor ha hb h
  · rw [if_pos (Or.inr c2)] at h; exact h
theorem l_int {z : Int} (hz : -2147483648 ≤ z) (hz2 : z ≤ 2147483647) : (Int32.toInt64 (iI z)).toInt = z := by rw [Int32.toInt_toInt64, i_int hz hz2]
