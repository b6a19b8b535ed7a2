/-! THE TEXT: bytes that come behind it; counts; the COIN; CHARM -/
theorem bv_byte (b : BitVec 64) (s : Nat) (hs : s = 0 ∨ s = 8 ∨ s = 16 ∨ s = 24 ∨ s = 32 ∨ s = 40 ∨ s = 48 ∨ s = 56) : (BitVec.signExtend 32 (b >>> s) &&& 255#32).toNat = b.toNat / 2 ^ s % 256 ∧ (BitVec.signExtend 32 (BitVec.sshiftRight b s &&& 255#64)).toNat = b.toNat / 2 ^ s % 256 := by
  have hb : b.toNat < 2 ^ 64 := b.isLt
  constructor
  · rw [BitVec.signExtend_eq_setWidth_of_le _ (by decide), BitVec.toNat_and, BitVec.toNat_setWidth, BitVec.toNat_ushiftRight, Nat.shiftRight_eq_div_pow, show (255#32).toNat = 2 ^ 8 - 1 from rfl, Nat.and_two_pow_sub_one_eq_mod]
    generalize b.toNat / 2 ^ s = q
    omega
  · rw [BitVec.signExtend_eq_setWidth_of_le _ (by decide), BitVec.toNat_setWidth, BitVec.toNat_and, BitVec.toNat_sshiftRight, Nat.shiftRight_eq_div_pow, Nat.shiftRight_eq_div_pow, show (255#64).toNat = 2 ^ 8 - 1 from rfl, Nat.and_two_pow_sub_one_eq_mod]
    split
    · rcases hs with rfl | rfl | rfl | rfl | rfl | rfl | rfl | rfl <;> omega
    · generalize b.toNat / 2 ^ s = q
      omega
theorem n_bv {t : Nat} (ht : t < 4294967296) : (nN t).toBitVec.toNat = t := by
  show (BitVec.ofInt 32 (t : Int)).toNat = t
  rw [BitVec.toNat_ofInt]
  omega
def byteN (v : Int64) (k : Nat) : Nat := v.toBitVec.toNat / 2 ^ (8 * k) % 256
theorem byteN_le (v : Int64) (k : Nat) : byteN v k ≤ 255 := by unfold byteN; omega
theorem byte8 (v : Int64) {k : Nat} (hk : k ≤ 7) : ((Int64.toInt32 (UInt64.toInt64 ((Int64.toUInt64 v) >>> ((Int64.toUInt64 (Int32.toInt64 ((8 : Int32) * nN k))) &&& Int64.toUInt64 63)))) &&& (255 : Int32)) = nN (byteN v k) := by
  refine Int32.toBitVec_inj.1 (BitVec.eq_of_toNat_eq ?_)
  rw [n_bv (by have := byteN_le v k; omega)]
  unfold byteN
  rcases (show k = 0 ∨ k = 1 ∨ k = 2 ∨ k = 3 ∨ k = 4 ∨ k = 5 ∨ k = 6 ∨ k = 7 by omega) with rfl | rfl | rfl | rfl | rfl | rfl | rfl | rfl
  · exact (bv_byte v.toBitVec 0 (by decide)).1
  · exact (bv_byte v.toBitVec 8 (by decide)).1
  · exact (bv_byte v.toBitVec 16 (by decide)).1
  · exact (bv_byte v.toBitVec 24 (by decide)).1
  · exact (bv_byte v.toBitVec 32 (by decide)).1
  · exact (bv_byte v.toBitVec 40 (by decide)).1
  · exact (bv_byte v.toBitVec 48 (by decide)).1
  · exact (bv_byte v.toBitVec 56 (by decide)).1
theorem byte9 (v : Int64) {k : Nat} (hk : k ≤ 7) : (Int64.toInt32 ((v >>> ((Int32.toInt64 ((8 : Int32) * nN k)) &&& 63)) &&& (255 : Int64))) = nN (byteN v k) := by
  refine Int32.toBitVec_inj.1 (BitVec.eq_of_toNat_eq ?_)
  rw [n_bv (by have := byteN_le v k; omega)]
  unfold byteN
  rcases (show k = 0 ∨ k = 1 ∨ k = 2 ∨ k = 3 ∨ k = 4 ∨ k = 5 ∨ k = 6 ∨ k = 7 by omega) with rfl | rfl | rfl | rfl | rfl | rfl | rfl | rfl
  · exact (bv_byte v.toBitVec 0 (by decide)).2
  · exact (bv_byte v.toBitVec 8 (by decide)).2
  · exact (bv_byte v.toBitVec 16 (by decide)).2
  · exact (bv_byte v.toBitVec 24 (by decide)).2
  · exact (bv_byte v.toBitVec 32 (by decide)).2
  · exact (bv_byte v.toBitVec 40 (by decide)).2
  · exact (bv_byte v.toBitVec 48 (by decide)).2
  · exact (bv_byte v.toBitVec 56 (by decide)).2
/-- THE TEXT, as both hold it -/
def TextR (q : Nat) (T : Nat → Nat) (a b : Nat → Int32) : Prop := q ≤ 96 ∧ (∀ i, i < q → T i ≤ 255) ∧ (∀ i, i < q → a i = nN (T i)) ∧ (∀ i, i < q → b i = nN (T i))
theorem TextR.push {q t : Nat} {T : Nat → Nat} {a b : Nat → Int32} (h : TextR q T a b) (hq : q < 96) (ht : t ≤ 255) : TextR (q + 1) (setN T q t) (upd a q (nN t)) (upd b q (nN t)) := by
  obtain ⟨h1, h2, h3, h4⟩ := h
  refine ⟨by omega, fun i hi => ?_, fun i hi => upd_set (h3 i) hi, fun i hi => upd_set (h4 i) hi⟩
  unfold setN
  by_cases e : i = q
  · rw [if_pos e]; exact ht
  · rw [if_neg e]; exact h2 i (by omega)
theorem ok_sum {n : Nat} {P : Nat → Nat} {a : Nat → Int32} {Post : Int32 → Prop} (hn : n ≤ 8) (ha : ∀ t, t < n → a t = nN (P t)) (s : Nat → Nat) (hs0 : s 0 = 0) (hs : ∀ i, s (i + 1) = s i + P i) (h : Post (nN (s n))) : wp_X1_sumOfPurses (nN n) a Post := by
  unfold wp_X1_sumOfPurses
  intro k hk
  have key : ∀ (N i : Nat), n - i < N → i ≤ n → k (nN i) (nN (s i)) := by
    intro N
    induction N with
    | zero => intro i h1; omega
    | succ N ih =>
      intro i h1 h2
      apply hk
      rw [n_le (by omega) (by omega), n_nat (by omega)]
      refine ⟨fun c => ?_, fun c => ⟨n_in (by omega) (by omega), ?_⟩⟩
      · have e : i = n := by omega
        rw [e]; exact h
      · rw [ha i (by omega), n_add, show nN i + 1 = nN (i + 1) from n_add _ 1, ← hs i]
        exact ih (i + 1) (by omega) (by omega)
  have := key (n + 1) 0 (by omega) (by omega)
  rw [hs0] at this
  exact this
def sumN (P : Nat → Nat) : Nat → Nat
  | 0 => 0
  | i + 1 => sumN P i + P i
def gcdN (P : Nat → Nat) : Nat → Nat
  | 0 => 0
  | i + 1 => Nat.gcd (gcdN P i) (P i)
