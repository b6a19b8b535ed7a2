/-! THE TEXT: bytes that come behind it; counts; the COIN; CHARM -/
theorem bv_byte (b : BitVec 64) (s : Nat) (hs : s = 0 ∨ s = 8 ∨ s = 16 ∨ s = 24 ∨ s = 32 ∨ s = 40 ∨ s = 48 ∨ s = 56) : (BitVec.signExtend 32 (b >>> s) &&& 255#32).toNat = b.toNat / 2 ^ s % 256 ∧ (BitVec.signExtend 32 (BitVec.sshiftRight b s &&& 255#64)).toNat = b.toNat / 2 ^ s % 256 := by
  have hb : b.toNat < 2 ^ 64 := b.isLt
  constructor
  · rw [BitVec.signExtend_eq_setWidth_of_le _ (by decide), BitVec.toNat_and, BitVec.toNat_setWidth, BitVec.toNat_ushiftRight, Nat.shiftRight_eq_div_pow, show (255#32).toNat = 2 ^ 8 - 1 from rfl, Nat.and_two_pow_sub_one_eq_mod]
    generalize b.toNat / 2 ^ s = q
    omega
  · rw [BitVec.signExtend_eq_setWidth_of_le _ (by decide), BitVec.toNat_setWidth, BitVec.toNat_and, BitVec.toNat_sshiftRight, Nat.shiftRight_eq_div_pow, Nat.shiftRight_eq_div_pow, show (255#64).toNat = 2 ^ 8 - 1 from rfl, Nat.and_two_pow_sub_one_eq_mod]
    split
    · rcases hs with rfl | rfl | rfl | rfl | rfl | rfl | rfl | rfl <;> omega
    · generalize b.toNat / 2 ^ s = q
      omega
theorem n_bv {t : Nat} (ht : t < 4294967296) : (nN t).toBitVec.toNat = t := by
  show (Int32.ofInt (t : Int)).toBitVec.toNat = t
  rw [Int32.ofInt_eq_ofNat, Int32.toBitVec_ofNat]
  show t % 2 ^ 32 = t
  omega
def byteN (v : Int64) (k : Nat) : Nat := v.toBitVec.toNat / 2 ^ (8 * k) % 256
theorem byteN_le (v : Int64) (k : Nat) : byteN v k ≤ 255 := by unfold byteN; omega
theorem byte8 (v : Int64) {k : Nat} (hk : k ≤ 7) : ((Int64.toInt32 (UInt64.toInt64 ((Int64.toUInt64 v) >>> ((Int64.toUInt64 (Int32.toInt64 ((8 : Int32) * nN k))) &&& Int64.toUInt64 63)))) &&& (255 : Int32)) = nN (byteN v k) := by
  refine Int32.toBitVec_inj.1 (BitVec.eq_of_toNat_eq ?_)
  rw [n_bv (by have := byteN_le v k; omega)]
  unfold byteN
  rcases (show k = 0 ∨ k = 1 ∨ k = 2 ∨ k = 3 ∨ k = 4 ∨ k = 5 ∨ k = 6 ∨ k = 7 by omega) with rfl | rfl | rfl | rfl | rfl | rfl | rfl | rfl
  · exact (bv_byte v.toBitVec 0 (by decide)).1
  · exact (bv_byte v.toBitVec 8 (by decide)).1
  · exact (bv_byte v.toBitVec 16 (by decide)).1
  · exact (bv_byte v.toBitVec 24 (by decide)).1
  · exact (bv_byte v.toBitVec 32 (by decide)).1
  · exact (bv_byte v.toBitVec 40 (by decide)).1
  · exact (bv_byte v.toBitVec 48 (by decide)).1
  · exact (bv_byte v.toBitVec 56 (by decide)).1
theorem byte9 (v : Int64) {k : Nat} (hk : k ≤ 7) : (Int64.toInt32 ((v >>> ((Int32.toInt64 ((8 : Int32) * nN k)) &&& 63)) &&& (255 : Int64))) = nN (byteN v k) := by
  refine Int32.toBitVec_inj.1 (BitVec.eq_of_toNat_eq ?_)
  rw [n_bv (by have := byteN_le v k; omega)]
  unfold byteN
  rcases (show k = 0 ∨ k = 1 ∨ k = 2 ∨ k = 3 ∨ k = 4 ∨ k = 5 ∨ k = 6 ∨ k = 7 by omega) with rfl | rfl | rfl | rfl | rfl | rfl | rfl | rfl
  · exact (bv_byte v.toBitVec 0 (by decide)).2
  · exact (bv_byte v.toBitVec 8 (by decide)).2
  · exact (bv_byte v.toBitVec 16 (by decide)).2
  · exact (bv_byte v.toBitVec 24 (by decide)).2
  · exact (bv_byte v.toBitVec 32 (by decide)).2
  · exact (bv_byte v.toBitVec 40 (by decide)).2
  · exact (bv_byte v.toBitVec 48 (by decide)).2
  · exact (bv_byte v.toBitVec 56 (by decide)).2
/-- THE TEXT, as both hold it -/
def TextR (q : Nat) (T : Nat → Nat) (a b : Nat → Int32) : Prop := q ≤ 96 ∧ (∀ i, i < q → T i ≤ 255) ∧ (∀ i, i < q → a i = nN (T i)) ∧ (∀ i, i < q → b i = nN (T i))
theorem TextR.push {q t : Nat} {T : Nat → Nat} {a b : Nat → Int32} (h : TextR q T a b) (hq : q < 96) (ht : t ≤ 255) : TextR (q + 1) (setN T q t) (upd a q (nN t)) (upd b q (nN t)) := by
  obtain ⟨h1, h2, h3, h4⟩ := h
  refine ⟨by omega, fun i hi => ?_, fun i hi => upd_set (h3 i) hi, fun i hi => upd_set (h4 i) hi⟩
  unfold setN
  by_cases e : i = q
  · rw [if_pos e]; exact ht
  · rw [if_neg e]; exact h2 i (by omega)
theorem case_write {q : Nat} {T : Nat → Nat} {a b : Nat → Int32} {x : Int32} {v : Int64} {K : Int32 → (Nat → Int32) → Int32 → (Nat → Int32) → Prop} (h : TextR q T a b) (hK : ∀ q' T' a' b', TextR q' T' a' b' → K (nN q') a' (nN q') b') : wp_X8_write x v (nN q) a (fun r m1 a1 => wp_X9_write x v (nN q) b (fun r' m2 b1 => (r = r' → K m1 a1 m2 b1) ∧ (¬ r = r' → False))) := by
  obtain ⟨z, rfl, hz, hz2⟩ := i_ex x
  have hq := h.1
  unfold wp_X8_write
  rw [L1, L8, L96, i_sub, i_lt hz hz2 (by omega) (by omega), i_le hz hz2 (by omega) (by omega)]
  have out : ¬ (1 ≤ z ∧ z ≤ 8) → wp_X9_write (iI z) v (nN q) b (fun r' m2 b1 => ((-2 : Int32) = r' → K (nN q) a m2 b1) ∧ (¬ (-2 : Int32) = r' → False)) := by
    intro hn
    unfold wp_X9_write
    exact ok_inI (lo := 1) (hi := 8) hz hz2 rfl rfl (fun a b => absurd ⟨a, b⟩ hn) (fun _ => ⟨fun c => absurd rfl c, fun _ => same_k (hK _ _ _ _ h)⟩)
  refine ⟨fun c => out (by omega), fun c => ⟨fun c2 => ?_, fun c2 => out (by omega)⟩⟩
  obtain ⟨m, rfl⟩ : ∃ m : Nat, z = m := ⟨z.toNat, by omega⟩
  rw [i_add, i_le (by omega) (by omega) (by omega) (by omega)]
  refine ⟨fun c3 => ?_, fun c3 => ?_⟩
  · -- the two loops go side by side: first the class's own
    intro k hk
    have key : ∀ (j : Nat) (q1 : Nat) (T1 : Nat → Nat) (a1 b1 : Nat → Int32), j ≤ m → q1 + j = q + m → TextR q1 T1 a1 b1 → (∀ (k9 : Int32 → Int32 → (Nat → Int32) → Prop) (Q : Int32 → Int32 → (Nat → Int32) → Prop), (∀ (x4 : Int32) (l : Int32) (t : Nat → Int32), ((x4 < 0 → Q l l t) ∧ (¬ x4 < 0 → (vp_in l 96 ∧ (k9 (x4 + (-1)) (l + (1 : Int32)) (upd t (Int32.toNatClampNeg l) (Int64.toInt32 ((v >>> ((Int32.toInt64 ((8 : Int32) * x4)) &&& 63)) &&& (255 : Int64)))))))) → k9 x4 l t) → k9 (iI (j - 1)) (nN q1) b1 → k9 (iI (m - 1)) (nN q) b) → k (iI (j - 1)) (nN q1) a1 := by
      intro j
      induction j with
      | zero =>
        intro q1 T1 a1 b1 g1 g2 g3 g4
        apply hk
        rw [show (0 : Int32) = iI 0 from rfl, i_lt (by omega) (by omega) (by omega) (by omega)]
        refine ⟨fun _ => ?_, fun c => by omega⟩
        unfold wp_X9_write
        refine ok_inI (lo := 1) (hi := 8) hz hz2 rfl rfl (fun _ _ => ⟨fun _ => ?_, fun c => absurd c one_ne⟩) (fun c => absurd ⟨by omega, by omega⟩ c)
        rw [L1, L96, i_add, i_sub, i_le (by omega) (by omega) (by omega) (by omega)]
        refine ⟨fun _ => ?_, fun c => absurd c3 c⟩
        intro k9 hk9
        refine g4 k9 _ hk9 (hk9 _ _ _ ⟨fun _ => same_k (hK _ _ _ _ g3), fun c => ?_⟩)
        rw [show (0 : Int32) = iI 0 from rfl, i_lt (by omega) (by omega) (by omega) (by omega)] at c
        omega
      | succ j ih =>
        intro q1 T1 a1 b1 g1 g2 g3 g4
        have hq1 := g3.1
        apply hk
        rw [show (((j + 1 : Nat) : Int) - 1) = ((j : Nat) : Int) by omega] at *
        rw [show (0 : Int32) = iI 0 from rfl, i_lt (by omega) (by omega) (by omega) (by omega)]
        refine ⟨fun c => by omega, fun _ => ?_⟩
        have hb := byte8 v (k := j) (by omega)
        rw [show (8 : Int32) * nN j = iI 8 * iI (j : Int) from rfl] at hb
        unfold wp_X6_add
        rw [L96, i_le (by omega) (by omega) (by omega) (by omega), n_nat (by omega), show nN q1 + 1 = nN (q1 + 1) from n_add _ 1]
        refine ⟨fun c => by omega, fun _ => ⟨n_in (by omega) (by omega), ?_⟩⟩
        have hb2 := byteN_le v j
        have e8 : ((Int64.toInt32 (UInt64.toInt64 ((Int64.toUInt64 v) >>> ((Int64.toUInt64 (Int32.toInt64 (iI 8 * iI (j : Int)))) &&& Int64.toUInt64 63)))) &&& (255 : Int32)) = nN (byteN v j) := hb
        rw [e8, show (-1 : Int32) = iI (-1) from rfl, i_add, show ((j : Nat) : Int) + -1 = (j : Int) - 1 by omega]
        refine ih (q1 + 1) _ _ _ (by omega) (by omega) (g3.push (by omega) hb2) (fun k9 Q hk9 hh => g4 k9 Q hk9 (hk9 _ _ _ ⟨fun c => ?_, fun _ => ⟨n_in (by omega) (by omega), ?_⟩⟩))
        · rw [show (0 : Int32) = iI 0 from rfl, i_lt (by omega) (by omega) (by omega) (by omega)] at c; omega
        · rw [byte9 v (k := j) (by omega), n_nat (by omega), show nN q1 + 1 = nN (q1 + 1) from n_add _ 1, show (-1 : Int32) = iI (-1) from rfl, i_add, show ((j : Nat) : Int) + -1 = (j : Int) - 1 by omega]
          exact hh
    exact key m q T a b (Nat.le_refl m) rfl h (fun k9 Q hk9 hh => hh)
  · unfold wp_X9_write
    refine ok_inI (lo := 1) (hi := 8) hz hz2 rfl rfl (fun _ _ => ⟨fun _ => ?_, fun c => absurd c one_ne⟩) (fun c => absurd ⟨by omega, by omega⟩ c)
    rw [L96, i_add, i_le (by omega) (by omega) (by omega) (by omega)]
    exact ⟨fun c => absurd c c3, fun _ => same_k (hK _ _ _ _ h)⟩
