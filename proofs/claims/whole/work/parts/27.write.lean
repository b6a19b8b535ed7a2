/-! THE TEXT: bytes that come behind it; counts; the COIN; CHARM -/
theorem bv_byte (b : BitVec 64) (s : Nat) (hs : s = 0 ∨ s = 8 ∨ s = 16 ∨ s = 24 ∨ s = 32 ∨ s = 40 ∨ s = 48 ∨ s = 56) : (BitVec.signExtend 32 (b >>> s) &&& 255#32).toNat = b.toNat / 2 ^ s % 256 ∧ (BitVec.signExtend 32 (BitVec.sshiftRight b s &&& 255#64)).toNat = b.toNat / 2 ^ s % 256 := by
  have hb : b.toNat < 2 ^ 64 := b.isLt
  constructor
  · rw [BitVec.signExtend_eq_setWidth_of_le _ (by decide), BitVec.toNat_and, BitVec.toNat_setWidth, BitVec.toNat_ushiftRight, Nat.shiftRight_eq_div_pow, show (255#32).toNat = 2 ^ 8 - 1 from rfl, Nat.and_two_pow_sub_one_eq_mod]
    generalize b.toNat / 2 ^ s = q
    omega
  · rw [BitVec.signExtend_eq_setWidth_of_le _ (by decide), BitVec.toNat_setWidth, BitVec.toNat_and, BitVec.toNat_sshiftRight, Nat.shiftRight_eq_div_pow, Nat.shiftRight_eq_div_pow, show (255#64).toNat = 2 ^ 8 - 1 from rfl, Nat.and_two_pow_sub_one_eq_mod]
    split
    · rcases hs with rfl | rfl | rfl | rfl | rfl | rfl | rfl | rfl <;> omega
    · generalize b.toNat / 2 ^ s = q
      omega
theorem n_bv {t : Nat} (ht : t < 4294967296) : (nN t).toBitVec.toNat = t := by
  show (BitVec.ofInt 32 (t : Int)).toNat = t
  rw [BitVec.toNat_ofInt]
  omega
def byteN (v : Int64) (k : Nat) : Nat := v.toBitVec.toNat / 2 ^ (8 * k) % 256
theorem byteN_le (v : Int64) (k : Nat) : byteN v k ≤ 255 := by unfold byteN; omega
theorem byte8 (v : Int64) {k : Nat} (hk : k ≤ 7) : ((Int64.toInt32 (UInt64.toInt64 ((Int64.toUInt64 v) >>> ((Int64.toUInt64 (Int32.toInt64 ((8 : Int32) * nN k))) &&& Int64.toUInt64 63)))) &&& (255 : Int32)) = nN (byteN v k) := by
  refine Int32.toBitVec_inj.1 (BitVec.eq_of_toNat_eq ?_)
  rw [n_bv (by have := byteN_le v k; omega)]
  unfold byteN
  rcases (show k = 0 ∨ k = 1 ∨ k = 2 ∨ k = 3 ∨ k = 4 ∨ k = 5 ∨ k = 6 ∨ k = 7 by omega) with rfl | rfl | rfl | rfl | rfl | rfl | rfl | rfl
  · exact (bv_byte v.toBitVec 0 (by decide)).1
  · exact (bv_byte v.toBitVec 8 (by decide)).1
  · exact (bv_byte v.toBitVec 16 (by decide)).1
  · exact (bv_byte v.toBitVec 24 (by decide)).1
  · exact (bv_byte v.toBitVec 32 (by decide)).1
  · exact (bv_byte v.toBitVec 40 (by decide)).1
  · exact (bv_byte v.toBitVec 48 (by decide)).1
  · exact (bv_byte v.toBitVec 56 (by decide)).1
theorem byte9 (v : Int64) {k : Nat} (hk : k ≤ 7) : (Int64.toInt32 ((v >>> ((Int32.toInt64 ((8 : Int32) * nN k)) &&& 63)) &&& (255 : Int64))) = nN (byteN v k) := by
  refine Int32.toBitVec_inj.1 (BitVec.eq_of_toNat_eq ?_)
  rw [n_bv (by have := byteN_le v k; omega)]
  unfold byteN
  rcases (show k = 0 ∨ k = 1 ∨ k = 2 ∨ k = 3 ∨ k = 4 ∨ k = 5 ∨ k = 6 ∨ k = 7 by omega) with rfl | rfl | rfl | rfl | rfl | rfl | rfl | rfl
  · exact (bv_byte v.toBitVec 0 (by decide)).2
  · exact (bv_byte v.toBitVec 8 (by decide)).2
  · exact (bv_byte v.toBitVec 16 (by decide)).2
  · exact (bv_byte v.toBitVec 24 (by decide)).2
  · exact (bv_byte v.toBitVec 32 (by decide)).2
  · exact (bv_byte v.toBitVec 40 (by decide)).2
  · exact (bv_byte v.toBitVec 48 (by decide)).2
  · exact (bv_byte v.toBitVec 56 (by decide)).2
/-- THE TEXT, as both hold it -/
def TextR (q : Nat) (T : Nat → Nat) (a b : Nat → Int32) : Prop := q ≤ 96 ∧ (∀ i, i < q → T i ≤ 255) ∧ (∀ i, i < q → a i = nN (T i)) ∧ (∀ i, i < q → b i = nN (T i))
theorem TextR.push {q t : Nat} {T : Nat → Nat} {a b : Nat → Int32} (h : TextR q T a b) (hq : q < 96) (ht : t ≤ 255) : TextR (q + 1) (setN T q t) (upd a q (nN t)) (upd b q (nN t)) := by
  obtain ⟨h1, h2, h3, h4⟩ := h
  refine ⟨by omega, fun i hi => ?_, fun i hi => upd_set (h3 i) hi, fun i hi => upd_set (h4 i) hi⟩
  unfold setN
  by_cases e : i = q
  · rw [if_pos e]; exact ht
  · rw [if_neg e]; exact h2 i (by omega)
theorem case_write {q : Nat} {T : Nat → Nat} {a b : Nat → Int32} {x : Int32} {v : Int64} {K : Int32 → (Nat → Int32) → Int32 → (Nat → Int32) → Prop} (h : TextR q T a b) (hK : ∀ q' T' a' b', TextR q' T' a' b' → K (nN q') a' (nN q') b') : wp_X8_write x v (nN q) a (fun r m1 a1 => wp_X9_write x v (nN q) b (fun r' m2 b1 => (r = r' → K m1 a1 m2 b1) ∧ (¬ r = r' → False))) := by
  obtain ⟨z, rfl, hz, hz2⟩ := i_ex x
  have hq := h.1
  unfold wp_X8_write
  have l1 : (iI z < (1 : Int32)) ↔ z < 1 := by rw [L1, i_lt hz hz2 (by omega) (by omega)]
  have l8 : (iI z ≤ (8 : Int32)) ↔ z ≤ 8 := by rw [L8, i_le hz hz2 (by omega) (by omega)]
  rw [l1, l8, show iI z - (1 : Int32) = iI (z - 1) from i_sub z 1]
  have out : ¬ (1 ≤ z ∧ z ≤ 8) → wp_X9_write (iI z) v (nN q) b (fun r' m2 b1 => ((-2 : Int32) = r' → K (nN q) a m2 b1) ∧ (¬ (-2 : Int32) = r' → False)) := by
    intro hn
    unfold wp_X9_write
    exact ok_inI (lo := 1) (hi := 8) hz hz2 rfl rfl (fun a b => absurd ⟨a, b⟩ hn) (fun _ => ⟨fun c => absurd rfl c, fun _ => same_k (hK _ _ _ _ h)⟩)
  refine ⟨fun c => out (by omega), fun c => ⟨fun c2 => ?_, fun c2 => out (by omega)⟩⟩
  obtain ⟨m, rfl⟩ : ∃ m : Nat, z = m := ⟨z.toNat, by omega⟩
  have l96 : (nN q + iI (m : Int) ≤ (96 : Int32)) ↔ (q : Int) + m ≤ 96 := by rw [i_add, L96, i_le (by omega) (by omega) (by omega) (by omega)]
  rw [l96]
  refine ⟨fun c3 => ?_, fun c3 => ?_⟩
  · -- the two loops go side by side: first the class's own
    intro k hk
    have key : ∀ (j : Nat) (q1 : Nat) (T1 : Nat → Nat) (a1 b1 : Nat → Int32), j ≤ m → q1 + j = q + m → TextR q1 T1 a1 b1 → (∀ (k9 : Int32 → Int32 → (Nat → Int32) → Prop) (Q : Int32 → Int32 → (Nat → Int32) → Prop), (∀ (x4 : Int32) (l : Int32) (t : Nat → Int32), ((x4 < 0 → Q l l t) ∧ (¬ x4 < 0 → (vp_in l 96 ∧ (k9 (x4 + (-1)) (l + (1 : Int32)) (upd t (Int32.toNatClampNeg l) (Int64.toInt32 ((v >>> ((Int32.toInt64 ((8 : Int32) * x4)) &&& 63)) &&& (255 : Int64)))))))) → k9 x4 l t) → k9 (iI (j - 1)) (nN q1) b1 → k9 (iI (m - 1)) (nN q) b) → k (iI (j - 1)) (nN q1) a1 := by
      intro j
      induction j with
      | zero =>
        intro q1 T1 a1 b1 g1 g2 g3 g4
        apply hk
        rw [show (0 : Int32) = iI 0 from rfl, i_lt (by omega) (by omega) (by omega) (by omega)]
        refine ⟨fun _ => ?_, fun c => by omega⟩
        unfold wp_X9_write
        refine ok_inI (lo := 1) (hi := 8) hz hz2 rfl rfl (fun _ _ => ⟨fun _ => ?_, fun c => absurd c one_ne⟩) (fun c => absurd ⟨by omega, by omega⟩ c)
        rw [l96, show iI (m : Int) - (1 : Int32) = iI (m - 1) from i_sub m 1]
        refine ⟨fun _ => ?_, fun c => absurd c3 c⟩
        intro k9 hk9
        refine g4 k9 (fun r' m2 b1 => (nN q1 = r' → K (nN q1) a1 m2 b1) ∧ (¬ nN q1 = r' → False)) hk9 (hk9 _ _ _ ⟨fun _ => same_k (hK _ _ _ _ g3), fun c => ?_⟩)
        rw [show (0 : Int32) = iI 0 from rfl, i_lt (by omega) (by omega) (by omega) (by omega)] at c
        omega
      | succ j ih =>
        intro q1 T1 a1 b1 g1 g2 g3 g4
        have hq1 := g3.1
        apply hk
        rw [show (((j + 1 : Nat) : Int) - 1) = ((j : Nat) : Int) by omega] at *
        rw [show (0 : Int32) = iI 0 from rfl, i_lt (by omega) (by omega) (by omega) (by omega)]
        refine ⟨fun c => by omega, fun _ => ?_⟩
        have hb := byte8 v (k := j) (by omega)
        unfold wp_X6_add
        have m96 : ((96 : Int32) ≤ nN q1) ↔ 96 ≤ q1 := by rw [show (96 : Int32) = nN 96 from rfl, n_le (by omega) (by omega)]
        rw [m96, n_nat (by omega), show nN q1 + 1 = nN (q1 + 1) from n_add _ 1]
        refine ⟨fun c => by omega, fun _ => ⟨n_in (by omega) (by omega), ?_⟩⟩
        have hb2 := byteN_le v j
        rw [hb, show (-1 : Int32) = iI (-1) from rfl, i_add, show ((j : Nat) : Int) + -1 = (j : Int) - 1 by omega]
        refine ih (q1 + 1) _ _ _ (by omega) (by omega) (g3.push (by omega) hb2) (fun k9 Q hk9 hh => g4 k9 Q hk9 (hk9 _ _ _ ⟨fun c => ?_, fun _ => ⟨n_in (by omega) (by omega), ?_⟩⟩))
        · rw [show (0 : Int32) = iI 0 from rfl, i_lt (by omega) (by omega) (by omega) (by omega)] at c; omega
        · rw [byte9 v (k := j) (by omega), n_nat (by omega), show nN q1 + 1 = nN (q1 + 1) from n_add _ 1, show (-1 : Int32) = iI (-1) from rfl, i_add, show ((j : Nat) : Int) + -1 = (j : Int) - 1 by omega]
          exact hh
    exact key m q T a b (Nat.le_refl m) rfl h (fun k9 Q hk9 hh => hh)
  · unfold wp_X9_write
    refine ok_inI (lo := 1) (hi := 8) hz hz2 rfl rfl (fun _ _ => ⟨fun _ => ?_, fun c => absurd c one_ne⟩) (fun c => absurd ⟨by omega, by omega⟩ c)
    rw [l96]
    exact ⟨fun c => absurd c c3, fun _ => same_k (hK _ _ _ _ h)⟩

theorem ok_sum {n : Nat} {P : Nat → Nat} {a : Nat → Int32} {Post : Int32 → Prop} (hn : n ≤ 8) (ha : ∀ t, t < n → a t = nN (P t)) (s : Nat → Nat) (hs0 : s 0 = 0) (hs : ∀ i, s (i + 1) = s i + P i) (h : Post (nN (s n))) : wp_X1_sumOfPurses (nN n) a Post := by
  unfold wp_X1_sumOfPurses
  intro k hk
  have key : ∀ (N i : Nat), n - i < N → i ≤ n → k (nN i) (nN (s i)) := by
    intro N
    induction N with
    | zero => intro i h1; omega
    | succ N ih =>
      intro i h1 h2
      apply hk
      rw [n_le (by omega) (by omega), n_nat (by omega)]
      refine ⟨fun c => ?_, fun c => ⟨n_in (by omega) (by omega), ?_⟩⟩
      · have e : i = n := by omega
        rw [e]; exact h
      · rw [ha i (by omega), n_add, show nN i + 1 = nN (i + 1) from n_add _ 1, ← hs i]
        exact ih (i + 1) (by omega) (by omega)
  have := key (n + 1) 0 (by omega) (by omega)
  rw [hs0] at this
  exact this
def sumN (P : Nat → Nat) : Nat → Nat
  | 0 => 0
  | i + 1 => sumN P i + P i
theorem case_count {n q w k e m : Nat} {P : Nat → Nat} {a b : Nat → Int32} {x : Int32} {K : Prop} (hn : n ≤ 8) (ha : ∀ t, t < n → a t = nN (P t)) (hb : ∀ t, t < n → b t = nN (P t)) (hK : K) : wp_X8_count x (nN q) (nN m) (nN n) (nN w) (nN k) (nN e) a (fun r => wp_X9_count x (nN w) (nN n) (nN m) (nN q) (nN k) (nN e) b (fun r' => (r = r' → K) ∧ (¬ r = r' → False))) := by
  have m9 : ∀ r : Int32, ((x.toInt < 0 ∨ 6 < x.toInt → r = -2) ∧ (x.toInt = 0 → r = nN q) ∧ (x.toInt = 1 → r = nN n) ∧ (x.toInt = 2 → r = nN m) ∧ (x.toInt = 3 → r = nN k) ∧ (x.toInt = 4 → r = nN e) ∧ (x.toInt = 5 → r = nN (sumN P n)) ∧ (x.toInt = 6 → r = nN w)) → wp_X9_count x (nN w) (nN n) (nN m) (nN q) (nN k) (nN e) b (fun r' => (r = r' → K) ∧ (¬ r = r' → False)) := by
    intro r hr
    unfold wp_X9_count
    intro kk hk
    have key : ∀ (N i : Nat), n - i < N → i ≤ n → kk (nN i) (nN (sumN P i)) := by
      intro N
      induction N with
      | zero => intro i h1; omega
      | succ N ih =>
        intro i h1 h2
        apply hk
        rw [n_le (by omega) (by omega), n_nat (by omega)]
        refine ⟨fun c => ?_, fun c => ⟨n_in (by omega) (by omega), ?_⟩⟩
        · have ei : i = n := by omega
          rw [ei]
          obtain ⟨r0, r1, r2, r3, r4, r5, r6, r7⟩ := hr
          exact ⟨fun c => same_of (r0 c) hK, fun c => same_of (r1 c) hK, fun c => same_of (r2 c) hK, fun c => same_of (r3 c) hK, fun c => same_of (r4 c) hK, fun c => same_of (r5 c) hK, fun c => same_of (r6 c) hK, fun c => same_of (r7 c) hK⟩
        · rw [hb i (by omega), n_add, show nN i + 1 = nN (i + 1) from n_add _ 1]
          exact ih (i + 1) (by omega) (by omega)
    exact key (n + 1) 0 (by omega) (by omega)
  unfold wp_X8_count
  refine ⟨fun c => m9 _ ⟨fun _ => rfl, ?_, ?_, ?_, ?_, ?_, ?_, ?_⟩, fun c => m9 _ ⟨?_, fun _ => rfl, ?_, ?_, ?_, ?_, ?_, ?_⟩, fun c => m9 _ ⟨?_, ?_, fun _ => rfl, ?_, ?_, ?_, ?_, ?_⟩, fun c => m9 _ ⟨?_, ?_, ?_, fun _ => rfl, ?_, ?_, ?_, ?_⟩, fun c => m9 _ ⟨?_, ?_, ?_, ?_, fun _ => rfl, ?_, ?_, ?_⟩, fun c => m9 _ ⟨?_, ?_, ?_, ?_, ?_, fun _ => rfl, ?_, ?_⟩, fun c => ok_sum hn ha (sumN P) rfl (fun _ => rfl) (m9 _ ⟨?_, ?_, ?_, ?_, ?_, ?_, fun _ => rfl, ?_⟩), fun c => m9 _ ⟨?_, ?_, ?_, ?_, ?_, ?_, ?_, fun _ => rfl⟩⟩ <;> (intro c2; exact absurd c (by omega))
def gcdN (P : Nat → Nat) : Nat → Nat
  | 0 => 0
  | i + 1 => Nat.gcd (gcdN P i) (P i)
theorem case_coin {n : Nat} {P : Nat → Nat} {a b : Nat → Int32} {K : Prop} (hn : n ≤ 8) (hP : ∀ t, t < n → P t ≤ 99999) (ha : ∀ t, t < n → a t = nN (P t)) (hb : ∀ t, t < n → b t = nN (P t)) (hK : K) : wp_X8_coin (nN n) a (fun r => wp_X9_coin (nN n) b (fun r' => (r = r' → K) ∧ (¬ r = r' → False))) := by
  obtain ⟨g, g0, gs⟩ : ∃ g : Nat → Nat, g 0 = 0 ∧ ∀ i, g (i + 1) = Nat.gcd (g i) (P i) := ⟨gcdN P, rfl, fun _ => rfl⟩
  have gle : ∀ i, i ≤ n → g i ≤ 99999 := by
    intro i
    induction i with
    | zero => intro _; rw [g0]; omega
    | succ i ih =>
      intro hi
      rw [gs]
      have hp := hP i (by omega)
      by_cases h0 : P i = 0
      · rw [h0, Nat.gcd_zero_right]; exact ih (by omega)
      · exact Nat.le_trans (Nat.le_of_dvd (by omega) (Nat.gcd_dvd_right _ _)) hp
  unfold wp_X8_coin
  intro k hk
  have key : ∀ (N i : Nat), n - i < N → i ≤ n → k (nN i) (nN (g i)) := by
    intro N
    induction N with
    | zero => intro i h1; omega
    | succ N ih =>
      intro i h1 h2
      apply hk
      rw [n_le (by omega) (by omega), n_nat (by omega)]
      refine ⟨fun c => ?_, fun c => ⟨n_in (by omega) (by omega), ?_⟩⟩
      · have ei : i = n := by omega
        rw [ei]
        unfold wp_X9_coin
        intro k9 hk9
        have key9 : ∀ (N i : Nat), n - i < N → i ≤ n → k9 (nN i) (nN (g i)) := by
          intro N
          induction N with
          | zero => intro i h1; omega
          | succ N ih =>
            intro i h1 h2
            apply hk9
            have gi := gle i h2
            rw [n_le (by omega) (by omega), n_nat (by omega)]
            refine ⟨fun c => ?_, fun c => ?_⟩
            · have ei : i = n := by omega
              rw [ei]; exact same_k hK
            · have hp := hP i (by omega)
              have hr := ih (i + 1) (by omega) (by omega)
              rw [gs] at hr
              rw [hb i (by omega), show nN i + 1 = nN (i + 1) from n_add _ 1, show (0 : Int32) = nN 0 from rfl, n_eq (by omega) (by omega), n_eq (by omega) (by omega)]
              refine ⟨fun c1 => ⟨n_in (by omega) (by omega), fun c2 => ⟨n_in (by omega) (by omega), ok9_sharedBy (by omega) (by omega) ?_⟩, fun c2 => ?_⟩, fun c1 => ⟨n_in (by omega) (by omega), ?_⟩⟩
              · unfold sh; rw [if_neg (by omega)]; exact hr
              · rw [c2, Nat.gcd_zero_right] at hr; exact hr
              · rw [c1, Nat.gcd_zero_left] at hr; exact hr
        have := key9 (n + 1) 0 (by omega) (by omega)
        rw [g0] at this
        exact this
      · have gi := gle i h2
        have hp := hP i (by omega)
        rw [ha i (by omega)]
        refine ok_greatestDivisor (by omega) (by omega) ?_
        rw [show nN i + 1 = nN (i + 1) from n_add _ 1, ← gs]
        exact ih (i + 1) (by omega) (by omega)
  have := key (n + 1) 0 (by omega) (by omega)
  rw [g0] at this
  exact this
