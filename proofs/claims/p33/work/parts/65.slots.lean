/-! what is held, what is kept; shifts -/
def HD (n w k e : Nat) (P A B C D U V : Nat → Nat) (pe la ma se : Int32) (pu fa sa ha ga us vs : Nat → Int32) : Prop := w ≤ 3 ∧ pe = nN n ∧ la = nN w ∧ ma = nN k ∧ se = nN e ∧ (∀ t, t < n → P t ≤ 99999) ∧ (∀ t, t < n → pu t = nN (P t)) ∧ RowC n k A B C D fa sa ha ga ∧ SeeC e U V us vs
theorem HD.cpy {n w k e : Nat} {P A B C D U V : Nat → Nat} {pe la ma se : Int32} {pu fa sa ha ga us vs pu0 fa0 sa0 ha0 ga0 us0 vs0 : Nat → Int32} (hn : n ≤ 8) (h : HD n w k e P A B C D U V pe la ma se pu fa sa ha ga us vs) : HD n w k e P A B C D U V pe la ma se (va_cpy pu pu0 (Int32.toNatClampNeg (0 : Int32)) (Int32.toNatClampNeg (0 : Int32)) (Int32.toNatClampNeg (8 : Int32))) (va_cpy fa fa0 (Int32.toNatClampNeg (0 : Int32)) (Int32.toNatClampNeg (0 : Int32)) (Int32.toNatClampNeg (32 : Int32))) (va_cpy sa sa0 (Int32.toNatClampNeg (0 : Int32)) (Int32.toNatClampNeg (0 : Int32)) (Int32.toNatClampNeg (32 : Int32))) (va_cpy ha ha0 (Int32.toNatClampNeg (0 : Int32)) (Int32.toNatClampNeg (0 : Int32)) (Int32.toNatClampNeg (32 : Int32))) (va_cpy ga ga0 (Int32.toNatClampNeg (0 : Int32)) (Int32.toNatClampNeg (0 : Int32)) (Int32.toNatClampNeg (32 : Int32))) (va_cpy us us0 (Int32.toNatClampNeg (0 : Int32)) (Int32.toNatClampNeg (0 : Int32)) (Int32.toNatClampNeg (8 : Int32))) (va_cpy vs vs0 (Int32.toNatClampNeg (0 : Int32)) (Int32.toNatClampNeg (0 : Int32)) (Int32.toNatClampNeg (8 : Int32))) := by
  obtain ⟨h1, h2, h3, h4, h5, h6, h7, ⟨r1, r2, r3⟩, ⟨s1, s2, s3⟩⟩ := h
  have e8 : Int32.toNatClampNeg (8 : Int32) = 8 := rfl
  have e32 : Int32.toNatClampNeg (32 : Int32) = 32 := rfl
  rw [e8, e32]
  refine ⟨h1, h2, h3, h4, h5, h6, fun t ht => ?_, ⟨r1, r2, fun j hj => ?_⟩, ⟨s1, s2, fun j hj => ?_⟩⟩
  · rw [cpy_lo (by omega)]; exact h7 t ht
  · rw [cpy_lo (by omega), cpy_lo (by omega), cpy_lo (by omega), cpy_lo (by omega)]; exact r3 j hj
  · rw [cpy_lo (by omega), cpy_lo (by omega)]; exact s3 j hj
def hm (w k e : Nat) (P A B C D U V : Nat → Nat) : Nat → Nat → Nat := fun i => match i with
  | 0 => fun j => match j with
    | 0 => w
    | 1 => k
    | _ => e
  | 1 => P
  | 2 => A
  | 3 => B
  | 4 => C
  | 5 => D
  | 6 => U
  | _ => V
def SL (n f : Nat) (h : Nat → Nat → Nat) (fi pe la ma se : Int32) (pu fa sa ha ga us vs : Nat → Int32) : Prop := (f = 0 ∧ fi = 0) ∨ (f = 1 ∧ fi = 1 ∧ HD n (h 0 0) (h 0 1) (h 0 2) (h 1) (h 2) (h 3) (h 4) (h 5) (h 6) (h 7) pe la ma se pu fa sa ha ga us vs)
theorem sv_keep0 {n w k e f1 : Nat} {P A B C D U V : Nat → Nat} {h1 : Nat → Nat → Nat} {pe la ma se : Int32} {pu fa sa ha ga us vs : Nat → Int32} {fi1 pe1 la1 ma1 se1 : Int32} {pu1 fa1 sa1 ha1 ga1 us1 vs1 : Nat → Int32} {fi2 pe2 la2 ma2 se2 : Int32} {pu2 fa2 sa2 ha2 ga2 us2 vs2 : Nat → Int32} {Post : Int32 → Int32 → Int32 → Int32 → Int32 → Int32 → (Nat → Int32) → (Nat → Int32) → (Nat → Int32) → (Nat → Int32) → (Nat → Int32) → (Nat → Int32) → (Nat → Int32) → Int32 → Int32 → Int32 → Int32 → Int32 → (Nat → Int32) → (Nat → Int32) → (Nat → Int32) → (Nat → Int32) → (Nat → Int32) → (Nat → Int32) → (Nat → Int32) → Prop} (hn : n ≤ 8) (hh : HD n w k e P A B C D U V pe la ma se pu fa sa ha ga us vs)
    (h : ∀ fi1 pe1 la1 ma1 se1 pu1 fa1 sa1 ha1 ga1 us1 vs1, SL n 1 (hm w k e P A B C D U V) fi1 pe1 la1 ma1 se1 pu1 fa1 sa1 ha1 ga1 us1 vs1 → Post (nN k) fi1 pe1 la1 ma1 se1 pu1 fa1 sa1 ha1 ga1 us1 vs1 fi2 pe2 la2 ma2 se2 pu2 fa2 sa2 ha2 ga2 us2 vs2) : wp_X8_keep 0 pe la ma se pu fa sa ha ga us vs fi1 pe1 la1 ma1 se1 pu1 fa1 sa1 ha1 ga1 us1 vs1 fi2 pe2 la2 ma2 se2 pu2 fa2 sa2 ha2 ga2 us2 vs2 Post := by
  unfold wp_X8_keep wp_X1_become
  refine ⟨fun c => absurd c (by decide), fun _ => ⟨fun _ => ⟨fun _ => ?_, fun c => absurd rfl c⟩, fun c => absurd (by decide) c⟩⟩
  rw [hh.2.2.2.1]
  have e := hh.2.2.2.1
  subst e
  exact h _ _ _ _ _ _ _ _ _ _ _ _ (Or.inr ⟨rfl, rfl, hh.cpy hn⟩)
theorem sv_keep1 {n w k e : Nat} {P A B C D U V : Nat → Nat} {pe la ma se : Int32} {pu fa sa ha ga us vs : Nat → Int32} {fi1 pe1 la1 ma1 se1 : Int32} {pu1 fa1 sa1 ha1 ga1 us1 vs1 : Nat → Int32} {fi2 pe2 la2 ma2 se2 : Int32} {pu2 fa2 sa2 ha2 ga2 us2 vs2 : Nat → Int32} {Post : Int32 → Int32 → Int32 → Int32 → Int32 → Int32 → (Nat → Int32) → (Nat → Int32) → (Nat → Int32) → (Nat → Int32) → (Nat → Int32) → (Nat → Int32) → (Nat → Int32) → Int32 → Int32 → Int32 → Int32 → Int32 → (Nat → Int32) → (Nat → Int32) → (Nat → Int32) → (Nat → Int32) → (Nat → Int32) → (Nat → Int32) → (Nat → Int32) → Prop} (hn : n ≤ 8) (hh : HD n w k e P A B C D U V pe la ma se pu fa sa ha ga us vs)
    (h : ∀ fi2 pe2 la2 ma2 se2 pu2 fa2 sa2 ha2 ga2 us2 vs2, SL n 1 (hm w k e P A B C D U V) fi2 pe2 la2 ma2 se2 pu2 fa2 sa2 ha2 ga2 us2 vs2 → Post (nN k) fi1 pe1 la1 ma1 se1 pu1 fa1 sa1 ha1 ga1 us1 vs1 fi2 pe2 la2 ma2 se2 pu2 fa2 sa2 ha2 ga2 us2 vs2) : wp_X8_keep 1 pe la ma se pu fa sa ha ga us vs fi1 pe1 la1 ma1 se1 pu1 fa1 sa1 ha1 ga1 us1 vs1 fi2 pe2 la2 ma2 se2 pu2 fa2 sa2 ha2 ga2 us2 vs2 Post := by
  unfold wp_X8_keep wp_X1_become
  refine ⟨fun c => absurd c (by decide), fun _ => ⟨fun _ => ⟨fun c => absurd c (by decide), fun _ => ?_⟩, fun c => absurd (by decide) c⟩⟩
  rw [hh.2.2.2.1]
  have e := hh.2.2.2.1
  subst e
  exact h _ _ _ _ _ _ _ _ _ _ _ _ (Or.inr ⟨rfl, rfl, hh.cpy hn⟩)
theorem sv_again0 {n f1 : Nat} {h1 : Nat → Nat → Nat} {fi pe la ma se : Int32} {pu fa sa ha ga us vs : Nat → Int32} {fi1 pe1 la1 ma1 se1 : Int32} {pu1 fa1 sa1 ha1 ga1 us1 vs1 : Nat → Int32} {fi2 pe2 la2 ma2 se2 : Int32} {pu2 fa2 sa2 ha2 ga2 us2 vs2 : Nat → Int32} {Post : Int32 → Int32 → Int32 → Int32 → Int32 → Int32 → (Nat → Int32) → (Nat → Int32) → (Nat → Int32) → (Nat → Int32) → (Nat → Int32) → (Nat → Int32) → (Nat → Int32) → Prop} (hn : n ≤ 8) (hs : SL n f1 h1 fi1 pe1 la1 ma1 se1 pu1 fa1 sa1 ha1 ga1 us1 vs1) (h0 : f1 = 0 → Post (-3) fi pe la ma se pu fa sa ha ga us vs)
    (h : ∀ fi pe la ma se pu fa sa ha ga us vs, f1 = 1 → HD n (h1 0 0) (h1 0 1) (h1 0 2) (h1 1) (h1 2) (h1 3) (h1 4) (h1 5) (h1 6) (h1 7) pe la ma se pu fa sa ha ga us vs → Post (nN (h1 0 1)) fi pe la ma se pu fa sa ha ga us vs) : wp_X8_again 0 fi pe la ma se pu fa sa ha ga us vs fi1 pe1 la1 ma1 se1 pu1 fa1 sa1 ha1 ga1 us1 vs1 fi2 pe2 la2 ma2 se2 pu2 fa2 sa2 ha2 ga2 us2 vs2 Post := by
  unfold wp_X8_again wp_X1_become
  rcases hs with ⟨e1, e2⟩ | ⟨e1, e2, hh⟩
  · refine ⟨fun c => absurd c (by decide), fun _ => ⟨fun _ => ⟨fun _ => ⟨fun c => absurd e2 c, fun _ => h0 e1⟩, fun c => absurd rfl c⟩, fun c => absurd (by decide) c⟩⟩
  · refine ⟨fun c => absurd c (by decide), fun _ => ⟨fun _ => ⟨fun _ => ⟨fun _ => ?_, fun c => by rw [e2] at c; exact absurd c (by decide)⟩, fun c => absurd rfl c⟩, fun c => absurd (by decide) c⟩⟩
    have hc := hh.cpy (pu0 := pu) (fa0 := fa) (sa0 := sa) (ha0 := ha) (ga0 := ga) (us0 := us) (vs0 := vs) hn
    have e := hh.2.2.2.1
    subst e
    exact h _ _ _ _ _ _ _ _ _ _ _ _ e1 hc
theorem sv_again1 {n f1 : Nat} {h1 : Nat → Nat → Nat} {fi pe la ma se : Int32} {pu fa sa ha ga us vs : Nat → Int32} {fi1 pe1 la1 ma1 se1 : Int32} {pu1 fa1 sa1 ha1 ga1 us1 vs1 : Nat → Int32} {fi2 pe2 la2 ma2 se2 : Int32} {pu2 fa2 sa2 ha2 ga2 us2 vs2 : Nat → Int32} {Post : Int32 → Int32 → Int32 → Int32 → Int32 → Int32 → (Nat → Int32) → (Nat → Int32) → (Nat → Int32) → (Nat → Int32) → (Nat → Int32) → (Nat → Int32) → (Nat → Int32) → Prop} (hn : n ≤ 8) (hs : SL n f1 h1 fi2 pe2 la2 ma2 se2 pu2 fa2 sa2 ha2 ga2 us2 vs2) (h0 : f1 = 0 → Post (-3) fi pe la ma se pu fa sa ha ga us vs)
    (h : ∀ fi pe la ma se pu fa sa ha ga us vs, f1 = 1 → HD n (h1 0 0) (h1 0 1) (h1 0 2) (h1 1) (h1 2) (h1 3) (h1 4) (h1 5) (h1 6) (h1 7) pe la ma se pu fa sa ha ga us vs → Post (nN (h1 0 1)) fi pe la ma se pu fa sa ha ga us vs) : wp_X8_again 1 fi pe la ma se pu fa sa ha ga us vs fi1 pe1 la1 ma1 se1 pu1 fa1 sa1 ha1 ga1 us1 vs1 fi2 pe2 la2 ma2 se2 pu2 fa2 sa2 ha2 ga2 us2 vs2 Post := by
  unfold wp_X8_again wp_X1_become
  rcases hs with ⟨e1, e2⟩ | ⟨e1, e2, hh⟩
  · refine ⟨fun c => absurd c (by decide), fun _ => ⟨fun _ => ⟨fun c => absurd c (by decide), fun _ => ⟨fun c => absurd e2 c, fun _ => h0 e1⟩⟩, fun c => absurd (by decide) c⟩⟩
  · refine ⟨fun c => absurd c (by decide), fun _ => ⟨fun _ => ⟨fun c => absurd c (by decide), fun _ => ⟨fun _ => ?_, fun c => by rw [e2] at c; exact absurd c (by decide)⟩⟩, fun c => absurd (by decide) c⟩⟩
    have hc := hh.cpy (pu0 := pu) (fa0 := fa) (sa0 := sa) (ha0 := ha) (ga0 := ga) (us0 := us) (vs0 := vs) hn
    have e := hh.2.2.2.1
    subst e
    exact h _ _ _ _ _ _ _ _ _ _ _ _ e1 hc
theorem sr_keep {pe la ma se : Int32} {pu fa sa ha ga us vs : Nat → Int32} {fi1 pe1 la1 ma1 se1 : Int32} {pu1 fa1 sa1 ha1 ga1 us1 vs1 : Nat → Int32} {fi2 pe2 la2 ma2 se2 : Int32} {pu2 fa2 sa2 ha2 ga2 us2 vs2 : Nat → Int32} {Post : Int32 → Int32 → Int32 → Int32 → Int32 → Int32 → (Nat → Int32) → (Nat → Int32) → (Nat → Int32) → (Nat → Int32) → (Nat → Int32) → (Nat → Int32) → (Nat → Int32) → Int32 → Int32 → Int32 → Int32 → Int32 → (Nat → Int32) → (Nat → Int32) → (Nat → Int32) → (Nat → Int32) → (Nat → Int32) → (Nat → Int32) → (Nat → Int32) → Prop} (h : Post (-1) fi1 pe1 la1 ma1 se1 pu1 fa1 sa1 ha1 ga1 us1 vs1 fi2 pe2 la2 ma2 se2 pu2 fa2 sa2 ha2 ga2 us2 vs2) : wp_X8_keep 2 pe la ma se pu fa sa ha ga us vs fi1 pe1 la1 ma1 se1 pu1 fa1 sa1 ha1 ga1 us1 vs1 fi2 pe2 la2 ma2 se2 pu2 fa2 sa2 ha2 ga2 us2 vs2 Post := by
  unfold wp_X8_keep
  exact ⟨fun c => absurd c (by decide), fun _ => ⟨fun c => absurd c (by decide), fun _ => h⟩⟩
theorem sr_again {fi pe la ma se : Int32} {pu fa sa ha ga us vs : Nat → Int32} {fi1 pe1 la1 ma1 se1 : Int32} {pu1 fa1 sa1 ha1 ga1 us1 vs1 : Nat → Int32} {fi2 pe2 la2 ma2 se2 : Int32} {pu2 fa2 sa2 ha2 ga2 us2 vs2 : Nat → Int32} {Post : Int32 → Int32 → Int32 → Int32 → Int32 → Int32 → (Nat → Int32) → (Nat → Int32) → (Nat → Int32) → (Nat → Int32) → (Nat → Int32) → (Nat → Int32) → (Nat → Int32) → Prop} (h : Post (-1) fi pe la ma se pu fa sa ha ga us vs) : wp_X8_again (-1) fi pe la ma se pu fa sa ha ga us vs fi1 pe1 la1 ma1 se1 pu1 fa1 sa1 ha1 ga1 us1 vs1 fi2 pe2 la2 ma2 se2 pu2 fa2 sa2 ha2 ga2 us2 vs2 Post := by
  unfold wp_X8_again
  exact ⟨fun _ => h, fun c => absurd (by decide) c⟩
/-! bits -/
theorem sm_at : ∀ s : Nat, s < 32 → ((nN s &&& 31).toBitVec.smod 32).toNat = s := by decide +kernel
theorem sh_n {X s : Nat} (hX : X < 2147483648) (hs : s < 32) : nN X >>> (nN s &&& 31) = nN (X / 2 ^ s) := by
  refine Int32.toBitVec_inj.1 (BitVec.eq_of_toNat_eq ?_)
  have hd := Nat.div_le_self X (2 ^ s)
  rw [n_bv (by omega)]
  show ((nN X).toBitVec.sshiftRight ((nN s &&& 31).toBitVec.smod 32).toNat).toNat = X / 2 ^ s
  have hm : (nN X).toBitVec.msb = false := by
    rw [BitVec.msb_eq_decide, n_bv (by omega)]
    exact decide_eq_false (by omega)
  rw [BitVec.sshiftRight_eq_of_msb_false hm, sm_at s hs, BitVec.toNat_ushiftRight, n_bv (by omega), Nat.shiftRight_eq_div_pow]
theorem and_n {X k : Nat} (hX : X < 2147483648) (hk : 2 ^ k - 1 < 2147483648) : nN X &&& nN (2 ^ k - 1) = nN (X % 2 ^ k) := by
  refine Int32.toBitVec_inj.1 (BitVec.eq_of_toNat_eq ?_)
  have hd := Nat.mod_le X (2 ^ k)
  rw [n_bv (by omega)]
  show ((nN X).toBitVec &&& (nN (2 ^ k - 1)).toBitVec).toNat = _
  rw [BitVec.toNat_and, n_bv (by omega), n_bv (by omega), Nat.and_two_pow_sub_one_eq_mod]
theorem and_cell (y : Int32) : ∃ X, X < 2147483648 ∧ y &&& (2147483647 : Int32) = nN X := by
  refine ⟨y.toBitVec.toNat % 2 ^ 31, by omega, Int32.toBitVec_inj.1 (BitVec.eq_of_toNat_eq ?_)⟩
  rw [n_bv (by omega)]
  show (y.toBitVec &&& 2147483647#32).toNat = _
  rw [BitVec.toNat_and, show (2147483647#32).toNat = 2 ^ 31 - 1 from rfl, Nat.and_two_pow_sub_one_eq_mod]
theorem two_ne {n a d : Nat} (hn : 2 ≤ n) (ha : a < n) : (a + 1 + d % (n - 1)) % n ≠ a ∧ (a + 1 + d % (n - 1)) % n < n := by
  have hd := Nat.mod_lt d (show 0 < n - 1 by omega)
  refine ⟨?_, Nat.mod_lt _ (by omega)⟩
  rcases Nat.lt_or_ge (a + 1 + d % (n - 1)) n with h | h
  · rw [Nat.mod_eq_of_lt h]; omega
  · rw [Nat.mod_eq_sub_mod h, Nat.mod_eq_of_lt (by omega)]; omega
