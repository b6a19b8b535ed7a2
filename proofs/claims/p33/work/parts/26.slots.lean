/-! what a SLOT keeps -/
def HR (n : Nat) (pe la ma se : Int32) (pu fa sa ha ga us vs : Nat → Int32) (la' ma' se' : Int32) (pu' ro us' vs' : Nat → Int32) : Prop := ∃ (w k q : Nat) (P A B C D U V : Nat → Nat), w ≤ 3 ∧ pe = nN n ∧ la = nN w ∧ la' = nN w ∧ ma = nN k ∧ ma' = nN k ∧ se = nN q ∧ se' = nN q ∧ (∀ t, t < n → P t ≤ 99999) ∧ (∀ t, t < n → pu t = nN (P t)) ∧ (∀ t, t < n → pu' t = nN (P t)) ∧ RowR n k A B C D fa sa ha ga ro ∧ SeeR q U V us vs us' vs'
theorem HR.congr {n : Nat} {pe la ma se : Int32} {pu fa sa ha ga us vs pu2 fa2 sa2 ha2 ga2 us2 vs2 : Nat → Int32} {la' ma' se' : Int32} {pu' ro us' vs' pu2' ro2 us2' vs2' : Nat → Int32} (hn : n ≤ 8) (h : HR n pe la ma se pu fa sa ha ga us vs la' ma' se' pu' ro us' vs') (e1 : ∀ t, t < 8 → pu2 t = pu t) (e2 : ∀ t, t < 32 → fa2 t = fa t ∧ sa2 t = sa t ∧ ha2 t = ha t ∧ ga2 t = ga t) (e3 : ∀ t, t < 8 → us2 t = us t ∧ vs2 t = vs t) (e4 : ∀ t, t < 8 → pu2' t = pu' t ∧ us2' t = us' t ∧ vs2' t = vs' t) (e5 : ∀ t, t < 128 → ro2 t = ro t) : HR n pe la ma se pu2 fa2 sa2 ha2 ga2 us2 vs2 la' ma' se' pu2' ro2 us2' vs2' := by
  obtain ⟨w, k, q, P, A, B, C, D, U, V, h1, h2, h3, h4, h5, h6, h7, h8, h9, h10, h11, ⟨r1, r2, r3, r4⟩, s1, s2, s3, s4⟩ := h
  refine ⟨w, k, q, P, A, B, C, D, U, V, h1, h2, h3, h4, h5, h6, h7, h8, h9, fun t ht => by rw [e1 t (by omega)]; exact h10 t ht, fun t ht => by rw [(e4 t (by omega)).1]; exact h11 t ht, ⟨r1, r2, fun j hj => ?_, fun j hj => ?_⟩, s1, s2, fun j hj => ?_, fun j hj => ?_⟩
  · obtain ⟨a1, a2, a3, a4⟩ := e2 j (by omega)
    rw [a1, a2, a3, a4]; exact r3 j hj
  · rw [e5 _ (by omega), e5 _ (by omega), e5 _ (by omega), e5 _ (by omega)]; exact r4 j hj
  · rw [(e3 j (by omega)).1, (e3 j (by omega)).2]; exact s3 j hj
  · rw [(e4 j (by omega)).2.1, (e4 j (by omega)).2.2]; exact s4 j hj
def SlotR (n : Nat) (fi pe la ma se : Int32) (pu fa sa ha ga us vs : Nat → Int32) (kf la' ma' se' : Int32) (pu' ro us' vs' : Nat → Int32) : Prop := (kf = 0 ∨ kf = 1) ∧ fi = kf ∧ (kf = 1 → HR n pe la ma se pu fa sa ha ga us vs la' ma' se' pu' ro us' vs')
def SlotsR (n : Nat) (f1 pe1 la1 ma1 se1 : Int32) (pu1 fa1 sa1 ha1 ga1 us1 vs1 : Nat → Int32) (f2 pe2 la2 ma2 se2 : Int32) (pu2 fa2 sa2 ha2 ga2 us2 vs2 : Nat → Int32) (ik kp kr kh ks rest : Nat → Int32) : Prop := SlotR n f1 pe1 la1 ma1 se1 pu1 fa1 sa1 ha1 ga1 us1 vs1 (ik 0) (rest 0) (rest 1) (rest 2) kp kr kh ks ∧ SlotR n f2 pe2 la2 ma2 se2 pu2 fa2 sa2 ha2 ga2 us2 vs2 (ik 1) (rest 3) (rest 4) (rest 5) (fun t => kp (8 + t)) (fun t => kr (128 + t)) (fun t => kh (8 + t)) (fun t => ks (8 + t))
theorem HR.made {n : Nat} {pe la ma se : Int32} {pu fa sa ha ga us vs : Nat → Int32} {la' ma' se' : Int32} {pu' ro us' vs' : Nat → Int32} (h : HR n pe la ma se pu fa sa ha ga us vs la' ma' se' pu' ro us' vs') : ma = ma' := by
  obtain ⟨w, k, q, P, A, B, C, D, U, V, h1, h2, h3, h4, h5, h6, h7⟩ := h
  rw [h5, h6]
theorem cpy8 {f g : Nat → Int32} : ∀ t, t < 8 → va_cpy f g (Int32.toNatClampNeg (0 : Int32)) (Int32.toNatClampNeg (0 : Int32)) (Int32.toNatClampNeg (8 : Int32)) t = f t := fun t ht => cpy_lo ht
theorem cpy32 {f g : Nat → Int32} : ∀ t, t < 32 → va_cpy f g (Int32.toNatClampNeg (0 : Int32)) (Int32.toNatClampNeg (0 : Int32)) (Int32.toNatClampNeg (32 : Int32)) t = f t := fun t ht => cpy_lo ht
