/-! what a SLOT keeps -/
def HR (n : Nat) (pe la ma se : Int32) (pu fa sa ha ga us vs : Nat → Int32) (la' ma' se' : Int32) (pu' ro us' vs' : Nat → Int32) : Prop := ∃ (w k q : Nat) (P A B C D U V : Nat → Nat), w ≤ 3 ∧ pe = nN n ∧ la = nN w ∧ la' = nN w ∧ ma = nN k ∧ ma' = nN k ∧ se = nN q ∧ se' = nN q ∧ (∀ t, t < n → P t ≤ 99999) ∧ (∀ t, t < n → pu t = nN (P t)) ∧ (∀ t, t < n → pu' t = nN (P t)) ∧ RowR n k A B C D fa sa ha ga ro ∧ SeeR q U V us vs us' vs'
theorem HR.congr {n : Nat} {pe la ma se : Int32} {pu fa sa ha ga us vs pu2 fa2 sa2 ha2 ga2 us2 vs2 : Nat → Int32} {la' ma' se' : Int32} {pu' ro us' vs' pu2' ro2 us2' vs2' : Nat → Int32} (hn : n ≤ 8) (h : HR n pe la ma se pu fa sa ha ga us vs la' ma' se' pu' ro us' vs') (e1 : ∀ t, t < 8 → pu2 t = pu t) (e2 : ∀ t, t < 32 → fa2 t = fa t ∧ sa2 t = sa t ∧ ha2 t = ha t ∧ ga2 t = ga t) (e3 : ∀ t, t < 8 → us2 t = us t ∧ vs2 t = vs t) (e4 : ∀ t, t < 8 → pu2' t = pu' t ∧ us2' t = us' t ∧ vs2' t = vs' t) (e5 : ∀ t, t < 128 → ro2 t = ro t) : HR n pe la ma se pu2 fa2 sa2 ha2 ga2 us2 vs2 la' ma' se' pu2' ro2 us2' vs2' := by
  obtain ⟨w, k, q, P, A, B, C, D, U, V, h1, h2, h3, h4, h5, h6, h7, h8, h9, h10, h11, ⟨r1, r2, r3, r4⟩, s1, s2, s3, s4⟩ := h
  refine ⟨w, k, q, P, A, B, C, D, U, V, h1, h2, h3, h4, h5, h6, h7, h8, h9, fun t ht => by rw [e1 t (by omega)]; exact h10 t ht, fun t ht => by rw [(e4 t (by omega)).1]; exact h11 t ht, ⟨r1, r2, fun j hj => ?_, fun j hj => ?_⟩, s1, s2, fun j hj => ?_, fun j hj => ?_⟩
  · obtain ⟨a1, a2, a3, a4⟩ := e2 j (by omega)
    rw [a1, a2, a3, a4]; exact r3 j hj
  · rw [e5 _ (by omega), e5 _ (by omega), e5 _ (by omega), e5 _ (by omega)]; exact r4 j hj
  · rw [(e3 j (by omega)).1, (e3 j (by omega)).2]; exact s3 j hj
  · rw [(e4 j (by omega)).2.1, (e4 j (by omega)).2.2]; exact s4 j hj
theorem ok9_keep {x : Int32} {la ma se : Int32} {pu ro us vs ik kp kr kh ks rest : Nat → Int32} {Post : Int32 → (Nat → Int32) → (Nat → Int32) → (Nat → Int32) → (Nat → Int32) → (Nat → Int32) → (Nat → Int32) → Prop}
    (h0 : ¬ (x = 0 ∨ x = 1) → Post (-1) ik kp kr kh ks rest)
    (h1 : ∀ (i : Nat) kp' kr' kh' ks', i ≤ 1 → x = nN i → (∀ t, t < 8 → kp' (8 * i + t) = pu t ∧ kh' (8 * i + t) = us t ∧ ks' (8 * i + t) = vs t) → (∀ t, (t < 8 * i ∨ 8 * i + 8 ≤ t) → kp' t = kp t ∧ kh' t = kh t ∧ ks' t = ks t) → (∀ t, t < 128 → kr' (128 * i + t) = ro t) → (∀ t, (t < 128 * i ∨ 128 * i + 128 ≤ t) → kr' t = kr t) → Post ma (upd ik i 1) kp' kr' kh' ks' (upd (upd (upd rest (3 * i) la) (3 * i + 1) ma) (3 * i + 2) se)) :
    wp_X9_keep x la ma se pu ro us vs ik kp kr kh ks rest Post := by
  obtain ⟨z, rfl, hz, hz2⟩ := i_ex x
  unfold wp_X9_keep
  refine ok_inI (lo := 0) (hi := 1) hz hz2 rfl rfl (fun a b => ⟨fun _ => ?_, fun c => absurd c one_ne⟩) (fun h => ⟨fun c => absurd rfl c, fun _ => h0 (fun hh => h ?_)⟩)
  · obtain ⟨i, rfl⟩ : ∃ i : Nat, z = i := ⟨z.toNat, by omega⟩
    have hi : i ≤ 1 := by omega
    refine ⟨n_in (by omega) (by omega), ?_⟩
    intro k hk
    have key : ∀ (N j : Nat) (p1 q1 r1 : Nat → Int32), 8 - j < N → j ≤ 8 → (∀ t, t < j → p1 (8 * i + t) = pu t ∧ q1 (8 * i + t) = us t ∧ r1 (8 * i + t) = vs t) → (∀ t, (t < 8 * i ∨ 8 * i + 8 ≤ t) → p1 t = kp t ∧ q1 t = kh t ∧ r1 t = ks t) → k (nN j) p1 q1 r1 := by
      intro N
      induction N with
      | zero => intro j p1 q1 r1 g; omega
      | succ N ih =>
        intro j p1 q1 r1 g1 g2 g3 g4
        apply hk
        rw [show (8 : Int32) = nN 8 from rfl, n_le (by omega) (by omega), n_mul, n_add, n_nat (by omega), n_nat (by omega), n_nat (by omega), show nN j + 1 = nN (j + 1) from n_add _ 1]
        refine ⟨fun c => ?_, fun c => ⟨n_in (by omega) (by omega), n_in (by omega) (by omega), n_in (by omega) (by omega), n_in (by omega) (by omega), n_in (by omega) (by omega), n_in (by omega) (by omega), ?_⟩⟩
        · intro k2 hk2
          have key2 : ∀ (N2 j2 : Nat) (s1 : Nat → Int32), 128 - j2 < N2 → j2 ≤ 128 → (∀ t, t < j2 → s1 (128 * i + t) = ro t) → (∀ t, (t < 128 * i ∨ 128 * i + 128 ≤ t) → s1 t = kr t) → k2 (nN j2) s1 := by
            intro N2
            induction N2 with
            | zero => intro j2 s1 g; omega
            | succ N2 ih2 =>
              intro j2 s1 f1 f2 f3 f4
              apply hk2
              have e1 : (3 : Int32) * nN i = nN (3 * i) := n_mul 3 i
              have e2 : nN (3 * i) + (1 : Int32) = nN (3 * i + 1) := n_add _ 1
              have e3 : nN (3 * i) + (2 : Int32) = nN (3 * i + 2) := n_add _ 2
              rw [show (128 : Int32) = nN 128 from rfl, n_le (by omega) (by omega), n_mul, n_add, n_nat (by omega), n_nat (by omega), show nN j2 + 1 = nN (j2 + 1) from n_add _ 1, e1, e2, e3, n_nat (by omega), n_nat (by omega), n_nat (by omega)]
              refine ⟨fun c2 => ⟨n_in (by omega) (by omega), n_in (by omega) (by omega), n_in (by omega) (by omega), ?_⟩, fun c2 => ⟨n_in (by omega) (by omega), n_in (by omega) (by omega), ?_⟩⟩
              · exact h1 i p1 s1 q1 r1 hi rfl (fun t ht => g3 t (by omega)) g4 (fun t ht => f3 t (by omega)) f4
              · refine ih2 (j2 + 1) _ (by omega) (by omega) (fun t ht => ?_) (fun t ht => ?_)
                · unfold upd
                  by_cases e : t = j2
                  · rw [if_pos (by omega), e]
                  · rw [if_neg (by omega)]; exact f3 t (by omega)
                · unfold upd
                  rw [if_neg (by omega)]; exact f4 t ht
          exact key2 129 0 kr (by omega) (by omega) (fun t ht => absurd ht (by omega)) (fun _ _ => rfl)
        · refine ih (j + 1) _ _ _ (by omega) (by omega) (fun t ht => ?_) (fun t ht => ?_)
          · unfold upd
            by_cases e : t = j
            · rw [if_pos (by omega), if_pos (by omega), if_pos (by omega), e]; exact ⟨rfl, rfl, rfl⟩
            · rw [if_neg (by omega), if_neg (by omega), if_neg (by omega)]; exact g3 t (by omega)
          · unfold upd
            rw [if_neg (by omega), if_neg (by omega), if_neg (by omega)]; exact g4 t ht
    exact key 9 0 kp kh ks (by omega) (by omega) (fun t ht => absurd ht (by omega)) (fun _ _ => ⟨rfl, rfl, rfl⟩)
  · rcases hh with e | e
    · rw [show (0 : Int32) = iI 0 from rfl, i_eq hz hz2 (by omega) (by omega)] at e; omega
    · rw [show (1 : Int32) = iI 1 from rfl, i_eq hz hz2 (by omega) (by omega)] at e; omega
theorem ok9_again {x : Int32} {la ma se : Int32} {pu ro us vs ik kp kr kh ks rest : Nat → Int32} {Post : Int32 → Int32 → Int32 → Int32 → (Nat → Int32) → (Nat → Int32) → (Nat → Int32) → (Nat → Int32) → Prop}
    (h0 : ¬ (x = 0 ∨ x = 1) → Post (-1) la ma se pu ro us vs)
    (h2 : ∀ i : Nat, i ≤ 1 → x = nN i → ik i = 0 → Post (-3) la ma se pu ro us vs)
    (h1 : ∀ (i : Nat) pu' ro' us' vs', i ≤ 1 → x = nN i → ¬ ik i = 0 → (∀ t, t < 8 → pu' t = kp (8 * i + t) ∧ us' t = kh (8 * i + t) ∧ vs' t = ks (8 * i + t)) → (∀ t, t < 128 → ro' t = kr (128 * i + t)) → Post (rest (3 * i + 1)) (rest (3 * i)) (rest (3 * i + 1)) (rest (3 * i + 2)) pu' ro' us' vs') :
    wp_X9_again x la ma se pu ro us vs ik kp kr kh ks rest Post := by
  obtain ⟨z, rfl, hz, hz2⟩ := i_ex x
  unfold wp_X9_again
  refine ok_inI (lo := 0) (hi := 1) hz hz2 rfl rfl (fun a b => ⟨fun _ => ?_, fun c => absurd c one_ne⟩) (fun h => ⟨fun c => absurd rfl c, fun _ => h0 (fun hh => h ?_)⟩)
  · obtain ⟨i, rfl⟩ : ∃ i : Nat, z = i := ⟨z.toNat, by omega⟩
    have hi : i ≤ 1 := by omega
    refine ⟨n_in (by omega) (by omega), ?_⟩
    rw [n_nat (by omega)]
    refine ⟨fun cik => ?_, fun cik => h2 i hi rfl cik⟩
    intro k hk
    have key : ∀ (N j : Nat) (p1 q1 r1 : Nat → Int32), 8 - j < N → j ≤ 8 → (∀ t, t < j → p1 t = kp (8 * i + t) ∧ q1 t = kh (8 * i + t) ∧ r1 t = ks (8 * i + t)) → k (nN j) p1 q1 r1 := by
      intro N
      induction N with
      | zero => intro j p1 q1 r1 g; omega
      | succ N ih =>
        intro j p1 q1 r1 g1 g2 g3
        apply hk
        rw [show (8 : Int32) = nN 8 from rfl, n_le (by omega) (by omega), n_mul, n_add, n_nat (by omega), n_nat (by omega), show nN j + 1 = nN (j + 1) from n_add _ 1]
        refine ⟨fun c => ?_, fun c => ⟨n_in (by omega) (by omega), n_in (by omega) (by omega), n_in (by omega) (by omega), n_in (by omega) (by omega), n_in (by omega) (by omega), n_in (by omega) (by omega), ?_⟩⟩
        · intro k2 hk2
          have key2 : ∀ (N2 j2 : Nat) (s1 : Nat → Int32), 128 - j2 < N2 → j2 ≤ 128 → (∀ t, t < j2 → s1 t = kr (128 * i + t)) → k2 (nN j2) s1 := by
            intro N2
            induction N2 with
            | zero => intro j2 s1 g; omega
            | succ N2 ih2 =>
              intro j2 s1 f1 f2 f3
              apply hk2
              have e1 : (3 : Int32) * nN i = nN (3 * i) := n_mul 3 i
              have e2 : nN (3 * i) + (1 : Int32) = nN (3 * i + 1) := n_add _ 1
              have e3 : nN (3 * i) + (2 : Int32) = nN (3 * i + 2) := n_add _ 2
              rw [show (128 : Int32) = nN 128 from rfl, n_le (by omega) (by omega), n_mul, n_add, n_nat (by omega), n_nat (by omega), show nN j2 + 1 = nN (j2 + 1) from n_add _ 1, e1, e2, e3, n_nat (by omega), n_nat (by omega), n_nat (by omega)]
              refine ⟨fun c2 => ⟨n_in (by omega) (by omega), n_in (by omega) (by omega), n_in (by omega) (by omega), ?_⟩, fun c2 => ⟨n_in (by omega) (by omega), n_in (by omega) (by omega), ?_⟩⟩
              · exact h1 i p1 s1 q1 r1 hi rfl cik (fun t ht => g3 t (by omega)) (fun t ht => f3 t (by omega))
              · refine ih2 (j2 + 1) _ (by omega) (by omega) (fun t ht => ?_)
                unfold upd
                by_cases e : t = j2
                · rw [if_pos (by omega), e]
                · rw [if_neg (by omega)]; exact f3 t (by omega)
          exact key2 129 0 ro (by omega) (by omega) (fun t ht => absurd ht (by omega))
        · refine ih (j + 1) _ _ _ (by omega) (by omega) (fun t ht => ?_)
          unfold upd
          by_cases e : t = j
          · rw [if_pos (by omega), if_pos (by omega), if_pos (by omega), e]; exact ⟨rfl, rfl, rfl⟩
          · rw [if_neg (by omega), if_neg (by omega), if_neg (by omega)]; exact g3 t (by omega)
    exact key 9 0 pu us vs (by omega) (by omega) (fun t ht => absurd ht (by omega))
  · rcases hh with e | e
    · rw [show (0 : Int32) = iI 0 from rfl, i_eq hz hz2 (by omega) (by omega)] at e; omega
    · rw [show (1 : Int32) = iI 1 from rfl, i_eq hz hz2 (by omega) (by omega)] at e; omega
def SlotR (n : Nat) (fi pe la ma se : Int32) (pu fa sa ha ga us vs : Nat → Int32) (kf la' ma' se' : Int32) (pu' ro us' vs' : Nat → Int32) : Prop := (kf = 0 ∨ kf = 1) ∧ fi = kf ∧ (kf = 1 → HR n pe la ma se pu fa sa ha ga us vs la' ma' se' pu' ro us' vs')
def SlotsR (n : Nat) (f1 pe1 la1 ma1 se1 : Int32) (pu1 fa1 sa1 ha1 ga1 us1 vs1 : Nat → Int32) (f2 pe2 la2 ma2 se2 : Int32) (pu2 fa2 sa2 ha2 ga2 us2 vs2 : Nat → Int32) (ik kp kr kh ks rest : Nat → Int32) : Prop := SlotR n f1 pe1 la1 ma1 se1 pu1 fa1 sa1 ha1 ga1 us1 vs1 (ik 0) (rest 0) (rest 1) (rest 2) kp kr kh ks ∧ SlotR n f2 pe2 la2 ma2 se2 pu2 fa2 sa2 ha2 ga2 us2 vs2 (ik 1) (rest 3) (rest 4) (rest 5) (fun t => kp (8 + t)) (fun t => kr (128 + t)) (fun t => kh (8 + t)) (fun t => ks (8 + t))
theorem HR.made {n : Nat} {pe la ma se : Int32} {pu fa sa ha ga us vs : Nat → Int32} {la' ma' se' : Int32} {pu' ro us' vs' : Nat → Int32} (h : HR n pe la ma se pu fa sa ha ga us vs la' ma' se' pu' ro us' vs') : ma = ma' := by
  obtain ⟨w, k, q, P, A, B, C, D, U, V, h1, h2, h3, h4, h5, h6, h7⟩ := h
  rw [h5, h6]
theorem cpy8 {f g : Nat → Int32} : ∀ t, t < 8 → va_cpy f g (Int32.toNatClampNeg (0 : Int32)) (Int32.toNatClampNeg (0 : Int32)) (Int32.toNatClampNeg (8 : Int32)) t = f t := fun t ht => cpy_lo ht
theorem cpy32 {f g : Nat → Int32} : ∀ t, t < 32 → va_cpy f g (Int32.toNatClampNeg (0 : Int32)) (Int32.toNatClampNeg (0 : Int32)) (Int32.toNatClampNeg (32 : Int32)) t = f t := fun t ht => cpy_lo ht
theorem case_keep {n : Nat} {x pe la ma se : Int32} {pu fa sa ha ga us vs : Nat → Int32} {la' ma' se' : Int32} {pu' ro us' vs' : Nat → Int32} {f1 pe1 la1 ma1 se1 : Int32} {pu1 fa1 sa1 ha1 ga1 us1 vs1 : Nat → Int32} {f2 pe2 la2 ma2 se2 : Int32} {pu2 fa2 sa2 ha2 ga2 us2 vs2 : Nat → Int32} {ik kp kr kh ks rest : Nat → Int32} {K : Int32 → Int32 → Int32 → Int32 → Int32 → (Nat → Int32) → (Nat → Int32) → (Nat → Int32) → (Nat → Int32) → (Nat → Int32) → (Nat → Int32) → (Nat → Int32) → Int32 → Int32 → Int32 → Int32 → Int32 → (Nat → Int32) → (Nat → Int32) → (Nat → Int32) → (Nat → Int32) → (Nat → Int32) → (Nat → Int32) → (Nat → Int32) → (Nat → Int32) → (Nat → Int32) → (Nat → Int32) → (Nat → Int32) → (Nat → Int32) → (Nat → Int32) → Prop}
    (hn : n ≤ 8) (hh : HR n pe la ma se pu fa sa ha ga us vs la' ma' se' pu' ro us' vs') (hs : SlotsR n f1 pe1 la1 ma1 se1 pu1 fa1 sa1 ha1 ga1 us1 vs1 f2 pe2 la2 ma2 se2 pu2 fa2 sa2 ha2 ga2 us2 vs2 ik kp kr kh ks rest)
    (hK : ∀ f1 pe1 la1 ma1 se1 pu1 fa1 sa1 ha1 ga1 us1 vs1 f2 pe2 la2 ma2 se2 pu2 fa2 sa2 ha2 ga2 us2 vs2 ik kp kr kh ks rest, SlotsR n f1 pe1 la1 ma1 se1 pu1 fa1 sa1 ha1 ga1 us1 vs1 f2 pe2 la2 ma2 se2 pu2 fa2 sa2 ha2 ga2 us2 vs2 ik kp kr kh ks rest → K f1 pe1 la1 ma1 se1 pu1 fa1 sa1 ha1 ga1 us1 vs1 f2 pe2 la2 ma2 se2 pu2 fa2 sa2 ha2 ga2 us2 vs2 ik kp kr kh ks rest) :
    wp_X8_keep x pe la ma se pu fa sa ha ga us vs f1 pe1 la1 ma1 se1 pu1 fa1 sa1 ha1 ga1 us1 vs1 f2 pe2 la2 ma2 se2 pu2 fa2 sa2 ha2 ga2 us2 vs2 (fun r f1 pe1 la1 ma1 se1 pu1 fa1 sa1 ha1 ga1 us1 vs1 f2 pe2 la2 ma2 se2 pu2 fa2 sa2 ha2 ga2 us2 vs2 => wp_X9_keep x la' ma' se' pu' ro us' vs' ik kp kr kh ks rest (fun r' ik kp kr kh ks rest => (r = r' → K f1 pe1 la1 ma1 se1 pu1 fa1 sa1 ha1 ga1 us1 vs1 f2 pe2 la2 ma2 se2 pu2 fa2 sa2 ha2 ga2 us2 vs2 ik kp kr kh ks rest) ∧ (¬ r = r' → False))) := by
  obtain ⟨z, rfl, hz, hz2⟩ := i_ex x
  have e0 : (iI z = 0) ↔ z = 0 := by rw [show (0 : Int32) = iI 0 from rfl, i_eq hz hz2 (by omega) (by omega)]
  have e1 : (iI z = 1) ↔ z = 1 := by rw [show (1 : Int32) = iI 1 from rfl, i_eq hz hz2 (by omega) (by omega)]
  have eN : ∀ i : Nat, i ≤ 1 → (iI z = nN i) → z = i := fun i hi h => by rwa [i_eq hz hz2 (by omega) (by omega)] at h
  have l0 : (iI z < 0) ↔ z < 0 := by rw [show (0 : Int32) = iI 0 from rfl, i_lt hz hz2 (by omega) (by omega)]
  have l2 : (iI z < 2) ↔ z < 2 := by rw [show (2 : Int32) = iI 2 from rfl, i_lt hz hz2 (by omega) (by omega)]
  unfold wp_X8_keep wp_X1_become
  rw [l0, l2, e0]
  refine ⟨fun c => ?_, fun c => ⟨fun c2 => ⟨fun c3 => ?_, fun c3 => ?_⟩, fun c2 => ?_⟩⟩
  · exact ok9_keep (fun _ => same_k (hK _ _ _ _ _ _ _ _ _ _ _ _ _ _ _ _ _ _ _ _ _ _ _ _ _ _ _ _ _ _ hs)) (fun i _ _ _ _ hi h => by have := eN i hi h; omega)
  · refine ok9_keep (fun h => absurd (Or.inl (e0.mpr c3)) h) (fun i kp' kr' kh' ks' hi h g1 g2 g3 g4 => ?_)
    have := eN i hi h
    have hi0 : i = 0 := by omega
    subst hi0
    refine same_of hh.made (hK _ _ _ _ _ _ _ _ _ _ _ _ _ _ _ _ _ _ _ _ _ _ _ _ _ _ _ _ _ _ ⟨⟨Or.inr rfl, rfl, fun _ => ?_⟩, ?_⟩)
    · refine HR.congr hn hh cpy8 (fun t ht => ⟨cpy32 t ht, cpy32 t ht, cpy32 t ht, cpy32 t ht⟩) (fun t ht => ⟨cpy8 t ht, cpy8 t ht⟩) (fun t ht => ?_) (fun t ht => ?_)
      · have := g1 t ht
        rw [show 8 * 0 + t = t by omega] at this
        exact this
      · have := g3 t ht
        rw [show 128 * 0 + t = t by omega] at this
        exact this
    · have a1 : (fun t => kp' (8 + t)) = (fun t => kp (8 + t)) := funext fun t => (g2 (8 + t) (Or.inr (by omega))).1
      have a2 : (fun t => kh' (8 + t)) = (fun t => kh (8 + t)) := funext fun t => (g2 (8 + t) (Or.inr (by omega))).2.1
      have a3 : (fun t => ks' (8 + t)) = (fun t => ks (8 + t)) := funext fun t => (g2 (8 + t) (Or.inr (by omega))).2.2
      have a4 : (fun t => kr' (128 + t)) = (fun t => kr (128 + t)) := funext fun t => g4 (128 + t) (Or.inr (by omega))
      rw [a1, a2, a3, a4]
      exact hs.2
  · refine ok9_keep (fun h => absurd (Or.inr (e1.mpr (by omega))) h) (fun i kp' kr' kh' ks' hi h g1 g2 g3 g4 => ?_)
    have := eN i hi h
    have hi1 : i = 1 := by omega
    subst hi1
    refine same_of hh.made (hK _ _ _ _ _ _ _ _ _ _ _ _ _ _ _ _ _ _ _ _ _ _ _ _ _ _ _ _ _ _ ⟨?_, ⟨Or.inr rfl, rfl, fun _ => ?_⟩⟩)
    · refine ⟨hs.1.1, hs.1.2.1, fun hf => HR.congr hn (hs.1.2.2 hf) (fun _ _ => rfl) (fun _ _ => ⟨rfl, rfl, rfl, rfl⟩) (fun _ _ => ⟨rfl, rfl⟩) (fun t ht => g2 t (by omega)) (fun t ht => g4 t (by omega))⟩
    · exact HR.congr hn hh cpy8 (fun t ht => ⟨cpy32 t ht, cpy32 t ht, cpy32 t ht, cpy32 t ht⟩) (fun t ht => ⟨cpy8 t ht, cpy8 t ht⟩) (fun t ht => g1 t ht) (fun t ht => g3 t ht)
  · exact ok9_keep (fun _ => same_k (hK _ _ _ _ _ _ _ _ _ _ _ _ _ _ _ _ _ _ _ _ _ _ _ _ _ _ _ _ _ _ hs)) (fun i _ _ _ _ hi h => by have := eN i hi h; omega)
theorem case_again {n : Nat} {x fi pe la ma se : Int32} {pu fa sa ha ga us vs : Nat → Int32} {la' ma' se' : Int32} {pu' ro us' vs' : Nat → Int32} {f1 pe1 la1 ma1 se1 : Int32} {pu1 fa1 sa1 ha1 ga1 us1 vs1 : Nat → Int32} {f2 pe2 la2 ma2 se2 : Int32} {pu2 fa2 sa2 ha2 ga2 us2 vs2 : Nat → Int32} {ik kp kr kh ks rest : Nat → Int32} {K : Int32 → Int32 → Int32 → Int32 → Int32 → (Nat → Int32) → (Nat → Int32) → (Nat → Int32) → (Nat → Int32) → (Nat → Int32) → (Nat → Int32) → (Nat → Int32) → Int32 → Int32 → Int32 → (Nat → Int32) → (Nat → Int32) → (Nat → Int32) → (Nat → Int32) → Prop}
    (hn : n ≤ 8) (hh : HR n pe la ma se pu fa sa ha ga us vs la' ma' se' pu' ro us' vs') (hs : SlotsR n f1 pe1 la1 ma1 se1 pu1 fa1 sa1 ha1 ga1 us1 vs1 f2 pe2 la2 ma2 se2 pu2 fa2 sa2 ha2 ga2 us2 vs2 ik kp kr kh ks rest)
    (hK : ∀ fi pe la ma se pu fa sa ha ga us vs la' ma' se' pu' ro us' vs', HR n pe la ma se pu fa sa ha ga us vs la' ma' se' pu' ro us' vs' → K fi pe la ma se pu fa sa ha ga us vs la' ma' se' pu' ro us' vs') :
    wp_X8_again x fi pe la ma se pu fa sa ha ga us vs f1 pe1 la1 ma1 se1 pu1 fa1 sa1 ha1 ga1 us1 vs1 f2 pe2 la2 ma2 se2 pu2 fa2 sa2 ha2 ga2 us2 vs2 (fun r fi pe la ma se pu fa sa ha ga us vs => wp_X9_again x la' ma' se' pu' ro us' vs' ik kp kr kh ks rest (fun r' la' ma' se' pu' ro us' vs' => (r = r' → K fi pe la ma se pu fa sa ha ga us vs la' ma' se' pu' ro us' vs') ∧ (¬ r = r' → False))) := by
  obtain ⟨z, rfl, hz, hz2⟩ := i_ex x
  have e0 : (iI z = 0) ↔ z = 0 := by rw [show (0 : Int32) = iI 0 from rfl, i_eq hz hz2 (by omega) (by omega)]
  have e1 : (iI z = 1) ↔ z = 1 := by rw [show (1 : Int32) = iI 1 from rfl, i_eq hz hz2 (by omega) (by omega)]
  have eN : ∀ i : Nat, i ≤ 1 → (iI z = nN i) → z = i := fun i hi h => by rwa [i_eq hz hz2 (by omega) (by omega)] at h
  have l0 : (iI z < 0) ↔ z < 0 := by rw [show (0 : Int32) = iI 0 from rfl, i_lt hz hz2 (by omega) (by omega)]
  have l2 : (iI z < 2) ↔ z < 2 := by rw [show (2 : Int32) = iI 2 from rfl, i_lt hz hz2 (by omega) (by omega)]
  have hK0 := hK fi _ _ _ _ _ _ _ _ _ _ _ _ _ _ _ _ _ _ hh
  unfold wp_X8_again wp_X1_become
  rw [l0, l2, e0]
  refine ⟨fun c => ?_, fun c => ⟨fun c2 => ⟨fun c3 => ⟨fun c4 => ?_, fun c4 => ?_⟩, fun c3 => ⟨fun c4 => ?_, fun c4 => ?_⟩⟩, fun c2 => ?_⟩⟩
  · exact ok9_again (fun _ => same_k hK0) (fun i hi h => by have := eN i hi h; omega) (fun i _ _ _ _ hi h => by have := eN i hi h; omega)
  · refine ok9_again (fun h => absurd (Or.inl (e0.mpr c3)) h) (fun i hi h h2 => ?_) (fun i pu' ro' us' vs' hi h hk g1 g2 => ?_)
    · have := eN i hi h
      have hi0 : i = 0 := by omega
      subst hi0
      rw [hs.1.2.1] at c4
      exact absurd h2 c4
    · have := eN i hi h
      have hi0 : i = 0 := by omega
      subst hi0
      have hf : ik 0 = 1 := hs.1.1.elim (fun e => absurd e hk) id
      have hr := hs.1.2.2 hf
      have hr2 : HR n pe1 la1 ma1 se1 (va_cpy pu1 pu (Int32.toNatClampNeg (0 : Int32)) (Int32.toNatClampNeg (0 : Int32)) (Int32.toNatClampNeg (8 : Int32))) (va_cpy fa1 fa (Int32.toNatClampNeg (0 : Int32)) (Int32.toNatClampNeg (0 : Int32)) (Int32.toNatClampNeg (32 : Int32))) (va_cpy sa1 sa (Int32.toNatClampNeg (0 : Int32)) (Int32.toNatClampNeg (0 : Int32)) (Int32.toNatClampNeg (32 : Int32))) (va_cpy ha1 ha (Int32.toNatClampNeg (0 : Int32)) (Int32.toNatClampNeg (0 : Int32)) (Int32.toNatClampNeg (32 : Int32))) (va_cpy ga1 ga (Int32.toNatClampNeg (0 : Int32)) (Int32.toNatClampNeg (0 : Int32)) (Int32.toNatClampNeg (32 : Int32))) (va_cpy us1 us (Int32.toNatClampNeg (0 : Int32)) (Int32.toNatClampNeg (0 : Int32)) (Int32.toNatClampNeg (8 : Int32))) (va_cpy vs1 vs (Int32.toNatClampNeg (0 : Int32)) (Int32.toNatClampNeg (0 : Int32)) (Int32.toNatClampNeg (8 : Int32))) (rest 0) (rest 1) (rest 2) pu' ro' us' vs' := by
        refine HR.congr hn hr cpy8 (fun t ht => ⟨cpy32 t ht, cpy32 t ht, cpy32 t ht, cpy32 t ht⟩) (fun t ht => ⟨cpy8 t ht, cpy8 t ht⟩) (fun t ht => ?_) (fun t ht => ?_)
        · have := g1 t ht
          rw [show 8 * 0 + t = t by omega] at this
          exact this
        · have := g2 t ht
          rw [show 128 * 0 + t = t by omega] at this
          exact this
      exact same_of hr.made (hK _ _ _ _ _ _ _ _ _ _ _ _ _ _ _ _ _ _ _ hr2)
  · refine ok9_again (fun h => absurd (Or.inl (e0.mpr c3)) h) (fun i hi h h2 => same_k hK0) (fun i pu' ro' us' vs' hi h hk g1 g2 => ?_)
    have := eN i hi h
    have hi0 : i = 0 := by omega
    subst hi0
    rw [hs.1.2.1] at c4
    exact absurd c4 hk
  · refine ok9_again (fun h => absurd (Or.inr (e1.mpr (by omega))) h) (fun i hi h h2 => ?_) (fun i pu' ro' us' vs' hi h hk g1 g2 => ?_)
    · have := eN i hi h
      have hi1 : i = 1 := by omega
      subst hi1
      rw [hs.2.2.1] at c4
      exact absurd h2 c4
    · have := eN i hi h
      have hi1 : i = 1 := by omega
      subst hi1
      have hf : ik 1 = 1 := hs.2.1.elim (fun e => absurd e hk) id
      have hr := hs.2.2.2 hf
      have hr2 : HR n pe2 la2 ma2 se2 (va_cpy pu2 pu (Int32.toNatClampNeg (0 : Int32)) (Int32.toNatClampNeg (0 : Int32)) (Int32.toNatClampNeg (8 : Int32))) (va_cpy fa2 fa (Int32.toNatClampNeg (0 : Int32)) (Int32.toNatClampNeg (0 : Int32)) (Int32.toNatClampNeg (32 : Int32))) (va_cpy sa2 sa (Int32.toNatClampNeg (0 : Int32)) (Int32.toNatClampNeg (0 : Int32)) (Int32.toNatClampNeg (32 : Int32))) (va_cpy ha2 ha (Int32.toNatClampNeg (0 : Int32)) (Int32.toNatClampNeg (0 : Int32)) (Int32.toNatClampNeg (32 : Int32))) (va_cpy ga2 ga (Int32.toNatClampNeg (0 : Int32)) (Int32.toNatClampNeg (0 : Int32)) (Int32.toNatClampNeg (32 : Int32))) (va_cpy us2 us (Int32.toNatClampNeg (0 : Int32)) (Int32.toNatClampNeg (0 : Int32)) (Int32.toNatClampNeg (8 : Int32))) (va_cpy vs2 vs (Int32.toNatClampNeg (0 : Int32)) (Int32.toNatClampNeg (0 : Int32)) (Int32.toNatClampNeg (8 : Int32))) (rest 3) (rest 4) (rest 5) pu' ro' us' vs' :=
        HR.congr hn hr cpy8 (fun t ht => ⟨cpy32 t ht, cpy32 t ht, cpy32 t ht, cpy32 t ht⟩) (fun t ht => ⟨cpy8 t ht, cpy8 t ht⟩) (fun t ht => g1 t ht) (fun t ht => g2 t ht)
      exact same_of hr.made (hK _ _ _ _ _ _ _ _ _ _ _ _ _ _ _ _ _ _ _ hr2)
  · refine ok9_again (fun h => absurd (Or.inr (e1.mpr (by omega))) h) (fun i hi h h2 => same_k hK0) (fun i pu' ro' us' vs' hi h hk g1 g2 => ?_)
    have := eN i hi h
    have hi1 : i = 1 := by omega
    subst hi1
    rw [hs.2.2.1] at c4
    exact absurd c4 hk
  · exact ok9_again (fun _ => same_k hK0) (fun i hi h => by have := eN i hi h; omega) (fun i _ _ _ _ hi h => by have := eN i hi h; omega)
