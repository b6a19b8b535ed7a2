/-! RING and LEAD -/
theorem case_ring {n w : Nat} {x y : Int32} {P : Nat → Nat} {a b : Nat → Int32} {v1 v2 v3 v4 o1 o2 o3 o4 : Int32} {A : Nat → Int32} {K : Int32 → Int32 → Int32 → Int32 → (Nat → Int32) → Int32 → Int32 → Int32 → Int32 → Prop} (hn : n ≤ 8) (hw : w ≤ 3) (hP : ∀ t, t < n → P t ≤ 99999) (ha : ∀ t, t < n → a t = nN (P t)) (hb : ∀ t, t < n → b t = nN (P t)) (hK : ∀ u1 u2 u3 u4 B p1 p2 p3 p4, K u1 u2 u3 u4 B p1 p2 p3 p4) : wp_X8_ring x y (nN n) (nN w) a v1 v2 v3 v4 A (fun r u1 u2 u3 u4 B => wp_X9_ring x y (nN w) (nN n) o1 o2 o3 o4 b (fun r' p1 p2 p3 p4 => (r = r' → K u1 u2 u3 u4 B p1 p2 p3 p4) ∧ (¬ r = r' → False))) := by
  obtain ⟨z, rfl, hz, hz2⟩ := i_ex x
  obtain ⟨v, rfl, hv, hv2⟩ := i_ex y
  unfold wp_X8_ring
  refine ok_refusalOfTwo hn hz hz2 hv hv2 (fun h1 h2 h3 h4 h5 => ⟨fun _ => ?_, fun c => absurd rfl c⟩) (fun h1 h2 h3 => ⟨fun c => absurd c (by decide), fun _ => ?_⟩) (fun h => ⟨fun c => absurd c (by decide), fun _ => ?_⟩)
  · obtain ⟨i, rfl⟩ : ∃ i : Nat, z = i := ⟨z.toNat, by omega⟩
    obtain ⟨j, rfl⟩ : ∃ j : Nat, v = j := ⟨v.toNat, by omega⟩
    have hi : i < n := by omega
    have hj : j < n := by omega
    have hpi := hP i hi
    have hpj := hP j hj
    rw [n_nat (by omega), n_nat (by omega), ha i hi, ha j hj]
    unfold wp_X7_begin
    refine ⟨n_in (by omega) (by omega), n_in (by omega) (by omega), ok_sharedBy (by omega) (by omega) ?_⟩
    rw [show (999999999 : Int32) = nN 999999999 from rfl]
    refine ok_makeToRing hw hpi hpj (by omega) (fun L A' q1 q2 q3 => ?_)
    have hle := it_le (w := w) hpi hpj L
    obtain ⟨hup, hri⟩ := upto_far hw hpi hpj (by omega) (show 100000 ≤ 1000000000 by omega) (show upto w (P i) (P j) 999999999 L from ⟨q1, q2, q3⟩)
    have nine : ∀ (r : Int32) (u1 u2 u3 u4 : Int32) (B : Nat → Int32), rcode w (it w (P i) (P j) L) r → wp_X9_ring (iI i) (iI j) (nN w) (nN n) o1 o2 o3 o4 b (fun r' p1 p2 p3 p4 => (r = r' → K u1 u2 u3 u4 B p1 p2 p3 p4) ∧ (¬ r = r' → False)) := by
      intro r u1 u2 u3 u4 B hr
      unfold wp_X9_ring
      refine ok9_areTwo hn hz hz2 hv hv2 (fun _ _ _ _ => ⟨fun _ => ⟨fun _ => ?_, fun cc => ?_⟩, fun c => absurd c one_ne⟩) (fun hh2 => absurd ⟨h1, h2, h3, h4⟩ hh2)
      · rw [show (1000000000 : Int32) = nN 1000000000 from rfl]
        refine ok9_goOn hn hw hi hj hP hb (by omega) (fun L' s g1 g2 => ?_)
        have eL := upto_u hup g1
        subst eL
        refine same_of ?_ (hK _ _ _ _ _ _ _ _ _)
        rcases hr with ⟨rfl, hr⟩ | ⟨rfl, hr⟩ | ⟨rfl, hr⟩ <;> rcases g2 with ⟨rfl, g2⟩ | ⟨rfl, g2⟩ | ⟨rfl, g2⟩
        · rfl
        · exact absurd hr g2.1
        · exact absurd hri g2
        · exact absurd g2 hr.1
        · rfl
        · exact absurd hri g2
        · exact absurd hri hr
        · exact absurd hri hr
        · rfl
      · rw [i_eq hz hz2 hv hv2] at cc
        exact absurd cc h5
    unfold wp_X7_ringLength
    refine ok_changesPlaces hw hle.1 hle.2 (fun hf hp => ⟨fun c => absurd c one_ne, fun _ => nine 2 _ _ _ _ _ (Or.inr (Or.inl ⟨rfl, hf, hp⟩))⟩) (fun hp => ⟨fun _ => nine 1 _ _ _ _ _ (Or.inl ⟨rfl, ?_⟩), fun c => absurd rfl c⟩)
    rcases hri with e | e
    · exact e
    · exact Classical.byContradiction (fun z => hp ⟨z, e⟩)
  · unfold wp_X9_ring
    refine ok9_areTwo hn hz hz2 hv hv2 (fun _ _ _ _ => ⟨fun _ => ?_, fun c => absurd c one_ne⟩) (fun c => absurd ⟨h1, h2, by omega, by omega⟩ c)
    rw [i_eq hz hz2 hv hv2]
    exact ⟨fun c => absurd h3 c, fun _ => same_k (hK _ _ _ _ _ _ _ _ _)⟩
  · unfold wp_X9_ring
    exact ok9_areTwo hn hz hz2 hv hv2 (fun a b c d => absurd ⟨a, b, c, d⟩ h) (fun _ => ⟨fun c => absurd rfl c, fun _ => same_k (hK _ _ _ _ _ _ _ _ _)⟩)
theorem case_lead {n w : Nat} {x y : Int32} {P : Nat → Nat} {a b : Nat → Int32} {v1 v2 v3 v4 o1 o2 o3 o4 : Int32} {A : Nat → Int32} {K : Int32 → Int32 → Int32 → Int32 → (Nat → Int32) → Int32 → Int32 → Int32 → Int32 → Prop} (hn : n ≤ 8) (hw : w ≤ 3) (hP : ∀ t, t < n → P t ≤ 99999) (ha : ∀ t, t < n → a t = nN (P t)) (hb : ∀ t, t < n → b t = nN (P t)) (hK : ∀ u1 u2 u3 u4 B p1 p2 p3 p4, K u1 u2 u3 u4 B p1 p2 p3 p4) : wp_X8_lead x y (nN n) (nN w) a v1 v2 v3 v4 A (fun r u1 u2 u3 u4 B => wp_X9_lead x y (nN w) (nN n) o1 o2 o3 o4 b (fun r' p1 p2 p3 p4 => (r = r' → K u1 u2 u3 u4 B p1 p2 p3 p4) ∧ (¬ r = r' → False))) := by
  obtain ⟨z, rfl, hz, hz2⟩ := i_ex x
  obtain ⟨v, rfl, hv, hv2⟩ := i_ex y
  unfold wp_X8_lead
  refine ok_refusalOfTwo hn hz hz2 hv hv2 (fun h1 h2 h3 h4 h5 => ⟨fun _ => ?_, fun c => absurd rfl c⟩) (fun h1 h2 h3 => ⟨fun c => absurd c (by decide), fun _ => ?_⟩) (fun h => ⟨fun c => absurd c (by decide), fun _ => ?_⟩)
  · obtain ⟨i, rfl⟩ : ∃ i : Nat, z = i := ⟨z.toNat, by omega⟩
    obtain ⟨j, rfl⟩ : ∃ j : Nat, v = j := ⟨v.toNat, by omega⟩
    have hi : i < n := by omega
    have hj : j < n := by omega
    have hpi := hP i hi
    have hpj := hP j hj
    rw [n_nat (by omega), n_nat (by omega), ha i hi, ha j hj]
    unfold wp_X7_begin
    refine ⟨n_in (by omega) (by omega), n_in (by omega) (by omega), ok_sharedBy (by omega) (by omega) ?_⟩
    rw [show (999999999 : Int32) = nN 999999999 from rfl]
    refine ok_makeToRing hw hpi hpj (by omega) (fun L A' q1 q2 q3 => ?_)
    obtain ⟨hup, hri⟩ := upto_far hw hpi hpj (by omega) (show 100000 ≤ 1000000000 by omega) (show upto w (P i) (P j) 999999999 L from ⟨q1, q2, q3⟩)
    unfold wp_X9_lead
    refine ok9_areTwo hn hz hz2 hv hv2 (fun _ _ _ _ => ⟨fun _ => ⟨fun _ => ?_, fun cc => ?_⟩, fun c => absurd c one_ne⟩) (fun hh2 => absurd ⟨h1, h2, h3, h4⟩ hh2)
    · rw [show (1000000000 : Int32) = nN 1000000000 from rfl]
      refine ok9_goOn hn hw hi hj hP hb (by omega) (fun L' s g1 g2 => ?_)
      have eL := upto_u hup g1
      subst eL
      exact same_of rfl (hK _ _ _ _ _ _ _ _ _)
    · rw [i_eq hz hz2 hv hv2] at cc
      exact absurd cc h5
  · unfold wp_X9_lead
    refine ok9_areTwo hn hz hz2 hv hv2 (fun _ _ _ _ => ⟨fun _ => ?_, fun c => absurd c one_ne⟩) (fun c => absurd ⟨h1, h2, by omega, by omega⟩ c)
    rw [i_eq hz hz2 hv hv2]
    exact ⟨fun c => absurd h3 c, fun _ => same_k (hK _ _ _ _ _ _ _ _ _)⟩
  · unfold wp_X9_lead
    exact ok9_areTwo hn hz hz2 hv hv2 (fun a b c d => absurd ⟨a, b, c, d⟩ h) (fun _ => ⟨fun c => absurd rfl c, fun _ => same_k (hK _ _ _ _ _ _ _ _ _)⟩)
