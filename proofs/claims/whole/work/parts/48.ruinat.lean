/-! RUIN AT -/
theorem case_ruinAt {n w : Nat} {x y t : Int32} {P : Nat → Nat} {a b lh row best ord : Nat → Int32} {z1 z2 z3 v1 v2 : Int32} {K : Int32 → Int32 → Int32 → (Nat → Int32) → (Nat → Int32) → (Nat → Int32) → Int32 → Int32 → (Nat → Int32) → Prop} (hn : n ≤ 8) (hw : w ≤ 3) (hP : ∀ t, t < n → P t ≤ 99999) (ha : ∀ t, t < n → a t = nN (P t)) (hb : ∀ t, t < n → b t = nN (P t)) (hK : ∀ u1 u2 u3 u4 u5 u6 p1 p2 p3, K u1 u2 u3 u4 u5 u6 p1 p2 p3) : wp_X8_ruinAt x y t (nN n) (nN w) a z1 z2 z3 lh row best (fun r u1 u2 u3 u4 u5 u6 => wp_X9_ruinAt x y t (nN w) (nN n) v1 v2 b ord (fun r' p1 p2 p3 => (r = r' → K u1 u2 u3 u4 u5 u6 p1 p2 p3) ∧ (¬ r = r' → False))) := by
  obtain ⟨z, rfl, hz, hz2⟩ := i_ex x
  obtain ⟨v, rfl, hv, hv2⟩ := i_ex y
  obtain ⟨s, rfl, hs, hs2⟩ := i_ex t
  unfold wp_X8_ruinAt
  refine ok_isPerson hn hz hz2 (fun hz0 hzn => ⟨fun _ => ?_, fun c => absurd c one_ne⟩) (fun hh => ⟨fun c => absurd rfl c, fun _ => ?_⟩)
  · refine ok_isSum hv hv2 (fun hv0 hvn => ⟨fun _ => ?_, fun c => absurd c one_ne⟩) (fun hh => ⟨fun c => absurd rfl c, fun _ => ?_⟩)
    · obtain ⟨i, rfl⟩ : ∃ i : Nat, z = i := ⟨z.toNat, by omega⟩
      obtain ⟨g, rfl⟩ : ∃ g : Nat, v = g := ⟨v.toNat, by omega⟩
      refine ok_X4find hn hw (show i < n by omega) (show g ≤ 99999 by omega) hP ha (fun f' b' u1 lh' row' best' r1 r2 => ?_)
      have nine : ∀ (r : Int32) (q1 q2 q3 : Int32) (q4 q5 q6 : Nat → Int32), ((∀ L, L < n → (lay n L [i]).find? (hit w g P (P i)) = none) → r = -9) → (∀ L o, L < n → (lay n L [i]).find? (hit w g P (P i)) = some o → (∀ L', L' < L → (lay n L' [i]).find? (hit w g P (P i)) = none) → (0 ≤ s → s < L → r = nN (o.getD s.toNat 0)) ∧ (¬ (0 ≤ s ∧ s < L) → r = -9)) → wp_X9_ruinAt (iI i) (iI g) (iI s) (nN w) (nN n) v1 v2 b ord (fun r' p1 p2 p3 => (r = r' → K q1 q2 q3 q4 q5 q6 p1 p2 p3) ∧ (¬ r = r' → False)) := by
        intro r q1 q2 q3 q4 q5 q6 e1 e2
        unfold wp_X9_ruinAt
        refine ok9_isPerson hn hz hz2 (fun _ _ => ⟨fun _ => ok_inI (lo := 0) (hi := 99999) hv hv2 rfl rfl (fun _ _ => ⟨fun _ => ?_, fun c => absurd c one_ne⟩) (fun hh => absurd ⟨by omega, by omega⟩ hh), fun c => absurd c one_ne⟩) (fun hh => absurd ⟨hz0, hzn⟩ hh)
        refine ok9_layRuin hn hw (show i < n by omega) (show g ≤ 99999 by omega) hP hb (fun hno _ _ _ => ?_) (fun L o hL ho hmin _ _ oo hoo => ?_)
        · rw [show (-9 : Int32) - 1 = iI (-10) from rfl]
          exact ok_inI (lo := 0) (hi := -10) hs hs2 rfl rfl (fun a b => by omega) (fun _ => ⟨fun _ => same_of (e1 hno) (hK _ _ _ _ _ _ _ _ _), fun c => absurd rfl c⟩)
        · obtain ⟨e3, e4⟩ := e2 L o hL ho hmin
          rw [L1, i_sub]
          refine ok_inI (lo := 0) (hi := L - 1) hs hs2 rfl (l_int (by omega) (by omega)) (fun a b => ⟨fun c => absurd c one_ne, fun _ => ⟨i_in a (by omega) (by omega), same_of ?_ (hK _ _ _ _ _ _ _ _ _)⟩⟩) (fun hh => ⟨fun _ => same_of (e4 (by omega)) (hK _ _ _ _ _ _ _ _ _), fun c => absurd rfl c⟩)
          rw [i_nat a hs2, hoo s.toNat (by omega)]
          exact e3 a (by omega)
      unfold wp_X4_isFound
      rcases r1 with ⟨rfl, rfl, r3⟩ | ⟨L, o, r3, r4, r5, r7, r6⟩
      · refine ⟨fun _ => ⟨fun _ => ?_, fun c => absurd rfl c⟩, fun c => absurd ((n_le (by omega) (by omega)).mpr (Nat.le_refl _)) c⟩
        refine nine _ _ _ _ _ _ _ (fun _ => rfl) (fun L o hL ho _ => ?_)
        have := r3 L (by omega)
        simp only [] at this
        rw [this] at ho
        exact absurd ho (by simp)
      · rw [Nat.zero_add] at r3 r4
        subst r4
        rw [r7, List.nil_append] at r2
        simp only [] at r5
        have hol := (lay_mem n f' [i] o (List.mem_of_find?_eq_some r5)).1
        have fin : ∀ (r : Int32), ((0 ≤ s → s < f' → r = nN (o.getD s.toNat 0)) ∧ (¬ (0 ≤ s ∧ s < f') → r = -9)) → wp_X9_ruinAt (iI i) (iI g) (iI s) (nN w) (nN n) v1 v2 b ord (fun r' p1 p2 p3 => (r = r' → K (nN f') (nN n) u1 lh' row' best' p1 p2 p3) ∧ (¬ r = r' → False)) := by
          intro r hr
          refine nine _ _ _ _ _ _ _ (fun hno => ?_) (fun L' o' hL' ho' hmin => ?_)
          · have := hno f' r3
            rw [this] at r5
            exact absurd r5 (by simp)
          · rcases Nat.lt_trichotomy f' L' with q | q | q
            · have := hmin f' q
              rw [this] at r5
              exact absurd r5 (by simp)
            · subst q
              rw [r5] at ho'
              rw [← Option.some.inj ho']
              exact hr
            · have := r6 L' q
              simp only [] at this
              rw [this] at ho'
              exact absurd ho' (by simp)
        rw [n_le (by omega) (by omega), show (iI s < 0) = (iI s < iI 0) from rfl, i_lt hs hs2 (by omega) (by omega), i_lt hs hs2 (by omega) (by omega)]
        refine ⟨fun c => absurd c (by omega), fun _ => ⟨fun c => absurd c one_ne, fun _ => ⟨fun c => fin _ ⟨fun _ _ => by omega, fun _ => rfl⟩, fun c => ⟨fun c2 => ⟨i_in (by omega) (by omega) (by omega), fin _ ⟨fun _ _ => ?_, fun hh => absurd ⟨by omega, c2⟩ hh⟩⟩, fun c2 => fin _ ⟨fun _ _ => by omega, fun _ => rfl⟩⟩⟩⟩⟩
        rw [i_nat (by omega) hs2]
        exact r2 s.toNat (by omega)
    · unfold wp_X9_ruinAt
      exact ok9_isPerson hn hz hz2 (fun _ _ => ⟨fun _ => ok_inI (lo := 0) (hi := 99999) hv hv2 rfl rfl (fun a b => absurd ⟨a, b⟩ hh) (fun _ => ⟨fun c => absurd rfl c, fun _ => same_k (hK _ _ _ _ _ _ _ _ _)⟩), fun c => absurd c one_ne⟩) (fun hh => absurd ⟨hz0, hzn⟩ hh)
  · unfold wp_X9_ruinAt
    exact ok9_isPerson hn hz hz2 (fun a b => absurd ⟨a, b⟩ hh) (fun _ => ⟨fun c => absurd rfl c, fun _ => same_k (hK _ _ _ _ _ _ _ _ _)⟩)
