/-! PENNIES -/
theorem mt_ge {w a b : Nat} (ha : a ≤ 99999) (h : (a ≤ b ∧ w ≠ 1) ∨ (b ≤ a ∧ w = 1)) : a ≤ mt w a b := by
  unfold mt held
  split
  · omega
  · next hc =>
    rw [if_pos (by omega)]
    split <;> omega
theorem sh_pos {a b : Nat} (ha : 0 < a) (hb : 0 < b) : 0 < sh a b := by
  unfold sh
  rw [if_neg (by omega)]
  exact Nat.gcd_pos_of_pos_left b ha
theorem mt_lt {w a b : Nat} (h : ¬ ((a ≤ b ∧ w ≠ 1) ∨ (b < a ∧ w = 1))) (hab : a ≠ b) (ha : 0 < a) (hb : 0 < b) : mt w a b = a - pas w (dist a b) (sh a b) := by
  have := sh_pos ha hb
  unfold mt held
  rw [if_neg (by omega), if_neg h, Nat.one_mul]
theorem pas_pos {w d g : Nat} (hw : w ≠ 2) (hg : 0 < g) : 0 < pas w d g := by
  unfold pas
  rw [if_neg hw]
  split
  · split
    · exact Nat.mul_pos hg (by omega)
    · omega
  · exact hg
def pen (w a b x : Nat) : Prop := a ≤ mt w (a - x) b + x
theorem ok9_pennies {n w i j : Nat} {P : Nat → Nat} {b : Nat → Int32} {v1 v2 : Int32} {Post : Int32 → Int32 → Int32 → Prop} (hn : n ≤ 8) (hw : w ≤ 3) (hi : i < n) (hj : j < n) (hij : i ≠ j) (hP : ∀ t, t < n → P t ≤ 99999) (hb : ∀ t, t < n → b t = nN (P t)) (m : Nat) (hm : m ≤ P i) (h1 : pen w (P i) (P j) m) (h2 : ∀ y, y < m → ¬ pen w (P i) (P j) y) (h : ∀ u1 u2, Post (nN m) u1 u2) : wp_X9_pennies (nN i) (nN j) (nN w) (nN n) v1 v2 b Post := by
  have hpi := hP i hi
  have hpj := hP j hj
  unfold wp_X9_pennies
  refine ok9_areTwo hn (by omega) (by omega) (by omega) (by omega) (fun _ _ _ _ => ⟨fun _ => ?_, fun c => absurd c one_ne⟩) (fun c => absurd ⟨by omega, by omega, by omega, by omega⟩ c)
  rw [n_eq (by omega) (by omega), n_nat (by omega), n_nat (by omega), hb i hi, hb j hj]
  refine ⟨fun _ => ⟨n_in (by omega) (by omega), n_in (by omega) (by omega), ok9_meetTwo hw hpi hpj ?_⟩, fun c => absurd c hij⟩
  intro k hk
  have key : ∀ (N x : Nat) (u : Int32), m - x < N → x ≤ m → k (nN x) (nN (mt w (P i - x) (P j))) u := by
    intro N
    induction N with
    | zero => intro x u g; omega
    | succ N ih =>
      intro x u g1 g2
      apply hk
      have hmt : mt w (P i - x) (P j) ≤ 99999 := mt_le (by omega)
      rw [n_add, n_le (by omega) (by omega)]
      refine ⟨n_in (by omega) (by omega), fun c => ?_, fun c => ⟨n_in (by omega) (by omega), n_in (by omega) (by omega), ?_⟩⟩
      · have e : x = m := by
          rcases Nat.lt_or_ge x m with hl | hl
          · exact absurd c (h2 x hl)
          · omega
        rw [e]; exact h _ _
      · have e : x ≠ m := fun e => c (by rw [e]; exact h1)
        rw [show nN x + 1 = nN (x + 1) from n_add _ 1, n_sub (by omega)]
        exact ok9_meetTwo hw (by omega) hpj (ih (x + 1) _ (by omega) (by omega))
  exact key (m + 1) 0 _ (by omega) (by omega)
theorem case_pennies {n w : Nat} {x y : Int32} {P : Nat → Nat} {a b : Nat → Int32} {v1 v2 : Int32} {K : Int32 → Int32 → Prop} (hn : n ≤ 8) (hw : w ≤ 3) (hP : ∀ t, t < n → P t ≤ 99999) (ha : ∀ t, t < n → a t = nN (P t)) (hb : ∀ t, t < n → b t = nN (P t)) (hK : ∀ u1 u2, K u1 u2) : wp_X8_pennies x y (nN n) (nN w) a (fun r => wp_X9_pennies x y (nN w) (nN n) v1 v2 b (fun r' u1 u2 => (r = r' → K u1 u2) ∧ (¬ r = r' → False))) := by
  obtain ⟨z, rfl, hz, hz2⟩ := i_ex x
  obtain ⟨v, rfl, hv, hv2⟩ := i_ex y
  unfold wp_X8_pennies
  refine ok_refusalOfTwo hn hz hz2 hv hv2 (fun h1 h2 h3 h4 h5 => ⟨fun _ => ?_, fun c => absurd rfl c⟩) (fun h1 h2 h3 => ⟨fun c => absurd c (by decide), fun _ => ?_⟩) (fun h => ⟨fun c => absurd c (by decide), fun _ => ?_⟩)
  · obtain ⟨i, rfl⟩ : ∃ i : Nat, z = i := ⟨z.toNat, by omega⟩
    obtain ⟨j, rfl⟩ : ∃ j : Nat, v = j := ⟨v.toNat, by omega⟩
    have hi : i < n := by omega
    have hj : j < n := by omega
    have hij : i ≠ j := by omega
    have hpi := hP i hi
    have hpj := hP j hj
    have fin : ∀ (r : Int32) (m : Nat), r = nN m → m ≤ P i → pen w (P i) (P j) m → (∀ y, y < m → ¬ pen w (P i) (P j) y) → wp_X9_pennies (nN i) (nN j) (nN w) (nN n) v1 v2 b (fun r' u1 u2 => (r = r' → K u1 u2) ∧ (¬ r = r' → False)) := fun r m hr hm g1 g2 => ok9_pennies hn hw hi hj hij hP hb m hm g1 g2 (fun u1 u2 => same_of hr (hK u1 u2))
    have e1 : (nN w = (1 : Int32)) ↔ w = 1 := by rw [show (1 : Int32) = nN 1 from rfl, n_eq (by omega) (by omega)]
    have e2 : (nN w = (2 : Int32)) ↔ w = 2 := by rw [show (2 : Int32) = nN 2 from rfl, n_eq (by omega) (by omega)]
    have ei : (nN (P i) = 0) ↔ P i = 0 := by rw [show (0 : Int32) = nN 0 from rfl, n_eq (by omega) (by omega)]
    have ej : (nN (P j) = 0) ↔ P j = 0 := by rw [show (0 : Int32) = nN 0 from rfl, n_eq (by omega) (by omega)]
    have es : nN (P i) - nN (P j) = iI ((P i : Int) - P j) := i_sub _ _
    have gl : (0 < nN (P i) - nN (P j)) ↔ P j < P i := by rw [es, show (0 : Int32) = iI 0 from rfl, i_lt (by omega) (by omega) (by omega) (by omega)]; omega
    have gle : (0 ≤ nN (P i) - nN (P j)) ↔ P j ≤ P i := by rw [es, show (0 : Int32) = iI 0 from rfl, i_le (by omega) (by omega) (by omega) (by omega)]; omega
    rw [n_nat (by omega), n_nat (by omega), ha i hi, ha j hj, ei, ej, e1, e2, gl, gle]
    have zero : mt w (P i) (P j) ≥ P i → wp_X9_pennies (nN i) (nN j) (nN w) (nN n) v1 v2 b (fun r' u1 u2 => ((0 : Int32) = r' → K u1 u2) ∧ (¬ (0 : Int32) = r' → False)) := fun h => fin 0 0 rfl (by omega) (by unfold pen; exact h) (fun y hy => absurd hy (by omega))
    have less : ∀ q, P j < q → q ≤ P i → w ≠ 1 → 0 < P j → 0 < pas w (dist q (P j)) (sh q (P j)) → ¬ pen w (P i) (P j) (P i - q) := by
      intro q g1 g2 g3 g4 g5 hpen
      unfold pen at hpen
      rw [show P i - (P i - q) = q by omega, mt_lt (by omega) (by omega) (by omega) g4] at hpen
      omega
    refine ⟨n_in (by omega) (by omega), n_in (by omega) (by omega), fun c => zero (by omega), fun c => ⟨fun c2 => ⟨fun c3 => ⟨fun c4 => ⟨fun c5 => ?_, fun c5 => ?_⟩, fun c4 => zero (mt_ge hpi (by omega))⟩, fun c3 => ⟨fun c4 => zero (mt_ge hpi (by omega)), fun c4 => ?_⟩⟩, fun c2 => zero (by rw [mt_none (Or.inr (by unfold sh; rw [if_pos (Or.inr c2)]))]; exact Nat.le_refl _)⟩⟩
    · refine fin _ (P i - P j) (n_sub (by omega)) (by omega) ?_ (fun y hy => ?_)
      · unfold pen
        rw [show P i - (P i - P j) = P j by omega, mt_none (Or.inl rfl)]; omega
      · have := less (P i - y) (by omega) (by omega) c3 (by omega) (pas_pos c5 (sh_pos (by omega) (by omega)))
        rwa [show P i - (P i - y) = y by omega] at this
    · have hw2 : w = 2 := c5
      unfold wp_X8_penniesToShareOne
      intro k hk
      have key : ∀ (N x : Nat), P i - P j - x < N → x ≤ P i - P j → (∀ y, y < x → ¬ pen w (P i) (P j) y) → k (nN x) := by
        intro N
        induction N with
        | zero => intro x g; omega
        | succ N ih =>
          intro x g1 g2 g3
          apply hk
          rw [n_sub (by omega), n_le (by omega) (by omega), n_sub (by omega), show nN x + 1 = nN (x + 1) from n_add _ 1]
          refine ⟨fun cc => ?_, fun cc => ok_greatestDivisor (by omega) (by omega) ?_⟩
          · have e : x = P i - P j := by omega
            refine fin _ x rfl (by omega) ?_ g3
            unfold pen
            rw [e, show P i - (P i - P j) = P j by omega, mt_none (Or.inl rfl)]; omega
          · have hgp : 0 < Nat.gcd (P i - x) (P j) := Nat.gcd_pos_of_pos_right _ (by omega)
            have hgl : Nat.gcd (P i - x) (P j) ≤ P j := Nat.le_of_dvd (by omega) (Nat.gcd_dvd_right _ _)
            have hsh : sh (P i - x) (P j) = Nat.gcd (P i - x) (P j) := by unfold sh; rw [if_neg (by omega)]
            rw [show (1 : Int32) = nN 1 from rfl, n_le (by omega) (by omega)]
            refine ⟨fun c6 => fin _ x rfl (by omega) ?_ g3, fun c6 => ih (x + 1) (by omega) (by omega) (fun y hy => ?_)⟩
            · unfold pen
              rw [mt_lt (by omega) (by omega) (by omega) (by omega), hsh]
              have : pas w (dist (P i - x) (P j)) (Nat.gcd (P i - x) (P j)) = 0 := by unfold pas; rw [if_pos hw2]; omega
              omega
            · by_cases e : y = x
              · rw [e]
                have := less (P i - x) (by omega) (by omega) c3 (by omega) (by rw [hsh]; unfold pas; rw [if_pos hw2]; omega)
                rwa [show P i - (P i - x) = x by omega] at this
              · exact g3 y (by omega)
      exact key (P i - P j + 1) 0 (by omega) (by omega) (fun y hy => absurd hy (by omega))
    · refine fin _ (P i) rfl (by omega) ?_ (fun y hy hpen => ?_)
      · unfold pen
        omega
      · unfold pen at hpen
        have hg := sh_pos (a := P i - y) (b := P j) (by omega) (by omega)
        have hgl := sh_le_l (P i - y) (P j)
        rw [mt_lt (by omega) (by omega) (by omega) (by omega)] at hpen
        have : pas w (dist (P i - y) (P j)) (sh (P i - y) (P j)) = sh (P i - y) (P j) := by unfold pas; rw [if_neg (by omega), if_neg (by omega)]
        omega
  · unfold wp_X9_pennies
    refine ok9_areTwo hn hz hz2 hv hv2 (fun _ _ _ _ => ⟨fun _ => ?_, fun c => absurd c one_ne⟩) (fun c => absurd ⟨h1, h2, by omega, by omega⟩ c)
    rw [i_eq hz hz2 hv hv2]
    exact ⟨fun c => absurd h3 c, fun _ => same_k (hK _ _)⟩
  · unfold wp_X9_pennies
    exact ok9_areTwo hn hz hz2 hv hv2 (fun a b c d => absurd ⟨a, b, c, d⟩ h) (fun _ => ⟨fun c => absurd rfl c, fun _ => same_k (hK _ _)⟩)
