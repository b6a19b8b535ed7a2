/-! primes: CHARM -/
def pr (v : Nat) : Prop := 2 ≤ v ∧ ∀ d, 2 ≤ d → d * d ≤ v → v % d ≠ 0
theorem sq_le {d v : Nat} (h : d * d ≤ v) (hv : v < 4000000) : d < 2000 := by
  rcases Nat.lt_or_ge d 2000 with h1 | h1
  · exact h1
  · have := Nat.mul_le_mul h1 h1
    omega
theorem pr_big : pr 100003 := by
  refine ⟨by decide, fun d h2 hd => ?_⟩
  have h1 : d < 317 := by
    rcases Nat.lt_or_ge d 317 with h1 | h1
    · exact h1
    · have := Nat.mul_le_mul h1 h1
      omega
  have h3 : ∀ e : Nat, e < 317 → 2 ≤ e → 100003 % e ≠ 0 := by decide +kernel
  exact h3 d h1 h2
theorem ok_isPrime {v : Nat} {Post : Int32 → Prop} (hv : v < 4000000) (h1 : pr v → Post 1) (h0 : ¬ pr v → Post 0) : wp_X8_isPrime (nN v) Post := by
  unfold wp_X8_isPrime
  have l2 : ((2 : Int32) ≤ nN v) ↔ 2 ≤ v := by rw [show (2 : Int32) = nN 2 from rfl, n_le (by omega) (by omega)]
  rw [l2]
  refine ⟨fun c => ?_, fun c => h0 (fun h => c h.1)⟩
  intro k hk
  have key : ∀ (N d : Nat), 2001 - d < N → 2 ≤ d → d ≤ 2000 → (∀ e, 2 ≤ e → e < d → v % e ≠ 0) → k (nN d) := by
    intro N
    induction N with
    | zero => intro d g; omega
    | succ N ih =>
      intro d g1 g2 g3 g4
      apply hk
      have hdd := Nat.mul_le_mul g3 g3
      rw [n_mul, n_lt (by omega) (by omega), n_rem (by omega) (by omega) (by omega), show (0 : Int32) = nN 0 from rfl, n_eq (by omega) (by omega), n_eq (by have := Nat.mod_le v d; omega) (by omega), show nN d + 1 = nN (d + 1) from n_add _ 1]
      refine ⟨fun c => h1 ⟨by omega, fun e he hee => ?_⟩, fun c => ⟨by omega, fun c2 => ?_, fun c2 => h0 (fun h => h.2 d g2 (by omega) c2)⟩⟩
      · rcases Nat.lt_or_ge e d with h | h
        · exact g4 e he h
        · have := Nat.mul_le_mul h h
          omega
      · have := sq_le (d := d) (v := v) (by omega) hv
        refine ih (d + 1) (by omega) (by omega) (by omega) (fun e he hed => ?_)
        by_cases e1 : e = d
        · rw [e1]; exact c2
        · exact g4 e he (by omega)
  exact key 2000 2 (by omega) (by omega) (by omega) (fun e _ _ => by omega)
theorem ok9_isPrime {v : Nat} {Post : Int32 → Prop} (hv : v < 4000000) (h1 : pr v → Post 1) (h0 : ¬ pr v → Post 0) : wp_X9_isPrime (nN v) Post := by
  unfold wp_X9_isPrime
  have l2 : (nN v ≤ (1 : Int32)) ↔ v ≤ 1 := by rw [show (1 : Int32) = nN 1 from rfl, n_le (by omega) (by omega)]
  rw [l2]
  refine ⟨fun c => ?_, fun c => ?_⟩
  · intro k hk
    apply hk
    have l4 : (nN v < (2 : Int32) * 2) ↔ v < 4 := by rw [show (2 : Int32) * 2 = nN 4 from rfl, n_lt (by omega) (by omega)]
    rw [l4]
    exact ⟨fun _ => ⟨by decide, h0 (fun h => by have := h.1; omega)⟩, fun c2 => by omega⟩
  · intro k hk
    have fail : ∀ d, 2 ≤ d → d ≤ 2001 → ¬ pr v → k (nN d) 0 := by
      intro d g2 g3 hp
      apply hk
      exact ⟨fun _ => ⟨by decide, h0 hp⟩, fun _ => ⟨fun _ => ⟨by decide, h0 hp⟩, fun c => absurd rfl c⟩⟩
    have key : ∀ (N d : Nat), 2001 - d < N → 2 ≤ d → d ≤ 2000 → (∀ e, 2 ≤ e → e < d → v % e ≠ 0) → k (nN d) 1 := by
      intro N
      induction N with
      | zero => intro d g; omega
      | succ N ih =>
        intro d g1 g2 g3 g4
        apply hk
        have hdd := Nat.mul_le_mul g3 g3
        rw [n_mul, n_lt (by omega) (by omega), n_rem (by omega) (by omega) (by omega), show nN d + 1 = nN (d + 1) from n_add _ 1]
        have e0 : (nN d = 0) ↔ d = 0 := by rw [show (0 : Int32) = nN 0 from rfl, n_eq (by omega) (by omega)]
        have em : (nN (v % d) = 0) ↔ v % d = 0 := by rw [show (0 : Int32) = nN 0 from rfl, n_eq (by have := Nat.mod_le v d; omega) (by omega)]
        rw [e0, em]
        refine ⟨fun c => ⟨by decide, h1 ⟨by omega, fun e he hee => ?_⟩⟩, fun c => ⟨fun c1 => absurd c1 one_ne, fun _ => ⟨by omega, fun c2 => fail (d + 1) (by omega) (by omega) (fun h => h.2 d g2 (by omega) c2), fun c2 => ?_⟩⟩⟩
        · rcases Nat.lt_or_ge e d with h | h
          · exact g4 e he h
          · have := Nat.mul_le_mul h h
            omega
        · have := sq_le (d := d) (v := v) (by omega) hv
          refine ih (d + 1) (by omega) (by omega) (by omega) (fun e he hed => ?_)
          by_cases e1 : e = d
          · rw [e1]; exact c2
          · exact g4 e he (by omega)
    exact key 2000 2 (by omega) (by omega) (by omega) (fun e _ _ => by omega)
theorem case_charm {n : Nat} {x : Int32} {P : Nat → Nat} {a b : Nat → Int32} {K : Prop} (hn : n ≤ 8) (hP : ∀ t, t < n → P t ≤ 99999) (ha : ∀ t, t < n → a t = nN (P t)) (hb : ∀ t, t < n → b t = nN (P t)) (hK : K) : wp_X8_charm x (nN n) a (fun r => wp_X9_charm x (nN n) b (fun r' => (r = r' → K) ∧ (¬ r = r' → False))) := by
  obtain ⟨z, rfl, hz, hz2⟩ := i_ex x
  unfold wp_X8_charm
  refine ok_isPerson hn hz hz2 (fun h1 h2 => ⟨fun _ => ?_, fun c => absurd c one_ne⟩) (fun h => ⟨fun c => absurd rfl c, fun _ => ?_⟩)
  · obtain ⟨i, rfl⟩ : ∃ i : Nat, z = i := ⟨z.toNat, by omega⟩
    have hi : i < n := by omega
    have hp := hP i hi
    intro k hk
    have key : ∀ (N m : Nat), 100003 - P i - m < N → m ≤ 100003 - P i → (∀ j, j < m → ¬ pr (P i + j)) → k (nN m) := by
      intro N
      induction N with
      | zero => intro m g; omega
      | succ N ih =>
        intro m g1 g2 g3
        apply hk
        rw [n_nat (by omega), ha i hi, n_add, show nN m + 1 = nN (m + 1) from n_add _ 1]
        have l6 : ((1000000 : Int32) ≤ nN m) ↔ 1000000 ≤ m := by rw [show (1000000 : Int32) = nN 1000000 from rfl, n_le (by omega) (by omega)]
        rw [l6]
        refine ⟨fun c => by omega, fun _ => ⟨n_in (by omega) (by omega), ok_isPrime (by omega) (fun hpr => ⟨fun _ => ?_, fun c => absurd c one_ne⟩) (fun hpr => ⟨fun c => absurd rfl c, fun _ => ?_⟩)⟩⟩
        · unfold wp_X9_charm
          refine ok9_isPerson hn hz hz2 (fun _ _ => ⟨fun _ => ?_, fun c => absurd c one_ne⟩) (fun c => absurd ⟨h1, h2⟩ c)
          intro k9 hk9
          have key9 : ∀ (N j : Nat), m - j < N → j ≤ m → k9 (nN j) := by
            intro N
            induction N with
            | zero => intro j g; omega
            | succ N ih =>
              intro j f1 f2
              apply hk9
              rw [n_nat (by omega), hb i hi, n_add, show nN j + 1 = nN (j + 1) from n_add _ 1]
              refine ⟨n_in (by omega) (by omega), ok9_isPrime (by omega) (fun hq => ⟨fun _ => ?_, fun c => absurd c one_ne⟩) (fun hq => ⟨fun c => absurd rfl c, fun _ => ?_⟩)⟩
              · have ej : j = m := by
                  rcases Nat.lt_or_ge j m with h | h
                  · exact absurd hq (g3 j h)
                  · omega
                rw [ej]; exact same_k hK
              · have ej : j ≠ m := fun e => hq (by rw [e]; exact hpr)
                exact ih (j + 1) (by omega) (by omega)
          exact key9 (m + 1) 0 (by omega) (by omega)
        · have em : m ≠ 100003 - P i := fun e => hpr (by rw [e, show P i + (100003 - P i) = 100003 by omega]; exact pr_big)
          refine ih (m + 1) (by omega) (by omega) (fun j hj => ?_)
          by_cases e : j = m
          · rw [e]; exact hpr
          · exact g3 j (by omega)
    exact key (100003 - P i + 1) 0 (by omega) (by omega) (fun j hj => absurd hj (by omega))
  · unfold wp_X9_charm
    exact ok9_isPerson hn hz hz2 (fun a b => absurd ⟨a, b⟩ h) (fun _ => ⟨fun c => absurd rfl c, fun _ => same_k hK⟩)
