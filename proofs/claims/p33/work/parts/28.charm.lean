/-! primes: CHARM -/
def pr (v : Nat) : Prop := 2 ≤ v ∧ ∀ d, 2 ≤ d → d * d ≤ v → v % d ≠ 0
theorem sq_le {d v : Nat} (h : d * d ≤ v) (hv : v < 4000000) : d < 2000 := by
  rcases Nat.lt_or_ge d 2000 with h1 | h1
  · exact h1
  · have := Nat.mul_le_mul h1 h1
    omega
theorem pr_big : pr 100003 := by
  refine ⟨by decide, fun d h2 hd => ?_⟩
  have h1 : d < 317 := by
    rcases Nat.lt_or_ge d 317 with h1 | h1
    · exact h1
    · have := Nat.mul_le_mul h1 h1
      omega
  have h3 : ∀ e : Nat, e < 317 → 2 ≤ e → 100003 % e ≠ 0 := by decide +kernel
  exact h3 d h1 h2
theorem ok_isPrime {v : Nat} {Post : Int32 → Prop} (hv : v < 4000000) (h1 : pr v → Post 1) (h0 : ¬ pr v → Post 0) : wp_X8_isPrime (nN v) Post := by
  unfold wp_X8_isPrime
  have l2 : ((2 : Int32) ≤ nN v) ↔ 2 ≤ v := by rw [show (2 : Int32) = nN 2 from rfl, n_le (by omega) (by omega)]
  rw [l2]
  refine ⟨fun c => ?_, fun c => h0 (fun h => c h.1)⟩
  intro k hk
  have key : ∀ (N d : Nat), 2001 - d < N → 2 ≤ d → d ≤ 2000 → (∀ e, 2 ≤ e → e < d → v % e ≠ 0) → k (nN d) := by
    intro N
    induction N with
    | zero => intro d g; omega
    | succ N ih =>
      intro d g1 g2 g3 g4
      apply hk
      have hdd := Nat.mul_le_mul g3 g3
      rw [n_mul, n_lt (by omega) (by omega), n_rem (by omega) (by omega) (by omega), show (0 : Int32) = nN 0 from rfl, n_eq (by omega) (by omega), n_eq (by have := Nat.mod_le v d; omega) (by omega), show nN d + 1 = nN (d + 1) from n_add _ 1]
      refine ⟨fun c => h1 ⟨by omega, fun e he hee => ?_⟩, fun c => ⟨by omega, fun c2 => ?_, fun c2 => h0 (fun h => h.2 d g2 (by omega) c2)⟩⟩
      · rcases Nat.lt_or_ge e d with h | h
        · exact g4 e he h
        · have := Nat.mul_le_mul h h
          omega
      · have := sq_le (d := d) (v := v) (by omega) hv
        refine ih (d + 1) (by omega) (by omega) (by omega) (fun e he hed => ?_)
        by_cases e1 : e = d
        · rw [e1]; exact c2
        · exact g4 e he (by omega)
  exact key 2000 2 (by omega) (by omega) (by omega) (fun e _ _ => by omega)
