/-! how many numbers none of some primes goes into -/
def cnt (f : Nat → Bool) : Nat → Nat
  | 0 => 0
  | n + 1 => cnt f n + (if f (n + 1) = true then 1 else 0)
theorem cnt_congr {f g : Nat → Bool} : ∀ n, (∀ m, 1 ≤ m → m ≤ n → f m = g m) → cnt f n = cnt g n
  | 0, _ => rfl
  | n + 1, h => by
    unfold cnt
    rw [cnt_congr n (fun m h1 h2 => h m h1 (by omega)), h (n + 1) (by omega) (by omega)]
theorem cnt_le (f : Nat → Bool) : ∀ n, cnt f n ≤ n
  | 0 => Nat.le_refl 0
  | n + 1 => by
    have := cnt_le f n
    unfold cnt
    split <;> omega
theorem cnt_all {f : Nat → Bool} : ∀ n, (∀ m, 1 ≤ m → m ≤ n → f m = true) → cnt f n = n
  | 0, _ => rfl
  | n + 1, h => by
    unfold cnt
    rw [cnt_all n (fun m h1 h2 => h m h1 (by omega)), h (n + 1) (by omega) (by omega), if_pos rfl]
theorem cnt_none {f : Nat → Bool} : ∀ n, (∀ m, 1 ≤ m → m ≤ n → f m = false) → cnt f n = 0
  | 0, _ => rfl
  | n + 1, h => by
    unfold cnt
    rw [cnt_none n (fun m h1 h2 => h m h1 (by omega)), h (n + 1) (by omega) (by omega), if_neg (by decide)]
theorem cnt_split (f : Nat → Bool) (p : Nat) : ∀ n, cnt (fun m => f m && !(decide (p ∣ m))) n + cnt (fun m => decide (p ∣ m) && f m) n = cnt f n
  | 0 => rfl
  | n + 1 => by
    have ih := cnt_split f p n
    unfold cnt
    by_cases hp : p ∣ n + 1
    · by_cases hf : f (n + 1) = true
      · simp only [hp, hf, decide_true, Bool.not_true, Bool.and_false, Bool.and_self, if_true]
        rw [if_neg (by decide)]; omega
      · have hf' : f (n + 1) = false := by cases h : f (n + 1) <;> simp_all
        simp only [hp, hf', decide_true, Bool.not_true, Bool.and_false, if_neg (show ¬ false = true by decide)]; omega
    · by_cases hf : f (n + 1) = true
      · simp only [hp, hf, decide_false, Bool.not_false, Bool.and_self, Bool.false_and, if_true, if_neg (show ¬ false = true by decide)]; omega
      · have hf' : f (n + 1) = false := by cases h : f (n + 1) <;> simp_all
        simp only [hp, hf', decide_false, Bool.not_false, Bool.false_and, Bool.and_true, if_neg (show ¬ false = true by decide)]; omega
theorem cnt_mul {f g : Nat → Bool} {p : Nat} (hp : 0 < p) (h : ∀ t, 1 ≤ t → f (p * t) = g t) : ∀ n, cnt (fun m => decide (p ∣ m) && f m) n = cnt g (n / p)
  | 0 => by rw [Nat.zero_div]; rfl
  | n + 1 => by
    have ih := cnt_mul hp h n
    show cnt (fun m => decide (p ∣ m) && f m) n + (if (decide (p ∣ n + 1) && f (n + 1)) = true then 1 else 0) = _
    rw [ih]
    by_cases hd : p ∣ n + 1
    · rw [Nat.succ_div_of_dvd hd]
      obtain ⟨t, ht⟩ := hd
      have ht1 : 1 ≤ t := Nat.pos_of_ne_zero (fun e => by rw [e] at ht; omega)
      have e1 : n / p + 1 = t := by
        rw [← Nat.succ_div_of_dvd ⟨t, ht⟩, ht, Nat.mul_div_cancel_left t hp]
      rw [e1]
      have e2 : n / p = t - 1 := by omega
      rw [e2]
      obtain ⟨s, rfl⟩ : ∃ s, t = s + 1 := ⟨t - 1, by omega⟩
      have e3 : cnt g (s + 1) = cnt g s + (if g (s + 1) = true then 1 else 0) := rfl
      rw [e3, Nat.add_sub_cancel, ht, h (s + 1) ht1]
      simp only [show p ∣ p * (s + 1) from ⟨s + 1, rfl⟩, decide_true, Bool.true_and]
    · rw [Nat.succ_div_of_not_dvd hd]
      simp only [hd, decide_false, Bool.false_and, if_neg (show ¬ false = true by decide), Nat.add_zero]
def fre (prm : Nat → Nat) : Nat → Nat → Bool
  | 0, _ => true
  | k + 1, m => fre prm k m && !(decide (prm k ∣ m))
theorem fre_iff (prm : Nat → Nat) (m : Nat) : ∀ k, fre prm k m = true ↔ ∀ i, i < k → ¬ prm i ∣ m
  | 0 => ⟨fun _ i hi => by omega, fun _ => rfl⟩
  | k + 1 => by
    show (fre prm k m && !(decide (prm k ∣ m))) = true ↔ _
    rw [Bool.and_eq_true, fre_iff prm m k, Bool.not_eq_true', decide_eq_false_iff_not]
    constructor
    · rintro ⟨h1, h2⟩ i hi
      by_cases e : i = k
      · rw [e]; exact h2
      · exact h1 i (by omega)
    · intro h
      exact ⟨fun i hi => h i (by omega), h k (by omega)⟩
theorem fre_mul {prm : Nat → Nat} {k p t : Nat} (hp : pri p) (h : ∀ i, i < k → pri (prm i) ∧ prm i ≠ p) : fre prm k (p * t) = fre prm k t := by
  rw [Bool.eq_iff_iff, fre_iff, fre_iff]
  constructor
  · intro h1 i hi hd
    exact h1 i hi (Nat.dvd_trans hd (Nat.dvd_mul_left t p))
  · intro h1 i hi hd
    rcases pri_mul (h i hi).1 hd with z | z
    · rcases hp.2 _ z with e | e
      · have := (h i hi).1.1; omega
      · exact (h i hi).2 e
    · exact h1 i hi z
theorem cf_step {prm : Nat → Nat} {k N : Nat} (hp : pri (prm k)) (h : ∀ i, i < k → pri (prm i) ∧ prm i ≠ prm k) : cnt (fre prm (k + 1)) N + cnt (fre prm k) (N / prm k) = cnt (fre prm k) N := by
  rw [← cnt_mul (f := fre prm k) (g := fre prm k) (p := prm k) (by have := hp.1; omega) (fun t _ => fre_mul hp h) N]
  exact cnt_split (fre prm k) (prm k) N
theorem pri_odd {p : Nat} (hp : pri p) (h3 : 3 ≤ p) : p % 2 = 1 := by
  rcases Nat.mod_two_eq_zero_or_one p with h | h
  · rcases hp.2 2 (Nat.dvd_of_mod_eq_zero h) with e | e <;> omega
  · exact h
theorem few_primes : ∀ (M d r X : Nat) (Q : List Nat), X + 1 - d < M → 2 ≤ d → 1 ≤ X → r ≤ 6 → wt r * X ≤ 199998 → (r = 0 ∨ (3 ≤ d ∧ 2 * r ≤ d)) → Q.Nodup → (∀ q, q ∈ Q → pri q ∧ d ≤ q ∧ q ∣ X) → r + Q.length ≤ 6 := by
  intro M
  induction M with
  | zero => intro d r X Q g; omega
  | succ M ih =>
    intro d r X Q g1 g2 g3 g4 g5 g6 g7 g8
    rcases Nat.lt_or_ge X d with hXd | hXd
    · match Q with
      | [] => simpa using g4
      | q :: Q =>
        obtain ⟨h1, h2, h3⟩ := g8 q List.mem_cons_self
        have := Nat.le_of_dvd g3 h3
        omega
    · by_cases hd : d ∈ Q
      · obtain ⟨h1, h2, h3⟩ := g8 d hd
        obtain ⟨Y, rfl⟩ := h3
        have hY : 1 ≤ Y := Nat.pos_of_ne_zero (fun e => by rw [e] at g3; omega)
        have hodd : d = 2 ∨ d % 2 = 1 := by
          by_cases e : d = 2
          · exact Or.inl e
          · exact Or.inr (pri_odd h1 (by omega))
        have hw := wt_step g4 (show (r = 0 ∧ 2 ≤ d) ∨ 2 * r + 1 ≤ d by omega) g2
        have h4 := Nat.mul_le_mul_right Y hw
        rw [Nat.mul_assoc] at h4
        have hr6 : r + 1 ≤ 6 := by
          rcases Nat.lt_or_ge r 6 with z | z
          · omega
          · have e : r = 6 := by omega
            have h5 := Nat.mul_le_mul_left (wt (r + 1)) hY
            rw [e] at h5 h4 g5
            simp only [wt] at h5 h4 g5
            omega
        have hlen := List.length_erase_of_mem hd
        have hpos : 0 < Q.length := List.length_pos_of_mem hd
        have hdY : 2 * Y ≤ d * Y := Nat.mul_le_mul_right Y g2
        have := ih (d + 1) (r + 1) Y (Q.erase d) (by omega) (by omega) hY hr6 (by omega) (Or.inr ⟨by omega, by omega⟩) (g7.erase d) (fun q hq => by
          rw [g7.mem_erase_iff] at hq
          obtain ⟨k1, k2, k3⟩ := g8 q hq.2
          refine ⟨k1, by omega, ?_⟩
          rcases pri_mul k1 k3 with z | z
          · rcases h1.2 q z with e | e
            · have := k1.1; omega
            · exact absurd e hq.1
          · exact z)
        omega
      · exact ih (d + 1) r X Q (by omega) (by omega) g3 g4 g5 (by omega) g7 (fun q hq => by
          obtain ⟨k1, k2, k3⟩ := g8 q hq
          have : q ≠ d := fun e => hd (e ▸ hq)
          exact ⟨k1, by omega, k3⟩)
