/-! MAY HOLD: the class counts what is free of primes -/
def PR (A : Nat → Int32) (f : Nat) (prm : Nat → Nat) : Prop := f ≤ 48 ∧ (∀ i, i < f → A i = nN (prm i) ∧ pri (prm i) ∧ prm i ≤ 99999) ∧ (∀ i j, i < j → j < f → prm i ≠ prm j)
theorem ok_countFree {A : Nat → Int32} {f : Nat} {prm : Nat → Nat} (hA : PR A f prm) : ∀ (d first N X : Nat) (Q : List Nat) (Post : Int32 → Prop), first ≤ f → d + Q.length = 8 → Q.Nodup → 1 ≤ X → 1 ≤ N → N * X ≤ 99999 → (∀ q, q ∈ Q → q ∣ X ∧ ∃ i, first ≤ i ∧ i < f ∧ prm i = q) → Post (nN (cnt (fre prm first) N)) → wp_X5_countFree d (nN N) (nN first) (nN Q.length) A Post := by
  obtain ⟨hf, hA1, hA2⟩ := hA
  intro d
  induction d with
  | zero =>
    intro first N X Q Post h1 h2 h3 h4 h4' h5 h6 h7
    have hX : X ≤ N * X := Nat.le_mul_of_pos_left X h4'
    have := few_primes (X + 1) 2 0 X Q (by omega) (by omega) h4 (by omega) (by simp only [wt]; omega) (Or.inl rfl) h3 (fun q hq => by
      obtain ⟨k1, i, _, k2, k3⟩ := h6 q hq
      have := (hA1 i k2).2.1
      rw [k3] at this
      exact ⟨this, this.1, k1⟩)
    omega
  | succ d ih =>
    intro first N X Q Post h1 h2 h3 h4 h4' h5 h6 h7
    have hX : X ≤ N * X := Nat.le_mul_of_pos_left X h4'
    have hN : N ≤ N * X := Nat.le_mul_of_pos_right N h4
    have hQ := few_primes (X + 1) 2 0 X Q (by omega) (by omega) h4 (by omega) (by simp only [wt]; omega) (Or.inl rfl) h3 (fun q hq => by
      obtain ⟨k1, i, _, k2, k3⟩ := h6 q hq
      have := (hA1 i k2).2.1
      rw [k3] at this
      exact ⟨this, this.1, k1⟩)
    unfold wp_X5_countFree
    have l6 : (nN Q.length ≤ (6 : Int32)) ↔ Q.length ≤ 6 := by rw [show (6 : Int32) = nN 6 from rfl, n_le (by omega) (by omega)]
    rw [l6]
    refine ⟨fun _ => ?_, fun c => absurd (show Q.length ≤ 6 by omega) c⟩
    intro k14 hk14
    have key : ∀ (M k : Nat), first - k < M → k ≤ first → k14 (nN k) (nN (cnt (fre prm k) N)) := by
      intro M
      induction M with
      | zero => intro k g1; omega
      | succ M ih2 =>
        intro k g1 g2
        apply hk14
        rw [n_le (by omega) (by omega), n_nat (by omega), show nN k + 1 = nN (k + 1) from n_add _ 1]
        refine ⟨fun c => ?_, fun c => ?_⟩
        · have e : k = first := by omega
          rw [e]; exact h7
        · obtain ⟨e1, e2, e3⟩ := hA1 k (by omega)
          have hp2 := e2.1
          have hcl := cnt_le (fre prm k) N
          have hst := cf_step (prm := prm) (k := k) (N := N) e2 (fun i hi => ⟨(hA1 i (by omega)).2.1, hA2 i k hi (by omega)⟩)
          rw [e1]
          have l1 : (nN (prm k) ≤ (1 : Int32)) ↔ prm k ≤ 1 := by rw [show (1 : Int32) = nN 1 from rfl, n_le (by omega) (by omega)]
          have z1 : (nN (prm k) = 0) ↔ prm k = 0 := by rw [show (0 : Int32) = nN 0 from rfl, n_eq (by omega) (by omega)]
          rw [l1, z1, n_lt (by omega) (by omega), n_div (by omega) (by omega) (by omega), show nN Q.length + (1 : Int32) = nN (Q.length + 1) from n_add _ 1]
          refine ⟨n_in (by omega) (by omega), fun c2 => absurd c2 (by omega), fun _ => ⟨n_in (by omega) (by omega), fun c2 => ?_, fun c2 => ⟨n_in (by omega) (by omega), by omega, ?_⟩⟩⟩
          · rw [Nat.div_eq_of_lt c2] at hst
            have : cnt (fre prm (k + 1)) N = cnt (fre prm k) N := by
              rw [← hst]; rfl
            rw [← this]
            exact ih2 (k + 1) (by omega) (by omega)
          · have hdv : 1 ≤ N / prm k := (Nat.le_div_iff_mul_le (by omega)).mpr (by omega)
            have hnot : prm k ∉ Q := fun hq => by
              obtain ⟨_, i, k1, k2, k3⟩ := h6 _ hq
              exact hA2 k i (by omega) k2 k3.symm
            have hprod : N / prm k * (X * prm k) ≤ 99999 := by
              have q1 := Nat.div_mul_le_self N (prm k)
              have q2 := Nat.mul_le_mul_right X q1
              have q3 : N / prm k * (X * prm k) = N / prm k * prm k * X := by rw [Nat.mul_comm X, Nat.mul_assoc]
              omega
            have := ih k (N / prm k) (X * prm k) (prm k :: Q) (fun r50 => k14 (nN (k + 1)) (nN (cnt (fre prm k) N) - r50)) (by omega) (by rw [List.length_cons]; omega) (List.nodup_cons.mpr ⟨hnot, h3⟩) (Nat.mul_pos h4 (by omega)) hdv hprod (fun q hq => by
              rw [List.mem_cons] at hq
              rcases hq with rfl | hq
              · exact ⟨Nat.dvd_mul_left _ _, k, Nat.le_refl k, by omega, rfl⟩
              · obtain ⟨k1, i, k2, k3, k4⟩ := h6 q hq
                exact ⟨Nat.dvd_trans k1 (Nat.dvd_mul_right _ _), i, by omega, k3, k4⟩) (by
              rw [n_sub (by omega), show cnt (fre prm k) N - cnt (fre prm k) (N / prm k) = cnt (fre prm (k + 1)) N by omega]
              exact ih2 (k + 1) (by omega) (by omega))
            exact this
    have := key (first + 1) 0 (by omega) (by omega)
    rw [cnt_all (f := fre prm 0) N (fun m _ _ => rfl)] at this
    exact this
theorem ok_isFree {A : Nat → Int32} {f m : Nat} {prm : Nat → Nat} {Post : Int32 → Prop} (hA : PR A f prm) (hm : m ≤ 99999) (h1 : fre prm f m = true → Post 1) (h0 : fre prm f m = false → Post 0) : wp_X5_isFree (nN m) (nN f) A Post := by
  obtain ⟨hf, hA1, hA2⟩ := hA
  unfold wp_X5_isFree
  intro k2 hk2
  have key : ∀ (M k : Nat), f - k < M → k ≤ f → (∀ i, i < k → ¬ prm i ∣ m) → k2 (nN k) := by
    intro M
    induction M with
    | zero => intro k g1; omega
    | succ M ih =>
      intro k g1 g2 g3
      apply hk2
      rw [n_le (by omega) (by omega), n_nat (by omega), show nN k + 1 = nN (k + 1) from n_add _ 1]
      refine ⟨fun c => h1 ((fre_iff prm m f).mpr (fun i hi => g3 i (by omega))), fun c => ?_⟩
      obtain ⟨e1, e2, e3⟩ := hA1 k (by omega)
      have hp2 := e2.1
      rw [e1]
      have l1 : (nN (prm k) ≤ (1 : Int32)) ↔ prm k ≤ 1 := by rw [show (1 : Int32) = nN 1 from rfl, n_le (by omega) (by omega)]
      have z1 : (nN (prm k) = 0) ↔ prm k = 0 := by rw [show (0 : Int32) = nN 0 from rfl, n_eq (by omega) (by omega)]
      have zm : (nN (m % prm k) = 0) ↔ m % prm k = 0 := by rw [show (0 : Int32) = nN 0 from rfl, n_eq (by have := Nat.mod_le m (prm k); omega) (by omega)]
      rw [l1, z1, n_rem (by omega) (by omega) (by omega), zm]
      refine ⟨n_in (by omega) (by omega), fun c2 => absurd c2 (by omega), fun _ => ⟨n_in (by omega) (by omega), by omega, fun c2 => ?_, fun c2 => h0 ?_⟩⟩
      · refine ih (k + 1) (by omega) (by omega) (fun i hi => ?_)
        by_cases e : i = k
        · rw [e]; exact fun z => c2 (Nat.mod_eq_zero_of_dvd z)
        · exact g3 i (by omega)
      · cases hh : fre prm f m with
        | false => rfl
        | true => exact absurd (Nat.dvd_of_mod_eq_zero c2) ((fre_iff prm m f).mp hh k (by omega))
  exact key (f + 1) 0 (by omega) (by omega) (fun i hi => by omega)
theorem ok_noteMultiples {A : Nat → Int32} {f u L : Nat} {prm : Nat → Nat} {v1 v2 v3 : Int32} {Post : Int32 → Int32 → Int32 → Prop} (hA : PR A f prm) (hu : 1 ≤ u) (huL : u * L ≤ 99999) (hL : 1 ≤ L) (h : ∀ last, 1 ≤ last → last ≤ u → fre prm f last = true → (∀ m, last < m → m ≤ u → fre prm f m = false) → Post (nN (cnt (fre prm f) u)) (nN L) (nN (L * last))) : wp_X5_noteMultiples (nN u) (nN f) (nN L) v1 v2 v3 A Post := by
  have hf := hA.1
  have huu : u ≤ u * L := Nat.le_mul_of_pos_right u hL
  unfold wp_X5_noteMultiples
  have l1 : ((1 : Int32) ≤ nN u) ↔ 1 ≤ u := by rw [show (1 : Int32) = nN 1 from rfl, n_le (by omega) (by omega)]
  rw [l1]
  refine ⟨fun _ => ?_, fun c => absurd hu c⟩
  refine ok_countFree hA 8 f u 1 [] _ (Nat.le_refl f) rfl List.nodup_nil (by omega) hu (by omega) (fun q hq => absurd hq List.not_mem_nil) ?_
  intro k33 hk33
  have key : ∀ (m : Nat), 1 ≤ m → m ≤ u → (∀ m', m < m' → m' ≤ u → fre prm f m' = false) → k33 (nN m) := by
    intro m
    induction m with
    | zero => intro g1; omega
    | succ m ih =>
      intro g1 g2 g3
      apply hk33
      have l2 : (nN (m + 1) ≤ (1 : Int32)) ↔ m + 1 ≤ 1 := by rw [show (1 : Int32) = nN 1 from rfl, n_le (by omega) (by omega)]
      rw [l2, n_mul]
      refine ⟨fun c => h (m + 1) (by omega) g2 ?_ g3, fun c => ok_isFree hA (by omega) (fun hh => ⟨fun _ => h (m + 1) g1 g2 hh g3, fun c => absurd c one_ne⟩) (fun hh => ⟨fun c => absurd rfl c, fun _ => ?_⟩)⟩
      · rw [fre_iff]
        intro i hi hd
        have := (hA.2.1 i hi).2.1.1
        have := Nat.le_of_dvd (by omega) hd
        omega
      · have e : nN (m + 1) + (-1 : Int32) = nN m := by
          rw [show (-1 : Int32) = iI (-1) from rfl, i_add]
          congr 1
          omega
        rw [e]
        refine ih (by omega) (by omega) (fun m' h1 h2 => ?_)
        by_cases e : m' = m + 1
        · rw [e]; exact hh
        · exact g3 m' (by omega) h2
  exact key u hu (Nat.le_refl u) (fun m' h1 h2 => by omega)
