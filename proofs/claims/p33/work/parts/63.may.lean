/-! MAY HOLD and CHARM, as the law asks of them -/
theorem tot_none {f : Nat → Bool} : ∀ c, (∀ p, p < c → f p = false) → tot f c = 0
  | 0, _ => rfl
  | c + 1, h => by
    unfold tot
    rw [tot_none c (fun p hp => h p (by omega)), h c (by omega)]
    rfl
theorem tot_grow (f : Nat → Bool) (a : Nat) : ∀ d, tot f a ≤ tot f (a + d) ∧ tot f (a + d) ≤ tot f a + d
  | 0 => ⟨Nat.le_refl _, Nat.le_refl _⟩
  | d + 1 => by
    have h := tot_grow f a d
    show tot f a ≤ tot f (a + d) + (if f (a + d) = true then 1 else 0) ∧ tot f (a + d) + (if f (a + d) = true then 1 else 0) ≤ tot f a + (d + 1)
    split <;> omega
theorem tot_flat {f : Nat → Bool} {a : Nat} : ∀ d, (∀ p, a ≤ p → p < a + d → f p = false) → tot f (a + d) = tot f a
  | 0, _ => rfl
  | d + 1, h => by
    show tot f (a + d) + (if f (a + d) = true then 1 else 0) = tot f a
    rw [tot_flat d (fun p h1 h2 => h p h1 (by omega)), h (a + d) (by omega) (by omega)]
    rfl
theorem tot_free (U V : Nat → Nat) : ∀ c, tot (fb 0 U V) c = c
  | 0 => rfl
  | c + 1 => by
    show tot (fb 0 U V) c + 1 = c + 1
    rw [tot_free U V c]
theorem may_law (f : Nat → Bool) (c : Nat) : (tot f c = 0 ∧ lea f c = -9 ∧ gre f c = -9) ∨ (∃ l g : Nat, lea f c = (l : Int) ∧ gre f c = (g : Int) ∧ l ≤ g ∧ g < c ∧ 0 < tot f c ∧ tot f c ≤ g - l + 1 ∧ tot f (l + 1) = 1) := by
  by_cases h : ∃ p, p < c ∧ f p = true
  · obtain ⟨p0, h1, h2⟩ := h
    obtain ⟨l, l1, l2, l3⟩ := leastN (p := fun p => f p = true) p0 h2
    obtain ⟨d, d1, d2, d3⟩ := leastN (p := fun d => f (c - 1 - d) = true ∧ d < c) (c - 1 - p0) ⟨by rw [show c - 1 - (c - 1 - p0) = p0 by omega]; exact h2, by omega⟩
    have low : ∀ p, p < l → f p = false := fun p hp => by
      cases e : f p
      · rfl
      · exact absurd e (l3 p hp)
    have high : ∀ p, c - 1 - d < p → p < c → f p = false := fun p q1 q2 => by
      cases e : f p
      · rfl
      · exact absurd ⟨by rw [show c - 1 - (c - 1 - p) = p by omega]; exact e, by omega⟩ (d3 (c - 1 - p) (by omega))
    have hlg : l ≤ c - 1 - d := by
      rcases Nat.lt_or_ge (c - 1 - d) l with q | q
      · have := low _ q
        rw [d1.1] at this
        exact absurd this (by decide)
      · exact q
    have t1 := tot_none l low
    have t2 : tot f (l + 1) = 1 := by
      show tot f l + (if f l = true then 1 else 0) = 1
      rw [t1, if_pos l1]
    have t3 := tot_flat (f := f) (a := c - 1 - d + 1) (c - (c - 1 - d + 1)) (fun p q1 q2 => high p (by omega) (by omega))
    rw [show c - 1 - d + 1 + (c - (c - 1 - d + 1)) = c by omega] at t3
    have t4 := (tot_grow f l (c - 1 - d + 1 - l)).2
    rw [show l + (c - 1 - d + 1 - l) = c - 1 - d + 1 by omega, t1] at t4
    have t5 := (tot_grow f (l + 1) (c - (l + 1))).1
    rw [show l + 1 + (c - (l + 1)) = c by omega, t2] at t5
    exact Or.inr ⟨l, c - 1 - d, lea_at l1 low c (by omega), gre_at d1.1 c (by omega) high, hlg, by omega, by omega, by omega, t2⟩
  · have no : ∀ p, p < c → f p = false := fun p hp => by
      cases e : f p
      · rfl
      · exact absurd ⟨p, hp, e⟩ h
    exact Or.inl ⟨tot_none c no, lea_none c no, gre_none c no⟩
theorem sv_may0 {q N : Nat} {U V : Nat → Nat} {sa ga A B : Nat → Int32} {v1 v2 v3 v4 v5 : Int32} {Post : Int32 → Int32 → Int32 → Int32 → Int32 → Int32 → (Nat → Int32) → (Nat → Int32) → Prop} (hN : N ≤ 99999) (hs : SeeC q U V sa ga) (h : ∀ u1 u2 u3 u4 u5 u6 u7, Post (nN (tot (fb q U V) (N + 1))) u1 u2 u3 u4 u5 u6 u7) : wp_X8_mayHold (nN N) 0 (nN q) sa ga v1 v2 v3 v4 v5 A B Post := by
  obtain ⟨hq, hUV, hs⟩ := hs
  unfold wp_X8_mayHold
  refine ok_isSum (by omega) (by omega) (fun _ _ => ⟨fun c => absurd c one_ne, fun _ => ⟨fun c => absurd c (by decide), fun _ => ⟨fun _ => ?_, fun c => absurd (by decide) c⟩⟩⟩) (fun hh => absurd ⟨by omega, by omega⟩ hh)
  exact ok_X5find hq hN hUV hs (fun u1 u2 A' B' => ⟨fun c => absurd rfl c, fun _ => h _ _ _ _ _ _ _⟩)
theorem sv_may1 {q N : Nat} {U V : Nat → Nat} {sa ga A B : Nat → Int32} {v1 v2 v3 v4 v5 : Int32} {Post : Int32 → Int32 → Int32 → Int32 → Int32 → Int32 → (Nat → Int32) → (Nat → Int32) → Prop} (hN : N ≤ 99999) (hs : SeeC q U V sa ga) (h : ∀ u1 u2 u3 u4 u5 u6 u7, Post (iI (lea (fb q U V) (N + 1))) u1 u2 u3 u4 u5 u6 u7) : wp_X8_mayHold (nN N) 1 (nN q) sa ga v1 v2 v3 v4 v5 A B Post := by
  obtain ⟨hq, hUV, hs⟩ := hs
  unfold wp_X8_mayHold
  refine ok_isSum (by omega) (by omega) (fun _ _ => ⟨fun c => absurd c one_ne, fun _ => ⟨fun c => absurd c (by decide), fun _ => ⟨fun _ => ?_, fun c => absurd (by decide) c⟩⟩⟩) (fun hh => absurd ⟨by omega, by omega⟩ hh)
  exact ok_X5find hq hN hUV hs (fun u1 u2 A' B' => ⟨fun _ => ⟨fun c => absurd rfl c, fun _ => h _ _ _ _ _ _ _⟩, fun c => absurd c one_ne⟩)
theorem sv_may2 {q N : Nat} {U V : Nat → Nat} {sa ga A B : Nat → Int32} {v1 v2 v3 v4 v5 : Int32} {Post : Int32 → Int32 → Int32 → Int32 → Int32 → Int32 → (Nat → Int32) → (Nat → Int32) → Prop} (hN : N ≤ 99999) (hs : SeeC q U V sa ga) (h : ∀ u1 u2 u3 u4 u5 u6 u7, Post (iI (gre (fb q U V) (N + 1))) u1 u2 u3 u4 u5 u6 u7) : wp_X8_mayHold (nN N) 2 (nN q) sa ga v1 v2 v3 v4 v5 A B Post := by
  obtain ⟨hq, hUV, hs⟩ := hs
  unfold wp_X8_mayHold
  refine ok_isSum (by omega) (by omega) (fun _ _ => ⟨fun c => absurd c one_ne, fun _ => ⟨fun c => absurd c (by decide), fun _ => ⟨fun _ => ?_, fun c => absurd (by decide) c⟩⟩⟩) (fun hh => absurd ⟨by omega, by omega⟩ hh)
  exact ok_X5find hq hN hUV hs (fun u1 u2 A' B' => ⟨fun _ => ⟨fun _ => h _ _ _ _ _ _ _, fun c => absurd c (by decide)⟩, fun c => absurd c (by decide)⟩)
/-- CHARM, as the class finds it -/
def CH (v m : Nat) : Prop := m ≤ 100003 ∧ pr (v + m) ∧ ∀ j, j < m → ¬ pr (v + j)
theorem CH.uniq {v m m' : Nat} (h : CH v m) (h' : CH v m') : m' = m := by
  rcases Nat.lt_trichotomy m' m with q | q | q
  · exact absurd h'.2.1 (h.2.2 m' q)
  · exact q
  · exact absurd h.2.1 (h'.2.2 m q)
theorem CH.law {v m : Nat} (h : CH v m) : 1 < v + m ∧ ((v + m) % 2 = 1 ∨ v + m = 2) ∧ (0 < (v + m) % 3 ∨ v + m = 3) := by
  obtain ⟨-, ⟨h1, h2⟩, -⟩ := h
  refine ⟨by omega, ?_, ?_⟩
  · rcases Nat.lt_or_ge (v + m) 4 with q | q
    · omega
    · have := h2 2 (by omega) (by omega)
      omega
  · rcases Nat.lt_or_ge (v + m) 9 with q | q
    · rcases Nat.lt_or_ge (v + m) 4 with q2 | q2
      · omega
      · have := h2 2 (by omega) (by omega)
        omega
    · have := h2 3 (by omega) (by omega)
      omega
theorem sv_charm {n i : Nat} {P : Nat → Nat} {a : Nat → Int32} {Post : Int32 → Prop} (hn : n ≤ 8) (hi : i < n) (hP : ∀ t, t < n → P t ≤ 99999) (ha : ∀ t, t < n → a t = nN (P t)) (h : ∀ m, CH (P i) m → Post (nN m)) : wp_X8_charm (nN i) (nN n) a Post := by
  unfold wp_X8_charm
  refine ok_isPerson hn (by omega) (by omega) (fun h1 h2 => ⟨fun _ => ?_, fun c => absurd c one_ne⟩) (fun hh => absurd ⟨by omega, by omega⟩ hh)
  have hp := hP i hi
  intro k hk
  have key : ∀ (N m : Nat), 100003 - P i - m < N → m ≤ 100003 - P i → (∀ j, j < m → ¬ pr (P i + j)) → k (nN m) := by
    intro N
    induction N with
    | zero => intro m g; omega
    | succ N ih =>
      intro m g1 g2 g3
      apply hk
      rw [n_nat (by omega), ha i hi, n_add, show nN m + 1 = nN (m + 1) from n_add _ 1]
      have l6 : ((1000000 : Int32) ≤ nN m) ↔ 1000000 ≤ m := by rw [show (1000000 : Int32) = nN 1000000 from rfl, n_le (by omega) (by omega)]
      rw [l6]
      refine ⟨fun c => by omega, fun _ => ⟨n_in (by omega) (by omega), ok_isPrime (by omega) (fun hpr => ⟨fun _ => h m ⟨by omega, hpr, g3⟩, fun c => absurd c one_ne⟩) (fun hpr => ⟨fun c => absurd rfl c, fun _ => ?_⟩)⟩⟩
      have em : m ≠ 100003 - P i := fun e => hpr (by rw [e, show P i + (100003 - P i) = 100003 by omega]; exact pr_big)
      refine ih (m + 1) (by omega) (by omega) (fun j hj => ?_)
      by_cases e : j = m
      · rw [e]; exact hpr
      · exact g3 j (by omega)
  exact key (100003 - P i + 1) 0 (by omega) (by omega) (fun j hj => absurd hj (by omega))
/-- SHARED and COIN -/
theorem gcdN_dvd {P : Nat → Nat} : ∀ n i, i < n → gcdN P n ∣ P i
  | 0, i, h => by omega
  | n + 1, i, h => by
    show Nat.gcd (gcdN P n) (P n) ∣ P i
    by_cases e : i = n
    · rw [e]; exact Nat.gcd_dvd_right _ _
    · exact Nat.dvd_trans (Nat.gcd_dvd_left _ _) (gcdN_dvd n i (by omega))
theorem gcdN_le {n : Nat} {P : Nat → Nat} (hP : ∀ t, t < n → P t ≤ 99999) : gcdN P n ≤ 99999 := by
  have : ∀ i, i ≤ n → gcdN P i ≤ 99999 := by
    intro i
    induction i with
    | zero => intro _; show 0 ≤ 99999; omega
    | succ i ih =>
      intro hi
      show Nat.gcd (gcdN P i) (P i) ≤ 99999
      have hp := hP i (by omega)
      by_cases h0 : P i = 0
      · rw [h0, Nat.gcd_zero_right]; exact ih (by omega)
      · exact Nat.le_trans (Nat.le_of_dvd (by omega) (Nat.gcd_dvd_right _ _)) hp
  exact this n (Nat.le_refl n)
theorem sumN_le {n : Nat} {P : Nat → Nat} (hP : ∀ t, t < n → P t ≤ 99999) : ∀ i, i ≤ n → sumN P i ≤ 99999 * i
  | 0, _ => Nat.le_refl _
  | i + 1, h => by
    have h1 := sumN_le hP i (by omega)
    have h2 := hP i (by omega)
    show sumN P i + P i ≤ 99999 * (i + 1)
    omega
theorem sh_law {a b c : Nat} (ha : c ∣ a) (hb : c ∣ b) : (a = 0 ∨ b = 0) ∧ sh a b = 0 ∨ (a ≠ 0 ∧ b ≠ 0 ∧ 0 < sh a b ∧ a % sh a b = 0 ∧ b % sh a b = 0 ∧ c ≠ 0 ∧ sh a b % c = 0) := by
  by_cases h : a = 0 ∨ b = 0
  · refine Or.inl ⟨h, ?_⟩
    unfold sh
    rw [if_pos h]
  · have hs : sh a b = Nat.gcd a b := by unfold sh; rw [if_neg h]
    rw [hs]
    refine Or.inr ⟨fun e => h (Or.inl e), fun e => h (Or.inr e), Nat.gcd_pos_of_pos_left _ (by omega), Nat.mod_eq_zero_of_dvd (Nat.gcd_dvd_left a b), Nat.mod_eq_zero_of_dvd (Nat.gcd_dvd_right a b), fun e => ?_, Nat.mod_eq_zero_of_dvd (Nat.dvd_gcd ha hb)⟩
    subst e
    have := Nat.eq_zero_of_zero_dvd ha
    omega
