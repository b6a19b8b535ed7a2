/-! MAY HOLD: the unit and the primes -/
def fits (q : Nat) (U V : Nat → Nat) (p : Nat) : Prop := ∀ j, j < q → sh p (U j) = V j
theorem ok_countNothing {q : Nat} {V : Nat → Nat} {ga : Nat → Int32} {Post : Int32 → Prop} (hq : q ≤ 8) (hV : ∀ j, j < q → V j ≤ 99999) (hg : ∀ j, j < q → ga j = nN (V j)) (h : ∀ e, e ≤ q → (e = q ↔ ∀ j, j < q → V j = 0) → (e = 0 ↔ ∀ j, j < q → V j ≠ 0) → Post (nN e)) : wp_X5_countSharedNothing (nN q) ga Post := by
  unfold wp_X5_countSharedNothing
  intro k hk
  have key : ∀ (N i e : Nat), q - i < N → i ≤ q → e ≤ i → (e = i ↔ ∀ j, j < i → V j = 0) → (e = 0 ↔ ∀ j, j < i → V j ≠ 0) → k (nN i) (nN e) := by
    intro N
    induction N with
    | zero => intro i e g; omega
    | succ N ih =>
      intro i e g1 g2 g3 g4 g5
      apply hk
      rw [n_le (by omega) (by omega), n_nat (by omega), show nN i + 1 = nN (i + 1) from n_add _ 1, show nN e + 1 = nN (e + 1) from n_add _ 1]
      refine ⟨fun c => ?_, fun c => ⟨n_in (by omega) (by omega), fun c2 => ?_, fun c2 => ?_⟩⟩
      · have : i = q := by omega
        subst this
        exact h e g3 g4 g5
      · have hv := hV i (by omega)
        rw [hg i (by omega), show (0 : Int32) = nN 0 from rfl, n_eq (by omega) (by omega)] at c2
        refine ih (i + 1) e (by omega) (by omega) (by omega) ⟨fun z => by omega, fun z => absurd (z i (by omega)) c2⟩ ⟨fun z j hj => ?_, fun z => g5.mpr (fun j hj => z j (by omega))⟩
        by_cases ej : j = i
        · rw [ej]; exact c2
        · exact g5.mp z j (by omega)
      · have hv := hV i (by omega)
        rw [hg i (by omega), show (0 : Int32) = nN 0 from rfl, n_eq (by omega) (by omega)] at c2
        refine ih (i + 1) (e + 1) (by omega) (by omega) (by omega) ⟨fun z j hj => ?_, fun z => by have := g4.mpr (fun j hj => z j (by omega)); omega⟩ ⟨fun z => by omega, fun z => absurd c2 (z i (by omega))⟩
        by_cases ej : j = i
        · rw [ej]; exact c2
        · exact g4.mp (by omega) j (by omega)
  exact key (q + 1) 0 0 (by omega) (by omega) (by omega) ⟨fun _ j hj => by omega, fun _ => rfl⟩ ⟨fun _ j hj => by omega, fun _ => rfl⟩
theorem l_both {a b c : Nat} (ha : a ≤ 99999) (hb : b ≤ 99999) (hc : 1 ≤ c) (hc2 : c ≤ 99999) : (Int32.toInt64 (nN a) / Int32.toInt64 (nN c)) * Int32.toInt64 (nN b) = Int64.ofInt ((a / c * b : Nat) : Int) := by
  have e : ∀ z : Nat, z ≤ 99999 → (Int32.toInt64 (nN z)).toInt = (z : Int) := fun z hz => l_int (by omega) (by omega)
  have hne : Int32.toInt64 (nN c) ≠ -1 := by
    intro z
    have := congrArg Int64.toInt z
    rw [e c hc2, show (-1 : Int64).toInt = -1 from rfl] at this
    omega
  have h1 : Int32.toInt64 (nN a) / Int32.toInt64 (nN c) = Int64.ofInt ((a / c : Nat) : Int) := by
    rw [← Int64.ofInt_toInt (Int32.toInt64 (nN a) / Int32.toInt64 (nN c)), Int64.toInt_div_of_ne_right _ _ hne, e a ha, e c hc2]
    rfl
  have h2 : Int32.toInt64 (nN b) = Int64.ofInt (b : Int) := by
    rw [← Int64.ofInt_toInt (Int32.toInt64 (nN b)), e b hb]
  rw [h1, h2, ← Int64.ofInt_mul]
  rfl
theorem l_small {z N : Nat} (hz : z ≤ 9999800001) (hN : N ≤ 99999) : (lg_cmp (Int64.ofInt (z : Int)) (Int32.toInt64 (nN N)) ≤ 0) ↔ z ≤ N := by
  rw [← Int32.not_lt, lg_cmp_gt, Int64.lt_iff_toInt_lt, l_int (by omega) (by omega), Int64.toInt_ofInt_of_le (by omega) (by omega)]
  omega
theorem ok_findUnit {q N : Nat} {U V : Nat → Nat} {sa ga : Nat → Int32} {v : Int32} {Post : Int32 → Int32 → Prop} (hq : q ≤ 8) (hq1 : 1 ≤ q) (hN : N ≤ 99999) (hUV : ∀ j, j < q → 1 ≤ U j ∧ U j ≤ 99999 ∧ V j ≤ 99999) (hV : ∀ j, j < q → V j ≠ 0) (hs : ∀ j, j < q → sa j = nN (U j) ∧ ga j = nN (V j)) (h0 : (∀ p, 1 ≤ p → p ≤ N → ¬ fits q U V p) → ∀ u, Post 0 u) (h1 : ∀ L, 1 ≤ L → L ≤ N → (∀ j, j < q → V j ∣ L ∧ V j ∣ U j) → (∀ p, (∀ j, j < q → V j ∣ p) → L ∣ p) → Post 1 (nN L)) : wp_X5_findUnit (nN N) v (nN q) sa ga Post := by
  have fdvd : ∀ p j, fits q U V p → j < q → 1 ≤ p → V j ∣ p ∧ V j ∣ U j := by
    intro p j hf hj hp
    have := hf j hj
    rw [sh_gcd hp (by have := hUV j hj; omega)] at this
    rw [← this]
    exact ⟨Nat.gcd_dvd_left _ _, Nat.gcd_dvd_right _ _⟩
  unfold wp_X5_findUnit
  intro k hk
  have key : ∀ (M i L : Nat), q - i < M → i ≤ q → 1 ≤ L → ((i = 0 ∧ L = 1) ∨ L ≤ N) → (∀ j, j < i → V j ∣ L ∧ V j ∣ U j) → (∀ p, (∀ j, j < i → V j ∣ p) → L ∣ p) → k (nN i) (nN L) := by
    intro M
    induction M with
    | zero => intro i L g; omega
    | succ M ih =>
      intro i L g1 g2 g3 g4 g5 g6
      apply hk
      have l0 : (nN L ≤ 0) ↔ L = 0 := by rw [show (0 : Int32) = nN 0 from rfl, n_le (by omega) (by omega)]; omega
      rw [n_le (by omega) (by omega), n_nat (by omega), l0, show nN i + 1 = nN (i + 1) from n_add _ 1]
      refine ⟨fun c => ⟨fun z => by omega, fun _ => ?_⟩, fun c => ?_⟩
      · have e : i = q := by omega
        subst e
        exact h1 L g3 (by omega) g5 g6
      · have hi : i < q := by omega
        obtain ⟨s1, s2⟩ := hs i hi
        obtain ⟨u1, u2, u3⟩ := hUV i hi
        have hv := hV i hi
        rw [s1, s2]
        have l1 : (nN (V i) < (1 : Int32)) ↔ V i < 1 := by rw [show (1 : Int32) = nN 1 from rfl, n_lt (by omega) (by omega)]
        have z0 : (nN (V i) = 0) ↔ V i = 0 := by rw [show (0 : Int32) = nN 0 from rfl, n_eq (by omega) (by omega)]
        have zm : (nN (U i % V i) = 0) ↔ U i % V i = 0 := by rw [show (0 : Int32) = nN 0 from rfl, n_eq (by have := Nat.mod_le (U i) (V i); omega) (by omega)]
        rw [l1, z0, n_rem (by omega) (by omega) (by omega), zm]
        refine ⟨n_in (by omega) (by omega), fun z => by omega, fun _ => ⟨n_in (by omega) (by omega), hv, fun cd => ?_, fun cd => h0 (fun p hp _ hf => cd (Nat.mod_eq_zero_of_dvd (fdvd p i hf hi hp).2)) _⟩⟩
        have hgp : 0 < Nat.gcd L (V i) := Nat.gcd_pos_of_pos_left _ g3
        have hgl : Nat.gcd L (V i) ≤ L := Nat.le_of_dvd g3 (Nat.gcd_dvd_left _ _)
        refine ok_greatestDivisor (by omega) (by omega) ?_
        have l2 : ((1 : Int32) ≤ nN (Nat.gcd L (V i))) ↔ 1 ≤ Nat.gcd L (V i) := by rw [show (1 : Int32) = nN 1 from rfl, n_le (by omega) (by omega)]
        have elcm : L / Nat.gcd L (V i) * V i = Nat.lcm L (V i) := by
          unfold Nat.lcm
          rw [Nat.mul_comm, ← Nat.mul_div_assoc _ (Nat.gcd_dvd_left _ _), Nat.mul_comm]
        have hb : Nat.lcm L (V i) ≤ 9999800001 := by
          rw [← elcm]
          have q1 := Nat.mul_le_mul (show L / Nat.gcd L (V i) ≤ 99999 from Nat.le_trans (Nat.div_le_self _ _) (by omega)) u3
          omega
        rw [l2, l_both (by omega) u3 hgp (by omega), elcm, l_small hb hN]
        refine ⟨fun _ => ⟨fun z => ?_, fun cl => ?_, fun cl => h0 (fun p hp hpN hf => ?_) _⟩, fun z => absurd hgp z⟩
        · have := congrArg Int64.toInt z
          rw [l_int (by omega) (by omega), show (0 : Int64).toInt = 0 from rfl] at this
          omega
        · rw [Int64.toInt32_ofInt]
          have hlp : 1 ≤ Nat.lcm L (V i) := Nat.lcm_pos g3 (Nat.pos_of_ne_zero hv)
          refine ih (i + 1) (Nat.lcm L (V i)) (by omega) (by omega) hlp (Or.inr cl) (fun j hj => ?_) (fun p hp => ?_)
          · by_cases e : j = i
            · rw [e]; exact ⟨Nat.dvd_lcm_right _ _, Nat.dvd_of_mod_eq_zero cd⟩
            · obtain ⟨r1, r2⟩ := g5 j (by omega)
              exact ⟨Nat.dvd_trans r1 (Nat.dvd_lcm_left _ _), r2⟩
          · exact Nat.lcm_dvd (g6 p (fun j hj => hp j (by omega))) (hp i (by omega))
        · have := Nat.lcm_dvd (g6 p (fun j hj => (fdvd p j hf (by omega) hp).1)) (fdvd p i hf hi hp).1
          have := Nat.le_of_dvd hp this
          omega
  exact key (q + 1) 0 1 (by omega) (by omega) (by omega) (Or.inl ⟨rfl, rfl⟩) (fun j hj => by omega) (fun p _ => Nat.one_dvd p)
theorem ok_addPrime {A : Nat → Int32} {f p : Nat} {prm : Nat → Nat} {Post : Int32 → (Nat → Int32) → Prop} (hA : PR A f prm) (hf : f < 48) (hp : pri p) (hp9 : p ≤ 99999) (h : ∀ f' A' prm', PR A' f' prm' → f ≤ f' → f' ≤ f + 1 → (∀ i, i < f → prm' i = prm i) → (∃ i, i < f' ∧ prm' i = p) → (∀ i, i < f' → i < f ∨ prm' i = p) → Post (nN f') A') : wp_X5_addPrime (nN p) (nN f) A Post := by
  obtain ⟨hf8, hA1, hA2⟩ := id hA
  unfold wp_X5_addPrime
  intro k2 hk2
  have key : ∀ (M k : Nat), f - k < M → k ≤ f → (∀ i, i < k → prm i ≠ p) → k2 (nN k) := by
    intro M
    induction M with
    | zero => intro k g1; omega
    | succ M ih =>
      intro k g1 g2 g3
      apply hk2
      have l48 : ((48 : Int32) ≤ nN f) ↔ 48 ≤ f := by rw [show (48 : Int32) = nN 48 from rfl, n_le (by omega) (by omega)]
      rw [n_le (by omega) (by omega), l48, n_nat (a := k) (by omega), n_nat (a := f) (by omega), show nN k + 1 = nN (k + 1) from n_add _ 1, show nN f + (1 : Int32) = nN (f + 1) from n_add _ 1]
      refine ⟨fun c => ⟨fun z => by omega, fun _ => ⟨n_in (by omega) (by omega), ?_⟩⟩, fun c => ?_⟩
      · refine h (f + 1) _ (setN prm f p) ⟨by omega, fun i hi => ?_, fun i j hij hj => ?_⟩ (by omega) (by omega) (fun i hi => ?_) ⟨f, by omega, ?_⟩ (fun i hi => ?_)
        · unfold upd setN
          by_cases e : i = f
          · rw [if_pos e, if_pos e]; exact ⟨rfl, hp, hp9⟩
          · rw [if_neg e, if_neg e]; exact hA1 i (by omega)
        · unfold setN
          rw [if_neg (by omega)]
          by_cases e : j = f
          · rw [if_pos e]; exact g3 i (by omega)
          · rw [if_neg e]; exact hA2 i j hij (by omega)
        · unfold setN; rw [if_neg (by omega)]
        · unfold setN; rw [if_pos rfl]
        · by_cases e : i = f
          · right; unfold setN; rw [if_pos e]
          · left; omega
      · obtain ⟨e1, e2, e3⟩ := hA1 k (by omega)
        rw [e1, n_eq (by omega) (by omega)]
        refine ⟨n_in (by omega) (by omega), fun c2 => ih (k + 1) (by omega) (by omega) (fun i hi => ?_), fun c2 => h f A prm hA (Nat.le_refl f) (by omega) (fun i _ => rfl) ⟨k, by omega, c2⟩ (fun i hi => Or.inl hi)⟩
        by_cases e : i = k
        · rw [e]; exact c2
        · exact g3 i (by omega)
  exact key (f + 1) 0 (by omega) (by omega) (fun i hi => by omega)
theorem ok_findPrimes {q L : Nat} {U V : Nat → Nat} {sa ga A B : Nat → Int32} {v : Int32} {Post : Int32 → Int32 → (Nat → Int32) → (Nat → Int32) → Prop} (hq : q ≤ 8) (hL : 1 ≤ L) (hL9 : L ≤ 99999) (hUV : ∀ j, j < q → 1 ≤ U j ∧ U j ≤ 99999 ∧ V j ≤ 99999) (hV : ∀ j, j < q → V j ≠ 0) (hd : ∀ j, j < q → V j ∣ L ∧ V j ∣ U j) (hs : ∀ j, j < q → sa j = nN (U j) ∧ ga j = nN (V j)) (h0 : (∃ j r, j < q ∧ pri r ∧ r ∣ U j / V j ∧ r ∣ L / V j) → ∀ f A B, Post 0 f A B) (h1 : ∀ f prm A B, PR A f prm → (∀ j, j < q → ∀ r, pri r → r ∣ U j / V j → ¬ r ∣ L / V j ∧ ∃ i, i < f ∧ prm i = r) → (∀ i, i < f → ∃ j, j < q ∧ prm i ∣ U j / V j) → Post 1 (nN f) A B) : wp_X5_findPrimes v (nN L) A B (nN q) sa ga Post := by
  unfold wp_X5_findPrimes
  intro k7 hk7
  have key : ∀ (M j f : Nat) (prm : Nat → Nat) (A B : Nat → Int32), q - j < M → j ≤ q → f ≤ 6 * j → PR A f prm → (∀ j', j' < j → ∀ r, pri r → r ∣ U j' / V j' → ¬ r ∣ L / V j' ∧ ∃ i, i < f ∧ prm i = r) → (∀ i, i < f → ∃ j, j < q ∧ prm i ∣ U j / V j) → k7 (nN j) (nN f) A B := by
    intro M
    induction M with
    | zero => intro j f prm A B g; omega
    | succ M ih =>
      intro j f prm A B g1 g2 g3 g4 g5 g6
      apply hk7
      rw [n_le (by omega) (by omega), n_nat (by omega), show nN j + 1 = nN (j + 1) from n_add _ 1]
      refine ⟨fun c => ?_, fun c => ?_⟩
      · have e : j = q := by omega
        subst e
        exact h1 f prm A B g4 g5 g6
      · have hj : j < q := by omega
        obtain ⟨s1, s2⟩ := hs j hj
        obtain ⟨u1, u2, u3⟩ := hUV j hj
        have hv := hV j hj
        obtain ⟨d1, d2⟩ := hd j hj
        rw [s1, s2]
        have hvl := Nat.le_of_dvd hL d1
        have hvu := Nat.le_of_dvd u1 d2
        have hu1 : 1 ≤ U j / V j := (Nat.le_div_iff_mul_le (by omega)).mpr (by omega)
        have hu2 : U j / V j ≤ U j := Nat.div_le_self _ _
        have hl2 : L / V j ≤ L := Nat.div_le_self _ _
        have l1 : ((1 : Int32) ≤ nN (V j)) ↔ 1 ≤ V j := by rw [show (1 : Int32) = nN 1 from rfl, n_le (by omega) (by omega)]
        have z0 : (nN (V j) = 0) ↔ V j = 0 := by rw [show (0 : Int32) = nN 0 from rfl, n_eq (by omega) (by omega)]
        rw [l1, z0, n_div (by omega) (by omega) (by omega), n_div (by omega) (by omega) (by omega)]
        refine ⟨n_in (by omega) (by omega), fun _ => ⟨n_in (by omega) (by omega), hv, ?_⟩, fun z => by omega⟩
        refine ok_takeApart (by omega) hu1 (fun r B' b1 b2 b3 => ?_)
        intro k49 hk49
        have key2 : ∀ (M k f' : Nat) (prm' : Nat → Nat) (A' : Nat → Int32), r - k < M → k ≤ r → f' ≤ 6 * j + k → PR A' f' prm' → f ≤ f' → (∀ i, i < f → prm' i = prm i) → (∀ i, i < f' → ∃ j, j < q ∧ prm' i ∣ U j / V j) → (∀ p, pri p → p ∣ U j / V j → ∀ k', k' < k → B' k' = nN p → ¬ p ∣ L / V j ∧ ∃ i, i < f' ∧ prm' i = p) → k49 (nN k) (nN f') A' := by
          intro M
          induction M with
          | zero => intro k f' prm' A' e; omega
          | succ M ih2 =>
            intro k f' prm' A' e1 e2 e3 e4 e5 e6 e7 e8
            apply hk49
            rw [n_le (by omega) (by omega), n_nat (a := k) (by omega), show nN k + 1 = nN (k + 1) from n_add _ 1]
            refine ⟨fun ck => ?_, fun ck => ?_⟩
            · refine ih (j + 1) f' prm' A' B' (by omega) (by omega) (by omega) e4 (fun j' hj' p hp hpd => ?_) e7
              by_cases ej : j' = j
              · rw [ej] at hpd ⊢
                obtain ⟨k', y1, y2⟩ := b3 p hp hpd
                exact e8 p hp hpd k' (by omega) y2
              · obtain ⟨y1, i, y2, y3⟩ := g5 j' (by omega) p hp hpd
                exact ⟨y1, i, by omega, by rw [e6 i y2]; exact y3⟩
            · obtain ⟨p, y1, y2, y3⟩ := b2 k (by omega)
              have hp9 := Nat.le_of_dvd hu1 y3
              have hp2 := y2.1
              rw [y1]
              have l2 : (nN p < (2 : Int32)) ↔ p < 2 := by rw [show (2 : Int32) = nN 2 from rfl, n_lt (by omega) (by omega)]
              have zp : (nN p = 0) ↔ p = 0 := by rw [show (0 : Int32) = nN 0 from rfl, n_eq (by omega) (by omega)]
              have zm : (nN (L / V j % p) = 0) ↔ L / V j % p = 0 := by rw [show (0 : Int32) = nN 0 from rfl, n_eq (by have := Nat.mod_le (L / V j) p; omega) (by omega)]
              rw [l2, zp, n_rem (by omega) (by omega) (by omega), zm]
              refine ⟨n_in (by omega) (by omega), fun z => by omega, fun _ => ⟨hv, n_in (by omega) (by omega), by omega, fun cm => ⟨n_in (by omega) (by omega), ?_⟩, fun cm => h0 ⟨j, p, hj, y2, y3, Nat.dvd_of_mod_eq_zero cm⟩ _ _ _⟩⟩
              refine ok_addPrime e4 (by omega) y2 (by omega) (fun f2 A2 prm2 t1 t2 t3 t4 t5 t6 => ?_)
              refine ih2 (k + 1) f2 prm2 A2 (by omega) (by omega) (by omega) t1 (by omega) (fun i hi => by rw [t4 i (by omega)]; exact e6 i hi) (fun i hi => ?_) (fun p' hp' hpd' k' hk' hB => ?_)
              · rcases t6 i hi with z | z
                · rw [t4 i z]; exact e7 i z
                · rw [z]; exact ⟨j, hj, y3⟩
              · by_cases ek : k' = k
                · rw [ek, y1, n_eq (by omega) (by have := Nat.le_of_dvd hu1 hpd'; omega)] at hB
                  subst hB
                  exact ⟨fun z => cm (Nat.mod_eq_zero_of_dvd z), t5⟩
                · obtain ⟨x1, i, x2, x3⟩ := e8 p' hp' hpd' k' (by omega) hB
                  exact ⟨x1, i, by omega, by rw [t4 i x2]; exact x3⟩
        exact key2 (r + 1) 0 f prm A (by omega) (by omega) (by omega) g4 (Nat.le_refl f) (fun i _ => rfl) g6 (fun p _ _ k' hk' => by omega)
  exact key (q + 1) 0 0 (fun _ => 0) A B (by omega) (by omega) (by omega) ⟨by omega, fun i hi => by omega, fun i j _ hj => by omega⟩ (fun j hj => by omega) (fun i hi => by omega)
