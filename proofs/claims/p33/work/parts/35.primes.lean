/-! primes of a number, put in a row -/
def pri (p : Nat) : Prop := 2 ≤ p ∧ ∀ d, d ∣ p → d = 1 ∨ d = p
theorem pri_ex : ∀ (N n : Nat), n < N → 2 ≤ n → ∃ p, pri p ∧ p ∣ n := by
  intro N
  induction N with
  | zero => intro n h; omega
  | succ N ih =>
    intro n h1 h2
    by_cases hp : pri n
    · exact ⟨n, hp, Nat.dvd_refl n⟩
    · have : ∃ d, d ∣ n ∧ d ≠ 1 ∧ d ≠ n := by
        apply Classical.byContradiction
        intro hc
        apply hp
        refine ⟨h2, fun d hd => ?_⟩
        by_cases e1 : d = 1
        · exact Or.inl e1
        · by_cases e2 : d = n
          · exact Or.inr e2
          · exact absurd ⟨d, hd, e1, e2⟩ hc
      obtain ⟨d, hd, e1, e2⟩ := this
      have hle := Nat.le_of_dvd (by omega) hd
      have h0 : d ≠ 0 := by intro e; rw [e] at hd; have := Nat.eq_zero_of_zero_dvd hd; omega
      obtain ⟨p, hp1, hp2⟩ := ih d (by omega) (by omega)
      exact ⟨p, hp1, Nat.dvd_trans hp2 hd⟩
theorem gcd_one {x y : Nat} (hy : 0 < y) (h : ∀ p, pri p → p ∣ x → p ∣ y → False) : Nat.gcd x y = 1 := by
  have hg : 0 < Nat.gcd x y := Nat.gcd_pos_of_pos_right x hy
  rcases Nat.lt_or_ge (Nat.gcd x y) 2 with h1 | h1
  · omega
  · obtain ⟨p, hp, hd⟩ := pri_ex _ _ (Nat.lt_succ_self _) h1
    exact absurd (Nat.dvd_trans hd (Nat.gcd_dvd_right x y)) (fun q => h p hp (Nat.dvd_trans hd (Nat.gcd_dvd_left x y)) q)
theorem pri_mul {p a b : Nat} (hp : pri p) (h : p ∣ a * b) : p ∣ a ∨ p ∣ b := by
  rcases hp.2 (Nat.gcd p a) (Nat.gcd_dvd_left p a) with e | e
  · exact Or.inr (Nat.Coprime.dvd_of_dvd_mul_left (show Nat.Coprime p a from e) h)
  · exact Or.inl (e ▸ Nat.gcd_dvd_right p a)
theorem keep_g {x W g j : Nat} (hg : 0 < g) (hW : 0 < W) (h : Nat.gcd x W = g) (hj : ∀ p, pri p → p ∣ W / g → j < (x / g) % p) : Nat.gcd (x - j * g) W = g := by
  have hx : g ∣ x := h ▸ Nat.gcd_dvd_left x W
  have hw : g ∣ W := h ▸ Nat.gcd_dvd_right x W
  obtain ⟨l, rfl⟩ := hx
  obtain ⟨m, rfl⟩ := hw
  simp only [Nat.mul_div_cancel_left _ hg] at hj
  have hm : 0 < m := Nat.pos_of_ne_zero (fun e => by rw [e] at hW; omega)
  have one : Nat.gcd (l - j) m = 1 := gcd_one hm (fun p hp h1 h2 => by
    have hr := hj p hp h2
    have hlt := Nat.mod_lt l (show 0 < p by have := hp.1; omega)
    have hd := Nat.div_add_mod l p
    have h3 : p ∣ (l - j) - p * (l / p) := Nat.dvd_sub h1 (Nat.dvd_mul_right p _)
    have h4 := Nat.le_of_dvd (by omega) h3
    omega)
  rw [Nat.mul_comm j g, ← Nat.mul_sub, Nat.gcd_mul_left, one, Nat.mul_one]
theorem ok_strip {d R : Nat} {Cc : Int32 → Prop} (hd : 2 ≤ d) (hd2 : d ≤ 1000) (hR : 1 ≤ R) (hR2 : R ≤ 199998) (hdR : d ∣ R) (h : ∀ R', R' ∣ R → d * R' ≤ R → 1 ≤ R' → ¬ d ∣ R' → (∀ p, pri p → p ∣ R → p ∣ R' ∨ p ∣ d) → Cc (nN R')) (k : Int32 → Int32 → Prop) (hk : ∀ (x5 x3 : Int32), (((1000000 : Int32) ≤ x5 → Cc x3) ∧ (¬ (1000000 : Int32) ≤ x5 → ((x3 ≤ (1 : Int32) → Cc x3) ∧ (¬ x3 ≤ (1 : Int32) → (¬ nN d = 0 ∧ ((¬ (x3 - x3 / nN d * nN d) = 0 → Cc x3) ∧ ((x3 - x3 / nN d * nN d) = 0 → (¬ nN d = 0 ∧ k (x5 + 1) (x3 / nN d))))))))) → k x5 x3) : k 0 (nN R) := by
  have key : ∀ (N t x : Nat), x < N → t + x ≤ 199998 → 1 ≤ x → x ∣ R → (x = R ∨ d * x ≤ R) → (∀ p, pri p → p ∣ R → p ∣ x ∨ p ∣ d) → k (nN t) (nN x) := by
    intro N
    induction N with
    | zero => intro t x g; omega
    | succ N ih =>
      intro t x g1 g2 g3 g4 g5 g6
      apply hk
      have l6 : ((1000000 : Int32) ≤ nN t) ↔ 1000000 ≤ t := by rw [show (1000000 : Int32) = nN 1000000 from rfl, n_le (by omega) (by omega)]
      have l1 : (nN x ≤ (1 : Int32)) ↔ x ≤ 1 := by rw [show (1 : Int32) = nN 1 from rfl, n_le (by omega) (by omega)]
      have e0 : (nN d = 0) ↔ d = 0 := by rw [show (0 : Int32) = nN 0 from rfl, n_eq (by omega) (by omega)]
      have em : (nN (x % d) = 0) ↔ x % d = 0 := by rw [show (0 : Int32) = nN 0 from rfl, n_eq (by have := Nat.mod_le x d; omega) (by omega)]
      rw [l6, l1, e0, n_rem (by omega) (by omega) (by omega), em, n_div (by omega) (by omega) (by omega), show nN t + 1 = nN (t + 1) from n_add _ 1]
      have hle := Nat.le_of_dvd hR hdR
      refine ⟨fun c => by omega, fun _ => ⟨fun c => ?_, fun c => ⟨by omega, fun c2 => ?_, fun c2 => ⟨by omega, ?_⟩⟩⟩⟩
      · have ex : x = 1 := by omega
        subst ex
        refine h 1 g4 (by omega) (by omega) (fun z => ?_) g6
        have := Nat.le_of_dvd (by omega) z
        omega
      · have hnd : ¬ d ∣ x := fun z => c2 (Nat.mod_eq_zero_of_dvd z)
        refine h x g4 ?_ g3 hnd g6
        rcases g5 with e | e
        · rw [e] at hnd; exact absurd hdR hnd
        · exact e
      · obtain ⟨y, rfl⟩ := Nat.dvd_of_mod_eq_zero c2
        rw [Nat.mul_div_cancel_left y (by omega)]
        have hy : 1 ≤ y := Nat.pos_of_ne_zero (fun e => by rw [e] at g3; omega)
        have hdy : 2 * y ≤ d * y := Nat.mul_le_mul_right y hd
        refine ih (t + 1) y (by omega) (by omega) hy (Nat.dvd_trans (Nat.dvd_mul_left y d) g4) (Or.inr ?_) (fun p hp hpR => ?_)
        · exact Nat.le_of_dvd hR g4
        · rcases g6 p hp hpR with z | z
          · rcases pri_mul hp z with z1 | z1
            · exact Or.inr z1
            · exact Or.inl z1
          · exact Or.inr z
  exact key (R + 1) 0 R (by omega) (by omega) hR (Nat.dvd_refl R) (Or.inl rfl) (fun p _ z => Or.inl z)
def wt : Nat → Nat
  | 0 => 1
  | 1 => 2
  | 2 => 6
  | 3 => 30
  | 4 => 210
  | 5 => 1890
  | 6 => 20790
  | _ => 270270
theorem wt_step {r q : Nat} (hr : r ≤ 6) (h : (r = 0 ∧ 2 ≤ q) ∨ 2 * r + 1 ≤ q) (h0 : 2 ≤ q) : wt (r + 1) ≤ wt r * q := by
  have : r = 0 ∨ r = 1 ∨ r = 2 ∨ r = 3 ∨ r = 4 ∨ r = 5 ∨ r = 6 := by omega
  rcases this with rfl | rfl | rfl | rfl | rfl | rfl | rfl <;> simp only [wt] <;> omega
theorem ok_takeApart {v : Nat} {A : Nat → Int32} {Post : Int32 → (Nat → Int32) → Prop} (hv : v ≤ 199998) (hv1 : 1 ≤ v) (h : ∀ (r : Nat) (A' : Nat → Int32), r ≤ 6 → (∀ i, i < r → ∃ p, A' i = nN p ∧ pri p ∧ p ∣ v) → (∀ p, pri p → p ∣ v → ∃ i, i < r ∧ A' i = nN p) → Post (nN r) A') : wp_X8_takeApart (nN v) A Post := by
  unfold wp_X8_takeApart
  intro k7 hk7
  have key : ∀ (N d R r : Nat) (A : Nat → Int32), 449 - d < N → 2 ≤ d → d ≤ 448 → 1 ≤ R → R ∣ v → (∀ q, 2 ≤ q → q < d → ¬ q ∣ R) → (r = 0 ∨ (3 ≤ d ∧ 2 * r ≤ d)) → r ≤ 6 → wt r * R ≤ v → (∀ i, i < r → ∃ p, A i = nN p ∧ pri p ∧ p ∣ v) → (∀ p, pri p → p ∣ v → p ∣ R ∨ ∃ i, i < r ∧ A i = nN p) → k7 (nN d) (nN R) (nN r) (nN v) A := by
    intro N
    induction N with
    | zero => intro d R r A g; omega
    | succ N ih =>
      intro d R r A g1 g2 g3 g4 g5 g6 g7 g8 g9 g10 g11
      have hRv := Nat.le_of_dvd hv1 g5
      have hdd := Nat.mul_le_mul g3 g3
      have big : ∀ q, 2 ≤ q → d ≤ q → q ∣ R → (r = 0 ∧ 2 ≤ q) ∨ 2 * r + 1 ≤ q := by
        intro q q0 q1 q2
        rcases g7 with e | e
        · exact Or.inl ⟨e, q0⟩
        · by_cases z : q = 2 * r
          · exact absurd (Nat.dvd_trans ⟨r, z⟩ q2) (g6 2 (by omega) (by omega))
          · exact Or.inr (by omega)
      have prm : ∀ q, 2 ≤ q → q ∣ R → (∀ e, 2 ≤ e → e < q → ¬ e ∣ R) → pri q := by
        intro q q0 q1 q2
        refine ⟨q0, fun e he => ?_⟩
        have hle := Nat.le_of_dvd (by omega) he
        have h0 : e ≠ 0 := by intro z; rw [z] at he; have := Nat.eq_zero_of_zero_dvd he; omega
        by_cases e1 : e = 1
        · exact Or.inl e1
        · by_cases e2 : e = q
          · exact Or.inr e2
          · exact absurd (Nat.dvd_trans he q1) (q2 e (by omega) (by omega))
      have room : ∀ q R', 2 ≤ q → d ≤ q → q ∣ R → 1 ≤ R' → q * R' ≤ R → wt (r + 1) * R' ≤ v := by
        intro q R' q0 q1 q2 q3 q4
        have h1 := Nat.mul_le_mul_right R' (wt_step g8 (big q q0 q1 q2) q0)
        have h2 := Nat.mul_le_mul_left (wt r) q4
        rw [Nat.mul_assoc] at h1
        omega
      have few : ∀ q R', 2 ≤ q → d ≤ q → q ∣ R → 1 ≤ R' → q * R' ≤ R → r < 6 := by
        intro q R' q0 q1 q2 q3 q4
        rcases Nat.lt_or_ge r 6 with z | z
        · exact z
        · have e : r = 6 := by omega
          have h1 := room q R' q0 q1 q2 q3 q4
          have h2 := Nat.mul_le_mul_left (wt (r + 1)) q3
          rw [e] at h1 h2
          simp only [wt] at h1 h2
          omega
      apply hk7
      have lr : (nN R < nN d * nN d) ↔ R < d * d := by rw [n_mul, n_lt (by omega) (by omega)]
      have l1 : (nN R ≤ (1 : Int32)) ↔ R ≤ 1 := by rw [show (1 : Int32) = nN 1 from rfl, n_le (by omega) (by omega)]
      have l6 : ((6 : Int32) ≤ nN r) ↔ 6 ≤ r := by rw [show (6 : Int32) = nN 6 from rfl, n_le (by omega) (by omega)]
      have e0 : (nN d = 0) ↔ d = 0 := by rw [show (0 : Int32) = nN 0 from rfl, n_eq (by omega) (by omega)]
      have em : ((nN R - nN R / nN d * nN d) = 0) ↔ R % d = 0 := by rw [n_rem (by omega) (by omega) (by omega), show (0 : Int32) = nN 0 from rfl, n_eq (by have := Nat.mod_le R d; omega) (by omega)]
      have er : nN r + 1 = nN (r + 1) := n_add _ 1
      have ed : nN d + 1 = nN (d + 1) := n_add _ 1
      rw [lr, l1, l6, em, er, ed, n_nat (a := r) (by omega)]
      refine ⟨fun c => ⟨fun c2 => ?_, fun c2 => ?_⟩, fun c => ⟨fun z => absurd (e0.mp z) (by omega), fun c2 => ?_, fun c2 => ?_⟩⟩
      · refine h r A g8 g10 (fun p hp hpv => ?_)
        rcases g11 p hp hpv with z | z
        · have := Nat.le_of_dvd g4 z
          have := hp.1
          omega
        · exact z
      · have hdR : d ≤ R := by
          rcases Nat.lt_or_ge R d with z | z
          · exact absurd (Nat.dvd_refl R) (g6 R (by omega) z)
          · exact z
        have hr6 := few R 1 (by omega) hdR (Nat.dvd_refl R) (by omega) (by omega)
        have hpR : pri R := by
          refine prm R (by omega) (Nat.dvd_refl R) (fun e he1 he2 he3 => ?_)
          have hed : d ≤ e := by
            rcases Nat.lt_or_ge e d with z | z
            · exact absurd he3 (g6 e he1 z)
            · exact z
          obtain ⟨f, hf⟩ := he3
          have hf0 : f ≠ 0 := by intro z; rw [z] at hf; omega
          have hf1 : f ≠ 1 := by intro z; rw [z] at hf; omega
          have hfd : d ≤ f := by
            rcases Nat.lt_or_ge f d with z | z
            · exact absurd (⟨e, by rw [hf, Nat.mul_comm]⟩ : f ∣ R) (g6 f (by omega) z)
            · exact z
          have := Nat.mul_le_mul hed hfd
          omega
        refine ⟨fun z => absurd z (Nat.not_le.mpr hr6), fun _ => ⟨n_in (by omega) (by omega), ?_⟩⟩
        refine h (r + 1) _ (by omega) (fun i hi => ?_) (fun p hp hpv => ?_)
        · unfold upd
          by_cases e : i = r
          · rw [if_pos e]; exact ⟨R, rfl, hpR, g5⟩
          · rw [if_neg e]; exact g10 i (by omega)
        · rcases g11 p hp hpv with z | ⟨i, z1, z2⟩
          · rcases hpR.2 p z with e | e
            · have := hp.1; omega
            · exact ⟨r, by omega, by unfold upd; rw [if_pos rfl, e]⟩
          · exact ⟨i, by omega, by unfold upd; rw [if_neg (by omega)]; exact z2⟩
      · have hdR := Nat.dvd_of_mod_eq_zero c2
        have hdR2 := Nat.le_of_dvd g4 hdR
        obtain ⟨y, hy⟩ := hdR
        have hdR := Nat.dvd_of_mod_eq_zero c2
        have hy1 : 1 ≤ y := Nat.pos_of_ne_zero (fun e => by rw [e] at hy; omega)
        have hr6 := few d y g2 (Nat.le_refl d) hdR hy1 (by omega)
        have hpd : pri d := prm d g2 hdR g6
        refine ⟨fun z => absurd z (Nat.not_le.mpr hr6), fun _ => ⟨n_in (by omega) (by omega), ?_⟩⟩
        refine ok_strip (Cc := fun x => k7 (nN (d + 1)) x (nN (r + 1)) (nN v) (upd A r (nN d))) g2 (by omega) g4 (by omega) hdR (fun R' f1 f2 f3 f4 f5 => ?_)
        have hd447 : d ≤ 447 := by
          rcases Nat.lt_or_ge d 448 with z | z
          · omega
          · have := Nat.mul_le_mul z z
            omega
        refine ih (d + 1) R' (r + 1) _ (by omega) (by omega) (by omega) f3 (Nat.dvd_trans f1 g5) (fun q q1 q2 q3 => ?_) (Or.inr ⟨by omega, ?_⟩) (by omega) (room d R' g2 (Nat.le_refl d) hdR f3 f2) (fun i hi => ?_) (fun p hp hpv => ?_)
        · by_cases e : q = d
          · exact f4 (e ▸ q3)
          · exact g6 q q1 (by omega) (Nat.dvd_trans q3 f1)
        · have := big d g2 (Nat.le_refl d) hdR
          omega
        · unfold upd
          by_cases e : i = r
          · rw [if_pos e]; exact ⟨d, rfl, hpd, Nat.dvd_trans hdR g5⟩
          · rw [if_neg e]; exact g10 i (by omega)
        · rcases g11 p hp hpv with z | ⟨i, z1, z2⟩
          · rcases f5 p hp z with z3 | z3
            · exact Or.inl z3
            · rcases hpd.2 p z3 with e | e
              · have := hp.1; omega
              · exact Or.inr ⟨r, by omega, by unfold upd; rw [if_pos rfl, e]⟩
          · exact Or.inr ⟨i, by omega, by unfold upd; rw [if_neg (by omega)]; exact z2⟩
      · have hd447 : d ≤ 447 := by
          rcases Nat.lt_or_ge d 448 with z | z
          · omega
          · have := Nat.mul_le_mul z z
            omega
        refine ih (d + 1) R r A (by omega) (by omega) (by omega) g4 g5 (fun q q1 q2 q3 => ?_) (by omega) g8 g9 g10 g11
        by_cases e : q = d
        · rw [e] at q3; exact c2 (Nat.mod_eq_zero_of_dvd q3)
        · exact g6 q q1 (by omega) q3
  exact key 448 2 v 0 A (by omega) (by omega) (by omega) hv1 (Nat.dvd_refl v) (fun q q1 q2 => by omega) (Or.inl rfl) (by omega) (by simp only [wt]; omega) (fun i hi => by omega) (fun p _ z => Or.inl z)
