/-! MEETINGS that all pass the same sum the same way -/
def sameS (x W room g c : Nat) : Prop := c * g ≤ room ∧ ∀ p, pri p → p ∣ W / g → c ≤ (x / g) % p
def mn (a b : Nat) : Nat := if a < b then a else b
def mx (a b : Nat) : Nat := if a < b then b else a
def al (w a b c : Nat) : Prop := c = 1 ∨ (w = 0 ∧ sameS (mx a b) (a + b) (dist a b / 2) (sh a b) c) ∨ (w = 1 ∧ mx a b ≠ 99999 ∧ sameS (mn a b) (a + b) (99999 - mx a b) (sh a b) c) ∨ (w = 1 ∧ mx a b = 99999 ∧ sameS (mn a b) 99999 (mn a b) (sh a b) c)
theorem mx_swap (a b : Nat) : mx a b = mx b a := by unfold mx; split <;> split <;> omega
theorem mn_swap (a b : Nat) : mn a b = mn b a := by unfold mn; split <;> split <;> omega
theorem al_swap {w a b c : Nat} (h : al w a b c) : al w b a c := by
  unfold al at *
  rw [mx_swap, mn_swap, dist_comm, sh_comm, Nat.add_comm a b] at h
  exact h
theorem held_zero {w a b g : Nat} (ha : a ≤ 99999) : held w a b g 0 = a := by
  unfold held
  rw [Nat.zero_mul]
  split
  · rfl
  · split
    · split <;> omega
    · omega
theorem sh_whole {x y : Nat} (hx : 0 < x) (hy : 0 < y) : sh x y = Nat.gcd x (x + y) ∧ sh x y = Nat.gcd y (x + y) := by
  rw [sh_gcd hx hy]
  refine ⟨?_, ?_⟩
  · rw [Nat.add_comm x y, Nat.gcd_add_self_right]
  · rw [Nat.gcd_add_self_right, Nat.gcd_comm]
theorem same_le {x W room g c : Nat} (hg : 0 < g) (hW : 2 * g ≤ W) (h : sameS x W room g c) : c * g ≤ x := by
  have h2 : 2 ≤ W / g := (Nat.le_div_iff_mul_le hg).mpr hW
  obtain ⟨p, hp, hd⟩ := pri_ex _ _ (Nat.lt_succ_self _) h2
  have h3 := h.2 p hp hd
  have h4 := Nat.mod_le (x / g) p
  exact Nat.le_trans (Nat.mul_le_mul_right g (Nat.le_trans h3 h4)) (Nat.div_mul_le_self x g)
theorem pas0 (d g : Nat) : pas 0 d g = g := by unfold pas; rw [if_neg (by omega), if_neg (by omega)]
theorem pas1 (d g : Nat) : pas 1 d g = g := by unfold pas; rw [if_neg (by omega), if_neg (by omega)]
theorem it0 {lo hi c : Nat} (h0 : 0 < lo) (h : lo < hi) (h9 : hi ≤ 99999) (hs : sameS hi (lo + hi) ((hi - lo) / 2) (sh lo hi) c) : ∀ j, j ≤ c → it 0 lo hi j = (lo + j * sh lo hi, hi - j * sh lo hi) ∧ 2 * (j * sh lo hi) ≤ hi - lo ∧ (j < c → ¬ ringed 0 (it 0 lo hi j)) := by
  have hg := sh_pos h0 (show 0 < hi by omega)
  have hgw := (sh_whole h0 (show 0 < hi by omega)).2
  have step : ∀ j, j < c → 2 * ((j + 1) * sh lo hi) ≤ hi - lo ∧ sh (lo + j * sh lo hi) (hi - j * sh lo hi) = sh lo hi := by
    intro j hj
    have h1 : (j + 1) * sh lo hi ≤ c * sh lo hi := Nat.mul_le_mul_right _ hj
    have h2 := hs.1
    refine ⟨by omega, ?_⟩
    have h3 := keep_g (j := j) hg (show 0 < lo + hi by omega) hgw.symm (fun p hp hd => Nat.lt_of_lt_of_le hj (hs.2 p hp hd))
    rw [Nat.succ_mul j] at h1
    rw [(sh_whole (show 0 < lo + j * sh lo hi by omega) (show 0 < hi - j * sh lo hi by omega)).2, show lo + j * sh lo hi + (hi - j * sh lo hi) = lo + hi by omega]
    exact h3
  have main : ∀ j, j ≤ c → it 0 lo hi j = (lo + j * sh lo hi, hi - j * sh lo hi) := by
    intro j
    induction j with
    | zero => intro _; simp only [it, Nat.zero_mul, Nat.add_zero, Nat.sub_zero]
    | succ j ih =>
      intro hj
      obtain ⟨s1, s2⟩ := step j hj
      rw [Nat.succ_mul j] at s1
      obtain ⟨m1, m2⟩ := mt_lo (w := 0) (by omega) (by omega) (show 0 < lo + j * sh lo hi by omega) (show lo + j * sh lo hi < hi - j * sh lo hi by omega) (by omega)
      show (mt 0 (it 0 lo hi j).1 (it 0 lo hi j).2, mt 0 (it 0 lo hi j).2 (it 0 lo hi j).1) = _
      rw [ih (by omega)]
      show (mt 0 (lo + j * sh lo hi) (hi - j * sh lo hi), mt 0 (hi - j * sh lo hi) (lo + j * sh lo hi)) = _
      rw [m1, m2, s2, pas0, Nat.succ_mul j]
      congr 1 <;> omega
  intro j hj
  refine ⟨main j hj, ?_, fun hjc => ?_⟩
  · have h1 : j * sh lo hi ≤ c * sh lo hi := Nat.mul_le_mul_right _ hj
    have h2 := hs.1
    omega
  · obtain ⟨s1, s2⟩ := step j hjc
    rw [Nat.succ_mul j] at s1
    rw [main j hj]
    have hnf : ¬ fixd 0 (lo + j * sh lo hi) (hi - j * sh lo hi) := by
      rw [still_iff (by omega) (by omega) (by omega), s2]; omega
    rintro (z | z)
    · exact hnf z
    · have := ((flip_iff (by omega) (show lo + j * sh lo hi ≤ 99999 by omega) (show hi - j * sh lo hi ≤ 99999 by omega) hnf).mp z).1
      rw [s2, dist_lt (by omega)] at this
      omega
theorem it1 {lo hi c : Nat} (h0 : 0 < lo) (h : lo < hi) (h9 : hi ≤ 99999) (hs : (hi ≠ 99999 ∧ sameS lo (lo + hi) (99999 - hi) (sh lo hi) c) ∨ (hi = 99999 ∧ sameS lo 99999 lo (sh lo hi) c)) : ∀ j, j ≤ c → it 1 lo hi j = (lo - j * sh lo hi, if hi + j * sh lo hi < 99999 then hi + j * sh lo hi else 99999) ∧ j * sh lo hi ≤ lo ∧ (j < c → ¬ ringed 1 (it 1 lo hi j)) := by
  have hg := sh_pos h0 (show 0 < hi by omega)
  have hl := sh_le_l lo hi
  have hc : c * sh lo hi ≤ lo := by
    rcases hs with ⟨_, hs⟩ | ⟨_, hs⟩
    · exact same_le hg (by omega) hs
    · exact hs.1
  have step : ∀ j, j < c → (j + 1) * sh lo hi ≤ lo ∧ sh (lo - j * sh lo hi) (if hi + j * sh lo hi < 99999 then hi + j * sh lo hi else 99999) = sh lo hi := by
    intro j hj
    have h1 : (j + 1) * sh lo hi ≤ c * sh lo hi := Nat.mul_le_mul_right _ hj
    refine ⟨by omega, ?_⟩
    have h1' := h1
    rw [Nat.succ_mul j] at h1'
    rcases hs with ⟨e, hs⟩ | ⟨e, hs⟩
    · have h2 := hs.1
      have h3 := keep_g (j := j) hg (show 0 < lo + hi by omega) (sh_whole h0 (show 0 < hi by omega)).1.symm (fun p hp hd => Nat.lt_of_lt_of_le hj (hs.2 p hp hd))
      have e2 : (if hi + j * sh lo hi < 99999 then hi + j * sh lo hi else 99999) = hi + j * sh lo hi := by split <;> omega
      rw [e2, (sh_whole (show 0 < lo - j * sh lo hi by omega) (show 0 < hi + j * sh lo hi by omega)).1, show lo - j * sh lo hi + (hi + j * sh lo hi) = lo + hi by omega]
      exact h3
    · have h3 := keep_g (j := j) hg (show 0 < 99999 by omega) (show Nat.gcd lo 99999 = sh lo hi by rw [sh_gcd h0 (by omega), e]) (fun p hp hd => Nat.lt_of_lt_of_le hj (hs.2 p hp hd))
      rw [if_neg (by omega), sh_gcd (by omega) (by omega)]
      exact h3
  have main : ∀ j, j ≤ c → it 1 lo hi j = (lo - j * sh lo hi, if hi + j * sh lo hi < 99999 then hi + j * sh lo hi else 99999) := by
    intro j
    induction j with
    | zero =>
      intro _
      simp only [it, Nat.zero_mul, Nat.add_zero, Nat.sub_zero]
      congr 1
      split <;> omega
    | succ j ih =>
      intro hj
      obtain ⟨s1, s2⟩ := step j hj
      rw [Nat.succ_mul j] at s1
      have hb : lo - j * sh lo hi < (if hi + j * sh lo hi < 99999 then hi + j * sh lo hi else 99999) := by split <;> omega
      obtain ⟨m1, m2⟩ := mt_one (show 0 < lo - j * sh lo hi by omega) hb
      show (mt 1 (it 1 lo hi j).1 (it 1 lo hi j).2, mt 1 (it 1 lo hi j).2 (it 1 lo hi j).1) = _
      rw [ih (by omega)]
      show (mt 1 (lo - j * sh lo hi) (if hi + j * sh lo hi < 99999 then hi + j * sh lo hi else 99999), mt 1 (if hi + j * sh lo hi < 99999 then hi + j * sh lo hi else 99999) (lo - j * sh lo hi)) = _
      rw [m1, m2, s2, Nat.succ_mul j]
      congr 1
      · omega
      · split <;> split <;> split <;> omega
  intro j hj
  refine ⟨main j hj, ?_, fun hjc => ?_⟩
  · have h1 : j * sh lo hi ≤ c * sh lo hi := Nat.mul_le_mul_right _ hj
    omega
  · obtain ⟨s1, s2⟩ := step j hjc
    rw [Nat.succ_mul j] at s1
    rw [main j hj]
    have hb : lo - j * sh lo hi < (if hi + j * sh lo hi < 99999 then hi + j * sh lo hi else 99999) := by split <;> omega
    have hb9 : (if hi + j * sh lo hi < 99999 then hi + j * sh lo hi else 99999) ≤ 99999 := by split <;> omega
    have hnf : ¬ fixd 1 (lo - j * sh lo hi) (if hi + j * sh lo hi < 99999 then hi + j * sh lo hi else 99999) := by
      rw [still_iff (by omega) (by omega) hb9, s2]; omega
    rintro (z | z)
    · exact hnf z
    · have := ((flip_iff (by omega) (show lo - j * sh lo hi ≤ 99999 by omega) hb9 hnf).mp z).2
      omega
/-- so many MEETINGS in one -/
def many (w a b c j : Nat) : Prop := it w a b j = (held w a b (sh a b) j, held w b a (sh b a) j) ∧ (j < c → ¬ ringed w (it w a b j)) ∧ j * pas w (dist a b) (sh a b) ≤ 99999 ∧ (¬ ((a ≤ b ∧ w ≠ 1) ∨ (b < a ∧ w = 1)) → j * pas w (dist a b) (sh a b) ≤ a) ∧ (¬ ((b ≤ a ∧ w ≠ 1) ∨ (a < b ∧ w = 1)) → j * pas w (dist a b) (sh a b) ≤ b)
theorem many_swap {w a b c j : Nat} (h : many w a b c j) : many w b a c j := by
  obtain ⟨h1, h2, h3, h4, h5⟩ := h
  unfold many
  rw [it_swap w a b, h1, dist_comm, sh_comm b a]
  refine ⟨rfl, fun hj => ?_, h3, h5, h4⟩
  have := h2 hj
  rw [h1] at this
  rw [sh_comm b a] at this
  exact fun z => this ((ringed_swap w _ _).mp z)
theorem al_lo {w lo hi c : Nat} (hw : w ≤ 3) (h0 : 0 < lo) (h : lo < hi) (h9 : hi ≤ 99999) (hn : ¬ ringed w (lo, hi)) (hal : al w lo hi c) : ∀ j, j ≤ c → many w lo hi c j := by
  have hg := sh_pos h0 (show 0 < hi by omega)
  have hl := sh_le_l lo hi
  have emx : mx lo hi = hi := by unfold mx; rw [if_pos h]
  have emn : mn lo hi = lo := by unfold mn; rw [if_pos h]
  unfold al at hal
  rw [emx, emn, dist_lt h] at hal
  intro j hj
  unfold many
  rw [sh_comm hi lo, dist_lt h]
  rcases hal with rfl | ⟨rfl, hs⟩ | hs
  · have : j = 0 ∨ j = 1 := by omega
    have ps := pas_small (w := w) (show lo ≤ 99999 by omega) h9
    rw [dist_lt h] at ps
    rcases this with rfl | rfl
    · rw [held_zero (by omega), held_zero (by omega), Nat.zero_mul]
      exact ⟨rfl, fun _ => hn, by omega, fun _ => by omega, fun _ => by omega⟩
    · rw [Nat.one_mul]
      refine ⟨?_, fun z => by omega, ps, fun z => ?_, fun z => ?_⟩
      · show (mt w lo hi, mt w hi lo) = _
        unfold mt
        rw [sh_comm hi lo]
      · have := pas_lose z; rwa [dist_lt h] at this
      · have := pas_lose z; rwa [dist_comm, sh_comm, dist_lt h] at this
  · obtain ⟨q1, q2, q3⟩ := it0 h0 h h9 hs j hj
    rw [pas0]
    refine ⟨?_, q3, by omega, fun z => by omega, fun z => by omega⟩
    rw [q1]
    unfold held
    rw [pas0, pas0, if_neg (show ¬ (lo = hi ∨ sh lo hi = 0) by omega), if_pos (show (lo ≤ hi ∧ 0 ≠ 1) ∨ (hi < lo ∧ 0 = 1) by omega), if_neg (show ¬ (hi = lo ∨ sh lo hi = 0) by omega), if_neg (show ¬ ((hi ≤ lo ∧ 0 ≠ 1) ∨ (lo < hi ∧ 0 = 1)) by omega)]
    congr 1
    split <;> omega
  · have hw1 : w = 1 := by omega
    subst hw1
    obtain ⟨q1, q2, q3⟩ := it1 h0 h h9 (c := c) (by rcases hs with hs | hs; exact Or.inl hs.2; exact Or.inr hs.2) j hj
    rw [pas1]
    refine ⟨?_, q3, by omega, fun z => by omega, fun z => by omega⟩
    rw [q1]
    unfold held
    rw [pas1, pas1, if_neg (show ¬ (lo = hi ∨ sh lo hi = 0) by omega), if_neg (show ¬ ((lo ≤ hi ∧ 1 ≠ 1) ∨ (hi < lo ∧ 1 = 1)) by omega), if_neg (show ¬ (hi = lo ∨ sh lo hi = 0) by omega), if_pos (show ((hi ≤ lo ∧ 1 ≠ 1) ∨ (lo < hi ∧ 1 = 1)) by omega)]
theorem al_ok {w a b c : Nat} (hw : w ≤ 3) (ha : a ≤ 99999) (hb : b ≤ 99999) (hn : ¬ ringed w (a, b)) (hal : al w a b c) : ∀ j, j ≤ c → many w a b c j := by
  obtain ⟨p1, p2, p3, p4⟩ := pos_of hw ha hb (fun z => hn (Or.inl z))
  intro j hj
  rcases Nat.lt_or_ge a b with q | q
  · exact al_lo hw p1 q hb hn hal j hj
  · exact many_swap (al_lo hw p2 (by omega) ha (fun z => hn ((ringed_swap w b a).mp z)) (al_swap hal) j hj)
