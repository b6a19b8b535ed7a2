/-! two who MEET again and again -/
def it (w a b : Nat) : Nat → Nat × Nat
  | 0 => (a, b)
  | j + 1 => (mt w (it w a b j).1 (it w a b j).2, mt w (it w a b j).2 (it w a b j).1)
def fixd (w a b : Nat) : Prop := mt w a b = a ∧ mt w b a = b
def flips (w a b : Nat) : Prop := mt w (mt w a b) (mt w b a) = a ∧ mt w (mt w b a) (mt w a b) = b
def ringed (w : Nat) (s : Nat × Nat) : Prop := fixd w s.1 s.2 ∨ flips w s.1 s.2
theorem it_le {w a b : Nat} (ha : a ≤ 99999) (hb : b ≤ 99999) : ∀ j, (it w a b j).1 ≤ 99999 ∧ (it w a b j).2 ≤ 99999
  | 0 => ⟨ha, hb⟩
  | j + 1 => ⟨mt_le (it_le ha hb j).1, mt_le (it_le ha hb j).2⟩
theorem it_swap (w a b : Nat) : ∀ j, it w b a j = ((it w a b j).2, (it w a b j).1)
  | 0 => rfl
  | j + 1 => by simp only [it, it_swap w a b j]
theorem it_add (w a b m : Nat) : ∀ j, it w a b (m + j) = it w (it w a b m).1 (it w a b m).2 j
  | 0 => rfl
  | j + 1 => by
    show (mt w (it w a b (m + j)).1 (it w a b (m + j)).2, mt w (it w a b (m + j)).2 (it w a b (m + j)).1) = _
    rw [it_add w a b m j]; rfl
theorem fixd_swap (w a b : Nat) : fixd w a b ↔ fixd w b a := And.comm
theorem flips_swap (w a b : Nat) : flips w a b ↔ flips w b a := And.comm
theorem ringed_swap (w a b : Nat) : ringed w (a, b) ↔ ringed w (b, a) := by
  show fixd w a b ∨ flips w a b ↔ fixd w b a ∨ flips w b a
  rw [fixd_swap, flips_swap]
theorem sh_gcd {a b : Nat} (ha : 0 < a) (hb : 0 < b) : sh a b = Nat.gcd a b := by unfold sh; rw [if_neg (by omega)]
theorem dist_lt {a b : Nat} (h : a < b) : dist a b = b - a := by unfold dist; rw [if_pos (by omega)]
theorem sh_k {lo hi : Nat} (h0 : 0 < lo) (h : lo < hi) : ∃ k, hi - lo = sh lo hi * k ∧ 1 ≤ k := by
  rw [sh_gcd h0 (by omega)]
  obtain ⟨k, hk⟩ := Nat.dvd_sub (Nat.gcd_dvd_right lo hi) (Nat.gcd_dvd_left lo hi)
  exact ⟨k, hk, Nat.pos_of_ne_zero (fun e => by rw [e] at hk; omega)⟩
theorem pas_half {w lo hi : Nat} (hw : w ≤ 3) (hw1 : w ≠ 1) (h0 : 0 < lo) (h : lo < hi) : pas w (hi - lo) (sh lo hi) ≤ hi - lo ∧ (2 * pas w (hi - lo) (sh lo hi) ≤ hi - lo ∨ (hi - lo = sh lo hi ∧ (w = 0 ∨ w = 3) ∧ pas w (hi - lo) (sh lo hi) = hi - lo)) := by
  obtain ⟨k, hk, hk1⟩ := sh_k h0 h
  have hg := sh_pos h0 (show 0 < hi by omega)
  generalize sh lo hi = g at *
  generalize hi - lo = d at *
  subst hk
  have hgk : g * 1 ≤ g * k := Nat.mul_le_mul_left g hk1
  unfold pas
  by_cases h2 : w = 2
  · rw [if_pos h2]
    omega
  · rw [if_neg h2]
    by_cases hk2 : k = 1
    · subst hk2
      rw [Nat.mul_one, Nat.div_self hg]
      by_cases h3 : w = 3
      · rw [if_pos h3, if_neg (by omega), Nat.mul_one]; omega
      · rw [if_neg h3]; omega
    · have hg2 : g * 2 ≤ g * k := Nat.mul_le_mul_left g (by omega)
      by_cases h3 : w = 3
      · rw [if_pos h3, Nat.mul_div_cancel_left k hg]
        have hh : g * (2 * (k / 2)) ≤ g * k := Nat.mul_le_mul_left g (by omega)
        have e : g * (2 * (k / 2)) = 2 * (g * (k / 2)) := by rw [← Nat.mul_assoc, Nat.mul_comm g 2, Nat.mul_assoc]
        split <;> omega
      · rw [if_neg h3]; omega
theorem mt_lo {w lo hi : Nat} (hw : w ≤ 3) (hw1 : w ≠ 1) (h0 : 0 < lo) (h : lo < hi) (h9 : hi ≤ 99999) : mt w lo hi = lo + pas w (hi - lo) (sh lo hi) ∧ mt w hi lo = hi - pas w (hi - lo) (sh lo hi) := by
  have hh := (pas_half hw hw1 h0 h).1
  have hg := sh_pos h0 (show 0 < hi by omega)
  unfold mt held
  rw [dist_comm hi lo, sh_comm hi lo, dist_lt h, Nat.one_mul]
  rw [if_neg (show ¬ (lo = hi ∨ sh lo hi = 0) by omega), if_pos (show (lo ≤ hi ∧ w ≠ 1) ∨ (hi < lo ∧ w = 1) by omega), if_neg (show ¬ (hi = lo ∨ sh lo hi = 0) by omega), if_neg (show ¬ ((hi ≤ lo ∧ w ≠ 1) ∨ (lo < hi ∧ w = 1)) by omega)]
  refine ⟨?_, rfl⟩
  split <;> omega
theorem mt_one {lo hi : Nat} (h0 : 0 < lo) (h : lo < hi) : mt 1 lo hi = lo - sh lo hi ∧ mt 1 hi lo = (if hi + sh lo hi < 99999 then hi + sh lo hi else 99999) := by
  have hg := sh_pos h0 (show 0 < hi by omega)
  have p1 : ∀ d g, pas 1 d g = g := fun d g => by unfold pas; rw [if_neg (by omega), if_neg (by omega)]
  unfold mt held
  rw [if_neg (by omega), if_neg (by omega), if_neg (by rw [sh_comm hi lo]; omega), if_pos (by omega), p1, p1, sh_comm hi lo, Nat.one_mul]
  exact ⟨rfl, rfl⟩
theorem mt_down {w a b : Nat} (h : ¬ ((a ≤ b ∧ w ≠ 1) ∨ (b < a ∧ w = 1))) : mt w a b ≤ a := by
  unfold mt held
  split
  · omega
  · omega
theorem pas_zero {w lo hi : Nat} (hg : 0 < sh lo hi) : pas w (hi - lo) (sh lo hi) = 0 ↔ w = 2 ∧ sh lo hi = 1 := by
  by_cases h2 : w = 2
  · unfold pas; rw [if_pos h2]; omega
  · have := pas_pos (d := hi - lo) h2 hg
    omega
theorem still_lo {w lo hi : Nat} (hw : w ≤ 3) (h0 : 0 < lo) (h : lo < hi) (h9 : hi ≤ 99999) : fixd w lo hi ↔ w = 2 ∧ sh lo hi = 1 := by
  have hg := sh_pos h0 (show 0 < hi by omega)
  have hl := sh_le_l lo hi
  unfold fixd
  by_cases hw1 : w = 1
  · subst hw1
    rw [(mt_one h0 h).1]
    omega
  · rw [(mt_lo hw hw1 h0 h h9).1, (mt_lo hw hw1 h0 h h9).2, ← pas_zero hg]
    omega
theorem still_iff {w a b : Nat} (hw : w ≤ 3) (ha : a ≤ 99999) (hb : b ≤ 99999) : fixd w a b ↔ a = b ∨ sh a b = 0 ∨ (w = 2 ∧ sh a b = 1) := by
  by_cases e : a = b
  · subst e
    exact ⟨fun _ => Or.inl rfl, fun _ => ⟨mt_none (Or.inl rfl), mt_none (Or.inl rfl)⟩⟩
  · by_cases z : sh a b = 0
    · exact ⟨fun _ => Or.inr (Or.inl z), fun _ => ⟨mt_none (Or.inr z), mt_none (Or.inr (by rw [sh_comm]; exact z))⟩⟩
    · have hp : 0 < a ∧ 0 < b := by
        unfold sh at z
        by_cases q : a = 0 ∨ b = 0
        · rw [if_pos q] at z; exact absurd rfl z
        · omega
      rcases Nat.lt_or_ge a b with q | q
      · rw [still_lo hw hp.1 q hb]; omega
      · rw [fixd_swap, still_lo hw hp.2 (by omega) ha, sh_comm b a]; omega
theorem flip_lo {w lo hi : Nat} (hw : w ≤ 3) (h0 : 0 < lo) (h : lo < hi) (h9 : hi ≤ 99999) (hn : ¬ fixd w lo hi) : flips w lo hi ↔ hi - lo = sh lo hi ∧ (w = 0 ∨ w = 3) := by
  have hg := sh_pos h0 (show 0 < hi by omega)
  have hl := sh_le_l lo hi
  rw [still_lo hw h0 h h9] at hn
  by_cases hw1 : w = 1
  · subst hw1
    refine ⟨fun hf => ?_, fun hf => by omega⟩
    have h1 := hf.1
    have h2 : mt 1 (mt 1 lo hi) (mt 1 hi lo) ≤ mt 1 lo hi := by
      apply mt_down
      rw [(mt_one h0 h).1, (mt_one h0 h).2]
      split <;> omega
    rw [(mt_one h0 h).1] at h2
    rw [(mt_one h0 h).1] at h1
    omega
  · obtain ⟨m1, m2⟩ := mt_lo hw hw1 h0 h h9
    obtain ⟨p1, p2⟩ := pas_half hw hw1 h0 h
    have hz := pas_zero (w := w) hg
    rcases p2 with p2 | ⟨q1, q2, q3⟩
    · refine ⟨fun hf => ?_, fun hf => ?_⟩
      · have h1 := hf.1
        have h2 : mt w lo hi ≤ mt w (mt w lo hi) (mt w hi lo) := mt_ge (by rw [m1]; omega) (Or.inl ⟨by rw [m1, m2]; omega, hw1⟩)
        rw [h1, m1] at h2
        omega
      · have e : pas w (hi - lo) (sh lo hi) = hi - lo := by
          rw [← hf.1]
          unfold pas
          rw [Nat.div_self (by omega)]
          rcases hf.2 with e | e
          · rw [if_neg (by omega), if_neg (by omega)]
          · rw [if_neg (by omega), if_pos e, if_neg (by omega), Nat.mul_one]
        omega
    · refine ⟨fun _ => ⟨q1, q2⟩, fun _ => ?_⟩
      unfold flips
      rw [m1, m2, q3, show lo + (hi - lo) = hi by omega, show hi - (hi - lo) = lo by omega, m1, m2, q3]
      omega
theorem pos_of {w a b : Nat} (hw : w ≤ 3) (ha : a ≤ 99999) (hb : b ≤ 99999) (hn : ¬ fixd w a b) : 0 < a ∧ 0 < b ∧ a ≠ b ∧ sh a b ≠ 0 := by
  rw [still_iff hw ha hb] at hn
  have z : sh a b ≠ 0 := by omega
  have hp : 0 < a ∧ 0 < b := by
    unfold sh at z
    by_cases q : a = 0 ∨ b = 0
    · rw [if_pos q] at z; exact absurd rfl z
    · omega
  omega
theorem flip_iff {w a b : Nat} (hw : w ≤ 3) (ha : a ≤ 99999) (hb : b ≤ 99999) (hn : ¬ fixd w a b) : flips w a b ↔ dist a b = sh a b ∧ (w = 0 ∨ w = 3) := by
  obtain ⟨p1, p2, p3, p4⟩ := pos_of hw ha hb hn
  rcases Nat.lt_or_ge a b with q | q
  · rw [flip_lo hw p1 q hb hn, dist_lt q]
  · rw [flips_swap, flip_lo hw p2 (by omega) ha (by rw [fixd_swap]; exact hn), dist_comm, dist_lt (show b < a by omega), sh_comm b a]
def ms (w a b : Nat) : Nat := if w = 1 then (if a < b then a else b) else dist a b
theorem ms_swap (w a b : Nat) : ms w a b = ms w b a := by
  unfold ms
  rw [dist_comm]
  split
  · split <;> split <;> omega
  · rfl
theorem ms_le {w a b : Nat} (ha : a ≤ 99999) (hb : b ≤ 99999) : ms w a b ≤ 99999 := by
  unfold ms dist
  split
  · split <;> omega
  · split <;> omega
theorem ms_lo {w lo hi : Nat} (hw : w ≤ 3) (h0 : 0 < lo) (h : lo < hi) (h9 : hi ≤ 99999) (hn : ¬ ringed w (lo, hi)) : ms w (mt w lo hi) (mt w hi lo) < ms w lo hi := by
  have hn1 : ¬ fixd w lo hi := fun z => hn (Or.inl z)
  have hn2 : ¬ flips w lo hi := fun z => hn (Or.inr z)
  rw [flip_lo hw h0 h h9 hn1] at hn2
  rw [still_lo hw h0 h h9] at hn1
  have hg := sh_pos h0 (show 0 < hi by omega)
  have hl := sh_le_l lo hi
  unfold ms
  by_cases hw1 : w = 1
  · subst hw1
    rw [if_pos rfl, if_pos rfl, if_pos h, (mt_one h0 h).1, (mt_one h0 h).2]
    rw [if_pos]
    · omega
    · split <;> omega
  · obtain ⟨m1, m2⟩ := mt_lo hw hw1 h0 h h9
    obtain ⟨p1, p2⟩ := pas_half hw hw1 h0 h
    have hz := pas_zero (w := w) hg
    rw [if_neg hw1, if_neg hw1, m1, m2, dist_lt h]
    unfold dist
    split <;> omega
theorem ms_less {w a b : Nat} (hw : w ≤ 3) (ha : a ≤ 99999) (hb : b ≤ 99999) (hn : ¬ ringed w (a, b)) : ms w (mt w a b) (mt w b a) < ms w a b := by
  obtain ⟨p1, p2, p3, p4⟩ := pos_of hw ha hb (fun z => hn (Or.inl z))
  rcases Nat.lt_or_ge a b with q | q
  · exact ms_lo hw p1 q hb hn
  · rw [ms_swap w (mt w a b), ms_swap w a b]
    exact ms_lo hw p2 (by omega) ha (fun z => hn ((ringed_swap w b a).mp z))
theorem it_ms {w a b : Nat} (hw : w ≤ 3) (ha : a ≤ 99999) (hb : b ≤ 99999) : ∀ m, (∀ j, j < m → ¬ ringed w (it w a b j)) → m + ms w (it w a b m).1 (it w a b m).2 ≤ ms w a b
  | 0, _ => by show 0 + ms w a b ≤ ms w a b; omega
  | m + 1, h => by
    have h1 := it_ms hw ha hb m (fun j hj => h j (by omega))
    have h2 := ms_less hw (it_le ha hb m).1 (it_le ha hb m).2 (h m (by omega))
    show m + 1 + ms w (mt w (it w a b m).1 (it w a b m).2) (mt w (it w a b m).2 (it w a b m).1) ≤ ms w a b
    omega
theorem it_short {w a b m : Nat} (hw : w ≤ 3) (ha : a ≤ 99999) (hb : b ≤ 99999) (h : ∀ j, j < m → ¬ ringed w (it w a b j)) : m ≤ 99999 := by
  have := it_ms hw ha hb m h
  have := ms_le (w := w) ha hb
  omega
