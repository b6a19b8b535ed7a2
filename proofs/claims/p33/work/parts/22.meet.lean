/-! a MEETING of two: what one has then -/
def dist (a b : Nat) : Nat := if a ≤ b then b - a else a - b
def pas (w d g : Nat) : Nat := if w = 2 then g / 2 else if w = 3 then g * (if 1 < d / g / 2 then d / g / 2 else 1) else g
def held (w a b g t : Nat) : Nat := if a = b ∨ g = 0 then a else if (a ≤ b ∧ w ≠ 1) ∨ (b < a ∧ w = 1) then (if a + t * pas w (dist a b) g < 99999 then a + t * pas w (dist a b) g else 99999) else a - t * pas w (dist a b) g
def mt (w a b : Nat) : Nat := held w a b (sh a b) 1
theorem dist_comm (a b : Nat) : dist a b = dist b a := by unfold dist; split <;> split <;> omega
theorem pas_le (w d g : Nat) : pas w d g ≤ g ∨ pas w d g ≤ d := by
  unfold pas
  split
  · left; omega
  · split
    · split
      · right
        have h1 : g * (d / g / 2) ≤ g * (d / g) := Nat.mul_le_mul_left g (Nat.div_le_self _ _)
        have h2 := Nat.mul_div_le d g
        omega
      · left; omega
    · left; omega
theorem pas_lose {w a b : Nat} (h : ¬ ((a ≤ b ∧ w ≠ 1) ∨ (b < a ∧ w = 1))) : pas w (dist a b) (sh a b) ≤ a := by
  by_cases hw : w = 1
  · subst hw
    have := sh_le_l a b
    unfold pas
    rw [if_neg (by decide), if_neg (by decide)]
    exact this
  · have hab : b < a := by omega
    have h1 := sh_le_l a b
    have h2 : dist a b ≤ a := by unfold dist; split <;> omega
    rcases pas_le w (dist a b) (sh a b) with h | h <;> omega
theorem pas_small {w a b : Nat} (ha : a ≤ 99999) (hb : b ≤ 99999) : pas w (dist a b) (sh a b) ≤ 99999 := by
  have h1 := sh_le_l a b
  have h2 : dist a b ≤ 99999 := by unfold dist; split <;> omega
  rcases pas_le w (dist a b) (sh a b) with h | h <;> omega
theorem held_le {w a b g t : Nat} (ha : a ≤ 99999) : held w a b g t ≤ 99999 := by
  unfold held; split
  · exact ha
  · split
    · split <;> omega
    · omega
theorem mt_le {w a b : Nat} (ha : a ≤ 99999) : mt w a b ≤ 99999 := held_le ha
theorem ok_sumPassed {w d g : Nat} {Post : Int32 → Prop} (hw : w ≤ 3) (hd : d ≤ 99999) (hg : g ≤ 99999) (hg0 : 0 < g) (h : Post (nN (pas w d g))) : wp_X8_sumPassed (nN w) (nN d) (nN g) Post := by
  unfold wp_X8_sumPassed
  unfold pas at h
  have e2 : (nN w = (2 : Int32)) ↔ w = 2 := by rw [show (2 : Int32) = nN 2 from rfl, n_eq (by omega) (by omega)]
  have e3 : (nN w = (3 : Int32)) ↔ w = 3 := by rw [show (3 : Int32) = nN 3 from rfl, n_eq (by omega) (by omega)]
  have eg : (nN g = 0) ↔ g = 0 := by rw [show (0 : Int32) = nN 0 from rfl, n_eq (by omega) (by omega)]
  have el : (nN g ≤ 0) ↔ g = 0 := by rw [show (0 : Int32) = nN 0 from rfl, n_le (by omega) (by omega)]; omega
  rw [e2, e3, eg, el]
  refine ⟨fun c2 => ⟨fun c3 => ?_, fun c3 => ⟨fun c => by omega, fun _ => ⟨by omega, fun r hr => ?_⟩⟩⟩, fun c2 => ?_⟩
  · rw [if_neg c2, if_neg c3] at h; exact h
  · rw [if_neg c2, if_pos c3] at h
    have hq : d / g ≤ d := Nat.div_le_self _ _
    rw [n_div (by omega) (by omega) (by omega), show (2 : Int32) = nN 2 from rfl, n_div (by omega) (by omega) (by omega), show (1 : Int32) = nN 1 from rfl] at hr
    have hlt : (nN 1 < nN (d / g / 2)) ↔ 1 < d / g / 2 := n_lt (by omega) (by omega)
    have e : r = nN (if 1 < d / g / 2 then d / g / 2 else 1) := by
      rw [hr]
      by_cases hc : 1 < d / g / 2
      · rw [if_pos (hlt.mpr hc), if_pos hc]
      · rw [if_neg (fun z => hc (hlt.mp z)), if_neg hc]
    rw [e, n_mul]
    exact h
  · rw [if_pos c2] at h
    rw [show (2 : Int32) = nN 2 from rfl, n_div (by omega) (by omega) (by omega)]
    exact h
theorem ok_heldAfter {w a b g t : Nat} {Post : Int32 → Prop} (hw : w ≤ 3) (ha : a ≤ 99999) (hb : b ≤ 99999) (hg : g ≤ 99999) (hs : t * pas w (dist a b) g ≤ 99999) (hl : ¬ ((a ≤ b ∧ w ≠ 1) ∨ (b < a ∧ w = 1)) → a ≠ b → g ≠ 0 → t * pas w (dist a b) g ≤ a) (h : Post (nN (held w a b g t))) : wp_X8_heldAfter (nN w) (nN a) (nN b) (nN g) (nN t) Post := by
  unfold wp_X8_heldAfter
  unfold held at h
  have eab : (nN a = nN b) ↔ a = b := n_eq (by omega) (by omega)
  have eg : (nN g = 0) ↔ g = 0 := by rw [show (0 : Int32) = nN 0 from rfl, n_eq (by omega) (by omega)]
  have e1 : (nN w = (1 : Int32)) ↔ w = 1 := by rw [show (1 : Int32) = nN 1 from rfl, n_eq (by omega) (by omega)]
  have ele : (nN a ≤ nN b) ↔ a ≤ b := n_le (by omega) (by omega)
  have f1 : ((0 : Int32) = (1 : Int32)) = False := eq_false (by decide)
  have f2 : ((1 : Int32) = (0 : Int32)) = False := eq_false (by decide)
  simp only [eab, eg, e1, ele, f1, f2, eq_self, not_true_eq_false, not_false_eq_true, false_implies, true_implies, and_true, true_and]
  refine ⟨fun c => ?_, fun c => ⟨fun c2 r17 h17 => ?_, fun c2 => ?_⟩⟩
  · rw [if_pos (Or.inl c)] at h; exact h
  · have e17 : r17 = nN (dist a b) := by
      rw [h17, i_sub, show (0 : Int32) = iI 0 from rfl, i_sub]
      unfold dist
      by_cases hab : a ≤ b
      · rw [if_pos hab]
        by_cases hz : (iI 0 ≤ iI ((a : Int) - b))
        · rw [if_pos hz]; rw [i_le (by omega) (by omega) (by omega) (by omega)] at hz; congr 1; omega
        · rw [if_neg hz]; congr 1; omega
      · rw [if_neg hab, if_pos]
        · congr 1; omega
        · rw [i_le (by omega) (by omega) (by omega) (by omega)]; omega
    rw [e17]
    have hd : dist a b ≤ 99999 := by unfold dist; split <;> omega
    refine ok_sumPassed hw hd hg (by omega) ?_
    rw [if_neg (by omega)] at h
    rw [n_mul, n_add]
    have hmin : ∀ r : Int32, r = (if nN (a + t * pas w (dist a b) g) < (99999 : Int32) then nN (a + t * pas w (dist a b) g) else (99999 : Int32)) → r = nN (if a + t * pas w (dist a b) g < 99999 then a + t * pas w (dist a b) g else 99999) := by
      intro r hr
      rw [hr]
      have hlt : (nN (a + t * pas w (dist a b) g) < (99999 : Int32)) ↔ a + t * pas w (dist a b) g < 99999 := by rw [show (99999 : Int32) = nN 99999 from rfl, n_lt (by omega) (by omega)]
      by_cases hc : a + t * pas w (dist a b) g < 99999
      · rw [if_pos (hlt.mpr hc), if_pos hc]
      · rw [if_neg (fun z => hc (hlt.mp z)), if_neg hc]; rfl
    refine ⟨fun c3 => ⟨fun c4 r hr => ?_, fun c4 => ?_⟩, fun c3 => ⟨fun c4 => ?_, fun c4 r hr => ?_⟩⟩
    · rw [if_pos (Or.inl ⟨c3, c4⟩)] at h; rw [hmin r hr]; exact h
    · have hn : ¬ ((a ≤ b ∧ w ≠ 1) ∨ (b < a ∧ w = 1)) := by omega
      rw [if_neg hn] at h
      rw [n_sub (hl hn c c2)]; exact h
    · have hn : ¬ ((a ≤ b ∧ w ≠ 1) ∨ (b < a ∧ w = 1)) := by omega
      rw [if_neg hn] at h
      rw [n_sub (hl hn c c2)]; exact h
    · rw [if_pos (Or.inr ⟨by omega, c4⟩)] at h; rw [hmin r hr]; exact h
  · rw [if_pos (Or.inr c2)] at h; exact h
theorem ok_heldOne {w a b : Nat} {Post : Int32 → Prop} (hw : w ≤ 3) (ha : a ≤ 99999) (hb : b ≤ 99999) (h : Post (nN (mt w a b))) : wp_X8_heldAfter (nN w) (nN a) (nN b) (nN (sh a b)) 1 Post := by
  have hs := sh_le_l a b
  refine ok_heldAfter (t := 1) hw ha hb (by omega) (by rw [Nat.one_mul]; exact pas_small ha hb) (fun hn _ _ => by rw [Nat.one_mul]; exact pas_lose hn) h
/-- by how much the first one has more then -/
def giv (w a b : Nat) : Int := if w = 1 then (if a < b then - (pas w (dist a b) (sh a b) : Int) else pas w (dist a b) (sh a b)) else (if a < b then (pas w (dist a b) (sh a b) : Int) else - (pas w (dist a b) (sh a b) : Int))
theorem mt_int {w a b : Nat} (ha : a ≤ 99999) (hb : b ≤ 99999) (hab : a ≠ b) (hg : sh a b ≠ 0) : 0 ≤ (a : Int) + giv w a b ∧ 0 ≤ (b : Int) - giv w a b ∧ ((mt w a b : Nat) : Int) = (if (a : Int) + giv w a b ≤ 99999 then (a : Int) + giv w a b else 99999) ∧ ((mt w b a : Nat) : Int) = (if (b : Int) - giv w a b ≤ 99999 then (b : Int) - giv w a b else 99999) := by
  have h1 : ¬ ((a ≤ b ∧ w ≠ 1) ∨ (b < a ∧ w = 1)) → pas w (dist a b) (sh a b) ≤ a := pas_lose
  have h2 : ¬ ((b ≤ a ∧ w ≠ 1) ∨ (a < b ∧ w = 1)) → pas w (dist a b) (sh a b) ≤ b := fun h => by rw [dist_comm, sh_comm]; exact pas_lose h
  unfold mt held giv
  rw [if_neg (show ¬ (a = b ∨ sh a b = 0) by omega), if_neg (show ¬ (b = a ∨ sh b a = 0) by rw [sh_comm]; omega), dist_comm b a, sh_comm b a, Nat.one_mul]
  generalize pas w (dist a b) (sh a b) = s at *
  by_cases hw : w = 1
  · rw [if_pos hw]
    by_cases hlt : a < b
    · rw [if_pos hlt, if_neg (show ¬ ((a ≤ b ∧ w ≠ 1) ∨ (b < a ∧ w = 1)) by omega), if_pos (show (b ≤ a ∧ w ≠ 1) ∨ (a < b ∧ w = 1) by omega)]
      have := h1 (by omega)
      refine ⟨by omega, by omega, ?_, ?_⟩
      · split <;> omega
      · split <;> split <;> omega
    · rw [if_neg hlt, if_pos (show (a ≤ b ∧ w ≠ 1) ∨ (b < a ∧ w = 1) by omega), if_neg (show ¬ ((b ≤ a ∧ w ≠ 1) ∨ (a < b ∧ w = 1)) by omega)]
      have := h2 (by omega)
      refine ⟨by omega, by omega, ?_, ?_⟩
      · split <;> split <;> omega
      · split <;> omega
  · rw [if_neg hw]
    by_cases hlt : a < b
    · rw [if_pos hlt, if_pos (show (a ≤ b ∧ w ≠ 1) ∨ (b < a ∧ w = 1) by omega), if_neg (show ¬ ((b ≤ a ∧ w ≠ 1) ∨ (a < b ∧ w = 1)) by omega)]
      have := h2 (by omega)
      refine ⟨by omega, by omega, ?_, ?_⟩
      · split <;> split <;> omega
      · split <;> omega
    · rw [if_neg hlt, if_neg (show ¬ ((a ≤ b ∧ w ≠ 1) ∨ (b < a ∧ w = 1)) by omega), if_pos (show (b ≤ a ∧ w ≠ 1) ∨ (a < b ∧ w = 1) by omega)]
      have := h1 (by omega)
      refine ⟨by omega, by omega, ?_, ?_⟩
      · split <;> omega
      · split <;> split <;> omega
theorem mt_none {w a b : Nat} (h : a = b ∨ sh a b = 0) : mt w a b = a := by unfold mt held; rw [if_pos h]
