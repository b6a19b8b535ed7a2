/-! MAY HOLD -/
def fb : Nat → (Nat → Nat) → (Nat → Nat) → Nat → Bool
  | 0, _, _, _ => true
  | q + 1, U, V, p => fb q U V p && decide (sh p (U q) = V q)
theorem fb_true {p : Nat} {U V : Nat → Nat} : ∀ {q : Nat}, fb q U V p = true ↔ fits q U V p
  | 0 => ⟨fun _ j hj => by omega, fun _ => rfl⟩
  | q + 1 => by
    show (fb q U V p && decide (sh p (U q) = V q)) = true ↔ _
    rw [Bool.and_eq_true, fb_true (q := q), decide_eq_true_iff]
    constructor
    · rintro ⟨h1, h2⟩ j hj
      by_cases e : j = q
      · rw [e]; exact h2
      · exact h1 j (by omega)
    · intro h
      exact ⟨fun j hj => h j (by omega), h q (by omega)⟩
theorem fb_false {q p : Nat} {U V : Nat → Nat} : fb q U V p = false ↔ ¬ fits q U V p := by
  rw [← fb_true]
  cases fb q U V p <;> simp
def tot (f : Nat → Bool) : Nat → Nat
  | 0 => 0
  | c + 1 => tot f c + (if f c = true then 1 else 0)
def lea (f : Nat → Bool) : Nat → Int
  | 0 => -9
  | c + 1 => if f c = true ∧ lea f c = -9 then (c : Int) else lea f c
def gre (f : Nat → Bool) : Nat → Int
  | 0 => -9
  | c + 1 => if f c = true then (c : Int) else gre f c
theorem tot_le (f : Nat → Bool) : ∀ c, tot f c ≤ c
  | 0 => Nat.le_refl 0
  | c + 1 => by
    have := tot_le f c
    unfold tot
    split <;> omega
theorem lea_le (f : Nat → Bool) : ∀ c, -9 ≤ lea f c ∧ lea f c ≤ c
  | 0 => by unfold lea; omega
  | c + 1 => by
    have := lea_le f c
    unfold lea
    split <;> omega
theorem tot_cnt (f : Nat → Bool) : ∀ n, tot f (n + 1) = (if f 0 = true then 1 else 0) + cnt f n
  | 0 => by show 0 + (if f 0 = true then 1 else 0) = (if f 0 = true then 1 else 0) + 0; rw [Nat.zero_add, Nat.add_zero]
  | n + 1 => by
    have := tot_cnt f n
    show tot f (n + 1) + (if f (n + 1) = true then 1 else 0) = (if f 0 = true then 1 else 0) + (cnt f n + (if f (n + 1) = true then 1 else 0))
    omega
theorem lea_none {f : Nat → Bool} : ∀ c, (∀ p, p < c → f p = false) → lea f c = -9
  | 0, _ => rfl
  | c + 1, h => by
    unfold lea
    rw [if_neg (fun z => by rw [h c (by omega)] at z; exact absurd z.1 (by decide))]
    exact lea_none c (fun p hp => h p (by omega))
theorem lea_at {f : Nat → Bool} {l : Nat} (hf : f l = true) (hl : ∀ p, p < l → f p = false) : ∀ c, l < c → lea f c = l
  | 0, h => by omega
  | c + 1, h => by
    unfold lea
    by_cases e : c = l
    · subst e
      rw [if_pos ⟨hf, lea_none c hl⟩]
    · have := lea_at hf hl c (by omega)
      rw [if_neg (fun z => by omega), this]
theorem gre_none {f : Nat → Bool} : ∀ c, (∀ p, p < c → f p = false) → gre f c = -9
  | 0, _ => rfl
  | c + 1, h => by
    unfold gre
    rw [if_neg (fun z => by rw [h c (by omega)] at z; exact absurd z (by decide))]
    exact gre_none c (fun p hp => h p (by omega))
theorem gre_at {f : Nat → Bool} {g : Nat} (hf : f g = true) : ∀ c, g < c → (∀ p, g < p → p < c → f p = false) → gre f c = g
  | 0, h, _ => by omega
  | c + 1, h, h2 => by
    unfold gre
    by_cases e : c = g
    · subst e
      rw [if_pos hf]
    · rw [if_neg (fun z => by rw [h2 c (by omega) (by omega)] at z; exact absurd z (by decide))]
      exact gre_at hf c (by omega) (fun p h3 h4 => h2 p h3 (by omega))
theorem fits_mul {q L f : Nat} {U V prm : Nat → Nat} (hL : 1 ≤ L) (hUV : ∀ j, j < q → 1 ≤ U j ∧ U j ≤ 99999 ∧ V j ≤ 99999) (hV : ∀ j, j < q → V j ≠ 0) (hd : ∀ j, j < q → V j ∣ L ∧ V j ∣ U j) (hpr : ∀ i, i < f → pri (prm i)) (hc : ∀ j, j < q → ∀ r, pri r → r ∣ U j / V j → ¬ r ∣ L / V j ∧ ∃ i, i < f ∧ prm i = r) (hso : ∀ i, i < f → ∃ j, j < q ∧ prm i ∣ U j / V j) {m : Nat} (hm : 1 ≤ m) : fits q U V (L * m) ↔ fre prm f m = true := by
  have hLm : 0 < L * m := Nat.mul_pos hL hm
  rw [fre_iff]
  constructor
  · intro hf i hi hdv
    obtain ⟨j, hj, hju⟩ := hso i hi
    have h1 := hf j hj
    rw [sh_gcd hLm (hUV j hj).1] at h1
    have h2 : V j * prm i ∣ L * m := Nat.mul_dvd_mul (hd j hj).1 hdv
    have h3 : V j * prm i ∣ U j := by
      have := Nat.mul_dvd_mul_left (V j) hju
      rwa [Nat.mul_div_cancel' (hd j hj).2] at this
    have h4 := Nat.dvd_gcd h2 h3
    rw [h1] at h4
    have hv := hV j hj
    have h5 := Nat.le_of_dvd (by omega) h4
    have h6 := Nat.mul_le_mul_left (V j) (hpr i hi).1
    omega
  · intro hf j hj
    rw [sh_gcd hLm (hUV j hj).1]
    have hv : 0 < V j := Nat.pos_of_ne_zero (hV j hj)
    have hu := (hUV j hj).1
    obtain ⟨⟨l, hl⟩, ⟨u, hu2⟩⟩ := hd j hj
    have hcj := hc j hj
    rw [hu2, Nat.mul_div_cancel_left u hv, hl, Nat.mul_div_cancel_left l hv] at hcj
    rw [hu2, hl, Nat.mul_assoc, Nat.gcd_mul_left]
    have : Nat.gcd (l * m) u = 1 := gcd_one (Nat.pos_of_ne_zero (fun e => by rw [e] at hu2; omega)) (fun p hp h1 h2 => by
      obtain ⟨c1, i, c2, c3⟩ := hcj p hp h2
      rcases pri_mul hp h1 with z | z
      · exact c1 z
      · exact hf i c2 (by rw [c3]; exact z))
    rw [this, Nat.mul_one]
