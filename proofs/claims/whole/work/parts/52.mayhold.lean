/-! MAY HOLD -/
def fb : Nat → (Nat → Nat) → (Nat → Nat) → Nat → Bool
  | 0, _, _, _ => true
  | q + 1, U, V, p => fb q U V p && decide (sh p (U q) = V q)
theorem fb_true {p : Nat} {U V : Nat → Nat} : ∀ {q : Nat}, fb q U V p = true ↔ fits q U V p
  | 0 => ⟨fun _ j hj => by omega, fun _ => rfl⟩
  | q + 1 => by
    show (fb q U V p && decide (sh p (U q) = V q)) = true ↔ _
    rw [Bool.and_eq_true, fb_true (q := q), decide_eq_true_iff]
    constructor
    · rintro ⟨h1, h2⟩ j hj
      by_cases e : j = q
      · rw [e]; exact h2
      · exact h1 j (by omega)
    · intro h
      exact ⟨fun j hj => h j (by omega), h q (by omega)⟩
theorem fb_false {q p : Nat} {U V : Nat → Nat} : fb q U V p = false ↔ ¬ fits q U V p := by
  rw [← fb_true]
  cases fb q U V p <;> simp
def tot (f : Nat → Bool) : Nat → Nat
  | 0 => 0
  | c + 1 => tot f c + (if f c = true then 1 else 0)
def lea (f : Nat → Bool) : Nat → Int
  | 0 => -9
  | c + 1 => if f c = true ∧ lea f c = -9 then (c : Int) else lea f c
def gre (f : Nat → Bool) : Nat → Int
  | 0 => -9
  | c + 1 => if f c = true then (c : Int) else gre f c
theorem tot_le (f : Nat → Bool) : ∀ c, tot f c ≤ c
  | 0 => Nat.le_refl 0
  | c + 1 => by
    have := tot_le f c
    unfold tot
    split <;> omega
theorem lea_le (f : Nat → Bool) : ∀ c, -9 ≤ lea f c ∧ lea f c ≤ c
  | 0 => by unfold lea; omega
  | c + 1 => by
    have := lea_le f c
    unfold lea
    split <;> omega
theorem tot_cnt (f : Nat → Bool) : ∀ n, tot f (n + 1) = (if f 0 = true then 1 else 0) + cnt f n
  | 0 => by show 0 + (if f 0 = true then 1 else 0) = (if f 0 = true then 1 else 0) + 0; rw [Nat.zero_add, Nat.add_zero]
  | n + 1 => by
    have := tot_cnt f n
    show tot f (n + 1) + (if f (n + 1) = true then 1 else 0) = (if f 0 = true then 1 else 0) + (cnt f n + (if f (n + 1) = true then 1 else 0))
    omega
theorem lea_none {f : Nat → Bool} : ∀ c, (∀ p, p < c → f p = false) → lea f c = -9
  | 0, _ => rfl
  | c + 1, h => by
    unfold lea
    rw [if_neg (fun z => by rw [h c (by omega)] at z; exact absurd z.1 (by decide))]
    exact lea_none c (fun p hp => h p (by omega))
theorem lea_at {f : Nat → Bool} {l : Nat} (hf : f l = true) (hl : ∀ p, p < l → f p = false) : ∀ c, l < c → lea f c = l
  | 0, h => by omega
  | c + 1, h => by
    unfold lea
    by_cases e : c = l
    · subst e
      rw [if_pos ⟨hf, lea_none c hl⟩]
    · have := lea_at hf hl c (by omega)
      rw [if_neg (fun z => by omega), this]
theorem gre_none {f : Nat → Bool} : ∀ c, (∀ p, p < c → f p = false) → gre f c = -9
  | 0, _ => rfl
  | c + 1, h => by
    unfold gre
    rw [if_neg (fun z => by rw [h c (by omega)] at z; exact absurd z (by decide))]
    exact gre_none c (fun p hp => h p (by omega))
theorem gre_at {f : Nat → Bool} {g : Nat} (hf : f g = true) : ∀ c, g < c → (∀ p, g < p → p < c → f p = false) → gre f c = g
  | 0, h, _ => by omega
  | c + 1, h, h2 => by
    unfold gre
    by_cases e : c = g
    · subst e
      rw [if_pos hf]
    · rw [if_neg (fun z => by rw [h2 c (by omega) (by omega)] at z; exact absurd z (by decide))]
      exact gre_at hf c (by omega) (fun p h3 h4 => h2 p h3 (by omega))
theorem ok9_mayBe {q p : Nat} {U V : Nat → Nat} {hb gb : Nat → Int32} {Post : Int32 → Prop} (hq : q ≤ 8) (hp : p ≤ 99999) (hUV : ∀ j, j < q → 1 ≤ U j ∧ U j ≤ 99999 ∧ V j ≤ 99999) (hs : ∀ j, j < q → hb j = nN (U j) ∧ gb j = nN (V j)) (h1 : fits q U V p → Post 1) (h0 : ¬ fits q U V p → Post 0) : wp_X9_mayBe (nN p) (nN q) hb gb Post := by
  unfold wp_X9_mayBe
  intro k hk
  have bad : ∀ i, i ≤ q → ¬ fits q U V p → k (nN i) 0 := by
    intro i hi hf
    apply hk
    exact ⟨fun _ => ⟨by decide, h0 hf⟩, fun _ => ⟨fun _ => ⟨by decide, h0 hf⟩, fun c => absurd rfl c⟩⟩
  have key : ∀ (N i : Nat), q - i < N → i ≤ q → (∀ j, j < i → sh p (U j) = V j) → k (nN i) 1 := by
    intro N
    induction N with
    | zero => intro i g; omega
    | succ N ih =>
      intro i g1 g2 g3
      apply hk
      rw [n_le (by omega) (by omega), n_nat (by omega), show nN i + 1 = nN (i + 1) from n_add _ 1]
      refine ⟨fun c => ⟨by decide, h1 (fun j hj => g3 j (by omega))⟩, fun c => ⟨fun z => absurd z one_ne, fun _ => ⟨n_in (by omega) (by omega), ?_⟩⟩⟩
      have hi : i < q := by omega
      obtain ⟨s1, s2⟩ := hs i hi
      obtain ⟨u1, u2, u3⟩ := hUV i hi
      have hsl := sh_le_l p (U i)
      rw [s1, s2]
      have z0 : (nN (V i) = 0) ↔ V i = 0 := by rw [show (0 : Int32) = nN 0 from rfl, n_eq (by omega) (by omega)]
      have fin : wp_X9_sharedBy (nN p) (nN (U i)) (fun (r43 : Int32) => ((¬ r43 = nN (V i) → k (nN (i + 1)) (0 : Int32)) ∧ (r43 = nN (V i) → k (nN (i + 1)) (1 : Int32)))) := by
        refine ok9_sharedBy (by omega) (by omega) ?_
        rw [n_eq (by omega) (by omega)]
        refine ⟨fun c2 => bad (i + 1) (by omega) (fun hf => c2 (hf i hi)), fun c2 => ih (i + 1) (by omega) (by omega) (fun j hj => ?_)⟩
        by_cases e : j = i
        · rw [e]; exact c2
        · exact g3 j (by omega)
      rw [z0]
      refine ⟨fun _ => ⟨n_in (by omega) (by omega), fin⟩, fun cv => ⟨cv, ?_⟩⟩
      rw [n_rem (by omega) (by omega) (by omega)]
      have zm : (nN (p % V i) = 0) ↔ p % V i = 0 := by rw [show (0 : Int32) = nN 0 from rfl, n_eq (by have := Nat.mod_le p (V i); omega) (by omega)]
      rw [zm]
      refine ⟨fun cm => bad (i + 1) (by omega) (fun hf => ?_), fun _ => ⟨n_in (by omega) (by omega), fin⟩⟩
      have := hf i hi
      unfold sh at this
      by_cases z : p = 0 ∨ U i = 0
      · rw [if_pos z] at this; exact cv this.symm
      · rw [if_neg z] at this
        exact cm (Nat.mod_eq_zero_of_dvd (this ▸ Nat.gcd_dvd_left p (U i)))
  exact key (q + 1) 0 (by omega) (by omega) (fun j hj => by omega)
theorem ok9_mayHold {q N : Nat} {v : Int} {U V : Nat → Nat} {hb gb : Nat → Int32} {Post : Int32 → Prop} (hq : q ≤ 8) (hN : N ≤ 99999) (hv : 0 ≤ v) (hv2 : v ≤ 2) (hUV : ∀ j, j < q → 1 ≤ U j ∧ U j ≤ 99999 ∧ V j ≤ 99999) (hs : ∀ j, j < q → hb j = nN (U j) ∧ gb j = nN (V j)) (h : Post (if v = 0 then nN (tot (fb q U V) (N + 1)) else if v = 1 then iI (lea (fb q U V) (N + 1)) else iI (gre (fb q U V) (N + 1)))) : wp_X9_mayHold (nN N) (iI v) (nN q) hb gb Post := by
  unfold wp_X9_mayHold
  refine ok_inI (z := (N : Int)) (lo := 0) (hi := 99999) (by omega) (by omega) rfl rfl (fun _ _ => ⟨fun c => absurd c one_ne, fun _ => ?_⟩) (fun hh => absurd ⟨by omega, by omega⟩ hh)
  refine ok_inI (lo := 0) (hi := 2) (by omega) (by omega) rfl rfl (fun _ _ => ⟨fun _ => ?_, fun c => absurd c one_ne⟩) (fun hh => absurd ⟨by omega, by omega⟩ hh)
  intro k40 hk40
  have key : ∀ (M p : Nat), N + 1 - p < M → p ≤ N + 1 → k40 (nN p) (iI (gre (fb q U V) p)) (iI (lea (fb q U V) p)) (nN (tot (fb q U V) p)) := by
    intro M
    induction M with
    | zero => intro p g; omega
    | succ M ih =>
      intro p g1 g2
      apply hk40
      have ev0 : (iI v = 0) ↔ v = 0 := by rw [show (0 : Int32) = iI 0 from rfl, i_eq (by omega) (by omega) (by omega) (by omega)]
      have ev1 : (iI v = (1 : Int32)) ↔ v = 1 := by rw [show (1 : Int32) = iI 1 from rfl, i_eq (by omega) (by omega) (by omega) (by omega)]
      rw [n_lt (by omega) (by omega), ev0, ev1]
      refine ⟨fun c => ?_, fun c => ?_⟩
      · have e : p = N + 1 := by omega
        rw [e]
        refine ⟨fun c1 => ⟨fun c2 => ?_, fun c2 => ?_⟩, fun c1 => ?_⟩
        · rw [if_neg c1, if_neg c2] at h; exact h
        · rw [if_neg c1, if_pos c2] at h; exact h
        · rw [if_pos c1] at h; exact h
      · have hle := lea_le (fb q U V) p
        have nx := ih (p + 1) (by omega) (by omega)
        have el : (iI (lea (fb q U V) p) = (-9 : Int32)) ↔ lea (fb q U V) p = -9 := by rw [show (-9 : Int32) = iI (-9) from rfl, i_eq (by omega) (by omega) (by omega) (by omega)]
        rw [el, show nN p + 1 = nN (p + 1) from n_add _ 1, show nN (tot (fb q U V) p) + (0 : Int32) = nN (tot (fb q U V) p + 0) from n_add _ 0, show nN (tot (fb q U V) p) + (1 : Int32) = nN (tot (fb q U V) p + 1) from n_add _ 1]
        refine ok9_mayBe hq (by omega) hUV hs (fun hf => ⟨fun z => absurd z one_ne, fun _ => ⟨fun z => absurd z one_ne, fun _ => ⟨fun c1 => ⟨fun z => absurd z one_ne, fun _ => ?_⟩, fun c1 => ⟨fun z => absurd z one_ne, fun _ => ?_⟩⟩⟩⟩) (fun hf => ⟨fun _ => ⟨fun _ => ⟨fun _ => ?_, fun z => absurd rfl z⟩, fun z => absurd rfl z⟩, fun z => absurd rfl z⟩)
        · have hfb := fb_true.mpr hf
          unfold tot lea gre at nx
          rw [if_pos hfb, if_pos hfb, if_neg (fun z => c1 z.2)] at nx
          exact nx
        · have hfb := fb_true.mpr hf
          unfold tot lea gre at nx
          rw [if_pos hfb, if_pos hfb, if_pos ⟨hfb, c1⟩] at nx
          exact nx
        · have hfb := fb_false.mpr hf
          have hnt : ¬ fb q U V p = true := by rw [hfb]; decide
          unfold tot lea gre at nx
          rw [if_neg hnt, if_neg hnt, if_neg (fun z => hnt z.1)] at nx
          exact nx
  exact key (N + 2) 0 (by omega) (by omega)
theorem fits_mul {q L f : Nat} {U V prm : Nat → Nat} (hL : 1 ≤ L) (hUV : ∀ j, j < q → 1 ≤ U j ∧ U j ≤ 99999 ∧ V j ≤ 99999) (hV : ∀ j, j < q → V j ≠ 0) (hd : ∀ j, j < q → V j ∣ L ∧ V j ∣ U j) (hpr : ∀ i, i < f → pri (prm i)) (hc : ∀ j, j < q → ∀ r, pri r → r ∣ U j / V j → ¬ r ∣ L / V j ∧ ∃ i, i < f ∧ prm i = r) (hso : ∀ i, i < f → ∃ j, j < q ∧ prm i ∣ U j / V j) {m : Nat} (hm : 1 ≤ m) : fits q U V (L * m) ↔ fre prm f m = true := by
  have hLm : 0 < L * m := Nat.mul_pos hL hm
  rw [fre_iff]
  constructor
  · intro hf i hi hdv
    obtain ⟨j, hj, hju⟩ := hso i hi
    have h1 := hf j hj
    rw [sh_gcd hLm (hUV j hj).1] at h1
    have h2 : V j * prm i ∣ L * m := Nat.mul_dvd_mul (hd j hj).1 hdv
    have h3 : V j * prm i ∣ U j := by
      have := Nat.mul_dvd_mul_left (V j) hju
      rwa [Nat.mul_div_cancel' (hd j hj).2] at this
    have h4 := Nat.dvd_gcd h2 h3
    rw [h1] at h4
    have hv := hV j hj
    have h5 := Nat.le_of_dvd (by omega) h4
    have h6 := Nat.mul_le_mul_left (V j) (hpr i hi).1
    omega
  · intro hf j hj
    rw [sh_gcd hLm (hUV j hj).1]
    have hv : 0 < V j := Nat.pos_of_ne_zero (hV j hj)
    have hu := (hUV j hj).1
    obtain ⟨⟨l, hl⟩, ⟨u, hu2⟩⟩ := hd j hj
    have hcj := hc j hj
    rw [hu2, Nat.mul_div_cancel_left u hv, hl, Nat.mul_div_cancel_left l hv] at hcj
    rw [hu2, hl, Nat.mul_assoc, Nat.gcd_mul_left]
    have : Nat.gcd (l * m) u = 1 := gcd_one (Nat.pos_of_ne_zero (fun e => by rw [e] at hu2; omega)) (fun p hp h1 h2 => by
      obtain ⟨c1, i, c2, c3⟩ := hcj p hp h2
      rcases pri_mul hp h1 with z | z
      · exact c1 z
      · exact hf i c2 (by rw [c3]; exact z))
    rw [this, Nat.mul_one]
