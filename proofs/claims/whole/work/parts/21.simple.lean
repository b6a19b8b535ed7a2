/-! the plain calls: class and reference side by side -/
theorem L0 : (0 : Int32) = iI 0 := rfl
theorem L1 : (1 : Int32) = iI 1 := rfl
theorem L2 : (2 : Int32) = iI 2 := rfl
theorem L3 : (3 : Int32) = iI 3 := rfl
theorem L4 : (4 : Int32) = iI 4 := rfl
theorem L6 : (6 : Int32) = iI 6 := rfl
theorem L8 : (8 : Int32) = iI 8 := rfl
theorem L9 : (9 : Int32) = iI 9 := rfl
theorem L16 : (16 : Int32) = iI 16 := rfl
theorem L32 : (32 : Int32) = iI 32 := rfl
theorem L96 : (96 : Int32) = iI 96 := rfl
theorem L300 : (300 : Int32) = iI 300 := rfl
theorem L99999 : (99999 : Int32) = iI 99999 := rfl
theorem same_k {r : Int32} {K : Prop} (h : K) : (r = r → K) ∧ (¬ r = r → False) := ⟨fun _ => h, fun n => n rfl⟩
theorem same_of {r r' : Int32} {K : Prop} (e : r = r') (h : K) : (r = r' → K) ∧ (¬ r = r' → False) := ⟨fun _ => h, fun n => n e⟩
theorem ok_isPerson {n : Nat} {z : Int} {Post : Int32 → Prop} (hn : n ≤ 8) (hz : -2147483648 ≤ z) (hz2 : z ≤ 2147483647) (h1 : 0 ≤ z → z < n → Post 1) (h0 : ¬ (0 ≤ z ∧ z < n) → Post 0) : wp_X1_isPerson (iI z) (nN n) Post := by
  unfold wp_X1_isPerson
  rw [L0, i_lt (by omega) (by omega) (by omega) (by omega), i_le (by omega) (by omega) (by omega) (by omega)]
  exact ⟨fun c => h0 (by omega), fun c => ⟨fun c2 => h0 (by omega), fun c2 => h1 (by omega) (by omega)⟩⟩
theorem ok9_isPerson {n : Nat} {z : Int} {Post : Int32 → Prop} (hn : n ≤ 8) (hz : -2147483648 ≤ z) (hz2 : z ≤ 2147483647) (h1 : 0 ≤ z → z < n → Post 1) (h0 : ¬ (0 ≤ z ∧ z < n) → Post 0) : wp_X9_isPerson (iI z) (nN n) Post := by
  unfold wp_X9_isPerson
  rw [L1, i_sub]
  refine ok_inI (lo := 0) (hi := n - 1) hz hz2 rfl (l_int (by omega) (by omega)) (fun a b => ⟨by decide, h1 a (by omega)⟩) (fun h => ⟨by decide, h0 (by omega)⟩)
theorem ok_isSum {z : Int} {Post : Int32 → Prop} (hz : -2147483648 ≤ z) (hz2 : z ≤ 2147483647) (h1 : 0 ≤ z → z ≤ 99999 → Post 1) (h0 : ¬ (0 ≤ z ∧ z ≤ 99999) → Post 0) : wp_X8_isSum (iI z) Post := by
  unfold wp_X8_isSum
  rw [L99999, show (iI z < 0) = (iI z < iI 0) from rfl, i_lt (by omega) (by omega) (by omega) (by omega), i_lt (by omega) (by omega) (by omega) (by omega)]
  exact ⟨fun c => h0 (by omega), fun c => ⟨fun c2 => h0 (by omega), fun c2 => h1 (by omega) (by omega)⟩⟩
theorem one_ne : ¬ (1 : Int32) = 0 := by decide
theorem case_wipe {n : Nat} {K : Int32 → Int32 → Prop} (hK : K 0 0) : wp_X8_wipe (nN n) (fun r a => wp_X9_wipe (nN n) (fun r' b => (r = r' → K a b) ∧ (¬ r = r' → False))) := by
  unfold wp_X8_wipe wp_X9_wipe
  exact same_k hK
theorem case_purse {n : Nat} {x : Int32} {P : Nat → Nat} {a b : Nat → Int32} {K : Prop} (hn : n ≤ 8) (ha : ∀ i, i < n → a i = nN (P i)) (hb : ∀ i, i < n → b i = nN (P i)) (hK : K) : wp_X8_purse x (nN n) a (fun r => wp_X9_purse x (nN n) b (fun r' => (r = r' → K) ∧ (¬ r = r' → False))) := by
  obtain ⟨z, rfl, hz, hz2⟩ := i_ex x
  unfold wp_X8_purse wp_X9_purse
  refine ok_isPerson hn hz hz2 (fun h1 h2 => ⟨fun _ => ⟨i_in h1 (by omega) (by omega), ok9_isPerson hn hz hz2 (fun _ _ => ⟨fun c => absurd c one_ne, fun _ => ⟨i_in h1 (by omega) (by omega), same_of ?_ hK⟩⟩) (fun h => absurd ⟨h1, h2⟩ h)⟩, fun c => absurd c one_ne⟩)
    (fun h => ⟨fun c => absurd rfl c, fun _ => ok9_isPerson hn hz hz2 (fun h1 h2 => absurd ⟨h1, h2⟩ h) (fun _ => ⟨fun _ => same_k hK, fun c => absurd rfl c⟩)⟩)
  rw [i_nat h1 (by omega), ha _ (by omega), hb _ (by omega)]
theorem upd_n {n : Nat} {P : Nat → Nat} {a : Nat → Int32} (ha : ∀ i, i < n → a i = nN (P i)) (j v : Nat) : ∀ i, i < n → upd a j (nN v) i = nN ((fun t => if t = j then v else P t) i) := by
  intro i hi
  unfold upd
  by_cases h : i = j
  · simp only [h, if_true]
  · simp only [if_neg h]; exact ha i hi
theorem case_fill {n : Nat} {x y : Int32} {P : Nat → Nat} {a b : Nat → Int32} {ma mb : Int32} {K : Int32 → (Nat → Int32) → Int32 → (Nat → Int32) → Prop} (hn : n ≤ 8) (ha : ∀ i, i < n → a i = nN (P i)) (hb : ∀ i, i < n → b i = nN (P i)) (hK0 : K ma a mb b) (hK : ∀ (j v : Nat), j < n → v ≤ 99999 → K 0 (upd a j (nN v)) 0 (upd b j (nN v))) : wp_X8_fill x y (nN n) ma a (fun r m1 a1 => wp_X9_fill x y (nN n) mb b (fun r' m2 b1 => (r = r' → K m1 a1 m2 b1) ∧ (¬ r = r' → False))) := by
  obtain ⟨z, rfl, hz, hz2⟩ := i_ex x
  obtain ⟨v, rfl, hv, hv2⟩ := i_ex y
  unfold wp_X8_fill wp_X9_fill
  refine ok_isPerson hn hz hz2 (fun h1 h2 => ⟨fun _ => ok_isSum hv hv2 (fun h3 h4 => ⟨fun _ => ⟨i_in h1 (by omega) (by omega), i_in h1 (by omega) (by omega), ?_⟩, fun c => absurd c one_ne⟩) (fun h => ⟨fun c => absurd rfl c, fun _ => ?_⟩), fun c => absurd c one_ne⟩) (fun h => ⟨fun c => absurd rfl c, fun _ => ?_⟩)
  · refine ok9_isPerson hn hz hz2 (fun _ _ => ⟨fun _ => ok_inI (lo := 0) (hi := 99999) hv hv2 rfl rfl (fun _ _ => ⟨fun _ => ⟨i_in h1 (by omega) (by omega), i_in h1 (by omega) (by omega), ?_⟩, fun c => absurd c one_ne⟩) (fun c => absurd ⟨h3, h4⟩ c), fun c => absurd c one_ne⟩) (fun c => absurd ⟨h1, h2⟩ c)
    refine same_of ?_ ?_
    · rw [i_nat h1 (by omega), ha _ (by omega), hb _ (by omega)]
    · rw [i_nat h1 (by omega), show v = ((v.toNat : Nat) : Int) by omega]
      exact hK _ _ (by omega) (by omega)
  · refine ok9_isPerson hn hz hz2 (fun _ _ => ⟨fun _ => ok_inI (lo := 0) (hi := 99999) hv hv2 rfl rfl (fun h3 h4 => absurd ⟨h3, h4⟩ h) (fun _ => ⟨fun c => absurd rfl c, fun _ => same_k hK0⟩), fun c => absurd c one_ne⟩) (fun c => absurd ⟨h1, h2⟩ c)
  · exact ok9_isPerson hn hz hz2 (fun h1 h2 => absurd ⟨h1, h2⟩ h) (fun _ => ⟨fun c => absurd rfl c, fun _ => same_k hK0⟩)
theorem case_law {w : Nat} {x : Int32} {K : Int32 → Int32 → Prop} (hw : w ≤ 3) (hK : ∀ w' : Nat, w' ≤ 3 → K (nN w') (nN w')) : wp_X8_law x (nN w) (fun r a => wp_X9_law x (nN w) (fun r' b => (r = r' → K a b) ∧ (¬ r = r' → False))) := by
  obtain ⟨z, rfl, hz, hz2⟩ := i_ex x
  unfold wp_X8_law wp_X9_law
  rw [L4, show (iI z < 0) = (iI z < iI 0) from rfl, i_lt (by omega) (by omega) (by omega) (by omega), i_lt (by omega) (by omega) (by omega) (by omega)]
  refine ⟨fun c => ?_, fun c => ⟨fun c2 => ?_, fun c2 => ?_⟩⟩
  · exact ok_inI (lo := 0) (hi := 3) hz hz2 rfl rfl (fun _ _ => by omega) (fun _ => ⟨fun c => absurd rfl c, fun _ => same_k (hK w hw)⟩)
  · refine ok_inI (lo := 0) (hi := 3) hz hz2 rfl rfl (fun _ _ => ⟨fun _ => same_k ?_, fun c => absurd c one_ne⟩) (fun _ => by omega)
    rw [show z = ((z.toNat : Nat) : Int) by omega]
    exact hK _ (by omega)
  · exact ok_inI (lo := 0) (hi := 3) hz hz2 rfl rfl (fun _ _ => by omega) (fun _ => ⟨fun c => absurd rfl c, fun _ => same_k (hK w hw)⟩)
/-- THE DAY as both hold it: q MEETINGS of F i and G i -/
def DayR (n q : Nat) (F G : Nat → Nat) (fa sa da : Nat → Int32) : Prop := q ≤ 16 ∧ (∀ i, i < q → F i < n ∧ G i < n ∧ F i ≠ G i) ∧ (∀ i, i < q → fa i = nN (F i) ∧ sa i = nN (G i)) ∧ (∀ i, i < q → da (2 * i) = nN (F i) ∧ da (2 * i + 1) = nN (G i))
theorem case_daily {n q : Nat} {F G : Nat → Nat} {fa sa da : Nat → Int32} {x y : Int32} {K : Prop} (hd : DayR n q F G fa sa da) (hK : K) : wp_X8_daily x y (nN q) fa sa (fun r => wp_X9_daily x y (nN q) da (fun r' => (r = r' → K) ∧ (¬ r = r' → False))) := by
  obtain ⟨z, rfl, hz, hz2⟩ := i_ex x
  obtain ⟨v, rfl, hv, hv2⟩ := i_ex y
  obtain ⟨hq, h1, h2, h3⟩ := hd
  have out : ∀ r : Int32, r = -2 → ¬ (0 ≤ v ∧ v ≤ 1) → wp_X9_daily (iI z) (iI v) (nN q) da (fun r' => (r = r' → K) ∧ (¬ r = r' → False)) := by
    intro r hr hn
    unfold wp_X9_daily
    exact ok_inI (lo := 0) (hi := 1) hv hv2 rfl rfl (fun a b => absurd ⟨a, b⟩ hn) (fun _ => ⟨fun c => absurd rfl c, fun _ => same_of hr hK⟩)
  unfold wp_X8_daily
  rw [L1, show (iI v < 0) = (iI v < iI 0) from rfl, i_lt (by omega) (by omega) (by omega) (by omega), i_le (by omega) (by omega) (by omega) (by omega)]
  refine ⟨fun c => out _ rfl (by omega), fun c => ⟨fun c2 => ?_, fun c2 => out _ rfl (by omega)⟩⟩
  unfold wp_X2_has
  rw [show (iI z < 0) = (iI z < iI 0) from rfl, i_lt (by omega) (by omega) (by omega) (by omega), i_le (by omega) (by omega) (by omega) (by omega)]
  have none : ∀ r : Int32, r = -9 → ¬ (0 ≤ z ∧ z < q) → wp_X9_daily (iI z) (iI v) (nN q) da (fun r' => (r = r' → K) ∧ (¬ r = r' → False)) := by
    intro r hr hn
    unfold wp_X9_daily
    refine ok_inI (lo := 0) (hi := 1) hv hv2 rfl rfl (fun a b => ⟨fun _ => ?_, fun c => absurd c one_ne⟩) (fun c => absurd ⟨by omega, by omega⟩ c)
    rw [L1, i_sub]
    exact ok_inI (lo := 0) (hi := q - 1) hz hz2 rfl (l_int (by omega) (by omega)) (fun a b => absurd ⟨a, by omega⟩ hn) (fun _ => ⟨fun _ => same_of hr hK, fun c => absurd rfl c⟩)
  refine ⟨fun c3 => ⟨fun c => absurd rfl c, fun _ => none _ rfl (by omega)⟩, fun c3 => ⟨fun c4 => ⟨fun c => absurd rfl c, fun _ => none _ rfl (by omega)⟩, fun c4 => ⟨fun _ => ?_, fun c => absurd c one_ne⟩⟩⟩
  have fit : ∀ r : Int32, r = (if v = 0 then nN (F z.toNat) else nN (G z.toNat)) → wp_X9_daily (iI z) (iI v) (nN q) da (fun r' => (r = r' → K) ∧ (¬ r = r' → False)) := by
    intro r hr
    unfold wp_X9_daily
    refine ok_inI (lo := 0) (hi := 1) hv hv2 rfl rfl (fun a b => ⟨fun _ => ?_, fun c => absurd c one_ne⟩) (fun c => absurd ⟨by omega, by omega⟩ c)
    rw [L1, i_sub]
    refine ok_inI (lo := 0) (hi := q - 1) hz hz2 rfl (l_int (by omega) (by omega)) (fun a b => ⟨fun c => absurd c one_ne, fun _ => ?_⟩) (fun c => absurd ⟨by omega, by omega⟩ c)
    rw [L2, i_mul, i_add]
    refine ⟨i_in (by omega) (by omega) (by omega), same_of ?_ hK⟩
    rw [i_nat (by omega) (by omega), hr]
    split
    · next h => rw [show (2 * z + v).toNat = 2 * z.toNat by omega, (h3 _ (by omega)).1]
    · next h => rw [show (2 * z + v).toNat = 2 * z.toNat + 1 by omega, (h3 _ (by omega)).2]
  rw [show (iI v = 0) = (iI v = iI 0) from rfl, i_eq (by omega) (by omega) (by omega) (by omega)]
  refine ⟨fun c5 => ⟨i_in (by omega) (by omega) (by omega), fit _ ?_⟩, fun c5 => ⟨i_in (by omega) (by omega) (by omega), fit _ ?_⟩⟩
  · rw [if_neg c5, i_nat (by omega) (by omega)]; exact (h2 _ (by omega)).2
  · rw [if_pos c5, i_nat (by omega) (by omega)]; exact (h2 _ (by omega)).1
