/-! SHARED, MEETINGS one by one, taken back, later; what is SEEN; COIN; counts -/
theorem ok_refusalOfTwo {n : Nat} {z v : Int} {Post : Int32 → Prop} (hn : n ≤ 8) (hz : -2147483648 ≤ z) (hz2 : z ≤ 2147483647) (hv : -2147483648 ≤ v) (hv2 : v ≤ 2147483647) (h0 : 0 ≤ z → z < n → 0 ≤ v → v < n → z ≠ v → Post 0) (hs : 0 ≤ z → z < n → z = v → Post (-3)) (hu : ¬ (0 ≤ z ∧ z < n ∧ 0 ≤ v ∧ v < n) → Post (-1)) : wp_X8_refusalOfTwo (iI z) (iI v) (nN n) Post := by
  unfold wp_X8_refusalOfTwo
  refine ok_isPerson hn hz hz2 (fun h1 h2 => ⟨fun c => absurd c one_ne, fun _ => ok_isPerson hn hv hv2 (fun h3 h4 => ⟨fun _ => ?_, fun c => absurd c one_ne⟩) (fun h => ⟨fun c => absurd rfl c, fun _ => hu (by omega)⟩)⟩) (fun h => ⟨fun _ => hu (by omega), fun c => absurd rfl c⟩)
  rw [i_eq hz hz2 hv hv2]
  exact ⟨fun c => h0 h1 h2 h3 h4 c, fun c => hs h1 h2 c⟩
theorem two_cases (n : Nat) (z v : Int) : (0 ≤ z ∧ z < n ∧ 0 ≤ v ∧ v < n ∧ z ≠ v) ∨ (0 ≤ z ∧ z < n ∧ z = v) ∨ ¬ (0 ≤ z ∧ z < n ∧ 0 ≤ v ∧ v < n) := by omega
/-- the row of MEETINGS that were made, as both hold it -/
def RowR (n k : Nat) (A B C D : Nat → Nat) (fa sa ha ga ro : Nat → Int32) : Prop := k ≤ 32 ∧ (∀ j, j < k → A j < n ∧ B j < n ∧ C j ≤ 99999 ∧ D j ≤ 99999) ∧ (∀ j, j < k → fa j = nN (A j) ∧ sa j = nN (B j) ∧ ha j = nN (C j) ∧ ga j = nN (D j)) ∧ (∀ j, j < k → ro (4 * j) = nN (A j) ∧ ro (4 * j + 1) = nN (B j) ∧ ro (4 * j + 2) = nN (C j) ∧ ro (4 * j + 3) = nN (D j))
def setN (A : Nat → Nat) (k i : Nat) : Nat → Nat := fun t => if t = k then i else A t
theorem upd_set {a : Nat → Int32} {A : Nat → Nat} {k i j : Nat} (h : j < k → a j = nN (A j)) (hj : j < k + 1) : upd a k (nN i) j = nN (setN A k i j) := by
  unfold upd setN
  by_cases e : j = k
  · rw [if_pos e, if_pos e]
  · rw [if_neg e, if_neg e]; exact h (by omega)
theorem RowR.push {n k i j c d : Nat} {A B C D : Nat → Nat} {fa sa ha ga ro : Nat → Int32} (h : RowR n k A B C D fa sa ha ga ro) (hk : k < 32) (hi : i < n) (hj : j < n) (hc : c ≤ 99999) (hd : d ≤ 99999) : RowR n (k + 1) (setN A k i) (setN B k j) (setN C k c) (setN D k d) (upd fa k (nN i)) (upd sa k (nN j)) (upd ha k (nN c)) (upd ga k (nN d)) (upd (upd (upd (upd ro (4 * k) (nN i)) (4 * k + 1) (nN j)) (4 * k + 2) (nN c)) (4 * k + 3) (nN d)) := by
  obtain ⟨h1, h2, h3, h4⟩ := h
  refine ⟨by omega, fun t ht => ?_, fun t ht => ⟨upd_set (fun z => (h3 t z).1) ht, upd_set (fun z => (h3 t z).2.1) ht, upd_set (fun z => (h3 t z).2.2.1) ht, upd_set (fun z => (h3 t z).2.2.2) ht⟩, fun t ht => ?_⟩
  · unfold setN
    by_cases e : t = k
    · rw [if_pos e, if_pos e, if_pos e, if_pos e]; exact ⟨hi, hj, hc, hd⟩
    · rw [if_neg e, if_neg e, if_neg e, if_neg e]; exact h2 t (by omega)
  · by_cases e : t = k
    · subst e
      have hs : ∀ (A : Nat → Nat) (x : Nat), setN A t x t = x := fun A x => by unfold setN; rw [if_pos rfl]
      rw [hs, hs, hs, hs]
      unfold upd
      refine ⟨?_, ?_, ?_, ?_⟩
      · rw [if_neg (by omega), if_neg (by omega), if_neg (by omega), if_pos rfl]
      · rw [if_neg (by omega), if_neg (by omega), if_pos rfl]
      · rw [if_neg (by omega), if_pos rfl]
      · rw [if_pos rfl]
    · have h5 := h4 t (by omega)
      have hs : ∀ (A : Nat → Nat) (x : Nat), setN A k x t = A t := fun A x => by unfold setN; rw [if_neg e]
      rw [hs, hs, hs, hs]
      unfold upd
      refine ⟨?_, ?_, ?_, ?_⟩
      · rw [if_neg (by omega), if_neg (by omega), if_neg (by omega), if_neg (by omega)]; exact h5.1
      · rw [if_neg (by omega), if_neg (by omega), if_neg (by omega), if_neg (by omega)]; exact h5.2.1
      · rw [if_neg (by omega), if_neg (by omega), if_neg (by omega), if_neg (by omega)]; exact h5.2.2.1
      · rw [if_neg (by omega), if_neg (by omega), if_neg (by omega), if_neg (by omega)]; exact h5.2.2.2
theorem RowR.less {n k k' : Nat} {A B C D : Nat → Nat} {fa sa ha ga ro : Nat → Int32} (h : RowR n k A B C D fa sa ha ga ro) (hk : k' ≤ k) : RowR n k' A B C D fa sa ha ga ro :=
  ⟨Nat.le_trans hk h.1, fun j hj => h.2.1 j (by omega), fun j hj => h.2.2.1 j (by omega), fun j hj => h.2.2.2 j (by omega)⟩
/-- what is SEEN, as both hold it -/
def SeeR (q : Nat) (U V : Nat → Nat) (sa ga hb gb : Nat → Int32) : Prop := q ≤ 8 ∧ (∀ j, j < q → 1 ≤ U j ∧ U j ≤ 99999 ∧ V j ≤ 99999) ∧ (∀ j, j < q → sa j = nN (U j) ∧ ga j = nN (V j)) ∧ (∀ j, j < q → hb j = nN (U j) ∧ gb j = nN (V j))
