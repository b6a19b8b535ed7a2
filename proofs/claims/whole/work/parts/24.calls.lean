/-! SHARED, MEETINGS one by one, taken back, later; what is SEEN; COIN; counts -/
theorem ok_refusalOfTwo {n : Nat} {z v : Int} {Post : Int32 → Prop} (hn : n ≤ 8) (hz : -2147483648 ≤ z) (hz2 : z ≤ 2147483647) (hv : -2147483648 ≤ v) (hv2 : v ≤ 2147483647) (h0 : 0 ≤ z → z < n → 0 ≤ v → v < n → z ≠ v → Post 0) (hs : 0 ≤ z → z < n → z = v → Post (-3)) (hu : ¬ (0 ≤ z ∧ z < n ∧ 0 ≤ v ∧ v < n) → Post (-1)) : wp_X8_refusalOfTwo (iI z) (iI v) (nN n) Post := by
  unfold wp_X8_refusalOfTwo
  refine ok_isPerson hn hz hz2 (fun h1 h2 => ⟨fun c => absurd c one_ne, fun _ => ok_isPerson hn hv hv2 (fun h3 h4 => ⟨fun _ => ?_, fun c => absurd c one_ne⟩) (fun h => ⟨fun c => absurd rfl c, fun _ => hu (by omega)⟩)⟩) (fun h => ⟨fun _ => hu (by omega), fun c => absurd rfl c⟩)
  rw [i_eq hz hz2 hv hv2]
  exact ⟨fun c => h0 h1 h2 h3 h4 c, fun c => hs h1 h2 c⟩
theorem ok9_areTwo {n : Nat} {z v : Int} {Post : Int32 → Prop} (hn : n ≤ 8) (hz : -2147483648 ≤ z) (hz2 : z ≤ 2147483647) (hv : -2147483648 ≤ v) (hv2 : v ≤ 2147483647) (h1 : 0 ≤ z → z < n → 0 ≤ v → v < n → Post 1) (h0 : ¬ (0 ≤ z ∧ z < n ∧ 0 ≤ v ∧ v < n) → Post 0) : wp_X9_areTwo (iI z) (iI v) (nN n) Post := by
  unfold wp_X9_areTwo
  exact ok9_isPerson hn hz hz2 (fun a b => ⟨fun c => absurd c one_ne, fun _ => ok9_isPerson hn hv hv2 (fun d e => ⟨fun c => absurd c one_ne, fun _ => h1 a b d e⟩) (fun h => ⟨fun _ => h0 (by omega), fun c => absurd rfl c⟩)⟩) (fun h => ⟨fun _ => h0 (by omega), fun c => absurd rfl c⟩)
theorem two_cases (n : Nat) (z v : Int) : (0 ≤ z ∧ z < n ∧ 0 ≤ v ∧ v < n ∧ z ≠ v) ∨ (0 ≤ z ∧ z < n ∧ z = v) ∨ ¬ (0 ≤ z ∧ z < n ∧ 0 ≤ v ∧ v < n) := by omega
theorem case_shared {n : Nat} {x y : Int32} {P : Nat → Nat} {a b : Nat → Int32} {K : Prop} (hn : n ≤ 8) (hP : ∀ t, t < n → P t ≤ 99999) (ha : ∀ t, t < n → a t = nN (P t)) (hb : ∀ t, t < n → b t = nN (P t)) (hK : K) : wp_X8_shared x y (nN n) a (fun r => wp_X9_shared x y (nN n) b (fun r' => (r = r' → K) ∧ (¬ r = r' → False))) := by
  obtain ⟨z, rfl, hz, hz2⟩ := i_ex x
  obtain ⟨v, rfl, hv, hv2⟩ := i_ex y
  unfold wp_X8_shared wp_X9_shared
  refine ok_refusalOfTwo hn hz hz2 hv hv2 (fun h1 h2 h3 h4 h5 => ⟨fun _ => ?_, fun c => absurd rfl c⟩) (fun h1 h2 h3 => ⟨fun c => absurd c (by decide), fun _ => ?_⟩) (fun h => ⟨fun c => absurd c (by decide), fun _ => ?_⟩)
  · have hp1 := hP z.toNat (by omega)
    have hp2 := hP v.toNat (by omega)
    refine ⟨i_in (by omega) (by omega) (by omega), i_in (by omega) (by omega) (by omega), ?_⟩
    rw [i_nat (by omega) (by omega), i_nat (by omega) (by omega), ha _ (by omega), ha _ (by omega)]
    refine ok_sharedBy (by omega) (by omega) (ok9_areTwo hn hz hz2 hv hv2 (fun _ _ _ _ => ⟨fun _ => ?_, fun c => absurd c one_ne⟩) (fun c => absurd ⟨h1, h2, h3, h4⟩ c))
    rw [i_eq hz hz2 hv hv2]
    refine ⟨fun _ => ⟨i_in (by omega) (by omega) (by omega), i_in (by omega) (by omega) (by omega), ?_⟩, fun c => absurd c h5⟩
    rw [hb _ (by omega), hb _ (by omega)]
    exact ok9_sharedBy (by omega) (by omega) (same_k hK)
  · refine ok9_areTwo hn hz hz2 hv hv2 (fun _ _ _ _ => ⟨fun _ => ?_, fun c => absurd c one_ne⟩) (fun c => absurd ⟨h1, h2, by omega, by omega⟩ c)
    rw [i_eq hz hz2 hv hv2]
    exact ⟨fun c => absurd h3 c, fun _ => same_k hK⟩
  · exact ok9_areTwo hn hz hz2 hv hv2 (fun a b c d => absurd ⟨a, b, c, d⟩ h) (fun _ => ⟨fun c => absurd rfl c, fun _ => same_k hK⟩)
/-- the row of MEETINGS that were made, as both hold it -/
def RowR (n k : Nat) (A B C D : Nat → Nat) (fa sa ha ga ro : Nat → Int32) : Prop := k ≤ 32 ∧ (∀ j, j < k → A j < n ∧ B j < n ∧ C j ≤ 99999 ∧ D j ≤ 99999) ∧ (∀ j, j < k → fa j = nN (A j) ∧ sa j = nN (B j) ∧ ha j = nN (C j) ∧ ga j = nN (D j)) ∧ (∀ j, j < k → ro (4 * j) = nN (A j) ∧ ro (4 * j + 1) = nN (B j) ∧ ro (4 * j + 2) = nN (C j) ∧ ro (4 * j + 3) = nN (D j))
def setN (A : Nat → Nat) (k i : Nat) : Nat → Nat := fun t => if t = k then i else A t
theorem upd_set {a : Nat → Int32} {A : Nat → Nat} {k i j : Nat} (h : j < k → a j = nN (A j)) (hj : j < k + 1) : upd a k (nN i) j = nN (setN A k i j) := by
  unfold upd setN
  by_cases e : j = k
  · rw [if_pos e, if_pos e]
  · rw [if_neg e, if_neg e]; exact h (by omega)
theorem RowR.push {n k i j c d : Nat} {A B C D : Nat → Nat} {fa sa ha ga ro : Nat → Int32} (h : RowR n k A B C D fa sa ha ga ro) (hk : k < 32) (hi : i < n) (hj : j < n) (hc : c ≤ 99999) (hd : d ≤ 99999) : RowR n (k + 1) (setN A k i) (setN B k j) (setN C k c) (setN D k d) (upd fa k (nN i)) (upd sa k (nN j)) (upd ha k (nN c)) (upd ga k (nN d)) (upd (upd (upd (upd ro (4 * k) (nN i)) (4 * k + 1) (nN j)) (4 * k + 2) (nN c)) (4 * k + 3) (nN d)) := by
  obtain ⟨h1, h2, h3, h4⟩ := h
  refine ⟨by omega, fun t ht => ?_, fun t ht => ⟨upd_set (fun z => (h3 t z).1) ht, upd_set (fun z => (h3 t z).2.1) ht, upd_set (fun z => (h3 t z).2.2.1) ht, upd_set (fun z => (h3 t z).2.2.2) ht⟩, fun t ht => ?_⟩
  · unfold setN
    by_cases e : t = k
    · rw [if_pos e, if_pos e, if_pos e, if_pos e]; exact ⟨hi, hj, hc, hd⟩
    · rw [if_neg e, if_neg e, if_neg e, if_neg e]; exact h2 t (by omega)
  · by_cases e : t = k
    · subst e
      have hs : ∀ (A : Nat → Nat) (x : Nat), setN A t x t = x := fun A x => by unfold setN; rw [if_pos rfl]
      rw [hs, hs, hs, hs]
      unfold upd
      refine ⟨?_, ?_, ?_, ?_⟩
      · rw [if_neg (by omega), if_neg (by omega), if_neg (by omega), if_pos rfl]
      · rw [if_neg (by omega), if_neg (by omega), if_pos rfl]
      · rw [if_neg (by omega), if_pos rfl]
      · rw [if_pos rfl]
    · have h5 := h4 t (by omega)
      have hs : ∀ (A : Nat → Nat) (x : Nat), setN A k x t = A t := fun A x => by unfold setN; rw [if_neg e]
      rw [hs, hs, hs, hs]
      unfold upd
      refine ⟨?_, ?_, ?_, ?_⟩
      · rw [if_neg (by omega), if_neg (by omega), if_neg (by omega), if_neg (by omega)]; exact h5.1
      · rw [if_neg (by omega), if_neg (by omega), if_neg (by omega), if_neg (by omega)]; exact h5.2.1
      · rw [if_neg (by omega), if_neg (by omega), if_neg (by omega), if_neg (by omega)]; exact h5.2.2.1
      · rw [if_neg (by omega), if_neg (by omega), if_neg (by omega), if_neg (by omega)]; exact h5.2.2.2
theorem case_meet {n w k : Nat} {x y : Int32} {P A B C D : Nat → Nat} {a b fa sa ha ga ro : Nat → Int32} {v1 v2 : Int32} {K : Int32 → (Nat → Int32) → (Nat → Int32) → (Nat → Int32) → (Nat → Int32) → (Nat → Int32) → Int32 → Int32 → Int32 → (Nat → Int32) → (Nat → Int32) → Prop} (hn : n ≤ 8) (hw : w ≤ 3) (hP : ∀ t, t < n → P t ≤ 99999) (ha' : ∀ t, t < n → a t = nN (P t)) (hb' : ∀ t, t < n → b t = nN (P t)) (hr : RowR n k A B C D fa sa ha ga ro)
    (hK0 : K (nN k) a fa sa ha ga v1 v2 (nN k) b ro)
    (hK : ∀ (P' A' B' C' D' : Nat → Nat) a' fa' sa' ha' ga' u1 u2 b' ro', (∀ t, t < n → P' t ≤ 99999) → (∀ t, t < n → a' t = nN (P' t)) → (∀ t, t < n → b' t = nN (P' t)) → RowR n (k + 1) A' B' C' D' fa' sa' ha' ga' ro' → K (nN (k + 1)) a' fa' sa' ha' ga' u1 u2 (nN (k + 1)) b' ro') :
    wp_X8_meet x y (nN n) (nN w) (nN k) a fa sa ha ga (fun r m1 a1 f1 s1 h1 g1 => wp_X9_meet x y (nN w) (nN n) v1 v2 (nN k) b ro (fun r' u1 u2 m2 b1 r1 => (r = r' → K m1 a1 f1 s1 h1 g1 u1 u2 m2 b1 r1) ∧ (¬ r = r' → False))) := by
  obtain ⟨z, rfl, hz, hz2⟩ := i_ex x
  obtain ⟨v, rfl, hv, hv2⟩ := i_ex y
  have hk32 := hr.1
  have m32 : (nN k < (32 : Int32)) ↔ k < 32 := by rw [show (32 : Int32) = nN 32 from rfl, n_lt (by omega) (by omega)]
  have e32 : (nN k = (32 : Int32)) ↔ k = 32 := by rw [show (32 : Int32) = nN 32 from rfl, n_eq (by omega) (by omega)]
  unfold wp_X8_meet
  refine ok_refusalOfTwo hn hz hz2 hv hv2 (fun h1 h2 h3 h4 h5 => ⟨fun _ => ?_, fun c => absurd rfl c⟩) (fun h1 h2 h3 => ⟨fun c => absurd c (by decide), fun _ => ?_⟩) (fun h => ⟨fun c => absurd c (by decide), fun _ => ?_⟩)
  · obtain ⟨i, rfl⟩ : ∃ i : Nat, z = i := ⟨z.toNat, by omega⟩
    obtain ⟨j, rfl⟩ : ∃ j : Nat, v = j := ⟨v.toNat, by omega⟩
    have hi : i < n := by omega
    have hj : j < n := by omega
    rw [m32]
    have back9 : ∀ (r : Int32) (Q : Int32 → Int32 → Int32 → Int32 → (Nat → Int32) → (Nat → Int32) → Prop), (k < 32 → ∀ u, u = ((100000 : Int32) + nN (mt w (P i) (P j))) - nN (P i) → Q u (nN (mt w (P i) (P j))) (nN (mt w (P j) (P i))) (nN (k + 1)) (upd (upd b i (nN (mt w (P i) (P j)))) j (nN (mt w (P j) (P i)))) (upd (upd (upd (upd ro (4 * k) (nN i)) (4 * k + 1) (nN j)) (4 * k + 2) (nN (P i))) (4 * k + 3) (nN (P j)))) → (k = 32 → Q (-4) v1 v2 (nN k) b ro) → wp_X9_meet (nN i) (nN j) (nN w) (nN n) v1 v2 (nN k) b ro Q := by
      intro r Q hq hq2
      unfold wp_X9_meet
      refine ok9_areTwo hn hz hz2 hv hv2 (fun _ _ _ _ => ⟨fun _ => ?_, fun c => absurd c one_ne⟩) (fun c => absurd ⟨h1, h2, h3, h4⟩ c)
      rw [i_eq hz hz2 hv hv2, e32]
      refine ⟨fun _ => ⟨fun ck => ?_, fun ck => hq2 ck⟩, fun c => absurd c h5⟩
      have e0 : (4 : Int32) * nN k = nN (4 * k) := n_mul 4 k
      have e1 : nN (4 * k) + (1 : Int32) = nN (4 * k + 1) := n_add _ 1
      have e2 : nN (4 * k) + (2 : Int32) = nN (4 * k + 2) := n_add _ 2
      have e3 : nN (4 * k) + (3 : Int32) = nN (4 * k + 3) := n_add _ 3
      have e4 : nN k + (1 : Int32) = nN (k + 1) := n_add _ 1
      rw [e0, e1, e2, e3, e4, n_nat (by omega), n_nat (by omega), n_nat (by omega), n_nat (by omega), n_nat (by omega), n_nat (by omega), hb' i hi, hb' j hj]
      refine ⟨n_in (by omega) (by omega), n_in (by omega) (by omega), n_in (by omega) (by omega), n_in (by omega) (by omega), n_in (by omega) (by omega), n_in (by omega) (by omega), n_in (by omega) (by omega), n_in (by omega) (by omega), ok9_meetTwo hw (hP i hi) (hP j hj) ⟨n_in (by omega) (by omega), n_in (by omega) (by omega), n_in (by omega) (by omega), hq (by omega) _ ?_⟩⟩
      congr 1
      unfold upd
      rw [if_neg (by omega), if_pos rfl]
    refine ⟨fun ck => ⟨n_in (by omega) (by omega), ?_⟩, fun ck => ?_⟩
    · unfold wp_X1_addMeeting
      rw [m32]
      refine ⟨fun _ => ⟨n_in (by omega) (by omega), n_in (by omega) (by omega), n_in (by omega) (by omega), n_in (by omega) (by omega), n_in (by omega) (by omega), n_in (by omega) (by omega), ok_makeMeeting hn hw hi hj (by omega) hP ha' (fun a' hh => ⟨n_in (by omega) (by omega), ?_⟩)⟩, fun c => absurd ck c⟩
      rw [n_nat (by omega), n_nat (by omega), n_nat (by omega), ha' i hi, ha' j hj, show nN k + 1 = nN (k + 1) from n_add _ 1]
      refine back9 0 _ (fun _ u hu => ?_) (fun c => by omega)
      refine same_of ?_ (hK (mv w P i j) _ _ _ _ a' _ _ _ _ _ _ _ _ (mv_le hi hj hP) hh (upd2_n hb') (hr.push ck hi hj (hP i hi) (hP j hj)))
      rw [hu, hh i hi]
      have : mv w P i j i = mt w (P i) (P j) := by unfold mv; rw [if_neg (by omega), if_pos rfl]
      rw [this, i_sub, show (100000 : Int32) = iI 100000 from rfl, i_add, i_add, i_sub]
      congr 1; omega
    · exact back9 0 _ (fun c => absurd c ck) (fun _ => same_k hK0)
  · unfold wp_X9_meet
    refine ok9_areTwo hn hz hz2 hv hv2 (fun _ _ _ _ => ⟨fun _ => ?_, fun c => absurd c one_ne⟩) (fun c => absurd ⟨h1, h2, by omega, by omega⟩ c)
    rw [i_eq hz hz2 hv hv2]
    exact ⟨fun c => absurd h3 c, fun _ => same_k hK0⟩
  · unfold wp_X9_meet
    exact ok9_areTwo hn hz hz2 hv hv2 (fun a b c d => absurd ⟨a, b, c, d⟩ h) (fun _ => ⟨fun c => absurd rfl c, fun _ => same_k hK0⟩)
theorem RowR.less {n k k' : Nat} {A B C D : Nat → Nat} {fa sa ha ga ro : Nat → Int32} (h : RowR n k A B C D fa sa ha ga ro) (hk : k' ≤ k) : RowR n k' A B C D fa sa ha ga ro :=
  ⟨Nat.le_trans hk h.1, fun j hj => h.2.1 j (by omega), fun j hj => h.2.2.1 j (by omega), fun j hj => h.2.2.2 j (by omega)⟩
theorem case_back {n k : Nat} {P A B C D : Nat → Nat} {a b fa sa ha ga ro : Nat → Int32} {K : Int32 → (Nat → Int32) → Int32 → (Nat → Int32) → Prop} (hn : n ≤ 8) (hP : ∀ t, t < n → P t ≤ 99999) (ha' : ∀ t, t < n → a t = nN (P t)) (hb' : ∀ t, t < n → b t = nN (P t)) (hr : RowR n k A B C D fa sa ha ga ro)
    (hK0 : K (nN k) a (nN k) b)
    (hK : ∀ (k' : Nat) (P' : Nat → Nat) a' b', k' ≤ k → (∀ t, t < n → P' t ≤ 99999) → (∀ t, t < n → a' t = nN (P' t)) → (∀ t, t < n → b' t = nN (P' t)) → K (nN k') a' (nN k') b') :
    wp_X8_back (nN k) a fa sa ha ga (fun r m1 a1 => wp_X9_back (nN k) b ro (fun r' m2 b1 => (r = r' → K m1 a1 m2 b1) ∧ (¬ r = r' → False))) := by
  have hk32 := hr.1
  have l1 : ((1 : Int32) ≤ nN k) ↔ 1 ≤ k := by rw [show (1 : Int32) = nN 1 from rfl, n_le (by omega) (by omega)]
  have e0 : (nN k = 0) ↔ k = 0 := by rw [show (0 : Int32) = nN 0 from rfl, n_eq (by omega) (by omega)]
  unfold wp_X8_back
  rw [l1]
  refine ⟨fun c => ?_, fun c => ?_⟩
  · unfold wp_X1_takeBack
    rw [l1]
    refine ⟨fun _ => ?_, fun c2 => absurd c c2⟩
    obtain ⟨q1, q2, q3, q4⟩ := hr.2.1 (k - 1) (by omega)
    obtain ⟨r1, r2, r3, r4⟩ := hr.2.2.1 (k - 1) (by omega)
    obtain ⟨s1, s2, s3, s4⟩ := hr.2.2.2 (k - 1) (by omega)
    have es : nN k - (1 : Int32) = nN (k - 1) := n_sub (b := 1) c
    have u0 : (4 : Int32) * nN (k - 1) = nN (4 * (k - 1)) := n_mul 4 (k - 1)
    have u1 : nN (4 * (k - 1)) + (1 : Int32) = nN (4 * (k - 1) + 1) := n_add _ 1
    have u2 : nN (4 * (k - 1)) + (2 : Int32) = nN (4 * (k - 1) + 2) := n_add _ 2
    have u3 : nN (4 * (k - 1)) + (3 : Int32) = nN (4 * (k - 1) + 3) := n_add _ 3
    rw [es, n_nat (by omega), r1, r2, r3, r4, n_nat (by omega), n_nat (by omega)]
    refine ⟨n_in (by omega) (by omega), n_in (by omega) (by omega), n_in (by omega) (by omega), n_in (by omega) (by omega), n_in (by omega) (by omega), n_in (by omega) (by omega), ?_⟩
    unfold wp_X9_back
    rw [e0]
    refine ⟨fun _ => ?_, fun c2 => by omega⟩
    rw [es, u0, u1, u2, u3, n_nat (by omega), n_nat (by omega), n_nat (by omega), n_nat (by omega), s1, s2, s3, s4, n_nat (by omega), n_nat (by omega)]
    refine ⟨n_in (by omega) (by omega), n_in (by omega) (by omega), n_in (by omega) (by omega), n_in (by omega) (by omega), n_in (by omega) (by omega), n_in (by omega) (by omega), ?_⟩
    refine same_k (hK (k - 1) (fun t => if t = B (k - 1) then D (k - 1) else if t = A (k - 1) then C (k - 1) else P t) _ _ (by omega) (fun t ht => ?_) (upd2_n ha') (upd2_n hb'))
    show (if t = B (k - 1) then D (k - 1) else if t = A (k - 1) then C (k - 1) else P t) ≤ 99999
    split
    · exact q4
    · split
      · exact q3
      · exact hP t ht
  · unfold wp_X9_back
    rw [e0]
    exact ⟨fun c2 => by omega, fun _ => same_k hK0⟩
theorem case_unsee {k : Nat} {K : Int32 → Int32 → Prop} (hK : K 0 0) : wp_X8_unsee (nN k) (fun r a => wp_X9_unsee (nN k) (fun r' b => (r = r' → K a b) ∧ (¬ r = r' → False))) := by
  unfold wp_X8_unsee wp_X9_unsee
  exact same_k hK
/-- what is SEEN, as both hold it -/
def SeeR (q : Nat) (U V : Nat → Nat) (sa ga hb gb : Nat → Int32) : Prop := q ≤ 8 ∧ (∀ j, j < q → 1 ≤ U j ∧ U j ≤ 99999 ∧ V j ≤ 99999) ∧ (∀ j, j < q → sa j = nN (U j) ∧ ga j = nN (V j)) ∧ (∀ j, j < q → hb j = nN (U j) ∧ gb j = nN (V j))
theorem case_see {q : Nat} {x y : Int32} {U V : Nat → Nat} {sa ga hb gb : Nat → Int32} {K : Int32 → (Nat → Int32) → (Nat → Int32) → Int32 → (Nat → Int32) → (Nat → Int32) → Prop} (hr : SeeR q U V sa ga hb gb)
    (hK0 : K (nN q) sa ga (nN q) hb gb)
    (hK : ∀ (U' V' : Nat → Nat) sa' ga' hb' gb', SeeR (q + 1) U' V' sa' ga' hb' gb' → K (nN (q + 1)) sa' ga' (nN (q + 1)) hb' gb') :
    wp_X8_see x y (nN q) sa ga (fun r m1 s1 g1 => wp_X9_see x y (nN q) hb gb (fun r' m2 h1 g2 => (r = r' → K m1 s1 g1 m2 h1 g2) ∧ (¬ r = r' → False))) := by
  obtain ⟨z, rfl, hz, hz2⟩ := i_ex x
  obtain ⟨v, rfl, hv, hv2⟩ := i_ex y
  obtain ⟨hq, h1, h2, h3⟩ := hr
  have m8 : (nN q < (8 : Int32)) ↔ q < 8 := by rw [show (8 : Int32) = nN 8 from rfl, n_lt (by omega) (by omega)]
  have e8 : (nN q = (8 : Int32)) ↔ q = 8 := by rw [show (8 : Int32) = nN 8 from rfl, n_eq (by omega) (by omega)]
  unfold wp_X8_see
  rw [L1, L99999, i_lt (by omega) (by omega) (by omega) (by omega), i_lt (by omega) (by omega) (by omega) (by omega)]
  have out : ¬ (1 ≤ z ∧ z ≤ 99999 ∧ 0 ≤ v ∧ v ≤ 99999) → wp_X9_see (iI z) (iI v) (nN q) hb gb (fun r' m2 h1 g2 => ((-2 : Int32) = r' → K (nN q) sa ga m2 h1 g2) ∧ (¬ (-2 : Int32) = r' → False)) := by
    intro hn
    unfold wp_X9_see
    refine ok_inI (lo := 1) (hi := 99999) hz hz2 rfl rfl (fun a b => ⟨fun c => absurd c one_ne, fun _ => ok_inI (lo := 0) (hi := 99999) hv hv2 rfl rfl (fun d e => absurd ⟨a, b, d, e⟩ hn) (fun _ => ⟨fun c => absurd rfl c, fun _ => same_k hK0⟩)⟩) (fun _ => ⟨fun _ => same_k hK0, fun c => absurd rfl c⟩)
  refine ⟨fun c => out (by omega), fun c => ⟨fun c2 => out (by omega), fun c2 => ok_isSum hv hv2 (fun h4 h5 => ⟨fun _ => ?_, fun c => absurd c one_ne⟩) (fun hh => ⟨fun c => absurd rfl c, fun _ => out (by omega)⟩)⟩⟩
  rw [m8]
  refine ⟨fun cq => ?_, fun cq => ?_⟩
  · unfold wp_X1_addSeen
    rw [m8]
    refine ⟨fun _ => ⟨n_in (by omega) (by omega), n_in (by omega) (by omega), ?_⟩, fun c => absurd cq c⟩
    unfold wp_X9_see
    refine ok_inI (lo := 1) (hi := 99999) hz hz2 rfl rfl (fun a b => ⟨fun c => absurd c one_ne, fun _ => ok_inI (lo := 0) (hi := 99999) hv hv2 rfl rfl (fun d e => ⟨fun _ => ?_, fun c => absurd c one_ne⟩) (fun cc => absurd ⟨h4, h5⟩ cc)⟩) (fun cc => absurd ⟨by omega, by omega⟩ cc)
    rw [e8]
    refine ⟨fun _ => ⟨n_in (by omega) (by omega), n_in (by omega) (by omega), ?_⟩, fun c => by omega⟩
    obtain ⟨i, rfl⟩ : ∃ i : Nat, z = i := ⟨z.toNat, by omega⟩
    obtain ⟨j, rfl⟩ : ∃ j : Nat, v = j := ⟨v.toNat, by omega⟩
    rw [n_nat (by omega), show nN q + 1 = nN (q + 1) from n_add _ 1]
    refine same_k (hK (setN U q i) (setN V q j) _ _ _ _ ⟨by omega, fun t ht => ?_, fun t ht => ⟨upd_set (fun z => (h2 t z).1) ht, upd_set (fun z => (h2 t z).2) ht⟩, fun t ht => ⟨upd_set (fun z => (h3 t z).1) ht, upd_set (fun z => (h3 t z).2) ht⟩⟩)
    unfold setN
    by_cases e : t = q
    · rw [if_pos e, if_pos e]; omega
    · rw [if_neg e, if_neg e]; exact h1 t (by omega)
  · unfold wp_X9_see
    refine ok_inI (lo := 1) (hi := 99999) hz hz2 rfl rfl (fun a b => ⟨fun c => absurd c one_ne, fun _ => ok_inI (lo := 0) (hi := 99999) hv hv2 rfl rfl (fun d e => ⟨fun _ => ?_, fun c => absurd c one_ne⟩) (fun cc => absurd ⟨h4, h5⟩ cc)⟩) (fun cc => absurd ⟨by omega, by omega⟩ cc)
    rw [e8]
    exact ⟨fun c => by omega, fun _ => same_k hK0⟩
