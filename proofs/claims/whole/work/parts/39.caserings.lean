/-! AFTER, RING, LEAD -/
def upto (w a b n L : Nat) : Prop := L ≤ n ∧ (∀ j, j < L → ¬ ringed w (it w a b j)) ∧ (L = n ∨ ringed w (it w a b L))
theorem upto_u {w a b n L L' : Nat} (h : upto w a b n L) (h' : upto w a b n L') : L = L' := by
  obtain ⟨h1, h2, h3⟩ := h
  obtain ⟨h1', h2', h3'⟩ := h'
  rcases Nat.lt_trichotomy L L' with z | z | z
  · rcases h3 with e | e
    · omega
    · exact absurd e (h2' L z)
  · exact z
  · rcases h3' with e | e
    · omega
    · exact absurd e (h2 L' z)
theorem upto_far {w a b n n' L : Nat} (hw : w ≤ 3) (ha : a ≤ 99999) (hb : b ≤ 99999) (hn : 100000 ≤ n) (hn' : 100000 ≤ n') (h : upto w a b n L) : upto w a b n' L ∧ ringed w (it w a b L) := by
  obtain ⟨h1, h2, h3⟩ := h
  have := it_short hw ha hb h2
  have h4 : ringed w (it w a b L) := by
    rcases h3 with e | e
    · omega
    · exact e
  exact ⟨⟨by omega, h2, Or.inr h4⟩, h4⟩
theorem many_one {w a b : Nat} (ha : a ≤ 99999) (hb : b ≤ 99999) : many w a b 1 1 := by
  refine ⟨rfl, fun z => by omega, ?_, fun z => ?_, fun z => ?_⟩
  · rw [Nat.one_mul]; exact pas_small ha hb
  · rw [Nat.one_mul]; exact pas_lose z
  · rw [Nat.one_mul, dist_comm, sh_comm]; exact pas_lose z
def rcode (w : Nat) (s : Nat × Nat) (c : Int32) : Prop := (c = 1 ∧ fixd w s.1 s.2) ∨ (c = 2 ∧ ¬ fixd w s.1 s.2 ∧ flips w s.1 s.2) ∨ (c = 0 ∧ ¬ ringed w s)
theorem ok9_goOn {n w i j m : Nat} {P : Nat → Nat} {b : Nat → Int32} {o1 o2 o3 o4 : Int32} {Post : Int32 → Int32 → Int32 → Int32 → Int32 → Prop} (hn : n ≤ 8) (hw : w ≤ 3) (hi : i < n) (hj : j < n) (hP : ∀ t, t < n → P t ≤ 99999) (hb : ∀ t, t < n → b t = nN (P t)) (hm : m ≤ 2147483647) (h : ∀ (L : Nat) (s : Int32), upto w (P i) (P j) m L → rcode w (it w (P i) (P j) L) s → Post (nN L) (nN (it w (P i) (P j) L).1) (nN (it w (P i) (P j) L).2) (nN L) s) : wp_X9_goOn (nN i) (nN j) (nN m) (nN w) o1 o2 o3 o4 b Post := by
  have hpi := hP i hi
  have hpj := hP j hj
  unfold wp_X9_goOn
  rw [n_nat (by omega), n_nat (by omega), hb i hi, hb j hj]
  refine ⟨n_in (by omega) (by omega), n_in (by omega) (by omega), ?_⟩
  intro k26 hk26
  have key : ∀ (N L : Nat) (u1 u2 : Int32), 100000 - L < N → L ≤ m → (∀ j', j' < L → ¬ ringed w (it w (P i) (P j) j')) → k26 (nN (it w (P i) (P j) L).2) (nN (it w (P i) (P j) L).1) u1 u2 (nN L) 0 := by
    intro N
    induction N with
    | zero => intro L u1 u2 f; omega
    | succ N ih =>
      intro L u1 u2 f1 f2 f3
      have hL := it_short hw hpi hpj f3
      have hle := it_le (w := w) hpi hpj L
      have hle1 := it_le (w := w) hpi hpj (L + 1)
      have hle2 := it_le (w := w) hpi hpj (L + 1 + 1)
      apply hk26
      refine ⟨fun c => absurd rfl c, fun _ => ok9_meetTwo hw hle.1 hle.2 ?_⟩
      refine ok9_meetTwo hw hle1.1 hle1.2 ?_
      intro k103 hk103
      have s103 : ∀ s, rcode w (it w (P i) (P j) L) s → k103 s := by
        intro s hs
        apply hk103
        rw [n_eq (by omega) (by omega)]
        have fin : (L = m ∨ ringed w (it w (P i) (P j) L)) → Post (nN L) (nN (it w (P i) (P j) L).1) (nN (it w (P i) (P j) L).2) (nN L) s := fun z => h L s ⟨f2, f3, z⟩ hs
        refine ⟨fun c => fin (Or.inl c), fun c => ⟨fun c2 => ?_, fun c2 => ?_⟩⟩
        · rcases hs with ⟨rfl, _⟩ | ⟨rfl, _⟩ | ⟨rfl, hs⟩
          · exact absurd c2 (by decide)
          · exact absurd c2 (by decide)
          · rw [show nN L + (1 : Int32) = nN (L + 1) from n_add _ 1]
            refine ih (L + 1) _ _ (by omega) (by omega) (fun j' hj' => ?_)
            by_cases e : j' = L
            · rw [e]; exact hs
            · exact f3 j' (by omega)
        · rcases hs with ⟨rfl, hs⟩ | ⟨rfl, hs⟩ | ⟨rfl, hs⟩
          · exact fin (Or.inr (Or.inl hs))
          · exact fin (Or.inr (Or.inr hs.2))
          · exact absurd (by decide) c2
      show (¬ nN (it w (P i) (P j) (L + 1)).1 = nN (it w (P i) (P j) L).1 → _) ∧ _
      have eq1 : (nN (it w (P i) (P j) (L + 1)).1 = nN (it w (P i) (P j) L).1) ↔ mt w (it w (P i) (P j) L).1 (it w (P i) (P j) L).2 = (it w (P i) (P j) L).1 := n_eq (by omega) (by omega)
      have eq2 : (nN (it w (P i) (P j) (L + 1)).2 = nN (it w (P i) (P j) L).2) ↔ mt w (it w (P i) (P j) L).2 (it w (P i) (P j) L).1 = (it w (P i) (P j) L).2 := n_eq (by omega) (by omega)
      have eq3 : (nN (it w (P i) (P j) (L + 1 + 1)).1 = nN (it w (P i) (P j) L).1) ↔ (it w (P i) (P j) (L + 1 + 1)).1 = (it w (P i) (P j) L).1 := n_eq (by omega) (by omega)
      have eq4 : (nN (it w (P i) (P j) (L + 1 + 1)).2 = nN (it w (P i) (P j) L).2) ↔ (it w (P i) (P j) (L + 1 + 1)).2 = (it w (P i) (P j) L).2 := n_eq (by omega) (by omega)
      have not1 : ¬ fixd w (it w (P i) (P j) L).1 (it w (P i) (P j) L).2 → ¬ ((it w (P i) (P j) (L + 1 + 1)).1 = (it w (P i) (P j) L).1 ∧ (it w (P i) (P j) (L + 1 + 1)).2 = (it w (P i) (P j) L).2) → k103 0 := fun z1 z2 => s103 0 (Or.inr (Or.inr ⟨rfl, fun z => z.elim z1 z2⟩))
      have yes2 : ¬ fixd w (it w (P i) (P j) L).1 (it w (P i) (P j) L).2 → ((it w (P i) (P j) (L + 1 + 1)).1 = (it w (P i) (P j) L).1 ∧ (it w (P i) (P j) (L + 1 + 1)).2 = (it w (P i) (P j) L).2) → k103 2 := fun z1 z2 => s103 2 (Or.inr (Or.inl ⟨rfl, z1, z2⟩))
      refine ⟨fun c => ?_, fun c => ⟨fun c2 => ?_, fun c2 => ?_⟩⟩
      · have hf : ¬ fixd w (it w (P i) (P j) L).1 (it w (P i) (P j) L).2 := fun z => c (eq1.mpr z.1)
        exact ⟨fun d => not1 hf (fun z => d (eq3.mpr z.1)), fun d => ⟨fun d2 => not1 hf (fun z => d2 (eq4.mpr z.2)), fun d2 => yes2 hf ⟨eq3.mp d, eq4.mp d2⟩⟩⟩
      · have hf : ¬ fixd w (it w (P i) (P j) L).1 (it w (P i) (P j) L).2 := fun z => c2 (eq2.mpr z.2)
        exact ⟨fun d => not1 hf (fun z => d (eq3.mpr z.1)), fun d => ⟨fun d2 => not1 hf (fun z => d2 (eq4.mpr z.2)), fun d2 => yes2 hf ⟨eq3.mp d, eq4.mp d2⟩⟩⟩
      · exact s103 1 (Or.inl ⟨rfl, eq1.mp c, eq2.mp c2⟩)
  exact key 100001 0 _ _ (by omega) (by omega) (fun j' hj' => by omega)
theorem case_after {n w : Nat} {x y t : Int32} {P : Nat → Nat} {a b : Nat → Int32} {v1 v2 v3 v4 o1 o2 o3 o4 : Int32} {A : Nat → Int32} {K : Int32 → Int32 → Int32 → Int32 → (Nat → Int32) → Int32 → Int32 → Int32 → Int32 → Prop} (hn : n ≤ 8) (hw : w ≤ 3) (hP : ∀ t, t < n → P t ≤ 99999) (ha : ∀ t, t < n → a t = nN (P t)) (hb : ∀ t, t < n → b t = nN (P t)) (hK : ∀ u1 u2 u3 u4 B p1 p2 p3 p4, K u1 u2 u3 u4 B p1 p2 p3 p4) : wp_X8_after x y t (nN n) (nN w) a v1 v2 v3 v4 A (fun r u1 u2 u3 u4 B => wp_X9_after x y t (nN w) (nN n) o1 o2 o3 o4 b (fun r' p1 p2 p3 p4 => (r = r' → K u1 u2 u3 u4 B p1 p2 p3 p4) ∧ (¬ r = r' → False))) := by
  obtain ⟨z, rfl, hz, hz2⟩ := i_ex x
  obtain ⟨v, rfl, hv, hv2⟩ := i_ex y
  obtain ⟨s, rfl, hs, hs2⟩ := i_ex t
  have refuse : ∀ u1 u2 u3 u4 B, ¬ (0 ≤ z ∧ z < n ∧ 0 ≤ v ∧ v < n) → wp_X9_after (iI z) (iI v) (iI s) (nN w) (nN n) o1 o2 o3 o4 b (fun r' p1 p2 p3 p4 => ((-1 : Int32) = r' → K u1 u2 u3 u4 B p1 p2 p3 p4) ∧ (¬ (-1 : Int32) = r' → False)) := by
    intro u1 u2 u3 u4 B hh
    unfold wp_X9_after
    exact ok9_areTwo hn hz hz2 hv hv2 (fun a b c d => absurd ⟨a, b, c, d⟩ hh) (fun _ => ⟨fun c => absurd rfl c, fun _ => same_k (hK _ _ _ _ _ _ _ _ _)⟩)
  have outside : ∀ u1 u2 u3 u4 B, 0 ≤ z → z < n → 0 ≤ v → v < n → ¬ (0 ≤ s ∧ s ≤ 999999999) → wp_X9_after (iI z) (iI v) (iI s) (nN w) (nN n) o1 o2 o3 o4 b (fun r' p1 p2 p3 p4 => ((-2 : Int32) = r' → K u1 u2 u3 u4 B p1 p2 p3 p4) ∧ (¬ (-2 : Int32) = r' → False)) := by
    intro u1 u2 u3 u4 B h1 h2 h3 h4 hh
    unfold wp_X9_after
    exact ok9_areTwo hn hz hz2 hv hv2 (fun _ _ _ _ => ⟨fun _ => ok_inI (lo := 0) (hi := 999999999) hs hs2 rfl rfl (fun a b => absurd ⟨a, b⟩ hh) (fun _ => ⟨fun c => absurd rfl c, fun _ => same_k (hK _ _ _ _ _ _ _ _ _)⟩), fun c => absurd c one_ne⟩) (fun hh2 => absurd ⟨h1, h2, h3, h4⟩ hh2)
  unfold wp_X8_after
  refine ok_isPerson hn hz hz2 (fun h1 h2 => ⟨fun c => absurd c one_ne, fun _ => ?_⟩) (fun hh => ⟨fun _ => refuse _ _ _ _ _ (fun z => hh ⟨z.1, z.2.1⟩), fun c => absurd rfl c⟩)
  refine ok_isPerson hn hv hv2 (fun h3 h4 => ⟨fun _ => ?_, fun c => absurd c one_ne⟩) (fun hh => ⟨fun c => absurd rfl c, fun _ => refuse _ _ _ _ _ (fun z => hh ⟨z.2.2.1, z.2.2.2⟩)⟩)
  rw [show (iI s < 0) = (iI s < iI 0) from rfl, i_lt hs hs2 (by omega) (by omega), show (999999999 : Int32) = iI 999999999 from rfl, i_le hs hs2 (by omega) (by omega), i_eq hz hz2 hv hv2]
  refine ⟨fun c => outside _ _ _ _ _ h1 h2 h3 h4 (by omega), fun c => ⟨fun c2 => ⟨fun c3 => ?_, fun c3 => ?_⟩, fun c2 => outside _ _ _ _ _ h1 h2 h3 h4 (by omega)⟩⟩
  · obtain ⟨i, rfl⟩ : ∃ i : Nat, z = i := ⟨z.toNat, by omega⟩
    obtain ⟨j, rfl⟩ : ∃ j : Nat, v = j := ⟨v.toNat, by omega⟩
    obtain ⟨m, rfl⟩ : ∃ m : Nat, s = m := ⟨s.toNat, by omega⟩
    have hi : i < n := by omega
    have hj : j < n := by omega
    have hpi := hP i hi
    have hpj := hP j hj
    rw [n_nat (by omega), n_nat (by omega), ha i hi, ha j hj]
    unfold wp_X7_begin
    refine ⟨n_in (by omega) (by omega), n_in (by omega) (by omega), ok_sharedBy (by omega) (by omega) ?_⟩
    refine ok_makeToRing hw hpi hpj (by omega) (fun L A' q1 q2 q3 => ?_)
    have hle := it_le (w := w) hpi hpj L
    have hup : upto w (P i) (P j) m L := ⟨q1, q2, q3⟩
    rw [n_sub q1, show (2 : Int32) = nN 2 from rfl, n_rem (by omega) (by omega) (by omega), show (1 : Int32) = nN 1 from rfl, n_eq (by omega) (by omega)]
    have nine : ∀ (r : Nat) (u1 u2 u3 u4 : Int32) (B : Nat → Int32), r = (if (m - L) % 2 = 1 then mt w (it w (P i) (P j) L).1 (it w (P i) (P j) L).2 else (it w (P i) (P j) L).1) → wp_X9_after (iI i) (iI j) (iI m) (nN w) (nN n) o1 o2 o3 o4 b (fun r' p1 p2 p3 p4 => (nN r = r' → K u1 u2 u3 u4 B p1 p2 p3 p4) ∧ (¬ nN r = r' → False)) := by
      intro r u1 u2 u3 u4 B hr
      unfold wp_X9_after
      refine ok9_areTwo hn hz hz2 hv hv2 (fun _ _ _ _ => ⟨fun _ => ok_inI (lo := 0) (hi := 999999999) hs hs2 rfl rfl (fun _ _ => ⟨fun _ => ⟨fun _ => ?_, fun cc => ?_⟩, fun c => absurd c one_ne⟩) (fun hh => absurd ⟨by omega, by omega⟩ hh), fun c => absurd c one_ne⟩) (fun hh2 => absurd ⟨h1, h2, h3, h4⟩ hh2)
      · refine ok9_goOn hn hw hi hj hP hb (by omega) (fun L' s g1 g2 => ?_)
        have eL := upto_u hup g1
        subst eL
        rw [n_sub q1, show (2 : Int32) = nN 2 from rfl, n_rem (by omega) (by omega) (by omega), show (1 : Int32) = nN 1 from rfl, n_eq (by omega) (by omega)]
        rcases g2 with ⟨rfl, g2⟩ | ⟨rfl, g2⟩ | ⟨rfl, g2⟩
        · refine ⟨fun _ => same_of ?_ (hK _ _ _ _ _ _ _ _ _), fun cc => absurd cc (by decide)⟩
          rw [hr]
          split
          · rw [g2.1]
          · rfl
        · refine ⟨fun cc => absurd rfl cc, fun _ => ⟨fun cc => same_of ?_ (hK _ _ _ _ _ _ _ _ _), fun cc => ok9_meetTwo hw hle.1 hle.2 (same_of ?_ (hK _ _ _ _ _ _ _ _ _))⟩⟩
          · rw [hr, if_neg cc]
          · rw [hr, if_pos cc]
        · refine ⟨fun _ => same_of ?_ (hK _ _ _ _ _ _ _ _ _), fun cc => absurd cc (by decide)⟩
          have : L = m := by
            rcases q3 with e | e
            · exact e
            · exact absurd e g2
          rw [hr, if_neg (by omega)]
      · rw [i_eq hz hz2 hv hv2] at cc
        exact absurd cc c3
    refine ⟨fun cc => nine _ _ _ _ _ _ (by rw [if_neg cc]), fun cc => ok_makeAlike (t := 1) (c := 1) hw hle.1 hle.2 (many_one hle.1 hle.2) (nine _ _ _ _ _ _ (by rw [if_pos cc]; rfl))⟩
  · unfold wp_X9_after
    refine ok9_areTwo hn hz hz2 hv hv2 (fun _ _ _ _ => ⟨fun _ => ok_inI (lo := 0) (hi := 999999999) hs hs2 rfl rfl (fun _ _ => ⟨fun _ => ?_, fun c => absurd c one_ne⟩) (fun hh => absurd ⟨by omega, by omega⟩ hh), fun c => absurd c one_ne⟩) (fun hh2 => absurd ⟨h1, h2, h3, h4⟩ hh2)
    rw [i_eq hz hz2 hv hv2]
    exact ⟨fun cc => absurd c3 cc, fun _ => same_k (hK _ _ _ _ _ _ _ _ _)⟩
