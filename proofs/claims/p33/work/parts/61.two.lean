/-! two who meet again and again, as the class tells it -/
theorem leastN {p : Nat → Prop} : ∀ n, p n → ∃ m, p m ∧ m ≤ n ∧ ∀ j, j < m → ¬ p j := by
  intro n
  induction n using Nat.strongRecOn with
  | ind n ih =>
    intro hn
    by_cases h : ∃ j, j < n ∧ p j
    · obtain ⟨j, h1, h2⟩ := h
      obtain ⟨m, q1, q2, q3⟩ := ih j h1 h2
      exact ⟨m, q1, by omega, q3⟩
    · exact ⟨n, hn, Nat.le_refl n, fun j hj hp => h ⟨j, hj, hp⟩⟩
theorem it_two {w a b : Nat} (h : ringed w (a, b)) : it w a b 2 = (a, b) := by
  show (mt w (mt w a b) (mt w b a), mt w (mt w b a) (mt w a b)) = (a, b)
  rcases h with ⟨h1, h2⟩ | ⟨h1, h2⟩
  · simp only [] at h1 h2
    rw [h1, h2, h1, h2]
  · simp only [] at h1 h2
    rw [h1, h2]
theorem it_even {w a b : Nat} (h : ringed w (a, b)) : ∀ c r, it w a b (2 * c + r) = it w a b r
  | 0, r => by rw [Nat.mul_zero, Nat.zero_add]
  | c + 1, r => by
    rw [show 2 * (c + 1) + r = 2 + (2 * c + r) by omega, it_add, it_two h]
    exact it_even h c r
theorem it_rest {w a b L m : Nat} (h : ringed w (it w a b L)) (hL : L ≤ m) : it w a b m = it w (it w a b L).1 (it w a b L).2 ((m - L) % 2) := by
  rw [show m = L + (m - L) by omega, it_add, show L + (m - L) - L = m - L by omega]
  have := it_even (w := w) (a := (it w a b L).1) (b := (it w a b L).2) h ((m - L) / 2) ((m - L) % 2)
  rw [show 2 * ((m - L) / 2) + (m - L) % 2 = m - L by omega] at this
  exact this
/-- where the RING begins, and how long it is -/
def RLq (w a b L R : Nat) : Prop := L ≤ 99999 ∧ (∀ j, j < L → ¬ ringed w (it w a b j)) ∧ ((fixd w (it w a b L).1 (it w a b L).2 ∧ R = 1) ∨ (¬ fixd w (it w a b L).1 (it w a b L).2 ∧ flips w (it w a b L).1 (it w a b L).2 ∧ R = 2))
theorem RLq.ring {w a b L R : Nat} (h : RLq w a b L R) : ringed w (it w a b L) := by
  rcases h.2.2 with ⟨h, _⟩ | ⟨_, h, _⟩
  · exact Or.inl h
  · exact Or.inr h
theorem RLq.uniq {w a b L R L' R' : Nat} (h : RLq w a b L R) (h' : RLq w a b L' R') : L' = L ∧ R' = R := by
  have e : L' = L := by
    rcases Nat.lt_trichotomy L' L with q | q | q
    · exact absurd h'.ring (h.2.1 L' q)
    · exact q
    · exact absurd h.ring (h'.2.1 L q)
  subst e
  refine ⟨rfl, ?_⟩
  rcases h.2.2 with ⟨h1, h2⟩ | ⟨h1, _, h2⟩ <;> rcases h'.2.2 with ⟨g1, g2⟩ | ⟨g1, _, g2⟩
  · omega
  · exact absurd h1 g1
  · exact absurd g1 h1
  · omega
theorem RLq.swap {w a b L R : Nat} (h : RLq w a b L R) : RLq w b a L R := by
  obtain ⟨h1, h2, h3⟩ := h
  refine ⟨h1, fun j hj hr => h2 j hj ?_, ?_⟩
  · rw [it_swap] at hr
    exact (ringed_swap _ _ _).mpr hr
  · rw [it_swap]
    simp only []
    rcases h3 with ⟨g1, g2⟩ | ⟨g1, g2, g3⟩
    · exact Or.inl ⟨(fixd_swap _ _ _).mp g1, g2⟩
    · exact Or.inr ⟨fun z => g1 ((fixd_swap _ _ _).mpr z), (flips_swap _ _ _).mp g2, g3⟩
theorem RLq.one {w a b L R : Nat} (h : RLq w a b L R) : R = 1 ∨ R = 2 := by
  rcases h.2.2 with ⟨_, h⟩ | ⟨_, _, h⟩
  · exact Or.inl h
  · exact Or.inr h
theorem RLq.come {w a b L R : Nat} (h : RLq w a b L R) : it w a b (L + R) = it w a b L := by
  rw [it_add]
  rcases h.2.2 with ⟨h1, rfl⟩ | ⟨_, h1, rfl⟩
  · show (mt w (it w a b L).1 (it w a b L).2, mt w (it w a b L).2 (it w a b L).1) = it w a b L
    rw [h1.1, h1.2]
  · exact it_two (Or.inr h1)
theorem RLq.come2 {w a b L R : Nat} (h : RLq w a b L R) : it w a b (L + 1 + R) = it w a b (L + 1) := by
  rw [show L + 1 + R = (L + R) + 1 by omega, it_add w a b (L + R) 1, it_add w a b L 1, h.come]
theorem RLq.next {w a b L R : Nat} (h : RLq w a b L R) (hL : L ≠ 0) : RLq w (mt w a b) (mt w b a) (L - 1) R := by
  have e : ∀ j, it w (mt w a b) (mt w b a) j = it w a b (1 + j) := fun j => (it_add w a b 1 j).symm
  obtain ⟨h1, h2, h3⟩ := h
  refine ⟨by omega, fun j hj => ?_, ?_⟩
  · rw [e]; exact h2 (1 + j) (by omega)
  · rw [e, show 1 + (L - 1) = L by omega]; exact h3
theorem RLq.still {w a b L R : Nat} (h : RLq w a b L R) (hz : a = b ∨ sh a b = 0) : L = 0 ∧ R = 1 := by
  have hf : fixd w a b := ⟨mt_none hz, mt_none (by rw [sh_comm]; omega)⟩
  have hL : L = 0 := by
    rcases Nat.lt_or_ge 0 L with q | q
    · exact absurd (show ringed w (it w a b 0) from Or.inl hf) (h.2.1 0 q)
    · omega
  subst hL
  refine ⟨rfl, ?_⟩
  rcases h.2.2 with ⟨_, h⟩ | ⟨h, _, _⟩
  · exact h
  · exact absurd hf h
theorem mt_sum {w a b : Nat} (ha : a ≤ 99999) (hb : b ≤ 99999) : mt w a b + mt w b a ≤ a + b := by
  by_cases hz : a = b ∨ sh a b = 0
  · rw [mt_none hz, mt_none (show b = a ∨ sh b a = 0 by rw [sh_comm]; omega)]
    exact Nat.le_refl _
  · obtain ⟨h1, h2, h3, h4⟩ := mt_int (w := w) ha hb (fun e => hz (Or.inl e)) (fun e => hz (Or.inr e))
    split at h3 <;> split at h4 <;> omega
theorem sv_after {n w i j m : Nat} {P : Nat → Nat} {a : Nat → Int32} {v1 v2 v3 v4 : Int32} {A : Nat → Int32} {Post : Int32 → Int32 → Int32 → Int32 → Int32 → (Nat → Int32) → Prop} (hn : n ≤ 8) (hw : w ≤ 3) (hi : i < n) (hj : j < n) (hij : i ≠ j) (hm : m ≤ 999999999) (hP : ∀ t, t < n → P t ≤ 99999) (ha : ∀ t, t < n → a t = nN (P t)) (h : ∀ u1 u2 u3 u4 B, Post (nN (it w (P i) (P j) m).1) u1 u2 u3 u4 B) : wp_X8_after (nN i) (nN j) (nN m) (nN n) (nN w) a v1 v2 v3 v4 A Post := by
  unfold wp_X8_after
  refine ok_isPerson hn (by omega) (by omega) (fun h1 h2 => ⟨fun c => absurd c one_ne, fun _ => ?_⟩) (fun hh => absurd ⟨by omega, by omega⟩ hh)
  refine ok_isPerson hn (by omega) (by omega) (fun h3 h4 => ⟨fun _ => ?_, fun c => absurd c one_ne⟩) (fun hh => absurd ⟨by omega, by omega⟩ hh)
  rw [show (0 : Int32) = nN 0 from rfl, n_lt (by omega) (by omega), show (999999999 : Int32) = nN 999999999 from rfl, n_le (by omega) (by omega), n_eq (by omega) (by omega)]
  refine ⟨fun c => by omega, fun _ => ⟨fun _ => ⟨fun _ => ?_, fun c => absurd c hij⟩, fun c => absurd hm c⟩⟩
  have hpi := hP i hi
  have hpj := hP j hj
  rw [n_nat (by omega), n_nat (by omega), ha i hi, ha j hj]
  unfold wp_X7_begin
  refine ⟨n_in (by omega) (by omega), n_in (by omega) (by omega), ok_sharedBy (by omega) (by omega) ?_⟩
  refine ok_makeToRing hw hpi hpj (by omega) (fun L A' q1 q2 q3 => ?_)
  have hle := it_le (w := w) hpi hpj L
  have key : it w (P i) (P j) m = it w (it w (P i) (P j) L).1 (it w (P i) (P j) L).2 ((m - L) % 2) := by
    rcases q3 with e | e
    · subst e
      rw [Nat.sub_self]
      rfl
    · exact it_rest e q1
  rw [n_sub q1, show (2 : Int32) = nN 2 from rfl, n_rem (by omega) (by omega) (by omega), show (1 : Int32) = nN 1 from rfl, n_eq (by omega) (by omega)]
  refine ⟨fun cc => ?_, fun cc => ok_makeAlike (t := 1) (c := 1) hw hle.1 hle.2 (many_one hle.1 hle.2) ?_⟩
  · have := h (nN w) (nN (it w (P i) (P j) L).1) (nN (it w (P i) (P j) L).2) (nN (sh (it w (P i) (P j) L).1 (it w (P i) (P j) L).2)) A'
    rw [key, show (m - L) % 2 = 0 by omega] at this
    exact this
  · rw [key, cc] at h
    exact h _ _ _ _ _
theorem sv_lead {n w i j : Nat} {P : Nat → Nat} {a : Nat → Int32} {v1 v2 v3 v4 : Int32} {A : Nat → Int32} {Post : Int32 → Int32 → Int32 → Int32 → Int32 → (Nat → Int32) → Prop} (hn : n ≤ 8) (hw : w ≤ 3) (hi : i < n) (hj : j < n) (hij : i ≠ j) (hP : ∀ t, t < n → P t ≤ 99999) (ha : ∀ t, t < n → a t = nN (P t)) (h : ∀ L R u1 u2 u3 u4 B, RLq w (P i) (P j) L R → Post (nN L) u1 u2 u3 u4 B) : wp_X8_lead (nN i) (nN j) (nN n) (nN w) a v1 v2 v3 v4 A Post := by
  unfold wp_X8_lead
  have hpi := hP i hi
  have hpj := hP j hj
  refine sv_two hn hi hj hij ⟨fun _ => ?_, fun c => absurd rfl c⟩
  rw [n_nat (by omega), n_nat (by omega), ha i hi, ha j hj]
  unfold wp_X7_begin
  refine ⟨n_in (by omega) (by omega), n_in (by omega) (by omega), ok_sharedBy (by omega) (by omega) ?_⟩
  rw [show (999999999 : Int32) = nN 999999999 from rfl]
  refine ok_makeToRing hw hpi hpj (by omega) (fun L A' q1 q2 q3 => ?_)
  obtain ⟨hup, hri⟩ := upto_far hw hpi hpj (by omega) (show 100000 ≤ 1000000000 by omega) (show upto w (P i) (P j) 999999999 L from ⟨q1, q2, q3⟩)
  have hs := it_short hw hpi hpj q2
  by_cases hf : fixd w (it w (P i) (P j) L).1 (it w (P i) (P j) L).2
  · exact h L 1 _ _ _ _ _ ⟨hs, q2, Or.inl ⟨hf, rfl⟩⟩
  · rcases hri with e | e
    · exact absurd e hf
    · exact h L 2 _ _ _ _ _ ⟨hs, q2, Or.inr ⟨hf, e, rfl⟩⟩
theorem sv_ring {n w i j : Nat} {P : Nat → Nat} {a : Nat → Int32} {v1 v2 v3 v4 : Int32} {A : Nat → Int32} {Post : Int32 → Int32 → Int32 → Int32 → Int32 → (Nat → Int32) → Prop} (hn : n ≤ 8) (hw : w ≤ 3) (hi : i < n) (hj : j < n) (hij : i ≠ j) (hP : ∀ t, t < n → P t ≤ 99999) (ha : ∀ t, t < n → a t = nN (P t)) (h : ∀ L R u1 u2 u3 u4 B, RLq w (P i) (P j) L R → Post (nN R) u1 u2 u3 u4 B) : wp_X8_ring (nN i) (nN j) (nN n) (nN w) a v1 v2 v3 v4 A Post := by
  unfold wp_X8_ring
  have hpi := hP i hi
  have hpj := hP j hj
  refine sv_two hn hi hj hij ⟨fun _ => ?_, fun c => absurd rfl c⟩
  rw [n_nat (by omega), n_nat (by omega), ha i hi, ha j hj]
  unfold wp_X7_begin
  refine ⟨n_in (by omega) (by omega), n_in (by omega) (by omega), ok_sharedBy (by omega) (by omega) ?_⟩
  rw [show (999999999 : Int32) = nN 999999999 from rfl]
  refine ok_makeToRing hw hpi hpj (by omega) (fun L A' q1 q2 q3 => ?_)
  obtain ⟨hup, hri⟩ := upto_far hw hpi hpj (by omega) (show 100000 ≤ 1000000000 by omega) (show upto w (P i) (P j) 999999999 L from ⟨q1, q2, q3⟩)
  have hs := it_short hw hpi hpj q2
  have hle := it_le (w := w) hpi hpj L
  unfold wp_X7_ringLength
  refine ok_changesPlaces hw hle.1 hle.2 (fun hf hp => ⟨fun c => absurd c one_ne, fun _ => h L 2 _ _ _ _ _ ⟨hs, q2, Or.inr ⟨hf, hp, rfl⟩⟩⟩) (fun hp => ⟨fun _ => h L 1 _ _ _ _ _ ⟨hs, q2, Or.inl ⟨?_, rfl⟩⟩, fun c => absurd rfl c⟩)
  rcases hri with e | e
  · exact e
  · exact Classical.byContradiction (fun z => hp ⟨z, e⟩)
theorem sv_meet {n w k i j : Nat} {P : Nat → Nat} {a fa sa ha' ga : Nat → Int32} {Post : Int32 → Int32 → (Nat → Int32) → (Nat → Int32) → (Nat → Int32) → (Nat → Int32) → (Nat → Int32) → Prop} (hn : n ≤ 8) (hw : w ≤ 3) (hi : i < n) (hj : j < n) (hij : i ≠ j) (hk : k ≤ 32) (hP : ∀ t, t < n → P t ≤ 99999) (ha : ∀ t, t < n → a t = nN (P t)) (hf : k = 32 → Post (-4) (nN k) a fa sa ha' ga)
    (h : ∀ a', k < 32 → (∀ t, t < n → a' t = nN (mv w P i j t)) → Post (iI ((mt w (P i) (P j) : Int) - P i + 100000)) (nN (k + 1)) a' (upd fa k (nN i)) (upd sa k (nN j)) (upd ha' k (nN (P i))) (upd ga k (nN (P j)))) : wp_X8_meet (nN i) (nN j) (nN n) (nN w) (nN k) a fa sa ha' ga Post := by
  have m32 : (nN k < (32 : Int32)) ↔ k < 32 := by rw [show (32 : Int32) = nN 32 from rfl, n_lt (by omega) (by omega)]
  unfold wp_X8_meet
  refine sv_two hn hi hj hij ⟨fun _ => ?_, fun c => absurd rfl c⟩
  rw [m32]
  refine ⟨fun ck => ⟨n_in (by omega) (by omega), ?_⟩, fun ck => hf (by omega)⟩
  unfold wp_X1_addMeeting
  rw [m32]
  refine ⟨fun _ => ⟨n_in (by omega) (by omega), n_in (by omega) (by omega), n_in (by omega) (by omega), n_in (by omega) (by omega), n_in (by omega) (by omega), n_in (by omega) (by omega), ok_makeMeeting hn hw hi hj (by omega) hP ha (fun a' hh => ⟨n_in (by omega) (by omega), ?_⟩)⟩, fun c => absurd ck c⟩
  rw [n_nat (by omega), n_nat (by omega), n_nat (by omega), ha i hi, ha j hj, show nN k + 1 = nN (k + 1) from n_add _ 1, hh i hi]
  have e : mv w P i j i = mt w (P i) (P j) := by unfold mv; rw [if_neg (by omega), if_pos rfl]
  rw [e, i_sub, show (100000 : Int32) = iI 100000 from rfl, i_add]
  exact h a' ck hh
theorem sv_back {n k : Nat} {P A B C D : Nat → Nat} {a fa sa ha' ga : Nat → Int32} {Post : Int32 → Int32 → (Nat → Int32) → Prop} (hn : n ≤ 8) (ha : ∀ t, t < n → a t = nN (P t)) (hr : RowC n k A B C D fa sa ha' ga) (h0 : k = 0 → Post (-3) (nN k) a)
    (h : ∀ a', 1 ≤ k → (∀ t, t < n → a' t = nN (if t = B (k - 1) then D (k - 1) else if t = A (k - 1) then C (k - 1) else P t)) → Post (nN (k - 1)) (nN (k - 1)) a') : wp_X8_back (nN k) a fa sa ha' ga Post := by
  have hk32 := hr.1
  have l1 : ((1 : Int32) ≤ nN k) ↔ 1 ≤ k := by rw [show (1 : Int32) = nN 1 from rfl, n_le (by omega) (by omega)]
  unfold wp_X8_back
  rw [l1]
  refine ⟨fun c => ?_, fun c => h0 (by omega)⟩
  unfold wp_X1_takeBack
  rw [l1]
  refine ⟨fun _ => ?_, fun c2 => absurd c c2⟩
  obtain ⟨q1, q2, q3, q4⟩ := hr.2.1 (k - 1) (by omega)
  obtain ⟨r1, r2, r3, r4⟩ := hr.2.2 (k - 1) (by omega)
  have es : nN k - (1 : Int32) = nN (k - 1) := n_sub (b := 1) c
  rw [es, n_nat (by omega), r1, r2, r3, r4, n_nat (by omega), n_nat (by omega)]
  exact ⟨n_in (by omega) (by omega), n_in (by omega) (by omega), n_in (by omega) (by omega), n_in (by omega) (by omega), n_in (by omega) (by omega), n_in (by omega) (by omega), h _ c (upd2_n ha)⟩
theorem sv_later {n w q i d : Nat} {F G P : Nat → Nat} {fa sa a la : Nat → Int32} {Post : Int32 → (Nat → Int32) → Prop} (hn : n ≤ 8) (hw : w ≤ 3) (hi : i < n) (hd3 : d ≤ 300) (hd : DayC n q F G fa sa) (hP : ∀ t, t < n → P t ≤ 99999) (ha : ∀ t, t < n → a t = nN (P t)) (h : ∀ l, Post (nN (itD w q F G d P i)) l) : wp_X8_later (nN i) (nN d) (nN q) fa sa (nN n) (nN w) a la Post := by
  obtain ⟨hq, h1, h2⟩ := hd
  unfold wp_X8_later
  refine ok_isPerson hn (by omega) (by omega) (fun hz0 hzn => ⟨fun _ => ?_, fun c => absurd c one_ne⟩) (fun hh => absurd ⟨by omega, by omega⟩ hh)
  rw [show (nN d < (0 : Int32)) = (nN d < nN 0) from rfl, n_lt (by omega) (by omega), show (nN d ≤ (300 : Int32)) = (nN d ≤ nN 300) from rfl, n_le (by omega) (by omega)]
  refine ⟨fun c => by omega, fun _ => ⟨fun _ => ?_, fun c => absurd hd3 c⟩⟩
  intro k hk
  have key : ∀ (N j c : Nat) (l1 : Nat → Int32), d - j < N → j ≤ d → c ≤ 16 → (c = 0 → dayN w F G q (itD w q F G j P) = itD w q F G j P) → (∀ t, t < n → l1 t = nN (itD w q F G j P t)) → k (nN j) (nN c) l1 := by
    intro N
    induction N with
    | zero => intro j c l1 h1; omega
    | succ N ih =>
      intro j c l1 g1 g2 gc g3 g4
      apply hk
      rw [n_le (by omega) (by omega), show (0 : Int32) = nN 0 from rfl, n_le (by omega) (by omega), n_nat (by omega), g4 i hi]
      refine ⟨fun cd => ⟨n_in (by omega) (by omega), ?_⟩, fun cd => ⟨fun c0 => ⟨n_in (by omega) (by omega), ?_⟩, fun c0 => ?_⟩⟩
      · have e : j = d := by omega
        subst e
        exact h l1
      · have e := itD_fix (g3 (by omega)) (d - j)
        rw [show j + (d - j) = d by omega] at e
        rw [← e]
        exact h l1
      · refine ok_makeAll hn hw (by omega) h1 h2 (itD_le h1 hP j) g4 (fun a' ha' => ?_)
        have hcl := chN_le w F G (itD w q F G j P) q
        rw [show nN j + 1 = nN (j + 1) from n_add _ 1]
        refine ih (j + 1) _ a' (by omega) (by omega) (by omega) (fun h0 => ?_) ha'
        show dayN w F G q (dayN w F G q (itD w q F G j P)) = dayN w F G q (itD w q F G j P)
        rw [dayN_same q h0, dayN_same q h0]
  exact key (d + 1) 0 1 _ (by omega) (by omega) (by omega) (fun h => by omega) (fun t ht => by rw [show Int32.toNatClampNeg (8 : Int32) = 8 from rfl, cpy_lo (by omega)]; exact ha t ht)
/-- DAY RING and DAY LEAD -/
def DR (n w q : Nat) (F G P : Nat → Nat) (rr ll : Int32) : Prop := (∃ d e, e < d ∧ d ≤ 300 ∧ sameN n (itD w q F G d P) (itD w q F G e P) ∧ (∀ d' e', e' < d' → d' < d → ¬ sameN n (itD w q F G d' P) (itD w q F G e' P)) ∧ rr = nN (d - e) ∧ ll = nN e) ∨ ((∀ d e, e < d → d ≤ 300 → ¬ sameN n (itD w q F G d P) (itD w q F G e P)) ∧ rr = -9 ∧ ll = -9)
theorem DR.uniq {n w q : Nat} {F G P : Nat → Nat} {rr ll rr' ll' : Int32} (h : DR n w q F G P rr ll) (h' : DR n w q F G P rr' ll') : rr' = rr ∧ ll' = ll := by
  rcases h with ⟨d, e, g1, g2, g3, g4, g5, g6⟩ | ⟨g1, g2, g3⟩ <;> rcases h' with ⟨d', e', f1, f2, f3, f4, f5, f6⟩ | ⟨f1, f2, f3⟩
  · have ed : d = d' := by
      rcases Nat.lt_or_ge d d' with h | h
      · exact absurd g3 (f4 d e g1 h)
      · rcases Nat.lt_or_ge d' d with h' | h'
        · exact absurd f3 (g4 d' e' f1 h')
        · omega
    subst ed
    have ee : e = e' := by
      rcases Nat.lt_or_ge e e' with h | h
      · exact absurd (fun t ht => (f3 t ht).symm.trans (g3 t ht)) (g4 e' e h f1)
      · rcases Nat.lt_or_ge e' e with h' | h'
        · exact absurd (fun t ht => (g3 t ht).symm.trans (f3 t ht)) (f4 e e' h' g1)
        · omega
    subst ee
    exact ⟨by rw [g5, f5], by rw [g6, f6]⟩
  · exact absurd g3 (f1 d e g1 g2)
  · exact absurd f3 (g1 d' e' f1 f2)
  · exact ⟨by rw [g2, f2], by rw [g3, f3]⟩
theorem sv_dayRing0 {n w q : Nat} {F G P : Nat → Nat} {fa sa a ro pu : Nat → Int32} {r l : Int32} {Post : Int32 → Int32 → Int32 → (Nat → Int32) → (Nat → Int32) → Prop} (hn : n ≤ 8) (hw : w ≤ 3) (hd : DayC n q F G fa sa) (hP : ∀ t, t < n → P t ≤ 99999) (ha : ∀ t, t < n → a t = nN (P t)) (h : ∀ rr ll u1 u2 u3 u4, DR n w q F G P rr ll → Post rr u1 u2 u3 u4) : wp_X8_dayRing 0 (nN q) fa sa (nN n) (nN w) a r l ro pu Post := by
  obtain ⟨hq, h1, h2⟩ := hd
  unfold wp_X8_dayRing
  refine ok_dayFind hn hw (by omega) h1 h2 hP ha (fun d e ro' pu' g1 g2 g3 g4 => ⟨fun _ => h _ (nN e) _ _ _ _ (Or.inl ⟨d, e, g1, g2, g3, g4, rfl, rfl⟩), fun cx => absurd rfl cx⟩) (fun ro' pu' g => ⟨fun _ => h _ (-9) _ _ _ _ (Or.inr ⟨g, rfl, rfl⟩), fun cx => absurd rfl cx⟩)
theorem sv_dayRing1 {n w q : Nat} {F G P : Nat → Nat} {fa sa a ro pu : Nat → Int32} {r l : Int32} {Post : Int32 → Int32 → Int32 → (Nat → Int32) → (Nat → Int32) → Prop} (hn : n ≤ 8) (hw : w ≤ 3) (hd : DayC n q F G fa sa) (hP : ∀ t, t < n → P t ≤ 99999) (ha : ∀ t, t < n → a t = nN (P t)) (h : ∀ rr ll u1 u2 u3 u4, DR n w q F G P rr ll → Post ll u1 u2 u3 u4) : wp_X8_dayRing 1 (nN q) fa sa (nN n) (nN w) a r l ro pu Post := by
  obtain ⟨hq, h1, h2⟩ := hd
  unfold wp_X8_dayRing
  refine ok_dayFind hn hw (by omega) h1 h2 hP ha (fun d e ro' pu' g1 g2 g3 g4 => ⟨fun cx => absurd cx one_ne, fun _ => h (nN (d - e)) _ _ _ _ _ (Or.inl ⟨d, e, g1, g2, g3, g4, rfl, rfl⟩)⟩) (fun ro' pu' g => ⟨fun cx => absurd cx one_ne, fun _ => h (-9) _ _ _ _ _ (Or.inr ⟨g, rfl, rfl⟩)⟩)
/-- what the law asks of DAY RING and DAY LEAD -/
theorem DR.law {n w q : Nat} {F G P : Nat → Nat} {rr ll : Int32} (h : DR n w q F G P rr ll) : (rr = -9 ∧ ll = -9) ∨ ∃ d e : Nat, e < d ∧ d ≤ 300 ∧ rr = nN (d - e) ∧ ll = nN e ∧ ∀ i, i < n → itD w q F G e P i = itD w q F G d P i := by
  rcases h with ⟨d, e, g1, g2, g3, g4, g5, g6⟩ | ⟨g1, g2, g3⟩
  · exact Or.inr ⟨d, e, g1, g2, g5, g6, fun i hi => (g3 i hi).symm⟩
  · exact Or.inl ⟨g2, g3⟩
theorem DR.none {n w : Nat} {F G P : Nat → Nat} {rr ll : Int32} (h : DR n w 0 F G P rr ll) : rr = 1 ∧ ll = 0 := by
  rcases h with ⟨d, e, g1, g2, g3, g4, g5, g6⟩ | ⟨g1, g2, g3⟩
  · have hd : d = 1 := by
      rcases Nat.lt_or_ge 1 d with q | q
      · exact absurd (show sameN n (itD w 0 F G 1 P) (itD w 0 F G 0 P) from fun t _ => rfl) (g4 1 0 (by omega) q)
      · omega
    subst hd
    have he : e = 0 := by omega
    subst he
    exact ⟨g5, g6⟩
  · exact absurd (show sameN n (itD w 0 F G 1 P) (itD w 0 F G 0 P) from fun t _ => rfl) (g1 1 0 (by omega) (by omega))
/-- PENNIES, as the class finds them -/
def PN (w a b m : Nat) : Prop := m ≤ a ∧ pen w a b m ∧ ∀ y, y < m → ¬ pen w a b y
theorem PN.uniq {w a b m m' : Nat} (h : PN w a b m) (h' : PN w a b m') : m' = m := by
  rcases Nat.lt_trichotomy m' m with q | q | q
  · exact absurd h'.2.1 (h.2.2 m' q)
  · exact q
  · exact absurd h.2.1 (h'.2.2 m q)
theorem PN.zero {w a b m : Nat} (h : PN w a b m) : m = 0 ↔ a ≤ mt w a b := by
  constructor
  · rintro rfl
    have := h.2.1
    unfold pen at this
    exact this
  · intro hz
    rcases Nat.lt_or_ge 0 m with q | q
    · exact absurd (show pen w a b 0 by unfold pen; exact hz) (h.2.2 0 q)
    · omega
theorem sv_pennies {n w i j : Nat} {P : Nat → Nat} {a : Nat → Int32} {Post : Int32 → Prop} (hn : n ≤ 8) (hw : w ≤ 3) (hi : i < n) (hj : j < n) (hij : i ≠ j) (hP : ∀ t, t < n → P t ≤ 99999) (ha : ∀ t, t < n → a t = nN (P t)) (h : ∀ m, PN w (P i) (P j) m → Post (nN m)) : wp_X8_pennies (nN i) (nN j) (nN n) (nN w) a Post := by
  unfold wp_X8_pennies
  refine sv_two hn hi hj hij ⟨fun _ => ?_, fun c => absurd rfl c⟩
  have hpi := hP i hi
  have hpj := hP j hj
  have fin : ∀ (r : Int32) (m : Nat), r = nN m → m ≤ P i → pen w (P i) (P j) m → (∀ y, y < m → ¬ pen w (P i) (P j) y) → Post r := fun r m hr hm g1 g2 => by rw [hr]; exact h m ⟨hm, g1, g2⟩
  have e1 : (nN w = (1 : Int32)) ↔ w = 1 := by rw [show (1 : Int32) = nN 1 from rfl, n_eq (by omega) (by omega)]
  have e2 : (nN w = (2 : Int32)) ↔ w = 2 := by rw [show (2 : Int32) = nN 2 from rfl, n_eq (by omega) (by omega)]
  have ei : (nN (P i) = 0) ↔ P i = 0 := by rw [show (0 : Int32) = nN 0 from rfl, n_eq (by omega) (by omega)]
  have ej : (nN (P j) = 0) ↔ P j = 0 := by rw [show (0 : Int32) = nN 0 from rfl, n_eq (by omega) (by omega)]
  have es : nN (P i) - nN (P j) = iI ((P i : Int) - P j) := i_sub _ _
  have gl : (0 < nN (P i) - nN (P j)) ↔ P j < P i := by rw [es, show (0 : Int32) = iI 0 from rfl, i_lt (by omega) (by omega) (by omega) (by omega)]; omega
  have gle : (0 ≤ nN (P i) - nN (P j)) ↔ P j ≤ P i := by rw [es, show (0 : Int32) = iI 0 from rfl, i_le (by omega) (by omega) (by omega) (by omega)]; omega
  rw [n_nat (by omega), n_nat (by omega), ha i hi, ha j hj, ei, ej, e1, e2, gl, gle]
  have zero : mt w (P i) (P j) ≥ P i → Post 0 := fun h => fin 0 0 rfl (by omega) (by unfold pen; exact h) (fun y hy => absurd hy (by omega))
  have less : ∀ q, P j < q → q ≤ P i → w ≠ 1 → 0 < P j → 0 < pas w (dist q (P j)) (sh q (P j)) → ¬ pen w (P i) (P j) (P i - q) := by
    intro q g1 g2 g3 g4 g5 hpen
    unfold pen at hpen
    rw [show P i - (P i - q) = q by omega, mt_lt (by omega) (by omega) (by omega) g4] at hpen
    omega
  refine ⟨n_in (by omega) (by omega), n_in (by omega) (by omega), fun c => zero (by omega), fun c => ⟨fun c2 => ⟨fun c3 => ⟨fun c4 => ⟨fun c5 => ?_, fun c5 => ?_⟩, fun c4 => zero (mt_ge hpi (by omega))⟩, fun c3 => ⟨fun c4 => zero (mt_ge hpi (by omega)), fun c4 => ?_⟩⟩, fun c2 => zero (by rw [mt_none (Or.inr (by unfold sh; rw [if_pos (Or.inr c2)]))]; exact Nat.le_refl _)⟩⟩
  · refine fin _ (P i - P j) (n_sub (by omega)) (by omega) ?_ (fun y hy => ?_)
    · unfold pen
      rw [show P i - (P i - P j) = P j by omega, mt_none (Or.inl rfl)]; omega
    · have := less (P i - y) (by omega) (by omega) c3 (by omega) (pas_pos c5 (sh_pos (by omega) (by omega)))
      rwa [show P i - (P i - y) = y by omega] at this
  · have hw2 : w = 2 := c5
    unfold wp_X8_penniesToShareOne
    intro k hk
    have key : ∀ (N x : Nat), P i - P j - x < N → x ≤ P i - P j → (∀ y, y < x → ¬ pen w (P i) (P j) y) → k (nN x) := by
      intro N
      induction N with
      | zero => intro x g; omega
      | succ N ih =>
        intro x g1 g2 g3
        apply hk
        rw [n_sub (by omega), n_le (by omega) (by omega), n_sub (by omega), show nN x + 1 = nN (x + 1) from n_add _ 1]
        refine ⟨fun cc => ?_, fun cc => ok_greatestDivisor (by omega) (by omega) ?_⟩
        · have e : x = P i - P j := by omega
          refine fin _ x rfl (by omega) ?_ g3
          unfold pen
          rw [e, show P i - (P i - P j) = P j by omega, mt_none (Or.inl rfl)]; omega
        · have hgp : 0 < Nat.gcd (P i - x) (P j) := Nat.gcd_pos_of_pos_right _ (by omega)
          have hgl : Nat.gcd (P i - x) (P j) ≤ P j := Nat.le_of_dvd (by omega) (Nat.gcd_dvd_right _ _)
          have hsh : sh (P i - x) (P j) = Nat.gcd (P i - x) (P j) := by unfold sh; rw [if_neg (by omega)]
          rw [show (1 : Int32) = nN 1 from rfl, n_le (by omega) (by omega)]
          refine ⟨fun c6 => fin _ x rfl (by omega) ?_ g3, fun c6 => ih (x + 1) (by omega) (by omega) (fun y hy => ?_)⟩
          · unfold pen
            rw [mt_lt (by omega) (by omega) (by omega) (by omega), hsh]
            have : pas w (dist (P i - x) (P j)) (Nat.gcd (P i - x) (P j)) = 0 := by unfold pas; rw [if_pos hw2]; omega
            omega
          · by_cases e : y = x
            · rw [e]
              have := less (P i - x) (by omega) (by omega) c3 (by omega) (by rw [hsh]; unfold pas; rw [if_pos hw2]; omega)
              rwa [show P i - (P i - x) = x by omega] at this
            · exact g3 y (by omega)
    exact key (P i - P j + 1) 0 (by omega) (by omega) (fun y hy => absurd hy (by omega))
  · refine fin _ (P i) rfl (by omega) ?_ (fun y hy hpen => ?_)
    · unfold pen
      omega
    · unfold pen at hpen
      have hg := sh_pos (a := P i - y) (b := P j) (by omega) (by omega)
      have hgl := sh_le_l (P i - y) (P j)
      rw [mt_lt (by omega) (by omega) (by omega) (by omega)] at hpen
      have : pas w (dist (P i - y) (P j)) (sh (P i - y) (P j)) = sh (P i - y) (P j) := by unfold pas; rw [if_neg (by omega), if_neg (by omega)]
      omega
