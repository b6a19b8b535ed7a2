/-! how the class comes to the RING -/
theorem ok_countSameShared {x W room g : Nat} {A : Nat → Int32} {Post : Int32 → (Nat → Int32) → Prop} (hg : 1 ≤ g) (hgW : g ≤ W) (hx : x ≤ 199998) (hW : W ≤ 199998) (hr : room ≤ 99999) (h : ∀ (c : Nat) (A' : Nat → Int32), 1 ≤ c → c ≤ 99999 → (c = 1 ∨ sameS x W room g c) → Post (nN c) A') : wp_X7_countSameShared (nN x) (nN W) (nN room) (nN g) A Post := by
  unfold wp_X7_countSameShared
  have lg : ((1 : Int32) ≤ nN g) ↔ 1 ≤ g := by rw [show (1 : Int32) = nN 1 from rfl, n_le (by omega) (by omega)]
  have e0 : (nN g = 0) ↔ g = 0 := by rw [show (0 : Int32) = nN 0 from rfl, n_eq (by omega) (by omega)]
  have hw1 : 1 ≤ W / g := (Nat.le_div_iff_mul_le hg).mpr (by omega)
  have hw2 : W / g ≤ W := Nat.div_le_self _ _
  have hx2 : x / g ≤ x := Nat.div_le_self _ _
  have hr2 : room / g ≤ room := Nat.div_le_self _ _
  have hr3 : room / g * g ≤ room := Nat.div_mul_le_self _ _
  rw [lg, e0, n_div (by omega) (by omega) (by omega), n_div (by omega) (by omega) (by omega), n_div (by omega) (by omega) (by omega)]
  refine ⟨fun _ => ⟨by omega, by omega, ok_takeApart (by omega) hw1 (fun r A' q1 q2 q3 => ?_)⟩, fun c => absurd hg c⟩
  intro k36 hk36
  have key : ∀ (N i t : Nat), r - i < N → i ≤ r → t ≤ room / g → (∀ p, pri p → p ∣ W / g → ∀ i', i' < i → A' i' = nN p → t ≤ (x / g) % p) → k36 (nN i) (nN t) := by
    intro N
    induction N with
    | zero => intro i t f; omega
    | succ N ih =>
      intro i t f1 f2 f3 f4
      apply hk36
      rw [n_le (by omega) (by omega), n_nat (by omega), show nN i + 1 = nN (i + 1) from n_add _ 1]
      refine ⟨fun c => ?_, fun c => ?_⟩
      · intro r84 h84
        have l1 : ((1 : Int32) < nN t) ↔ 1 < t := by rw [show (1 : Int32) = nN 1 from rfl, n_lt (by omega) (by omega)]
        by_cases ht : 1 < t
        · rw [if_pos (l1.mpr ht)] at h84
          rw [h84]
          refine h t A' (by omega) (by omega) (Or.inr ⟨?_, fun p hp hd => ?_⟩)
          · exact Nat.le_trans (Nat.mul_le_mul_right g f3) hr3
          · obtain ⟨i', z1, z2⟩ := q3 p hp hd
            exact f4 p hp hd i' (by omega) z2
        · rw [if_neg (fun z => ht (l1.mp z))] at h84
          rw [h84]
          exact h 1 A' (by omega) (by omega) (Or.inl rfl)
      · obtain ⟨p0, z1, z2, z3⟩ := q2 i (by omega)
        have hp0 := Nat.le_of_dvd hw1 z3
        have hp2 := z2.1
        rw [z1]
        have l1 : (nN p0 ≤ (1 : Int32)) ↔ p0 ≤ 1 := by rw [show (1 : Int32) = nN 1 from rfl, n_le (by omega) (by omega)]
        have e1 : (nN p0 = 0) ↔ p0 = 0 := by rw [show (0 : Int32) = nN 0 from rfl, n_eq (by omega) (by omega)]
        have hm := Nat.mod_le (x / g) p0
        rw [l1, e1, n_rem (by omega) (by omega) (by omega)]
        have lt := n_lt (a := x / g % p0) (b := t) (by omega) (by omega)
        refine ⟨n_in (by omega) (by omega), fun cc => absurd cc (by omega), fun _ => ⟨by omega, n_in (by omega) (by omega), by omega, fun r70 h70 => ?_⟩⟩
        have nx : ∀ t', r70 = nN t' → t' ≤ t → t' ≤ (x / g) % p0 → k36 (nN (i + 1)) r70 := by
          intro t' y1 y2 y3
          rw [y1]
          refine ih (i + 1) t' (by omega) (by omega) (by omega) (fun p hp hd i' hi' hA => ?_)
          by_cases e : i' = i
          · rw [e, z1, n_eq (by omega) (by have := Nat.le_of_dvd hw1 hd; omega)] at hA
            rw [← hA]; exact y3
          · have := f4 p hp hd i' (by omega) hA
            omega
        by_cases hc : x / g % p0 < t
        · rw [if_pos (lt.mpr hc)] at h70
          exact nx _ h70 (by omega) (by omega)
        · rw [if_neg (fun z => hc (lt.mp z))] at h70
          exact nx _ h70 (by omega) (by omega)
  exact key (r + 1) 0 _ (by omega) (by omega) (by omega) (fun p _ _ i' hi' => by omega)
theorem n_mx {a b : Nat} {r : Int32} (ha : a ≤ 99999) (hb : b ≤ 99999) (h : r = (if nN a < nN b then nN b else nN a)) : r = nN (mx a b) := by
  rw [h]; unfold mx
  have l := n_lt (a := a) (b := b) (by omega) (by omega)
  by_cases c : a < b
  · rw [if_pos c, if_pos (l.mpr c)]
  · rw [if_neg c, if_neg (fun z => c (l.mp z))]
theorem n_mn {a b : Nat} {r : Int32} (ha : a ≤ 99999) (hb : b ≤ 99999) (h : r = (if nN b < nN a then nN b else nN a)) : r = nN (mn a b) := by
  rw [h]; unfold mn
  have l := n_lt (a := b) (b := a) (by omega) (by omega)
  by_cases c : b < a
  · rw [if_pos (l.mpr c), if_neg (by omega)]
  · rw [if_neg (fun z => c (l.mp z))]
    by_cases c2 : a < b
    · rw [if_pos c2]
    · rw [if_neg c2, show a = b by omega]
theorem n_dist {a b : Nat} {r : Int32} (ha : a ≤ 99999) (hb : b ≤ 99999) (h : r = (if 0 ≤ (nN a - nN b) then (nN a - nN b) else 0 - (nN a - nN b))) : r = nN (dist a b) := by
  rw [h, i_sub, show (0 : Int32) = iI 0 from rfl, i_sub]
  unfold dist
  by_cases hab : a ≤ b
  · rw [if_pos hab]
    by_cases hz : (iI 0 ≤ iI ((a : Int) - b))
    · rw [if_pos hz]; rw [i_le (by omega) (by omega) (by omega) (by omega)] at hz; congr 1; omega
    · rw [if_neg hz]; congr 1; omega
  · rw [if_neg hab, if_pos]
    · congr 1; omega
    · rw [i_le (by omega) (by omega) (by omega) (by omega)]; omega
theorem ok_isStill {w a b : Nat} {Post : Int32 → Prop} (hw : w ≤ 3) (ha : a ≤ 99999) (hb : b ≤ 99999) (h1 : fixd w a b → Post 1) (h0 : ¬ fixd w a b → Post 0) : wp_X7_isStill (nN w) (nN a) (nN b) (nN (sh a b)) Post := by
  unfold wp_X7_isStill
  rw [still_iff hw ha hb] at h1 h0
  have hl := sh_le_l a b
  have e0 : (nN (sh a b) = 0) ↔ sh a b = 0 := by rw [show (0 : Int32) = nN 0 from rfl, n_eq (by omega) (by omega)]
  have e1 : (nN (sh a b) = (1 : Int32)) ↔ sh a b = 1 := by rw [show (1 : Int32) = nN 1 from rfl, n_eq (by omega) (by omega)]
  have e2 : (nN w = (2 : Int32)) ↔ w = 2 := by rw [show (2 : Int32) = nN 2 from rfl, n_eq (by omega) (by omega)]
  rw [n_eq (by omega) (by omega), e0, e1, e2]
  refine ⟨fun c => h1 (Or.inl c), fun c => ⟨fun c2 => ⟨fun c3 => h0 (by omega), fun c3 => ⟨fun c4 => h0 (by omega), fun c4 => h1 (by omega)⟩⟩, fun c2 => h1 (by omega)⟩⟩
theorem ok_changesPlaces {w a b : Nat} {Post : Int32 → Prop} (hw : w ≤ 3) (ha : a ≤ 99999) (hb : b ≤ 99999) (h1 : ¬ fixd w a b → flips w a b → Post 1) (h0 : ¬ (¬ fixd w a b ∧ flips w a b) → Post 0) : wp_X7_changesPlaces (nN w) (nN a) (nN b) (nN (sh a b)) Post := by
  unfold wp_X7_changesPlaces
  refine ok_isStill hw ha hb (fun hf => ⟨fun _ => h0 (fun z => z.1 hf), fun c => absurd c one_ne⟩) (fun hf => ⟨fun c => absurd rfl c, fun _ r16 h16 => ?_⟩)
  have hl := sh_le_l a b
  have hd : dist a b ≤ 99999 := by unfold dist; split <;> omega
  rw [flip_iff hw ha hb hf] at h1 h0
  rw [n_dist ha hb h16]
  have e0 : (nN w = 0) ↔ w = 0 := by rw [show (0 : Int32) = nN 0 from rfl, n_eq (by omega) (by omega)]
  have e3 : (nN w = (3 : Int32)) ↔ w = 3 := by rw [show (3 : Int32) = nN 3 from rfl, n_eq (by omega) (by omega)]
  rw [n_eq (by omega) (by omega), e0, e3]
  exact ⟨fun c => ⟨fun c2 => h1 hf ⟨c, Or.inl c2⟩, fun c2 => ⟨fun c3 => h0 (by omega), fun c3 => h1 hf ⟨c, Or.inr c3⟩⟩⟩, fun c => h0 (by omega)⟩
theorem ok_countAlike {w a b : Nat} {A : Nat → Int32} {Post : Int32 → (Nat → Int32) → Prop} (hw : w ≤ 3) (ha : a ≤ 99999) (hb : b ≤ 99999) (hn : ¬ fixd w a b) (h : ∀ (c : Nat) (A' : Nat → Int32), 1 ≤ c → c ≤ 99999 → al w a b c → Post (nN c) A') : wp_X7_countAlike (nN w) (nN a) (nN b) (nN (sh a b)) A Post := by
  unfold wp_X7_countAlike
  obtain ⟨p1, p2, p3, p4⟩ := pos_of hw ha hb hn
  have hl := sh_le_l a b
  have hl2 := sh_le_r a b
  have hd : dist a b ≤ 99999 := by unfold dist; split <;> omega
  have hmx : mx a b ≤ 99999 := by unfold mx; split <;> omega
  have hmn : mn a b ≤ 99999 := by unfold mn; split <;> omega
  have e0 : (nN w = 0) ↔ w = 0 := by rw [show (0 : Int32) = nN 0 from rfl, n_eq (by omega) (by omega)]
  have e1 : (nN w = (1 : Int32)) ↔ w = 1 := by rw [show (1 : Int32) = nN 1 from rfl, n_eq (by omega) (by omega)]
  rw [e0, e1, n_add]
  refine ⟨fun c => ⟨fun c2 => h 1 A (by omega) (by omega) (Or.inl rfl), fun c2 r64 h64 r76 h76 => ?_⟩, fun c r15 h15 r39 h39 => ?_⟩
  · rw [n_mn ha hb h64, n_mx ha hb h76]
    have em : (nN (mx a b) = (99999 : Int32)) ↔ mx a b = 99999 := by rw [show (99999 : Int32) = nN 99999 from rfl, n_eq (by omega) (by omega)]
    rw [em]
    refine ⟨fun c3 => ?_, fun c3 => ?_⟩
    · rw [show (99999 : Int32) = nN 99999 from rfl, n_sub hmx]
      exact ok_countSameShared (by omega) (by omega) (by omega) (by omega) (by omega) (fun c' A' f1 f2 f3 => h c' A' f1 f2 (by rcases f3 with f3 | f3; exact Or.inl f3; exact Or.inr (Or.inr (Or.inl ⟨c2, c3, f3⟩))))
    · rw [show (99999 : Int32) = nN 99999 from rfl]
      exact ok_countSameShared (by omega) (by omega) (by omega) (by omega) (by omega) (fun c' A' f1 f2 f3 => h c' A' f1 f2 (by rcases f3 with f3 | f3; exact Or.inl f3; exact Or.inr (Or.inr (Or.inr ⟨c2, c3, f3⟩))))
  · rw [n_mx ha hb h15, n_dist ha hb h39, show (2 : Int32) = nN 2 from rfl, n_div (by omega) (by omega) (by omega)]
    exact ok_countSameShared (by omega) (by omega) (by omega) (by omega) (by omega) (fun c' A' f1 f2 f3 => h c' A' f1 f2 (by rcases f3 with f3 | f3; exact Or.inl f3; exact Or.inr (Or.inl ⟨c, f3⟩)))
theorem ok_makeAlike {w a b c t : Nat} {Post : Int32 → Int32 → Int32 → Prop} (hw : w ≤ 3) (ha : a ≤ 99999) (hb : b ≤ 99999) (hm : many w a b c t) (h : Post (nN (it w a b t).1) (nN (it w a b t).2) (nN (sh (it w a b t).1 (it w a b t).2))) : wp_X7_makeAlike (nN t) (nN w) (nN a) (nN b) (nN (sh a b)) Post := by
  unfold wp_X7_makeAlike
  obtain ⟨q1, q2, q3, q4, q5⟩ := hm
  have hl := sh_le_l a b
  have hl2 := sh_le_r a b
  have hle := it_le (w := w) ha hb t
  rw [q1] at h hle
  refine ok_heldAfter hw ha hb (by omega) q3 (fun z _ _ => q4 z) ?_
  refine ok_heldAfter hw hb ha (by omega) (by rw [dist_comm]; exact q3) (fun z _ _ => by rw [dist_comm]; exact q5 z) ?_
  refine ok_sharedBy ?_ ?_ ?_
  · exact Nat.le_trans hle.1 (by omega)
  · rw [sh_comm a b]; exact Nat.le_trans hle.2 (by omega)
  · rw [sh_comm b a] at h; exact h
theorem ok_makeToRing {w a b n : Nat} {A : Nat → Int32} {Post : Int32 → Int32 → Int32 → Int32 → (Nat → Int32) → Prop} (hw : w ≤ 3) (ha : a ≤ 99999) (hb : b ≤ 99999) (hn : n ≤ 2147483647) (h : ∀ (L : Nat) (A' : Nat → Int32), L ≤ n → (∀ j, j < L → ¬ ringed w (it w a b j)) → (L = n ∨ ringed w (it w a b L)) → Post (nN L) (nN (it w a b L).1) (nN (it w a b L).2) (nN (sh (it w a b L).1 (it w a b L).2)) A') : wp_X7_makeToRing (nN n) (nN w) (nN a) (nN b) (nN (sh a b)) A Post := by
  unfold wp_X7_makeToRing
  intro k4 hk4
  have key : ∀ (N t m : Nat) (A : Nat → Int32), 100000 - m < N → t ≤ m → m ≤ n → (∀ j, j < m → ¬ ringed w (it w a b j)) → k4 (nN t) (nN m) (nN (it w a b m).1) (nN (it w a b m).2) (nN (sh (it w a b m).1 (it w a b m).2)) A := by
    intro N
    induction N with
    | zero => intro t m A f; omega
    | succ N ih =>
      intro t m A f1 f2 f3 f4
      have hm := it_short hw ha hb f4
      have hle := it_le (w := w) ha hb m
      apply hk4
      have l6 : ((1000000 : Int32) ≤ nN t) ↔ 1000000 ≤ t := by rw [show (1000000 : Int32) = nN 1000000 from rfl, n_le (by omega) (by omega)]
      rw [l6, n_le (by omega) (by omega)]
      refine ⟨fun c => by omega, fun _ => ⟨fun c => h m A f3 f4 (Or.inl (by omega)), fun c => ?_⟩⟩
      refine ok_isStill hw hle.1 hle.2 (fun hf => ⟨fun _ => h m A f3 f4 (Or.inr (Or.inl hf)), fun c => absurd c one_ne⟩) (fun hf => ⟨fun c => absurd rfl c, fun _ => ?_⟩)
      refine ok_changesPlaces hw hle.1 hle.2 (fun _ hp => ⟨fun _ => h m A f3 f4 (Or.inr (Or.inr hp)), fun c => absurd c one_ne⟩) (fun hp => ⟨fun c => absurd rfl c, fun _ => ?_⟩)
      have hnr : ¬ ringed w ((it w a b m).1, (it w a b m).2) := by
        rintro (z | z)
        · exact hf z
        · exact hp ⟨hf, z⟩
      refine ok_countAlike hw hle.1 hle.2 hf (fun c' A' g1 g2 g3 r36 h36 => ?_)
      have go : ∀ t', r36 = nN t' → 1 ≤ t' → t' ≤ c' → m + t' ≤ n → wp_X7_makeAlike r36 (nN w) (nN (it w a b m).1) (nN (it w a b m).2) (nN (sh (it w a b m).1 (it w a b m).2)) (fun m1 m2 m3 => k4 (nN t + 1) (nN m + r36) m1 m2 m3 A') := by
        intro t' y1 y2 y3 y4
        rw [y1]
        have hal := al_ok hw hle.1 hle.2 hnr g3
        refine ok_makeAlike hw hle.1 hle.2 (hal t' y3) ?_
        rw [show nN t + 1 = nN (t + 1) from n_add _ 1, n_add, ← it_add]
        refine ih (t + 1) (m + t') A' (by omega) (by omega) (by omega) (fun j hj => ?_)
        rcases Nat.lt_or_ge j m with z | z
        · exact f4 j z
        · have := (hal (j - m) (by omega)).2.1 (by omega)
          rwa [← it_add, show m + (j - m) = j by omega] at this
      rw [n_sub (by omega)] at h36
      have lt := n_lt (a := c') (b := n - m) (by omega) (by omega)
      by_cases hc : c' < n - m
      · rw [if_pos (lt.mpr hc)] at h36; exact go _ h36 g1 (by omega) (by omega)
      · rw [if_neg (fun z => hc (lt.mp z))] at h36; exact go _ h36 (by omega) (by omega) (by omega)
  exact key 100001 0 0 A (by omega) (by omega) (by omega) (fun j hj => by omega)
