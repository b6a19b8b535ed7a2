/-! DAY RING, DAY LEAD -/
def sameN (n : Nat) (P Q : Nat → Nat) : Prop := ∀ t, t < n → P t = Q t
theorem ok_wereHad {n e : Nat} {ro pu : Nat → Int32} {Post : Int32 → Prop} (hn : n ≤ 8) (he : e ≤ 300) (h1 : (∀ t, t < n → ro (e * 8 + t) = pu t) → Post 1) (h0 : ¬ (∀ t, t < n → ro (e * 8 + t) = pu t) → Post 0) : wp_X0_wereHad (nN e) (nN n) ro pu Post := by
  unfold wp_X0_wereHad
  intro k hk
  have key : ∀ (N j : Nat), n - j < N → j ≤ n → (∀ t, t < j → ro (e * 8 + t) = pu t) → k (nN j) := by
    intro N
    induction N with
    | zero => intro j g; omega
    | succ N ih =>
      intro j g1 g2 g3
      apply hk
      rw [n_le (by omega) (by omega), show nN e * (8 : Int32) = nN (e * 8) from n_mul e 8, n_add, n_nat (by omega), n_nat (by omega), show nN j + 1 = nN (j + 1) from n_add _ 1]
      refine ⟨fun c => h1 (fun t ht => g3 t (by omega)), fun c => ⟨n_in (by omega) (by omega), n_in (by omega) (by omega), fun c2 => ih (j + 1) (by omega) (by omega) (fun t ht => ?_), fun c2 => h0 (fun h => c2 (h j (by omega)))⟩⟩
      by_cases et : t = j
      · rw [et]; exact c2
      · exact g3 t (by omega)
  exact key (n + 1) 0 (by omega) (by omega) (fun t ht => absurd ht (by omega))
theorem ok_note {n d : Nat} {r l : Int32} {ro pu : Nat → Int32} {Post : Int32 → Int32 → Prop} (hn : n ≤ 8) (hd : d ≤ 300) (hd0 : 0 < d) (h1 : ∀ e, e < d → (∀ t, t < n → ro (e * 8 + t) = pu t) → Post (nN (d - e)) (nN e)) (h0 : (∀ e, e < d → ¬ (∀ t, t < n → ro (e * 8 + t) = pu t)) → Post r l) : wp_X0_noteIfHadBefore (nN d) (nN n) r l ro pu Post := by
  unfold wp_X0_noteIfHadBefore
  intro k hk
  have key : ∀ (j : Nat), j ≤ d → (∀ e, j ≤ e → e < d → ¬ (∀ t, t < n → ro (e * 8 + t) = pu t)) → k (iI (j - 1)) := by
    intro j
    induction j with
    | zero =>
      intro g1 g2
      apply hk
      rw [show (0 : Int32) = iI 0 from rfl, i_lt (by omega) (by omega) (by omega) (by omega)]
      exact ⟨fun _ => h0 (fun e he => g2 e (by omega) he), fun c => by omega⟩
    | succ j ih =>
      intro g1 g2
      apply hk
      rw [show (((j + 1 : Nat) : Int) - 1) = ((j : Nat) : Int) by omega]
      have l0 : (iI (j : Int) < 0) ↔ (j : Int) < 0 := by rw [show (0 : Int32) = iI 0 from rfl, i_lt (by omega) (by omega) (by omega) (by omega)]
      rw [l0]
      refine ⟨fun c => by omega, fun _ => ok_wereHad hn (by omega) (fun h => ⟨fun _ => ?_, fun c => absurd c one_ne⟩) (fun h => ⟨fun c => absurd rfl c, fun _ => ?_⟩)⟩
      · rw [n_sub (by omega)]
        exact h1 j (by omega) h
      · rw [show (-1 : Int32) = iI (-1) from rfl, i_add, show ((j : Nat) : Int) + -1 = (j : Int) - 1 by omega]
        refine ih (by omega) (fun e he hed => ?_)
        by_cases ee : e = j
        · rw [ee]; exact h
        · exact g2 e (by omega) hed
  have := key d (Nat.le_refl d) (fun e h1 h2 => by omega)
  rwa [show nN d - (1 : Int32) = iI ((d : Int) - 1) from i_sub d 1]
theorem ok_dayFind {n w q : Nat} {F G P : Nat → Nat} {fa sa a ro pu : Nat → Int32} {r l : Int32} {Post : Int32 → Int32 → (Nat → Int32) → (Nat → Int32) → Prop} (hn : n ≤ 8) (hw : w ≤ 3) (hq : q ≤ 16) (hF : ∀ i, i < q → F i < n ∧ G i < n ∧ F i ≠ G i) (hfs : ∀ i, i < q → fa i = nN (F i) ∧ sa i = nN (G i)) (hP : ∀ t, t < n → P t ≤ 99999) (ha : ∀ t, t < n → a t = nN (P t))
    (hA : ∀ d e ro' pu', e < d → d ≤ 300 → sameN n (itD w q F G d P) (itD w q F G e P) → (∀ d' e', e' < d' → d' < d → ¬ sameN n (itD w q F G d' P) (itD w q F G e' P)) → Post (nN (d - e)) (nN e) ro' pu')
    (hB : ∀ ro' pu', (∀ d e, e < d → d ≤ 300 → ¬ sameN n (itD w q F G d P) (itD w q F G e P)) → Post (-9) (-9) ro' pu') : wp_X0_find r l ro pu (nN n) (nN w) a (nN q) fa sa Post := by
  unfold wp_X0_find
  intro k hk
  have key : ∀ (N d : Nat) (ro1 pu1 : Nat → Int32), 301 - d < N → 1 ≤ d → d ≤ 301 → (∀ e, e < d → ∀ t, t < n → ro1 (e * 8 + t) = nN (itD w q F G e P t)) → (∀ t, t < n → pu1 t = nN (itD w q F G (d - 1) P t)) → (∀ d' e', e' < d' → d' < d → ¬ sameN n (itD w q F G d' P) (itD w q F G e' P)) → k (nN d) (-9) (-9) ro1 pu1 := by
    intro N
    induction N with
    | zero => intro d ro1 pu1 g; omega
    | succ N ih =>
      intro d ro1 pu1 g1 g2 g2' g3 g4 g5
      apply hk
      have l300 : ((300 : Int32) < nN d) ↔ 300 < d := by rw [show (300 : Int32) = nN 300 from rfl, n_lt (by omega) (by omega)]
      rw [l300]
      refine ⟨fun c => hB _ _ (fun d' e' h1 h2 => g5 d' e' h1 (by omega)), fun c => ⟨fun c2 => absurd rfl c2, fun _ => ?_⟩⟩
      refine ok_makeAll hn hw hq hF hfs (itD_le hF hP (d - 1)) g4 (fun pu2 hpu2 => ?_)
      have hpu3 : ∀ t, t < n → pu2 t = nN (itD w q F G d P t) := by
        intro t ht
        have := hpu2 t ht
        rw [show d = (d - 1) + 1 by omega]
        exact this
      have hlt : ∀ d' t, t < n → itD w q F G d' P t ≤ 99999 := fun d' => itD_le hF hP d'
      have hsame : ∀ e, e < d → ((∀ t, t < n → ro1 (e * 8 + t) = pu2 t) ↔ sameN n (itD w q F G d P) (itD w q F G e P)) := by
        intro e he
        constructor
        · intro h t ht
          have := h t ht
          rw [g3 e he t ht, hpu3 t ht, n_eq (by have := hlt e t ht; omega) (by have := hlt d t ht; omega)] at this
          exact this.symm
        · intro h t ht
          rw [g3 e he t ht, hpu3 t ht, h t ht]
      have e8 : nN d * (8 : Int32) = nN (d * 8) := n_mul d 8
      have cond1 : ¬ nN d * (8 : Int32) < 0 := by rw [e8, show (0 : Int32) = nN 0 from rfl, n_lt (by omega) (by omega)]; omega
      have cond2 : Int32.toNatClampNeg (nN d * (8 : Int32)) + Int32.toNatClampNeg (8 : Int32) ≤ 2408 := by rw [e8, n_nat (by omega), show Int32.toNatClampNeg (8 : Int32) = 8 from rfl]; omega
      refine ok_note hn (by omega) (by omega) (fun e he h => ⟨cond1, cond2, ?_⟩) (fun h => ⟨cond1, cond2, ?_⟩)
      · have hs := (hsame e he).mp h
        have fin : ∀ x ro' pu', k x (nN (d - e)) (nN e) ro' pu' := by
          intro x ro' pu'
          apply hk
          refine ⟨fun _ => hA d e ro' pu' he (by omega) hs g5, fun _ => ⟨fun _ => hA d e ro' pu' he (by omega) hs g5, fun c => ?_⟩⟩
          rw [show (-9 : Int32) = iI (-9) from rfl, i_eq (by omega) (by omega) (by omega) (by omega)] at c
          omega
        exact fin _ _ _
      · rw [show nN d + 1 = nN (d + 1) from n_add _ 1, e8, n_nat (by omega), show Int32.toNatClampNeg (8 : Int32) = 8 from rfl, show Int32.toNatClampNeg (0 : Int32) = 0 from rfl]
        refine ih (d + 1) _ _ (by omega) (by omega) (by omega) (fun e he t ht => ?_) hpu3 (fun d' e' h1 h2 => ?_)
        · unfold va_cpy
          by_cases ee : e = d
          · rw [ee, if_pos ⟨by omega, by omega⟩, show 0 + (d * 8 + t - d * 8) = t by omega]
            exact hpu3 t ht
          · rw [if_neg (by omega)]
            exact g3 e (by omega) t ht
        · by_cases ee : d' = d
          · rw [ee]
            intro hs
            exact h e' (by omega) ((hsame e' (by omega)).mpr hs)
          · exact g5 d' e' h1 (by omega)
  refine key 301 1 _ _ (by omega) (by omega) (by omega) (fun e he t ht => ?_) (fun t ht => ?_) (fun d' e' h1 h2 => by omega)
  · rw [show e = 0 by omega, show 0 * 8 + t = t by omega, show Int32.toNatClampNeg (8 : Int32) = 8 from rfl, cpy_lo (by omega), cpy_lo (by omega)]
    exact ha t ht
  · rw [show Int32.toNatClampNeg (8 : Int32) = 8 from rfl, cpy_lo (by omega)]
    exact ha t ht
theorem ok9_isLike {d e : Nat} {ds : Nat → Int32} {Post : Int32 → Prop} (hd : d ≤ 300) (he : e ≤ 300) (h1 : (∀ t, t < 8 → ds (8 * d + t) = ds (8 * e + t)) → Post 1) (h0 : ¬ (∀ t, t < 8 → ds (8 * d + t) = ds (8 * e + t)) → Post 0) : wp_X9_isLike (nN d) (nN e) ds Post := by
  unfold wp_X9_isLike
  intro k hk
  have fail : ∀ j, ¬ (∀ t, t < 8 → ds (8 * d + t) = ds (8 * e + t)) → k (nN j) 0 := by
    intro j h
    apply hk
    exact ⟨fun _ => ⟨by decide, h0 h⟩, fun _ => ⟨fun _ => ⟨by decide, h0 h⟩, fun c => absurd rfl c⟩⟩
  have key : ∀ (N j : Nat), 8 - j < N → j ≤ 8 → (∀ t, t < j → ds (8 * d + t) = ds (8 * e + t)) → k (nN j) 1 := by
    intro N
    induction N with
    | zero => intro j g; omega
    | succ N ih =>
      intro j g1 g2 g3
      apply hk
      have l8 : ((8 : Int32) ≤ nN j) ↔ 8 ≤ j := by rw [show (8 : Int32) = nN 8 from rfl, n_le (by omega) (by omega)]
      rw [l8, show (8 : Int32) * nN d = nN (8 * d) from n_mul 8 d, show (8 : Int32) * nN e = nN (8 * e) from n_mul 8 e, n_add, n_add, n_nat (by omega), n_nat (by omega), show nN j + 1 = nN (j + 1) from n_add _ 1]
      refine ⟨fun c => ⟨by decide, h1 (fun t ht => g3 t (by omega))⟩, fun c => ⟨fun c2 => absurd c2 one_ne, fun _ => ⟨n_in (by omega) (by omega), n_in (by omega) (by omega), fun c2 => fail _ (fun h => c2 (h j (by omega))), fun c2 => ih (j + 1) (by omega) (by omega) (fun t ht => ?_)⟩⟩⟩
      by_cases et : t = j
      · rw [et]; exact c2
      · exact g3 t (by omega)
  exact key 9 0 (by omega) (by omega) (fun t ht => absurd ht (by omega))
theorem ok9_dayRing {n w q : Nat} {F G P : Nat → Nat} {da b tr ds : Nat → Int32} {v1 v2 x : Int32} {Post : Int32 → Int32 → Int32 → (Nat → Int32) → (Nat → Int32) → Prop} (hn : n ≤ 8) (hw : w ≤ 3) (hq : q ≤ 16) (hF : ∀ i, i < q → F i < n ∧ G i < n ∧ F i ≠ G i) (hda : ∀ i, i < q → da (2 * i) = nN (F i) ∧ da (2 * i + 1) = nN (G i)) (hP : ∀ t, t < n → P t ≤ 99999) (hb : ∀ t, t < n → b t = nN (P t))
    (hA : ∀ d e u1 u2 t1 d1, e < d → d ≤ 300 → sameN n (itD w q F G d P) (itD w q F G e P) → (∀ d' e', e' < d' → d' < d → ¬ sameN n (itD w q F G d' P) (itD w q F G e' P)) → (x = 0 → Post (nN (d - e)) u1 u2 t1 d1) ∧ (¬ x = 0 → Post (nN e) u1 u2 t1 d1))
    (hB : ∀ u1 u2 t1 d1, (∀ d e, e < d → d ≤ 300 → ¬ sameN n (itD w q F G d P) (itD w q F G e P)) → Post (-9) u1 u2 t1 d1) : wp_X9_dayRing x (nN w) (nN q) v1 v2 b da tr ds Post := by
  unfold wp_X9_dayRing
  refine ok9_takeTried (fun t0 ht0 => ?_)
  have hlt : ∀ d' t, t < n → itD w q F G d' P t ≤ 99999 := fun d' => itD_le hF hP d'
  intro k hk
  have key : ∀ (N d : Nat) (u1 u2 : Int32) (t1 d1 : Nat → Int32), 301 - d < N → d ≤ 301 → (∀ t, t < n → t1 t = nN (itD w q F G d P t)) → (∀ t, n ≤ t → t1 t = t0 t) → (∀ e, e < d → ∀ t, t < 8 → d1 (8 * e + t) = if t < n then nN (itD w q F G e P t) else t0 t) → (∀ d' e', e' < d' → d' < d → ¬ sameN n (itD w q F G d' P) (itD w q F G e' P)) → k (nN d) x u1 u2 t1 d1 := by
    intro N
    induction N with
    | zero => intro d u1 u2 t1 d1 g; omega
    | succ N ih =>
      intro d u1 u2 t1 d1 g1 g2 g3 g4 g5 g6
      apply hk
      have l301 : ((301 : Int32) ≤ nN d) ↔ 301 ≤ d := by rw [show (301 : Int32) = nN 301 from rfl, n_le (by omega) (by omega)]
      rw [l301]
      refine ⟨fun c => hB _ _ _ _ (fun d' e' h1 h2 => g6 d' e' h1 (by omega)), fun c => ?_⟩
      intro k2 hk2
      have key2 : ∀ (N2 j : Nat) (d2 : Nat → Int32), 8 - j < N2 → j ≤ 8 → (∀ t, t < j → d2 (8 * d + t) = t1 t) → (∀ e, e < d → ∀ t, t < 8 → d2 (8 * e + t) = if t < n then nN (itD w q F G e P t) else t0 t) → k2 (nN j) d2 := by
        intro N2
        induction N2 with
        | zero => intro j d2 g; omega
        | succ N2 ih2 =>
          intro j d2 f1 f2 f3 f4
          apply hk2
          have l8 : ((8 : Int32) ≤ nN j) ↔ 8 ≤ j := by rw [show (8 : Int32) = nN 8 from rfl, n_le (by omega) (by omega)]
          rw [l8, show (8 : Int32) * nN d = nN (8 * d) from n_mul 8 d, n_add, n_nat (by omega), n_nat (by omega), show nN j + 1 = nN (j + 1) from n_add _ 1]
          refine ⟨fun c8 => ?_, fun c8 => ⟨n_in (by omega) (by omega), n_in (by omega) (by omega), ih2 (j + 1) _ (by omega) (by omega) (fun t ht => ?_) (fun e he t ht => ?_)⟩⟩
          · have hrow : ∀ t, t < 8 → d2 (8 * d + t) = if t < n then nN (itD w q F G d P t) else t0 t := by
              intro t ht
              rw [f3 t (by omega)]
              split
              · exact g3 t (by omega)
              · exact g4 t (by omega)
            have hsame : ∀ e, e < d → ((∀ t, t < 8 → d2 (8 * d + t) = d2 (8 * e + t)) ↔ sameN n (itD w q F G d P) (itD w q F G e P)) := by
              intro e he
              constructor
              · intro h t ht
                have := h t (by omega)
                rw [hrow t (by omega), f4 e he t (by omega), if_pos ht, if_pos ht, n_eq (by have := hlt d t ht; omega) (by have := hlt e t ht; omega)] at this
                exact this
              · intro h t ht
                rw [hrow t ht, f4 e he t ht]
                split
                · next hc => rw [h t hc]
                · rfl
            intro k3 hk3
            have key3 : ∀ (N3 e : Nat), d - e < N3 → e ≤ d → (∀ e', e' < e → ¬ sameN n (itD w q F G d P) (itD w q F G e' P)) → k3 (nN e) := by
              intro N3
              induction N3 with
              | zero => intro e g; omega
              | succ N3 ih3 =>
                intro e q1 q2 q3
                apply hk3
                rw [n_le (by omega) (by omega), show nN e + 1 = nN (e + 1) from n_add _ 1]
                refine ⟨fun ce => ?_, fun ce => ok9_isLike (by omega) (by omega) (fun h => ⟨fun c => absurd c one_ne, fun _ => ?_⟩) (fun h => ⟨fun _ => ih3 (e + 1) (by omega) (by omega) (fun e' he' => ?_), fun c => absurd rfl c⟩)⟩
                · refine ok9_tryDay hn hw hq hF hda (hlt d) g3 (fun w1 w2 t2 ht2 ht2' => ?_)
                  rw [show nN d + 1 = nN (d + 1) from n_add _ 1]
                  refine ih (d + 1) w1 w2 t2 d2 (by omega) (by omega) ht2 (fun t ht => (ht2' t ht).trans (g4 t ht)) (fun e' he' t ht => ?_) (fun d' e' h1 h2 => ?_)
                  · by_cases ee : e' = d
                    · rw [ee]; exact hrow t ht
                    · exact f4 e' (by omega) t ht
                  · by_cases ee : d' = d
                    · rw [ee]; exact q3 e' (by omega)
                    · exact g6 d' e' h1 (by omega)
                · have := hA d e u1 u2 t1 d2 (by omega) (by omega) ((hsame e (by omega)).mp h) g6
                  rw [n_sub (by omega)]
                  exact this
                · by_cases ee : e' = e
                  · rw [ee]; exact fun hs => h ((hsame e (by omega)).mpr hs)
                  · exact q3 e' (by omega)
            exact key3 (d + 1) 0 (by omega) (by omega) (fun e' he' => absurd he' (by omega))
          · unfold upd
            by_cases et : t = j
            · rw [if_pos (by omega), et]
            · rw [if_neg (by omega)]; exact f3 t (by omega)
          · unfold upd
            rw [if_neg (by omega)]
            exact f4 e he t ht
      exact key2 9 0 d1 (by omega) (by omega) (fun t ht => absurd ht (by omega)) g5
  exact key 302 0 v1 v2 t0 ds (by omega) (by omega) (fun t ht => by rw [ht0 t (by omega)]; exact hb t ht) (fun _ _ => rfl) (fun e he => absurd he (by omega)) (fun d' e' h1 h2 => by omega)
theorem case_dayRing {n w q : Nat} {F G P : Nat → Nat} {fa sa da a b tr ds ro pu : Nat → Int32} {r l v1 v2 x : Int32} {K : Int32 → Int32 → (Nat → Int32) → (Nat → Int32) → Int32 → Int32 → (Nat → Int32) → (Nat → Int32) → Prop} (hn : n ≤ 8) (hw : w ≤ 3) (hd : DayR n q F G fa sa da) (hP : ∀ t, t < n → P t ≤ 99999) (ha : ∀ t, t < n → a t = nN (P t)) (hb : ∀ t, t < n → b t = nN (P t)) (hK : ∀ r l ro pu u1 u2 t1 d1, K r l ro pu u1 u2 t1 d1) : wp_X8_dayRing x (nN q) fa sa (nN n) (nN w) a r l ro pu (fun y r1 l1 ro1 pu1 => wp_X9_dayRing x (nN w) (nN q) v1 v2 b da tr ds (fun y' u1 u2 t1 d1 => (y = y' → K r1 l1 ro1 pu1 u1 u2 t1 d1) ∧ (¬ y = y' → False))) := by
  obtain ⟨hq, h1, h2, h3⟩ := hd
  unfold wp_X8_dayRing
  refine ok_dayFind hn hw hq h1 h2 hP ha (fun d e ro' pu' g1 g2 g3 g4 => ⟨fun cx => ?_, fun cx => ?_⟩) (fun ro' pu' g => ⟨fun cx => ?_, fun cx => ?_⟩)
  · refine ok9_dayRing hn hw hq h1 h3 hP hb (fun d' e' u1 u2 t1 d1 f1 f2 f3 f4 => ?_) (fun u1 u2 t1 d1 f => absurd g3 (f d e g1 g2))
    have ed : d = d' := by
      rcases Nat.lt_or_ge d d' with h | h
      · exact absurd g3 (f4 d e g1 h)
      · rcases Nat.lt_or_ge d' d with h' | h'
        · exact absurd f3 (g4 d' e' f1 h')
        · omega
    subst ed
    have ee : e = e' := by
      rcases Nat.lt_or_ge e e' with h | h
      · exact absurd (fun t ht => (f3 t ht).symm.trans (g3 t ht)) (g4 e' e h f1)
      · rcases Nat.lt_or_ge e' e with h' | h'
        · exact absurd (fun t ht => (g3 t ht).symm.trans (f3 t ht)) (g4 e e' h' g1)
        · omega
    subst ee
    exact ⟨fun _ => same_k (hK _ _ _ _ _ _ _ _), fun c => absurd cx c⟩
  · refine ok9_dayRing hn hw hq h1 h3 hP hb (fun d' e' u1 u2 t1 d1 f1 f2 f3 f4 => ?_) (fun u1 u2 t1 d1 f => absurd g3 (f d e g1 g2))
    have ed : d = d' := by
      rcases Nat.lt_or_ge d d' with h | h
      · exact absurd g3 (f4 d e g1 h)
      · rcases Nat.lt_or_ge d' d with h' | h'
        · exact absurd f3 (g4 d' e' f1 h')
        · omega
    subst ed
    have ee : e = e' := by
      rcases Nat.lt_or_ge e e' with h | h
      · exact absurd (fun t ht => (f3 t ht).symm.trans (g3 t ht)) (g4 e' e h f1)
      · rcases Nat.lt_or_ge e' e with h' | h'
        · exact absurd (fun t ht => (g3 t ht).symm.trans (f3 t ht)) (g4 e e' h' g1)
        · omega
    subst ee
    exact ⟨fun c => absurd c cx, fun _ => same_k (hK _ _ _ _ _ _ _ _)⟩
  · exact ok9_dayRing hn hw hq h1 h3 hP hb (fun d' e' u1 u2 t1 d1 f1 f2 f3 f4 => absurd f3 (g d' e' f1 f2)) (fun u1 u2 t1 d1 f => same_k (hK _ _ _ _ _ _ _ _))
  · exact ok9_dayRing hn hw hq h1 h3 hP hb (fun d' e' u1 u2 t1 d1 f1 f2 f3 f4 => absurd f3 (g d' e' f1 f2)) (fun u1 u2 t1 d1 f => same_k (hK _ _ _ _ _ _ _ _))
