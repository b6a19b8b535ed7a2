/-! DAY RING, DAY LEAD -/
def sameN (n : Nat) (P Q : Nat → Nat) : Prop := ∀ t, t < n → P t = Q t
theorem ok_wereHad {n e : Nat} {ro pu : Nat → Int32} {Post : Int32 → Prop} (hn : n ≤ 8) (he : e ≤ 300) (h1 : (∀ t, t < n → ro (e * 8 + t) = pu t) → Post 1) (h0 : ¬ (∀ t, t < n → ro (e * 8 + t) = pu t) → Post 0) : wp_X0_wereHad (nN e) (nN n) ro pu Post := by
  unfold wp_X0_wereHad
  intro k hk
  have key : ∀ (N j : Nat), n - j < N → j ≤ n → (∀ t, t < j → ro (e * 8 + t) = pu t) → k (nN j) := by
    intro N
    induction N with
    | zero => intro j g; omega
    | succ N ih =>
      intro j g1 g2 g3
      apply hk
      rw [n_le (by omega) (by omega), show nN e * (8 : Int32) = nN (e * 8) from n_mul e 8, n_add, n_nat (by omega), n_nat (by omega), show nN j + 1 = nN (j + 1) from n_add _ 1]
      refine ⟨fun c => h1 (fun t ht => g3 t (by omega)), fun c => ⟨n_in (by omega) (by omega), n_in (by omega) (by omega), fun c2 => ih (j + 1) (by omega) (by omega) (fun t ht => ?_), fun c2 => h0 (fun h => c2 (h j (by omega)))⟩⟩
      by_cases et : t = j
      · rw [et]; exact c2
      · exact g3 t (by omega)
  exact key (n + 1) 0 (by omega) (by omega) (fun t ht => absurd ht (by omega))
theorem ok_note {n d : Nat} {r l : Int32} {ro pu : Nat → Int32} {Post : Int32 → Int32 → Prop} (hn : n ≤ 8) (hd : d ≤ 300) (hd0 : 0 < d) (h1 : ∀ e, e < d → (∀ t, t < n → ro (e * 8 + t) = pu t) → Post (nN (d - e)) (nN e)) (h0 : (∀ e, e < d → ¬ (∀ t, t < n → ro (e * 8 + t) = pu t)) → Post r l) : wp_X0_noteIfHadBefore (nN d) (nN n) r l ro pu Post := by
  unfold wp_X0_noteIfHadBefore
  intro k hk
  have key : ∀ (j : Nat), j ≤ d → (∀ e, j ≤ e → e < d → ¬ (∀ t, t < n → ro (e * 8 + t) = pu t)) → k (iI (j - 1)) := by
    intro j
    induction j with
    | zero =>
      intro g1 g2
      apply hk
      rw [show (0 : Int32) = iI 0 from rfl, i_lt (by omega) (by omega) (by omega) (by omega)]
      exact ⟨fun _ => h0 (fun e he => g2 e (by omega) he), fun c => by omega⟩
    | succ j ih =>
      intro g1 g2
      apply hk
      rw [show (((j + 1 : Nat) : Int) - 1) = ((j : Nat) : Int) by omega]
      have l0 : (iI (j : Int) < 0) ↔ (j : Int) < 0 := by rw [show (0 : Int32) = iI 0 from rfl, i_lt (by omega) (by omega) (by omega) (by omega)]
      rw [l0]
      refine ⟨fun c => by omega, fun _ => ok_wereHad hn (by omega) (fun h => ⟨fun _ => ?_, fun c => absurd c one_ne⟩) (fun h => ⟨fun c => absurd rfl c, fun _ => ?_⟩)⟩
      · rw [n_sub (by omega)]
        exact h1 j (by omega) h
      · rw [show (-1 : Int32) = iI (-1) from rfl, i_add, show ((j : Nat) : Int) + -1 = (j : Int) - 1 by omega]
        refine ih (by omega) (fun e he hed => ?_)
        by_cases ee : e = j
        · rw [ee]; exact h
        · exact g2 e (by omega) hed
  have := key d (Nat.le_refl d) (fun e h1 h2 => by omega)
  rwa [show nN d - (1 : Int32) = iI ((d : Int) - 1) from i_sub d 1]
theorem ok_dayFind {n w q : Nat} {F G P : Nat → Nat} {fa sa a ro pu : Nat → Int32} {r l : Int32} {Post : Int32 → Int32 → (Nat → Int32) → (Nat → Int32) → Prop} (hn : n ≤ 8) (hw : w ≤ 3) (hq : q ≤ 16) (hF : ∀ i, i < q → F i < n ∧ G i < n ∧ F i ≠ G i) (hfs : ∀ i, i < q → fa i = nN (F i) ∧ sa i = nN (G i)) (hP : ∀ t, t < n → P t ≤ 99999) (ha : ∀ t, t < n → a t = nN (P t))
    (hA : ∀ d e ro' pu', e < d → d ≤ 300 → sameN n (itD w q F G d P) (itD w q F G e P) → (∀ d' e', e' < d' → d' < d → ¬ sameN n (itD w q F G d' P) (itD w q F G e' P)) → Post (nN (d - e)) (nN e) ro' pu')
    (hB : ∀ ro' pu', (∀ d e, e < d → d ≤ 300 → ¬ sameN n (itD w q F G d P) (itD w q F G e P)) → Post (-9) (-9) ro' pu') : wp_X0_find r l ro pu (nN n) (nN w) a (nN q) fa sa Post := by
  unfold wp_X0_find
  intro k hk
  have key : ∀ (N d : Nat) (ro1 pu1 : Nat → Int32), 301 - d < N → 1 ≤ d → d ≤ 301 → (∀ e, e < d → ∀ t, t < n → ro1 (e * 8 + t) = nN (itD w q F G e P t)) → (∀ t, t < n → pu1 t = nN (itD w q F G (d - 1) P t)) → (∀ d' e', e' < d' → d' < d → ¬ sameN n (itD w q F G d' P) (itD w q F G e' P)) → k (nN d) (-9) (-9) ro1 pu1 := by
    intro N
    induction N with
    | zero => intro d ro1 pu1 g; omega
    | succ N ih =>
      intro d ro1 pu1 g1 g2 g2' g3 g4 g5
      apply hk
      have l300 : ((300 : Int32) < nN d) ↔ 300 < d := by rw [show (300 : Int32) = nN 300 from rfl, n_lt (by omega) (by omega)]
      rw [l300]
      refine ⟨fun c => hB _ _ (fun d' e' h1 h2 => g5 d' e' h1 (by omega)), fun c => ⟨fun c2 => absurd rfl c2, fun _ => ?_⟩⟩
      refine ok_makeAll hn hw hq hF hfs (itD_le hF hP (d - 1)) g4 (fun pu2 hpu2 => ?_)
      have hpu3 : ∀ t, t < n → pu2 t = nN (itD w q F G d P t) := by
        intro t ht
        have := hpu2 t ht
        rw [show d = (d - 1) + 1 by omega]
        exact this
      have hlt : ∀ d' t, t < n → itD w q F G d' P t ≤ 99999 := fun d' => itD_le hF hP d'
      have hsame : ∀ e, e < d → ((∀ t, t < n → ro1 (e * 8 + t) = pu2 t) ↔ sameN n (itD w q F G d P) (itD w q F G e P)) := by
        intro e he
        constructor
        · intro h t ht
          have := h t ht
          rw [g3 e he t ht, hpu3 t ht, n_eq (by have := hlt e t ht; omega) (by have := hlt d t ht; omega)] at this
          exact this.symm
        · intro h t ht
          rw [g3 e he t ht, hpu3 t ht, h t ht]
      have e8 : nN d * (8 : Int32) = nN (d * 8) := n_mul d 8
      have cond1 : ¬ nN d * (8 : Int32) < 0 := by rw [e8, show (0 : Int32) = nN 0 from rfl, n_lt (by omega) (by omega)]; omega
      have cond2 : Int32.toNatClampNeg (nN d * (8 : Int32)) + Int32.toNatClampNeg (8 : Int32) ≤ 2408 := by rw [e8, n_nat (by omega), show Int32.toNatClampNeg (8 : Int32) = 8 from rfl]; omega
      refine ok_note hn (by omega) (by omega) (fun e he h => ⟨cond1, cond2, ?_⟩) (fun h => ⟨cond1, cond2, ?_⟩)
      · have hs := (hsame e he).mp h
        have fin : ∀ x ro' pu', k x (nN (d - e)) (nN e) ro' pu' := by
          intro x ro' pu'
          apply hk
          refine ⟨fun _ => hA d e ro' pu' he (by omega) hs g5, fun _ => ⟨fun _ => hA d e ro' pu' he (by omega) hs g5, fun c => ?_⟩⟩
          rw [show (-9 : Int32) = iI (-9) from rfl, i_eq (by omega) (by omega) (by omega) (by omega)] at c
          omega
        exact fin _ _ _
      · rw [show nN d + 1 = nN (d + 1) from n_add _ 1, e8, n_nat (by omega), show Int32.toNatClampNeg (8 : Int32) = 8 from rfl, show Int32.toNatClampNeg (0 : Int32) = 0 from rfl]
        refine ih (d + 1) _ _ (by omega) (by omega) (by omega) (fun e he t ht => ?_) hpu3 (fun d' e' h1 h2 => ?_)
        · unfold va_cpy
          by_cases ee : e = d
          · rw [ee, if_pos ⟨by omega, by omega⟩, show 0 + (d * 8 + t - d * 8) = t by omega]
            exact hpu3 t ht
          · rw [if_neg (by omega)]
            exact g3 e (by omega) t ht
        · by_cases ee : d' = d
          · rw [ee]
            intro hs
            exact h e' (by omega) ((hsame e' (by omega)).mpr hs)
          · exact g5 d' e' h1 (by omega)
  refine key 301 1 _ _ (by omega) (by omega) (by omega) (fun e he t ht => ?_) (fun t ht => ?_) (fun d' e' h1 h2 => by omega)
  · rw [show e = 0 by omega, show 0 * 8 + t = t by omega, show Int32.toNatClampNeg (8 : Int32) = 8 from rfl, cpy_lo (by omega), cpy_lo (by omega)]
    exact ha t ht
  · rw [show Int32.toNatClampNeg (8 : Int32) = 8 from rfl, cpy_lo (by omega)]
    exact ha t ht
