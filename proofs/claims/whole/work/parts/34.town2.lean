/-! TOWN -/
theorem case_town {q : Nat} {T : Nat → Nat} {a b tpu tfi tse : Nat → Int32} {tpl tlw tpe tsz : Int32} {dsz npe nlw nma nse ff sf : Int32} {df ds npu : Nat → Int32} {rl rm rt lw mn mt' at' fa ma se : Int32} {rpu rda pu da ik : Nat → Int32}
    {K : Int32 → Int32 → Int32 → (Nat → Int32) → Int32 → (Nat → Int32) → (Nat → Int32) → Int32 → (Nat → Int32) → (Nat → Int32) → Int32 → Int32 → Int32 → Int32 → (Nat → Int32) → Int32 → Int32 → Int32 → Int32 → Int32 → Int32 → Int32 → Int32 → Int32 → Int32 → Int32 → Int32 → (Nat → Int32) → (Nat → Int32) → (Nat → Int32) → (Nat → Int32) → (Nat → Int32) → Prop}
    (hT : TextR q T a b)
    (hK0 : ∀ s1 s2 s3 s4 s5 s6 s7 r1 r2 r3 r4 r5 r6 r7, K s1 s2 s3 s4 s5 s6 s7 dsz df ds npe nlw nma nse npu ff sf r1 r2 r3 lw mn mt' r4 r5 ma se r6 r7 pu da ik)
    (hK1 : ∀ s1 s2 s3 s4 s5 s6 s7 r1 r2 r3 r4 r5 r6 r7 (w n m : Nat) (P F G : Nat → Nat) df ds npu pu da ik, w ≤ 3 → 2 ≤ n → n ≤ 8 → DayR n m F G df ds da → (∀ t, t < n → P t ≤ 99999) → (∀ t, t < n → npu t = nN (P t)) → (∀ t, t < n → pu t = nN (P t)) → ik 0 = 0 → ik 1 = 0 → K s1 s2 s3 s4 s5 s6 s7 (nN m) df ds (nN n) (nN w) 0 0 npu 0 0 r1 r2 r3 (nN w) (nN n) (nN m) r4 r5 0 0 r6 r7 pu da ik) :
    wp_X8_town (nN q) tpl tlw tpe a tpu tsz tfi tse dsz df ds npe nlw nma nse npu ff sf (fun r s1 s2 s3 s4 s5 s6 s7 dsz df ds npe nlw nma nse npu ff sf => wp_X9_town rl rm rt lw mn mt' (nN q) at' fa ma se rpu rda pu da b ik (fun r' r1 r2 r3 lw mn mt' r4 r5 ma se r6 r7 pu da ik => (r = r' → K s1 s2 s3 s4 s5 s6 s7 dsz df ds npe nlw nma nse npu ff sf r1 r2 r3 lw mn mt' r4 r5 ma se r6 r7 pu da ik) ∧ (¬ r = r' → False))) := by
  have hf9 : ∀ f : Nat, f ≤ 1000 → ¬ nN f = (-9 : Int32) := fun f hf => by rw [show (-9 : Int32) = iI (-9) from rfl, i_eq (by omega) (by omega) (by omega) (by omega)]; omega
  unfold wp_X8_town
  refine sim_text hT (fun f s1 s2 s3 s4 s5 s6 s7 hf h => ⟨fun c => absurd c (hf9 f hf), fun _ => ?_⟩) (fun w n m P F G s1 tpu2 tfi2 tse2 hn hr h => ⟨fun _ => ?_, fun c => absurd rfl c⟩)
  · unfold wp_X9_town
    exact h _ (fun r1 r2 r3 r4 r5 r6 r7 => ⟨fun c => absurd c (hf9 f hf), fun _ => same_k (hK0 _ _ _ _ _ _ _ _ _ _ _ _ _ _)⟩) rl rm rt at' fa rpu rda
  · unfold wp_X1_beginTown wp_X2_become wp_X9_town
    refine h _ (fun r4 r5 pu' da' hr9 => ⟨fun _ => ?_, fun c => absurd rfl c⟩) rl rm rt at' fa rpu rda
    obtain ⟨h1, h2, h3, h4, h5⟩ := hr9
    intro k hk
    have key : ∀ (N i : Nat) (p1 : Nat → Int32), 8 - i < N → i ≤ 8 → (∀ t, t < i → t < n → p1 t = pu' t) → k (nN i) p1 := by
      intro N
      induction N with
      | zero => intro i p1 g; omega
      | succ N ih =>
        intro i p1 g1 g2 g3
        apply hk
        have l8 : ((8 : Int32) ≤ nN i) ↔ 8 ≤ i := by rw [show (8 : Int32) = nN 8 from rfl, n_le (by omega) (by omega)]
        rw [l8, n_le (by omega) (by omega), n_nat (by omega), show nN i + 1 = nN (i + 1) from n_add _ 1]
        refine ⟨fun c => ?_, fun c => ⟨fun c2 => ⟨n_in (by omega) (by omega), ih (i + 1) _ (by omega) (by omega) (fun t ht htn => ?_)⟩, fun c2 => ⟨n_in (by omega) (by omega), n_in (by omega) (by omega), ih (i + 1) _ (by omega) (by omega) (fun t ht htn => ?_)⟩⟩⟩
        · intro k2 hk2
          have key2 : ∀ (N2 j : Nat) (d1 : Nat → Int32), 32 - j < N2 → j ≤ 32 → (∀ t, t < j → d1 t = da' t) → k2 (nN j) d1 := by
            intro N2
            induction N2 with
            | zero => intro j d1 g; omega
            | succ N2 ih2 =>
              intro j d1 f1 f2 f3
              apply hk2
              have l32 : ((32 : Int32) ≤ nN j) ↔ 32 ≤ j := by rw [show (32 : Int32) = nN 32 from rfl, n_le (by omega) (by omega)]
              rw [l32, n_nat (by omega), show nN j + 1 = nN (j + 1) from n_add _ 1]
              refine ⟨fun c3 => same_k (hK1 _ _ _ _ _ _ _ _ _ _ _ _ _ _ w n m P F G _ _ _ p1 d1 _ h1 hn h2 ⟨h3, fun t ht => ⟨(h5 t ht).1, (h5 t ht).2.1, (h5 t ht).2.2.1⟩, fun t ht => ?_, fun t ht => ?_⟩ (fun t ht => (h4 t ht).1) (fun t ht => ?_) (fun t ht => ?_) rfl rfl), fun c3 => ⟨n_in (by omega) (by omega), n_in (by omega) (by omega), ih2 (j + 1) _ (by omega) (by omega) (fun t ht => ?_)⟩⟩
              · rw [show Int32.toNatClampNeg (16 : Int32) = 16 from rfl, cpy_lo (by omega), cpy_lo (by omega)]
                exact ⟨(h5 t ht).2.2.2.1, (h5 t ht).2.2.2.2.1⟩
              · rw [f3 _ (by omega), f3 _ (by omega)]
                exact ⟨(h5 t ht).2.2.2.2.2.1, (h5 t ht).2.2.2.2.2.2⟩
              · rw [cpy8 t (by omega)]
                exact (h4 t ht).2.1
              · rw [g3 t (by omega) ht]
                exact (h4 t ht).2.2
              · unfold upd
                by_cases e : t = j
                · rw [if_pos e, e]
                · rw [if_neg e]; exact f3 t (by omega)
          exact key2 33 0 da (by omega) (by omega) (fun t ht => absurd ht (by omega))
        · unfold upd
          rw [if_neg (by omega)]; exact g3 t (by omega) htn
        · unfold upd
          by_cases e : t = i
          · rw [if_pos e, e]
          · rw [if_neg e]; exact g3 t (by omega) htn
    exact key 9 0 pu (by omega) (by omega) (fun t ht => absurd ht (by omega))
