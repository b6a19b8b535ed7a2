/-! DAYS, one behind the other; what a PERSON has then -/
def itD (w q : Nat) (F G : Nat → Nat) : Nat → (Nat → Nat) → (Nat → Nat)
  | 0, P => P
  | d + 1, P => dayN w F G q (itD w q F G d P)
theorem itD_le {w n q : Nat} {F G P : Nat → Nat} (hF : ∀ i, i < q → F i < n ∧ G i < n ∧ F i ≠ G i) (hP : ∀ t, t < n → P t ≤ 99999) : ∀ d, ∀ t, t < n → itD w q F G d P t ≤ 99999
  | 0 => hP
  | d + 1 => dayN_le (itD_le hF hP d) q (fun i hi => ⟨(hF i hi).1, (hF i hi).2.1⟩)
theorem itD_fix {w q : Nat} {F G P : Nat → Nat} {d : Nat} (h : dayN w F G q (itD w q F G d P) = itD w q F G d P) : ∀ k, itD w q F G (d + k) P = itD w q F G d P
  | 0 => rfl
  | k + 1 => by
    show dayN w F G q (itD w q F G (d + k) P) = _
    rw [itD_fix h k]; exact h
theorem cpy_lo {f g : Nat → Int32} {m t : Nat} (h : t < m) : va_cpy f g (Int32.toNatClampNeg (0 : Int32)) (Int32.toNatClampNeg (0 : Int32)) m t = f t := by
  show (if 0 ≤ t ∧ t < 0 + m then f (0 + (t - 0)) else g t) = f t
  rw [if_pos ⟨by omega, by omega⟩]; congr 1; omega
theorem case_later {n w q : Nat} {x y : Int32} {F G P : Nat → Nat} {fa sa da a b la tr : Nat → Int32} {v1 v2 : Int32} {K : (Nat → Int32) → Int32 → Int32 → (Nat → Int32) → Prop} (hn : n ≤ 8) (hw : w ≤ 3) (hd : DayR n q F G fa sa da) (hP : ∀ t, t < n → P t ≤ 99999) (ha : ∀ t, t < n → a t = nN (P t)) (hb : ∀ t, t < n → b t = nN (P t)) (hK : ∀ l u1 u2 t, K l u1 u2 t) : wp_X8_later x y (nN q) fa sa (nN n) (nN w) a la (fun r l1 => wp_X9_later x y (nN w) (nN n) (nN q) v1 v2 b da tr (fun r' u1 u2 t1 => (r = r' → K l1 u1 u2 t1) ∧ (¬ r = r' → False))) := by
  obtain ⟨z, rfl, hz, hz2⟩ := i_ex x
  obtain ⟨v, rfl, hv, hv2⟩ := i_ex y
  obtain ⟨hq, h1, h2, h3⟩ := hd
  unfold wp_X8_later
  have out1 : ∀ l1, ¬ (0 ≤ z ∧ z < n) → wp_X9_later (iI z) (iI v) (nN w) (nN n) (nN q) v1 v2 b da tr (fun r' u1 u2 t1 => ((-1 : Int32) = r' → K l1 u1 u2 t1) ∧ (¬ (-1 : Int32) = r' → False)) := by
    intro l1 h
    unfold wp_X9_later
    exact ok9_isPerson hn hz hz2 (fun h1 h2 => absurd ⟨h1, h2⟩ h) (fun _ => ⟨fun c => absurd rfl c, fun _ => same_k (hK _ _ _ _)⟩)
  have out2 : ∀ l1, 0 ≤ z → z < n → ¬ (0 ≤ v ∧ v ≤ 300) → wp_X9_later (iI z) (iI v) (nN w) (nN n) (nN q) v1 v2 b da tr (fun r' u1 u2 t1 => ((-2 : Int32) = r' → K l1 u1 u2 t1) ∧ (¬ (-2 : Int32) = r' → False)) := by
    intro l1 hz0 hzn h
    unfold wp_X9_later
    exact ok9_isPerson hn hz hz2 (fun _ _ => ⟨fun _ => ok_inI (lo := 0) (hi := 300) hv hv2 rfl rfl (fun h1 h2 => absurd ⟨h1, h2⟩ h) (fun _ => ⟨fun c => absurd rfl c, fun _ => same_k (hK _ _ _ _)⟩), fun c => absurd c one_ne⟩) (fun c => absurd ⟨hz0, hzn⟩ c)
  rw [show (iI v < 0) = (iI v < iI 0) from rfl, L300, i_lt (by omega) (by omega) (by omega) (by omega), i_le (by omega) (by omega) (by omega) (by omega)]
  refine ok_isPerson hn hz hz2 (fun hz0 hzn => ⟨fun _ => ⟨fun c => out2 _ hz0 hzn (by omega), fun c => ⟨fun c2 => ?_, fun c2 => out2 _ hz0 hzn (by omega)⟩⟩, fun c => absurd c one_ne⟩) (fun h => ⟨fun c => absurd rfl c, fun _ => out1 _ h⟩)
  obtain ⟨i, rfl⟩ : ∃ i : Nat, z = i := ⟨z.toNat, by omega⟩
  obtain ⟨d, rfl⟩ : ∃ d : Nat, v = d := ⟨v.toNat, by omega⟩
  have hin : i < n := by omega
  have fit : ∀ l1, wp_X9_later (nN i) (nN d) (nN w) (nN n) (nN q) v1 v2 b da tr (fun r' u1 u2 t1 => (nN (itD w q F G d P i) = r' → K l1 u1 u2 t1) ∧ (¬ nN (itD w q F G d P i) = r' → False)) := by
    intro l1
    unfold wp_X9_later
    refine ok9_isPerson hn hz hz2 (fun _ _ => ⟨fun _ => ok_inI (lo := 0) (hi := 300) hv hv2 rfl rfl (fun _ _ => ⟨fun _ => ?_, fun c => absurd c one_ne⟩) (fun c => absurd ⟨by omega, by omega⟩ c), fun c => absurd c one_ne⟩) (fun c => absurd ⟨hz0, hzn⟩ c)
    refine ok9_takeTried (fun t1 ht1 => ?_)
    intro k hk
    have key : ∀ (N j : Nat) (u1 u2 : Int32) (tt : Nat → Int32), d - j < N → j ≤ d → (∀ t, t < n → tt t = nN (itD w q F G j P t)) → k (nN j) u1 u2 tt := by
      intro N
      induction N with
      | zero => intro j u1 u2 tt h1; omega
      | succ N ih =>
        intro j u1 u2 tt g1 g2 g3
        apply hk
        rw [n_le (by omega) (by omega)]
        refine ⟨fun c => ⟨n_in (by omega) (by omega), ?_⟩, fun c => ?_⟩
        · have e : j = d := by omega
          subst e
          rw [n_nat (by omega), g3 i hin]
          exact same_k (hK _ _ _ _)
        · refine ok9_tryDay hn hw hq h1 h3 (itD_le h1 hP j) g3 (fun w1 w2 a' ha' _ => ?_)
          rw [show nN j + 1 = nN (j + 1) from n_add _ 1]
          exact ih (j + 1) w1 w2 a' (by omega) (by omega) ha'
    exact key (d + 1) 0 v1 v2 t1 (by omega) (by omega) (fun t ht => by rw [ht1 t (by omega)]; exact hb t ht)
  intro k hk
  have key : ∀ (N j c : Nat) (l1 : Nat → Int32), d - j < N → j ≤ d → c ≤ 16 → (c = 0 → dayN w F G q (itD w q F G j P) = itD w q F G j P) → (∀ t, t < n → l1 t = nN (itD w q F G j P t)) → k (nN j) (nN c) l1 := by
    intro N
    induction N with
    | zero => intro j c l1 h1; omega
    | succ N ih =>
      intro j c l1 g1 g2 gc g3 g4
      apply hk
      rw [n_le (by omega) (by omega), show (0 : Int32) = nN 0 from rfl, n_le (by omega) (by omega), n_nat (by omega), g4 i hin]
      refine ⟨fun cd => ⟨n_in (by omega) (by omega), ?_⟩, fun cd => ⟨fun c0 => ⟨n_in (by omega) (by omega), ?_⟩, fun c0 => ?_⟩⟩
      · have e : j = d := by omega
        subst e
        exact fit l1
      · have e := itD_fix (g3 (by omega)) (d - j)
        rw [show j + (d - j) = d by omega] at e
        rw [← e]
        exact fit l1
      · refine ok_makeAll hn hw hq h1 h2 (itD_le h1 hP j) g4 (fun a' ha' => ?_)
        have hcl := chN_le w F G (itD w q F G j P) q
        rw [show nN j + 1 = nN (j + 1) from n_add _ 1]
        refine ih (j + 1) _ a' (by omega) (by omega) (by omega) (fun h0 => ?_) ha'
        show dayN w F G q (dayN w F G q (itD w q F G j P)) = dayN w F G q (itD w q F G j P)
        rw [dayN_same q h0, dayN_same q h0]
  exact key (d + 1) 0 1 _ (by omega) (by omega) (by omega) (fun h => by omega) (fun t ht => by rw [show Int32.toNatClampNeg (8 : Int32) = 8 from rfl, cpy_lo (by omega)]; exact ha t ht)
