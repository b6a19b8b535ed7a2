/-! THE TEXT read: FAULT, the TOWN -/
def fgd (q : Nat) (T : Nat → Nat) (b p : Nat) : Prop := p < q ∧ 48 ≤ T p ∧ T p < 48 + b
theorem ok_nextIs {q p c : Nat} {T : Nat → Nat} {a b : Nat → Int32} {Post : Int32 → Prop} (hT : TextR q T a b) (hp : p ≤ q) (hc : c ≤ 1000) (h1 : p < q → T p = c → Post 1) (h0 : ¬ (p < q ∧ T p = c) → Post 0) : wp_X6_nextIs (nN c) (nN q) (nN p) a Post := by
  obtain ⟨hq, hT1, hT2, hT3⟩ := hT
  unfold wp_X6_nextIs
  rw [n_le (by omega) (by omega), n_nat (by omega)]
  refine ⟨fun cc => h0 (by omega), fun cc => ⟨n_in (by omega) (by omega), ?_⟩⟩
  have := hT1 p (by omega)
  rw [hT2 p (by omega), n_eq (by omega) (by omega)]
  exact ⟨fun c2 => h0 (fun h => c2 h.2), fun c2 => h1 (by omega) c2⟩
theorem ok_readFigure {q p c : Nat} {T : Nat → Nat} {a b : Nat → Int32} {Post : Int32 → Int32 → Prop} (hT : TextR q T a b) (hp : p ≤ q) (hc : c ≤ 1000) (h1 : fgd q T c p → Post (nN (T p - 48)) (nN (p + 1))) (h0 : ¬ fgd q T c p → Post (-1) (nN p)) : wp_X6_readFigure (nN c) (nN q) (nN p) a Post := by
  obtain ⟨hq, hT1, hT2, hT3⟩ := hT
  unfold fgd at h1 h0
  unfold wp_X6_readFigure
  rw [n_le (by omega) (by omega), n_nat (by omega), show nN p + 1 = nN (p + 1) from n_add _ 1]
  refine ⟨fun cc => ⟨fun _ => h0 (by omega), fun c2 => absurd (by decide) c2⟩, fun cc => ⟨n_in (by omega) (by omega), ?_⟩⟩
  have := hT1 p (by omega)
  have e : a p - (48 : Int32) = iI ((T p : Int) - 48) := by rw [hT2 p (by omega), show (48 : Int32) = iI 48 from rfl]; exact i_sub _ _
  rw [e, show (iI ((T p : Int) - 48) < 0) = (iI ((T p : Int) - 48) < iI 0) from rfl, i_lt (by omega) (by omega) (by omega) (by omega), i_lt (by omega) (by omega) (by omega) (by omega)]
  refine ⟨fun c2 => h0 (by omega), fun c2 => ⟨fun c3 => ?_, fun c3 => h0 (by omega)⟩⟩
  rw [show ((T p : Int) - 48) = ((T p - 48 : Nat) : Int) by omega]
  exact h1 (by omega)
def dv (T : Nat → Nat) (p : Nat) : Nat → Nat
  | 0 => 0
  | k + 1 => dv T p k * 10 + (T (p + k) - 48)
theorem dv_le {q : Nat} {T : Nat → Nat} {p : Nat} : ∀ k, k ≤ 4 → (∀ t, t < k → fgd q T 10 (p + t)) → dv T p k + 1 ≤ 10 ^ k
  | 0, _, _ => by simp [dv]
  | k + 1, hk, h => by
    have h1 := dv_le k (by omega) (fun t ht => h t (by omega))
    have h2 := h k (by omega)
    unfold fgd at h2
    show dv T p k * 10 + (T (p + k) - 48) + 1 ≤ 10 ^ (k + 1)
    rw [Nat.pow_succ]
    omega
theorem dv_small {q : Nat} {T : Nat → Nat} {p k : Nat} (hk : k ≤ 4) (h : ∀ t, t < k → fgd q T 10 (p + t)) : dv T p k ≤ 9999 := by
  have h1 := dv_le k hk h
  have h2 : 10 ^ k ≤ 10 ^ 4 := Nat.pow_le_pow_right (by omega) hk
  omega
theorem ok_readPerson {q p n : Nat} {T : Nat → Nat} {a b pu : Nat → Int32} {Post : Int32 → Int32 → Int32 → (Nat → Int32) → Prop} (hT : TextR q T a b) (hp : p < q) (hn : n < 8) (hok : (∀ t, t < 4 → fgd q T 10 (p + 1 + t)) → Post 1 (nN (p + 5)) (nN (n + 1)) (upd pu n (nN (dv T (p + 1) 4)))) (hbad : ∀ j, j < 4 → (∀ t, t < j → fgd q T 10 (p + 1 + t)) → ¬ fgd q T 10 (p + 1 + j) → Post 0 (nN (p + 1 + j)) (nN n) pu) : wp_X6_readPerson (nN q) (nN p) (nN n) a pu Post := by
  have hq := hT.1
  unfold wp_X6_readPerson
  intro k hk
  rw [show nN p + 1 = nN (p + 1) from n_add _ 1]
  have key : ∀ (N j : Nat), 4 - j < N → j ≤ 4 → p + 1 + j ≤ q → (∀ t, t < j → fgd q T 10 (p + 1 + t)) → k (nN j) (nN (dv T (p + 1) j)) (nN (p + 1 + j)) := by
    intro N
    induction N with
    | zero => intro j g; omega
    | succ N ih =>
      intro j g1 g2 g3 g4
      apply hk
      have hv := dv_small g2 g4
      have l4 : ((4 : Int32) ≤ nN j) ↔ 4 ≤ j := by rw [show (4 : Int32) = nN 4 from rfl, n_le (by omega) (by omega)]
      rw [l4, show (10 : Int32) = nN 10 from rfl, n_mul, n_nat (by omega), show nN j + 1 = nN (j + 1) from n_add _ 1, show nN n + 1 = nN (n + 1) from n_add _ 1]
      refine ⟨fun c => ?_, fun c => ok_readFigure hT g3 (by omega) (fun hf => ⟨fun _ => ?_, fun c2 => ?_⟩) (fun hf => ⟨fun c2 => absurd c2 (by decide), fun _ => hbad j (by omega) g4 hf⟩)⟩
      · have e : j = 4 := by omega
        subst e
        exact ⟨n_in (by omega) (by omega), hok g4⟩
      · rw [n_add]
        have hf2 := hf
        unfold fgd at hf2
        refine ih (j + 1) (by omega) (by omega) (by omega) (fun t ht => ?_)
        by_cases et : t = j
        · rw [et]; exact hf
        · exact g4 t (by omega)
      · exfalso
        unfold fgd at hf
        have := hT.2.1 (p + 1 + j) (by omega)
        rw [show (0 : Int32) = nN 0 from rfl, n_le (by omega) (by omega)] at c2
        omega
  exact key 5 0 (by omega) (by omega) (by omega) (fun t ht => absurd ht (by omega))
theorem ok_readMeeting {q p n m : Nat} {T : Nat → Nat} {a b fi se : Nat → Int32} {Post : Int32 → Int32 → Int32 → (Nat → Int32) → (Nat → Int32) → Prop} (hT : TextR q T a b) (hp : p < q) (hn : n ≤ 8) (hm : m < 16) (hok : fgd q T n (p + 1) → fgd q T n (p + 2) → T (p + 1) ≠ T (p + 2) → Post 1 (nN (p + 3)) (nN (m + 1)) (upd fi m (nN (T (p + 1) - 48))) (upd se m (nN (T (p + 2) - 48)))) (hb1 : ¬ fgd q T n (p + 1) → Post 0 (nN (p + 1)) (nN m) fi se) (hb2 : fgd q T n (p + 1) → ¬ (fgd q T n (p + 2) ∧ T (p + 1) ≠ T (p + 2)) → Post 0 (nN (p + 2)) (nN m) fi se) : wp_X6_readMeeting (nN q) (nN p) (nN n) a (nN m) fi se Post := by
  have hq := hT.1
  unfold wp_X6_readMeeting
  rw [show nN p + 1 = nN (p + 1) from n_add _ 1]
  refine ok_readFigure hT (by omega) (by omega) (fun hf => ⟨fun _ => ?_, fun c => ?_⟩) (fun hf => ⟨fun c => absurd c (by decide), fun _ => hb1 hf⟩)
  · have hf2 := hf
    unfold fgd at hf2
    rw [show (48 : Int32) + nN (T (p + 1) - 48) = nN (48 + (T (p + 1) - 48)) from n_add 48 _, show 48 + (T (p + 1) - 48) = T (p + 1) by omega]
    refine ok_nextIs hT (by omega) (by have := hT.2.1 (p + 1) (by omega); omega) (fun g1 g2 => ⟨fun c => absurd c one_ne, fun _ => hb2 hf (fun h => h.2 g2.symm)⟩) (fun g => ⟨fun _ => ?_, fun c => absurd rfl c⟩)
    refine ok_readFigure hT (by omega) (by omega) (fun hg => ⟨fun _ => ?_, fun c => ?_⟩) (fun hg => ⟨fun c => absurd c (by decide), fun _ => hb2 hf (fun h => hg h.1)⟩)
    · unfold wp_X2_add
      have l16 : (nN m < (16 : Int32)) ↔ m < 16 := by rw [show (16 : Int32) = nN 16 from rfl, n_lt (by omega) (by omega)]
      rw [l16, n_nat (by omega), show nN m + 1 = nN (m + 1) from n_add _ 1]
      exact ⟨fun _ => ⟨n_in (by omega) (by omega), n_in (by omega) (by omega), hok hf hg (fun e => g ⟨hg.1, e.symm⟩)⟩, fun c => absurd hm c⟩
    · exfalso
      unfold fgd at hg
      have := hT.2.1 (p + 1 + 1) (by omega)
      rw [show (0 : Int32) = nN 0 from rfl, n_le (by omega) (by omega)] at c
      omega
  · exfalso
    unfold fgd at hf
    have := hT.2.1 (p + 1) (by omega)
    rw [show (0 : Int32) = nN 0 from rfl, n_le (by omega) (by omega)] at c
    omega
theorem ok_readPart {q p n m : Nat} {T : Nat → Nat} {a b pu fi se : Nat → Int32} {Post : Int32 → Int32 → Int32 → (Nat → Int32) → Int32 → (Nat → Int32) → (Nat → Int32) → Prop} (hT : TextR q T a b) (hp : p < q) (hn : n ≤ 8) (hm : m ≤ 16)
    (hP1 : T p = 80 → n < 8 → (∀ t, t < 4 → fgd q T 10 (p + 1 + t)) → Post 1 (nN (p + 5)) (nN (n + 1)) (upd pu n (nN (dv T (p + 1) 4))) (nN m) fi se)
    (hP0 : T p = 80 → n < 8 → ∀ j, j < 4 → (∀ t, t < j → fgd q T 10 (p + 1 + t)) → ¬ fgd q T 10 (p + 1 + j) → Post 0 (nN (p + 1 + j)) (nN n) pu (nN m) fi se)
    (hM1 : T p = 77 → 2 ≤ n → m < 16 → fgd q T n (p + 1) → fgd q T n (p + 2) → T (p + 1) ≠ T (p + 2) → Post 1 (nN (p + 3)) (nN n) pu (nN (m + 1)) (upd fi m (nN (T (p + 1) - 48))) (upd se m (nN (T (p + 2) - 48))))
    (hM01 : T p = 77 → 2 ≤ n → m < 16 → ¬ fgd q T n (p + 1) → Post 0 (nN (p + 1)) (nN n) pu (nN m) fi se)
    (hM02 : T p = 77 → 2 ≤ n → m < 16 → fgd q T n (p + 1) → ¬ (fgd q T n (p + 2) ∧ T (p + 1) ≠ T (p + 2)) → Post 0 (nN (p + 2)) (nN n) pu (nN m) fi se)
    (h0 : ¬ (T p = 80 ∧ n < 8) → ¬ (T p = 77 ∧ 2 ≤ n ∧ m < 16) → Post 0 (nN p) (nN n) pu (nN m) fi se) : wp_X6_readPart (nN q) (nN p) (nN n) a pu (nN m) fi se Post := by
  have hq := hT.1
  have l2 : (nN n < (2 : Int32)) ↔ n < 2 := by rw [show (2 : Int32) = nN 2 from rfl, n_lt (by omega) (by omega)]
  have l16 : ((16 : Int32) ≤ nN m) ↔ 16 ≤ m := by rw [show (16 : Int32) = nN 16 from rfl, n_le (by omega) (by omega)]
  have l8 : ((8 : Int32) ≤ nN n) ↔ 8 ≤ n := by rw [show (8 : Int32) = nN 8 from rfl, n_le (by omega) (by omega)]
  unfold wp_X6_readPart
  rw [l2, l16, l8]
  have rest : ¬ (T p = 80 ∧ n < 8) → wp_X6_nextIs (77 : Int32) (nN q) (nN p) a (fun r26 => ((r26 = 0 → (Post (0 : Int32) (nN p) (nN n) pu (nN m) fi se)) ∧ (¬ r26 = 0 → ((n < 2 → (Post (0 : Int32) (nN p) (nN n) pu (nN m) fi se)) ∧ (¬ n < 2 → ((16 ≤ m → (Post (0 : Int32) (nN p) (nN n) pu (nN m) fi se)) ∧ (¬ 16 ≤ m → (wp_X6_readMeeting (nN q) (nN p) (nN n) a (nN m) fi se (fun r53 pl sz f1 s1 => (r53 &&& 1 = r53 ∧ (Post r53 pl (nN n) pu sz f1 s1))))))))))) := by
    intro hno
    refine ok_nextIs (c := 77) hT (by omega) (by omega) (fun g1 g2 => ⟨fun c => absurd c one_ne, fun _ => ⟨fun c => h0 hno (by omega), fun c => ⟨fun c2 => h0 hno (by omega), fun c2 => ?_⟩⟩⟩) (fun g => ⟨fun _ => h0 hno (fun h => g ⟨hp, h.1⟩), fun c => absurd rfl c⟩)
    exact ok_readMeeting hT hp hn (by omega) (fun a1 a2 a3 => ⟨by decide, hM1 g2 (by omega) (by omega) a1 a2 a3⟩) (fun a1 => ⟨by decide, hM01 g2 (by omega) (by omega) a1⟩) (fun a1 a2 => ⟨by decide, hM02 g2 (by omega) (by omega) a1 a2⟩)
  refine ok_nextIs (c := 80) hT (by omega) (by omega) (fun g1 g2 => ⟨fun c => absurd c one_ne, fun _ => ⟨fun c => rest (by omega), fun c => ?_⟩⟩) (fun g => ⟨fun _ => rest (fun h => g ⟨hp, h.1⟩), fun c => absurd rfl c⟩)
  exact ok_readPerson hT hp (by omega) (fun a1 => ⟨by decide, hP1 g2 (by omega) a1⟩) (fun j a1 a2 a3 => ⟨by decide, hP0 g2 (by omega) j a1 a2 a3⟩)
