/-! MEETINGS in a row of purses; DAYS -/
def mv (w : Nat) (P : Nat → Nat) (i j : Nat) : Nat → Nat := fun t => if t = j then mt w (P j) (P i) else if t = i then mt w (P i) (P j) else P t
def chB (w : Nat) (P : Nat → Nat) (i j : Nat) : Nat := if mt w (P i) (P j) = P i ∧ mt w (P j) (P i) = P j then 0 else 1
theorem mv_le {w n : Nat} {P : Nat → Nat} {i j : Nat} (hi : i < n) (hj : j < n) (hP : ∀ t, t < n → P t ≤ 99999) : ∀ t, t < n → mv w P i j t ≤ 99999 := by
  intro t ht
  unfold mv
  split
  · exact mt_le (hP j hj)
  · split
    · exact mt_le (hP i hi)
    · exact hP t ht
theorem chB_le (w : Nat) (P : Nat → Nat) (i j : Nat) : chB w P i j ≤ 1 := by unfold chB; split <;> omega
theorem mv_same {w : Nat} {P : Nat → Nat} {i j : Nat} (h : chB w P i j = 0) : mv w P i j = P := by
  unfold chB at h
  split at h
  · next hc =>
    funext t
    unfold mv
    split
    · next e => rw [e]; exact hc.2
    · split
      · next e => rw [e]; exact hc.1
      · rfl
  · omega
theorem upd2_n {n i j x y : Nat} {P : Nat → Nat} {a : Nat → Int32} (ha : ∀ t, t < n → a t = nN (P t)) : ∀ t, t < n → upd (upd a i (nN x)) j (nN y) t = nN (if t = j then y else if t = i then x else P t) := by
  intro t ht
  unfold upd
  by_cases h1 : t = j
  · rw [if_pos h1, if_pos h1]
  · by_cases h2 : t = i
    · rw [if_neg h1, if_pos h2, if_neg h1, if_pos h2]
    · rw [if_neg h1, if_neg h2, if_neg h1, if_neg h2]; exact ha t ht
theorem ok_makeMeeting {n w i j : Nat} {P : Nat → Nat} {a : Nat → Int32} {Post : Int32 → (Nat → Int32) → Prop} (hn : n ≤ 8) (hw : w ≤ 3) (hi : i < n) (hj : j < n) (hij : i ≠ j) (hP : ∀ t, t < n → P t ≤ 99999) (ha : ∀ t, t < n → a t = nN (P t)) (h : ∀ a', (∀ t, t < n → a' t = nN (mv w P i j t)) → Post (nN (chB w P i j)) a') : wp_X8_makeMeeting (nN w) (nN i) (nN j) a Post := by
  unfold wp_X8_makeMeeting
  have hpi := hP i hi
  have hpj := hP j hj
  rw [n_nat (by omega), n_nat (by omega), ha i hi, ha j hj]
  refine ⟨n_in (by omega) (by omega), n_in (by omega) (by omega), ok_sharedBy (by omega) (by omega) (ok_heldOne hw hpi hpj ⟨n_in (by omega) (by omega), ?_⟩)⟩
  rw [sh_comm]
  refine ok_heldOne hw hpj hpi ⟨n_in (by omega) (by omega), n_in (by omega) (by omega), ?_⟩
  have hu := upd2_n (i := i) (j := j) (x := mt w (P i) (P j)) (y := mt w (P j) (P i)) ha
  have hmv : ∀ t, t < n → upd (upd a i (nN (mt w (P i) (P j)))) j (nN (mt w (P j) (P i))) t = nN (mv w P i j t) := hu
  have h1 := mt_le (w := w) (b := P j) hpi
  have h2 := mt_le (w := w) (b := P i) hpj
  have hi' : upd (upd a i (nN (mt w (P i) (P j)))) j (nN (mt w (P j) (P i))) i = nN (mt w (P i) (P j)) := by rw [hu i hi, if_neg (by omega), if_pos rfl]
  have hj' : upd (upd a i (nN (mt w (P i) (P j)))) j (nN (mt w (P j) (P i))) j = nN (mt w (P j) (P i)) := by rw [hu j hj, if_pos rfl]
  have hh := h _ hmv
  unfold chB at hh
  rw [hi', hj', n_eq (by omega) (by omega), n_eq (by omega) (by omega)]
  refine ⟨fun c => ?_, fun c => ⟨n_in (by omega) (by omega), fun c2 => ?_, fun c2 => ?_⟩⟩
  · rw [if_neg (by omega)] at hh; exact hh
  · rw [if_pos ⟨c, c2⟩] at hh; exact hh
  · rw [if_neg (by omega)] at hh; exact hh
/-- behind the first k MEETINGS of THE DAY, and how many of them changed a PURSE -/
def dayN (w : Nat) (F G : Nat → Nat) : Nat → (Nat → Nat) → (Nat → Nat)
  | 0, P => P
  | k + 1, P => mv w (dayN w F G k P) (F k) (G k)
def chN (w : Nat) (F G : Nat → Nat) : Nat → (Nat → Nat) → Nat
  | 0, _ => 0
  | k + 1, P => chN w F G k P + chB w (dayN w F G k P) (F k) (G k)
theorem dayN_le {w n : Nat} {F G P : Nat → Nat} (hP : ∀ t, t < n → P t ≤ 99999) : ∀ k, (∀ i, i < k → F i < n ∧ G i < n) → ∀ t, t < n → dayN w F G k P t ≤ 99999
  | 0, _ => hP
  | k + 1, hF => mv_le (hF k (by omega)).1 (hF k (by omega)).2 (dayN_le hP k (fun i hi => hF i (by omega)))
theorem chN_le (w : Nat) (F G P : Nat → Nat) : ∀ k, chN w F G k P ≤ k
  | 0 => Nat.le_refl 0
  | k + 1 => by
    have h1 := chN_le w F G P k
    have h2 := chB_le w (dayN w F G k P) (F k) (G k)
    show chN w F G k P + chB w (dayN w F G k P) (F k) (G k) ≤ k + 1
    omega
theorem dayN_same {w : Nat} {F G P : Nat → Nat} : ∀ k, chN w F G k P = 0 → dayN w F G k P = P
  | 0, _ => rfl
  | k + 1, h => by
    have h0 : chN w F G k P + chB w (dayN w F G k P) (F k) (G k) = 0 := h
    show mv w (dayN w F G k P) (F k) (G k) = P
    rw [mv_same (by omega)]
    exact dayN_same k (by omega)
theorem ok_makeAll {n w q : Nat} {F G P : Nat → Nat} {fa sa a : Nat → Int32} {Post : Int32 → (Nat → Int32) → Prop} (hn : n ≤ 8) (hw : w ≤ 3) (hq : q ≤ 16) (hF : ∀ i, i < q → F i < n ∧ G i < n ∧ F i ≠ G i) (hfs : ∀ i, i < q → fa i = nN (F i) ∧ sa i = nN (G i)) (hP : ∀ t, t < n → P t ≤ 99999) (ha : ∀ t, t < n → a t = nN (P t)) (h : ∀ a', (∀ t, t < n → a' t = nN (dayN w F G q P t)) → Post (nN (chN w F G q P)) a') : wp_X2_makeAll (nN w) (nN q) fa sa a Post := by
  unfold wp_X2_makeAll
  intro k hk
  have key : ∀ (N i : Nat) (a1 : Nat → Int32), q - i < N → i ≤ q → (∀ t, t < n → a1 t = nN (dayN w F G i P t)) → k (nN i) (nN (chN w F G i P)) a1 := by
    intro N
    induction N with
    | zero => intro i a1 h1; omega
    | succ N ih =>
      intro i a1 h1 h2 h3
      apply hk
      rw [n_le (by omega) (by omega)]
      refine ⟨fun c => ?_, fun c => ?_⟩
      · have e : i = q := by omega
        subst e
        exact h a1 h3
      · have hi : i < q := by omega
        unfold wp_X2_makeOne
        rw [n_nat (by omega), (hfs i hi).1, (hfs i hi).2]
        refine ⟨n_in (by omega) (by omega), n_in (by omega) (by omega), ok_makeMeeting hn hw (hF i hi).1 (hF i hi).2.1 (hF i hi).2.2 (dayN_le hP i (fun j hj => ⟨(hF j (by omega)).1, (hF j (by omega)).2.1⟩)) h3 (fun a' ha' => ?_)⟩
        have hb := chB_le w (dayN w F G i P) (F i) (G i)
        have hcn := chN_le w F G P i
        refine ⟨?_, fun c0 => ?_, fun c0 => ?_⟩
        · rcases (show chB w (dayN w F G i P) (F i) (G i) = 0 ∨ chB w (dayN w F G i P) (F i) (G i) = 1 by omega) with e | e <;> rw [e] <;> decide
        · rw [show (0 : Int32) = nN 0 from rfl, n_eq (by omega) (by omega)] at c0
          have := ih (i + 1) a' (by omega) (by omega) ha'
          rw [show chN w F G (i + 1) P = chN w F G i P from by show chN w F G i P + _ = _; omega] at this
          rw [show nN i + 1 = nN (i + 1) from n_add _ 1]
          exact this
        · rw [show (0 : Int32) = nN 0 from rfl, n_eq (by omega) (by omega)] at c0
          have := ih (i + 1) a' (by omega) (by omega) ha'
          rw [show chN w F G (i + 1) P = chN w F G i P + 1 from by show chN w F G i P + _ = _; omega] at this
          rw [show nN (chN w F G i P) + 1 = nN (chN w F G i P + 1) from n_add _ 1, show nN i + 1 = nN (i + 1) from n_add _ 1]
          exact this
  exact key (q + 1) 0 a (by omega) (by omega) ha
