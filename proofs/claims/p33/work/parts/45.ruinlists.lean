/-! RUIN: the least number of others to MEET, the first such row -/
theorem fr_congr : ∀ (k a : Nat) (u u' : List Nat), a + k ≤ 8 → (∀ y, y < 8 → (y ∈ u ↔ y ∈ u')) → fr a k u = fr a k u'
  | 0, _, _, _, _, _ => rfl
  | k + 1, a, u, u', h, e => by
    unfold fr
    rw [fr_congr k (a + 1) u u' (by omega) e]
    simp only [e a (by omega)]
theorem lay_congr {m : Nat} (hm : m ≤ 8) : ∀ (l : Nat) (u u' : List Nat), (∀ y, y < 8 → (y ∈ u ↔ y ∈ u')) → lay m l u = lay m l u'
  | 0, _, _, _ => rfl
  | l + 1, u, u', e => by
    unfold lay
    rw [fr_congr m 0 u u' (by omega) e]
    congr 1
    funext x
    rw [lay_congr hm l (x :: u) (x :: u') (fun y hy => by rw [List.mem_cons, List.mem_cons, e y hy])]
def sendL (w : Nat) (P : Nat → Nat) : List Nat → Nat → Nat
  | [], h => h
  | x :: r, h => sendL w P r (mt w h (P x))
def hit (w g : Nat) (P : Nat → Nat) (h : Nat) (o : List Nat) : Bool := decide (sendL w P o h ≤ g)
def F2 (w g n : Nat) (P : Nat → Nat) (u : List Nat) (h x : Nat) : Nat → Option (List Nat)
  | 0 => none
  | L + 1 => ((lay n L (x :: u)).find? (hit w g P (mt w h (P x)))).map (x :: ·)
def RF (w g n : Nat) (P : Nat → Nat) (u : List Nat) (h a k : Nat) : Nat → Option (List Nat)
  | 0 => none
  | L + 1 => ((fr a k u).flatMap (fun y => (lay n L (y :: u)).map (y :: ·))).find? (hit w g P h)
def res (F : Nat → Option (List Nat)) (f D f' : Nat) (b' b pre : List Nat) : Prop := (f' = f ∧ b' = b ∧ ∀ L, D + L < f → F L = none) ∨ (∃ L o, D + L < f ∧ f' = D + L ∧ F L = some o ∧ b' = pre ++ o ∧ ∀ L', L' < L → F L' = none)
theorem res_none {F : Nat → Option (List Nat)} {f D f' : Nat} {b' b pre : List Nat} (h : res F f D f' b' b pre) : ∀ L, D + L < f' → F L = none := by
  intro L hL
  rcases h with ⟨h1, h2, h3⟩ | ⟨L0, o, h1, h2, h3, h4, h5⟩
  · exact h3 L (by omega)
  · exact h5 L (by omega)
theorem res_le {F : Nat → Option (List Nat)} {f D f' : Nat} {b' b pre : List Nat} (h : res F f D f' b' b pre) : f' ≤ f := by
  rcases h with ⟨h1, h2, h3⟩ | ⟨L0, o, h1, h2, h3, h4, h5⟩ <;> omega
theorem res_or {A B : Nat → Option (List Nat)} {f D f1 f2 : Nat} {b b1 b2 pre : List Nat} (h1 : res A f D f1 b1 b pre) (h2 : res B f1 D f2 b2 b1 pre) : res (fun L => (A L).or (B L)) f D f2 b2 b pre := by
  rcases h1 with ⟨e1, e2, e3⟩ | ⟨L1, o1, e1, e2, e3, e4, e5⟩
  · subst e1 e2
    rcases h2 with ⟨g1, g2, g3⟩ | ⟨L2, o2, g1, g2, g3, g4, g5⟩
    · exact Or.inl ⟨g1, g2, fun L hL => by simp only [e3 L hL, g3 L hL, Option.or]⟩
    · refine Or.inr ⟨L2, o2, g1, g2, ?_, g4, fun L' hL' => ?_⟩
      · simp only [e3 L2 g1, g3, Option.or]
      · simp only [e3 L' (by omega), g5 L' hL', Option.or]
  · rcases h2 with ⟨g1, g2, g3⟩ | ⟨L2, o2, g1, g2, g3, g4, g5⟩
    · refine Or.inr ⟨L1, o1, e1, by omega, ?_, by rw [g2, e4], fun L' hL' => ?_⟩
      · simp only [e3, Option.or]
      · simp only [e5 L' hL', g3 L' (by omega), Option.or]
    · refine Or.inr ⟨L2, o2, by omega, g2, ?_, g4, fun L' hL' => ?_⟩
      · simp only [e5 L2 (by omega), g3, Option.or]
      · simp only [e5 L' (by omega), g5 L' hL', Option.or]
theorem res_same {A B : Nat → Option (List Nat)} {f D f' : Nat} {b b' pre : List Nat} (e : ∀ L, A L = B L) (h : res A f D f' b' b pre) : res B f D f' b' b pre := by
  have : A = B := funext e
  rw [← this]; exact h
theorem res_up {w g n h x : Nat} {P : Nat → Nat} {u : List Nat} {f D f' : Nat} {b b' pre : List Nat} (hr : res (fun L => (lay n L (x :: u)).find? (hit w g P (mt w h (P x)))) f (D + 1) f' b' b (pre ++ [x])) : res (F2 w g n P u h x) f D f' b' b pre := by
  rcases hr with ⟨e1, e2, e3⟩ | ⟨L1, o1, e1, e2, e3, e4, e5⟩
  · refine Or.inl ⟨e1, e2, fun L hL => ?_⟩
    cases L with
    | zero => rfl
    | succ L =>
      show ((lay n L (x :: u)).find? (hit w g P (mt w h (P x)))).map (x :: ·) = none
      exact congrArg (Option.map (x :: ·)) (e3 L (by omega))
  · refine Or.inr ⟨L1 + 1, x :: o1, by omega, by omega, ?_, ?_, fun L' hL' => ?_⟩
    · show ((lay n L1 (x :: u)).find? (hit w g P (mt w h (P x)))).map (x :: ·) = some (x :: o1)
      exact congrArg (Option.map (x :: ·)) e3
    · rw [e4]; simp
    · cases L' with
      | zero => rfl
      | succ L =>
        show ((lay n L (x :: u)).find? (hit w g P (mt w h (P x)))).map (x :: ·) = none
        exact congrArg (Option.map (x :: ·)) (e5 L (by omega))
theorem RF_in {w g n : Nat} {P : Nat → Nat} {u : List Nat} {h a k : Nat} (hx : a ∈ u) (L : Nat) : RF w g n P u h a (k + 1) L = RF w g n P u h (a + 1) k L := by
  cases L with
  | zero => rfl
  | succ L => unfold RF; rw [show fr a (k + 1) u = fr (a + 1) k u from by rw [fr, if_pos hx]]
theorem RF_out {w g n : Nat} {P : Nat → Nat} {u : List Nat} {h a k : Nat} (hx : a ∉ u) (L : Nat) : (F2 w g n P u h a L).or (RF w g n P u h (a + 1) k L) = RF w g n P u h a (k + 1) L := by
  cases L with
  | zero => rfl
  | succ L =>
    show (((lay n L (a :: u)).find? (hit w g P (mt w h (P a)))).map (a :: ·)).or (((fr (a + 1) k u).flatMap (fun y => (lay n L (y :: u)).map (y :: ·))).find? (hit w g P h)) = ((fr a (k + 1) u).flatMap (fun y => (lay n L (y :: u)).map (y :: ·))).find? (hit w g P h)
    rw [show fr a (k + 1) u = a :: fr (a + 1) k u from by rw [fr, if_neg hx], List.flatMap_cons, List.find?_append, List.find?_map]
    rfl
theorem RF_end {w g n : Nat} {P : Nat → Nat} {u : List Nat} {h a : Nat} (L : Nat) : RF w g n P u h a 0 L = none := by
  cases L with
  | zero => rfl
  | succ L => rfl
theorem RF_all {w g n : Nat} {P : Nat → Nat} {u : List Nat} {h : Nat} (hh : g < h) (L : Nat) : RF w g n P u h 0 n L = (lay n L u).find? (hit w g P h) := by
  cases L with
  | zero =>
    show none = [[]].find? (hit w g P h)
    have : hit w g P h [] = false := by
      unfold hit sendL
      rw [decide_eq_false_iff_not]; omega
    rw [List.find?_cons, this]; rfl
  | succ L => rfl
/-- a strictly greater set -/
def SS (k k' : Nat) : Prop := k' < 256 ∧ (∀ x, x < 8 → Nat.testBit k x = true → Nat.testBit k' x = true) ∧ ∃ x, x < 8 ∧ Nat.testBit k x ≠ true ∧ Nat.testBit k' x = true
def Memo (w g n : Nat) (P : Nat → Nat) (lh : Nat → Int32) (f k : Nat) : Prop := ∀ (u : List Nat) (v : Nat), BS k u → v ≤ 99999 → lh k = nN v → ∀ L, n + L < f + 1 + (fr 0 n u).length → (lay n L u).find? (hit w g P v) = none
theorem SS_self {k : Nat} : ¬ SS k k := fun ⟨_, _, x, _, h1, h2⟩ => h1 h2
theorem bit_two {k x y : Nat} : Nat.testBit (k ||| 2 ^ x) y = true ↔ Nat.testBit k y = true ∨ x = y := by
  rw [Nat.testBit_or, Nat.testBit_two_pow, Bool.or_eq_true, decide_eq_true_iff]
theorem SS_step {k x k' : Nat} (h : SS (k ||| 2 ^ x) k') : SS k k' := by
  obtain ⟨h1, h2, y, h3, h4, h5⟩ := h
  refine ⟨h1, fun z hz hb => h2 z hz (bit_two.mpr (Or.inl hb)), y, h3, fun z => h4 (bit_two.mpr (Or.inl z)), h5⟩
theorem SS_new {k x : Nat} (hk : k < 256) (hx : x < 8) (hb : Nat.testBit k x ≠ true) : SS k (k ||| 2 ^ x) :=
  ⟨bit_or_lt k hk x hx, fun z _ h => bit_two.mpr (Or.inl h), x, hx, hb, bit_two.mpr (Or.inr rfl)⟩
