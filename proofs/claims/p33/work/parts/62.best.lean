/-! BEST ORDER and RUIN: rows of unlike ones -/
theorem lay_nodup (m : Nat) : ∀ (l : Nat) (u o : List Nat), o ∈ lay m l u → o.Nodup ∧ ∀ x, x ∈ o → x ∉ u
  | 0, u, o, h => by
    unfold lay at h
    rw [List.mem_singleton] at h
    subst h
    exact ⟨List.nodup_nil, fun x hx => absurd hx List.not_mem_nil⟩
  | l + 1, u, o, h => by
    unfold lay at h
    rw [List.mem_flatMap] at h
    obtain ⟨x, hx, h⟩ := h
    rw [List.mem_map] at h
    obtain ⟨r, hr, rfl⟩ := h
    obtain ⟨h1, h2⟩ := lay_nodup m l _ r hr
    rw [fr_mem] at hx
    refine ⟨List.nodup_cons.mpr ⟨fun hm => h2 x hm List.mem_cons_self, h1⟩, fun y hy => ?_⟩
    rcases List.mem_cons.mp hy with e | e
    · subst e; exact hx.2.2
    · exact fun hm => h2 y e (List.mem_cons_of_mem _ hm)
theorem lay_in (m : Nat) : ∀ (o u : List Nat), o.Nodup → (∀ x, x ∈ o → x < m ∧ x ∉ u) → o ∈ lay m o.length u
  | [], u, _, _ => by
    unfold lay
    exact List.mem_singleton.mpr rfl
  | x :: r, u, h1, h2 => by
    show x :: r ∈ lay m (r.length + 1) u
    unfold lay
    rw [List.mem_flatMap]
    obtain ⟨g1, g2⟩ := List.nodup_cons.mp h1
    obtain ⟨f1, f2⟩ := h2 x List.mem_cons_self
    refine ⟨x, (fr_mem _ _ _ _).mpr ⟨by omega, by omega, f2⟩, List.mem_map.mpr ⟨r, lay_in m r (x :: u) g2 (fun y hy => ⟨(h2 y (List.mem_cons_of_mem _ hy)).1, fun hm => ?_⟩), rfl⟩⟩
    rcases List.mem_cons.mp hm with e | e
    · subst e; exact g1 hy
    · exact (h2 y (List.mem_cons_of_mem _ hy)).2 e
theorem stp_ge {w p : Nat} {F G P : Nat → Nat} : ∀ (L : List (List Nat)) (s : Int × List Nat), s.1 ≤ (L.foldl (stp w F G P p) s).1
  | [], s => Int.le_refl _
  | o :: L, s => by
    rw [List.foldl_cons]
    refine Int.le_trans ?_ (stp_ge L (stp w F G P p s o))
    unfold stp
    split
    · simp only []; omega
    · exact Int.le_refl _
theorem stp_max {w p : Nat} {F G P : Nat → Nat} : ∀ (L : List (List Nat)) (s : Int × List Nat) (o : List Nat), o ∈ L → ((mvs w F G o P p : Nat) : Int) ≤ (L.foldl (stp w F G P p) s).1
  | [], s, o, h => absurd h List.not_mem_nil
  | x :: L, s, o, h => by
    rw [List.foldl_cons]
    rcases List.mem_cons.mp h with e | e
    · subst e
      refine Int.le_trans ?_ (stp_ge L (stp w F G P p s o))
      unfold stp
      split
      · simp only []; omega
      · omega
    · exact stp_max L _ o e
theorem stp_from {w p : Nat} {F G P : Nat → Nat} : ∀ (L : List (List Nat)) (s : Int × List Nat), (L.foldl (stp w F G P p) s) = s ∨ ((L.foldl (stp w F G P p) s).2 ∈ L ∧ (L.foldl (stp w F G P p) s).1 = ((mvs w F G (L.foldl (stp w F G P p) s).2 P p : Nat) : Int))
  | [], s => Or.inl rfl
  | x :: L, s => by
    rw [List.foldl_cons]
    have hs : stp w F G P p s x = s ∨ stp w F G P p s x = (((mvs w F G x P p : Nat) : Int), x) := by
      unfold stp
      split
      · exact Or.inr rfl
      · exact Or.inl rfl
    rcases stp_from (w := w) (p := p) (F := F) (G := G) (P := P) L (stp w F G P p s x) with h | ⟨h1, h2⟩
    · rw [h]
      rcases hs with e | e
      · exact Or.inl e
      · rw [e]; exact Or.inr ⟨List.mem_cons_self, rfl⟩
    · exact Or.inr ⟨List.mem_cons_of_mem _ h1, h2⟩
def bst (w q : Nat) (F G P : Nat → Nat) (p : Nat) : Int × List Nat := (lay q q []).foldl (stp w F G P p) (-1, [])
theorem mvs_range {w : Nat} {F G P : Nat → Nat} : ∀ q, mvs w F G (List.range q) P = dayN w F G q P
  | 0 => rfl
  | q + 1 => by
    rw [List.range_succ, mvs_add, mvs_range q]
    rfl
theorem bst_in (w q : Nat) (F G P : Nat → Nat) (p : Nat) : (bst w q F G P p).2 ∈ lay q q [] ∧ (bst w q F G P p).1 = ((mvs w F G (bst w q F G P p).2 P p : Nat) : Int) := by
  rcases stp_from (w := w) (p := p) (F := F) (G := G) (P := P) (lay q q []) (-1, []) with h | h
  · exact absurd (congrArg Prod.fst h) (best_ne w q p F G P)
  · exact h
theorem bst_day (w q : Nat) (F G P : Nat → Nat) (p : Nat) : ((dayN w F G q P p : Nat) : Int) ≤ (bst w q F G P p).1 := by
  have h := lay_in q (List.range q) [] List.nodup_range (fun x hx => ⟨List.mem_range.mp hx, List.not_mem_nil⟩)
  rw [List.length_range] at h
  have := stp_max (w := w) (p := p) (F := F) (G := G) (P := P) (lay q q []) (-1, []) _ h
  rw [mvs_range] at this
  exact this
theorem bst_none (w : Nat) (F G P : Nat → Nat) (p : Nat) : (bst w 0 F G P p).1 = ((P p : Nat) : Int) := by
  have h := (bst_in w 0 F G P p)
  have e : (bst w 0 F G P p).2 = [] := by
    have := h.1
    unfold lay at this
    exact List.mem_singleton.mp this
  rw [h.2, e]
  rfl
theorem sv_most {n w q i : Nat} {F G P : Nat → Nat} {fa sa a pa used ord best : Nat → Int32} {z1 z2 z3 z4 : Int32} {Post : Int32 → Int32 → Int32 → Int32 → Int32 → (Nat → Int32) → (Nat → Int32) → (Nat → Int32) → (Nat → Int32) → Prop} (hn : n ≤ 8) (hw : w ≤ 3) (hi : i < n) (hd : DayC n q F G fa sa) (hP : ∀ t, t < n → P t ≤ 99999) (ha : ∀ t, t < n → a t = nN (P t)) (hu : ∀ t, t < 6 → used t = 0) (h : ∀ u1 u2 u3 u4 u5 us u6 u7, (bst w q F G P i).1 ≤ 99999 → (∀ t, t < 6 → us t = 0) → Post (iI (bst w q F G P i).1) u1 u2 u3 u4 u5 us u6 u7) : wp_X8_most (nN i) (nN q) fa sa (nN n) (nN w) a z1 z2 z3 z4 pa used ord best Post := by
  obtain ⟨hq, h1, h2⟩ := hd
  have l6 : (nN q ≤ (6 : Int32)) ↔ q ≤ 6 := by rw [show (6 : Int32) = nN 6 from rfl, n_le (by omega) (by omega)]
  unfold wp_X8_most
  rw [l6]
  refine ok_isPerson hn (by omega) (by omega) (fun _ _ => ⟨fun _ => ⟨fun c => ?_, fun c => absurd hq c⟩, fun c => absurd c one_ne⟩) (fun hh => absurd ⟨by omega, by omega⟩ hh)
  refine ok_X3find hn hw c h1 h2 hi hP ha hu (fun z' u1 u2 u3 a' us ord' best' r1 r2 => ?_)
  rw [r1.1]
  exact h _ _ _ _ _ _ _ _ r1.2.2.1 r2
theorem sv_mostAt {n w q i k : Nat} {F G P : Nat → Nat} {fa sa a pa used ord best : Nat → Int32} {z1 z2 z3 z4 : Int32} {Post : Int32 → Int32 → Int32 → Int32 → Int32 → (Nat → Int32) → (Nat → Int32) → (Nat → Int32) → (Nat → Int32) → Prop} (hn : n ≤ 8) (hw : w ≤ 3) (hi : i < n) (hk : k < q) (hd : DayC n q F G fa sa) (hP : ∀ t, t < n → P t ≤ 99999) (ha : ∀ t, t < n → a t = nN (P t)) (hu : ∀ t, t < 6 → used t = 0) (h : ∀ u1 u2 u3 u4 u5 us u6 u7, (∀ t, t < 6 → us t = 0) → Post (nN ((bst w q F G P i).2.getD k 0)) u1 u2 u3 u4 u5 us u6 u7) : wp_X8_mostAt (nN i) (nN k) (nN q) fa sa (nN n) (nN w) a z1 z2 z3 z4 pa used ord best Post := by
  obtain ⟨hq, h1, h2⟩ := hd
  have l6 : (nN q ≤ (6 : Int32)) ↔ q ≤ 6 := by rw [show (6 : Int32) = nN 6 from rfl, n_le (by omega) (by omega)]
  unfold wp_X8_mostAt wp_X2_has
  rw [l6, show (nN k < (0 : Int32)) = (nN k < nN 0) from rfl, n_lt (by omega) (by omega), n_le (by omega) (by omega)]
  refine ok_isPerson hn (by omega) (by omega) (fun _ _ => ⟨fun _ => ⟨fun c => ?_, fun c => absurd hq c⟩, fun c => absurd c one_ne⟩) (fun hh => absurd ⟨by omega, by omega⟩ hh)
  refine ⟨fun c3 => by omega, fun c3 => ⟨fun c4 => by omega, fun c4 => ⟨fun _ => ?_, fun c => absurd c one_ne⟩⟩⟩
  refine ok_X3find hn hw c h1 h2 hi hP ha hu (fun z' u1 u2 u3 a' us ord' best' r1 r2 => ⟨n_in (by omega) (by omega), ?_⟩)
  rw [n_nat (by omega), r1.2.2.2 (best_ne _ _ _ _ _ _) k hk]
  exact h _ _ _ _ _ _ _ _ r2
theorem sv_mostAtN {n w q i : Nat} {F G P : Nat → Nat} {fa sa a pa used ord best : Nat → Int32} {z1 z2 z3 z4 : Int32} {Post : Int32 → Int32 → Int32 → Int32 → Int32 → (Nat → Int32) → (Nat → Int32) → (Nat → Int32) → (Nat → Int32) → Prop} (hn : n ≤ 8) (hi : i < n) (hd : DayC n q F G fa sa) (h : Post (-9) z1 z2 z3 z4 pa used ord best) : wp_X8_mostAt (nN i) (nN q) (nN q) fa sa (nN n) (nN w) a z1 z2 z3 z4 pa used ord best Post := by
  obtain ⟨hq, h1, h2⟩ := hd
  have l6 : (nN q ≤ (6 : Int32)) ↔ q ≤ 6 := by rw [show (6 : Int32) = nN 6 from rfl, n_le (by omega) (by omega)]
  unfold wp_X8_mostAt wp_X2_has
  rw [l6, show (nN q < (0 : Int32)) = (nN q < nN 0) from rfl, n_lt (by omega) (by omega), n_le (by omega) (by omega)]
  refine ok_isPerson hn (by omega) (by omega) (fun _ _ => ⟨fun _ => ⟨fun c => ?_, fun c => absurd hq c⟩, fun c => absurd c one_ne⟩) (fun hh => absurd ⟨by omega, by omega⟩ hh)
  exact ⟨fun c3 => by omega, fun c3 => ⟨fun c4 => ⟨fun c => absurd rfl c, fun _ => h⟩, fun c4 => absurd (Nat.le_refl q) c4⟩⟩
/-- RUIN: none, or the first of the shortest rows -/
def RU (n w g : Nat) (P : Nat → Nat) (i : Nat) (z : Option (List Nat)) : Prop := match z with
  | none => ∀ L, L < n → (lay n L [i]).find? (hit w g P (P i)) = none
  | some o => o.length < n ∧ (lay n o.length [i]).find? (hit w g P (P i)) = some o ∧ ∀ L', L' < o.length → (lay n L' [i]).find? (hit w g P (P i)) = none
theorem RU.uniq {n w g : Nat} {P : Nat → Nat} {i : Nat} {z z' : Option (List Nat)} (h : RU n w g P i z) (h' : RU n w g P i z') : z' = z := by
  match z, z', h, h' with
  | none, none, _, _ => rfl
  | none, some o, h, h' =>
    have := h o.length h'.1
    rw [h'.2.1] at this
    exact absurd this (by simp)
  | some o, none, h, h' =>
    have := h' o.length h.1
    rw [h.2.1] at this
    exact absurd this (by simp)
  | some o, some o', h, h' =>
    have e : o'.length = o.length := by
      rcases Nat.lt_trichotomy o'.length o.length with q | q | q
      · have := h.2.2 _ q
        rw [h'.2.1] at this
        exact absurd this (by simp)
      · exact q
      · have := h'.2.2 _ q
        rw [h.2.1] at this
        exact absurd this (by simp)
    have h1 := h'.2.1
    rw [e, h.2.1] at h1
    exact h1.symm
theorem RU.row {n w g : Nat} {P : Nat → Nat} {i : Nat} {o : List Nat} (h : RU n w g P i (some o)) : o.Nodup ∧ (∀ x, x ∈ o → x < n ∧ x ≠ i) ∧ o.length < n := by
  have h1 := List.mem_of_find?_eq_some h.2.1
  obtain ⟨a1, a2⟩ := lay_nodup n _ _ _ h1
  obtain ⟨b1, b2⟩ := lay_mem n _ _ _ h1
  exact ⟨a1, fun x hx => ⟨b2 x hx, fun e => a2 x hx (by rw [e]; exact List.mem_cons_self)⟩, h.1⟩
theorem find0 {n w g i : Nat} {P : Nat → Nat} : (lay n 0 [i]).find? (hit w g P (P i)) = if P i ≤ g then some [] else none := by
  show ([[]] : List (List Nat)).find? (hit w g P (P i)) = _
  have : hit w g P (P i) [] = decide (P i ≤ g) := rfl
  rw [List.find?_cons, this]
  by_cases h : P i ≤ g
  · rw [if_pos h, decide_eq_true h]
  · rw [if_neg h, decide_eq_false h]; rfl
theorem RU.zero {n w g : Nat} {P : Nat → Nat} {i : Nat} {z : Option (List Nat)} (hn : 0 < n) (h : RU n w g P i z) : P i ≤ g ↔ z = some [] := by
  constructor
  · intro hg
    match z, h with
    | none, h =>
      have := h 0 hn
      rw [find0, if_pos hg] at this
      exact absurd this (by simp)
    | some o, h =>
      rcases Nat.lt_or_ge 0 o.length with q | q
      · have := h.2.2 0 q
        rw [find0, if_pos hg] at this
        exact absurd this (by simp)
      · have : o = [] := List.length_eq_zero_iff.mp (by omega)
        rw [this]
  · rintro rfl
    have := h.2.1
    rw [show ([] : List Nat).length = 0 from rfl, find0] at this
    by_cases hg : P i ≤ g
    · exact hg
    · rw [if_neg hg] at this
      exact absurd this (by simp)
def ruinV (z : Option (List Nat)) : Int32 := match z with
  | none => -9
  | some o => nN o.length
theorem sv_ruin {n w i g : Nat} {P : Nat → Nat} {a lh row best : Nat → Int32} {z1 z2 z3 : Int32} {Post : Int32 → Int32 → Int32 → Int32 → (Nat → Int32) → (Nat → Int32) → (Nat → Int32) → Prop} (hn : n ≤ 8) (hw : w ≤ 3) (hi : i < n) (hg : g ≤ 99999) (hP : ∀ t, t < n → P t ≤ 99999) (ha : ∀ t, t < n → a t = nN (P t)) (h : ∀ z u1 u2 u3 u4 u5 u6, RU n w g P i z → Post (ruinV z) u1 u2 u3 u4 u5 u6) : wp_X8_ruin (nN i) (nN g) (nN n) (nN w) a z1 z2 z3 lh row best Post := by
  unfold wp_X8_ruin
  refine ok_isPerson hn (by omega) (by omega) (fun _ _ => ⟨fun _ => ok_isSum (by omega) (by omega) (fun _ _ => ⟨fun _ => ?_, fun c => absurd c one_ne⟩) (fun hh => absurd ⟨by omega, by omega⟩ hh), fun c => absurd c one_ne⟩) (fun hh => absurd ⟨by omega, by omega⟩ hh)
  refine ok_X4find hn hw hi hg hP ha (fun f' b' u1 lh' row' best' r1 r2 => ?_)
  unfold wp_X4_isFound
  rcases r1 with ⟨rfl, rfl, r3⟩ | ⟨L, o, r3, r4, r5, r7, r6⟩
  · refine ⟨fun _ => ⟨fun _ => ?_, fun c => absurd rfl c⟩, fun c => absurd ((n_le (by omega) (by omega)).mpr (Nat.le_refl _)) c⟩
    exact h none _ _ _ _ _ _ (fun L hL => r3 L (by omega))
  · rw [Nat.zero_add] at r3 r4
    subst r4
    simp only [] at r5
    have hol := (lay_mem n f' [i] o (List.mem_of_find?_eq_some r5)).1
    rw [n_le (by omega) (by omega)]
    refine ⟨fun c => absurd c (by omega), fun _ => ⟨fun c => absurd c one_ne, fun _ => ?_⟩⟩
    have := h (some o) (nN f') (nN n) u1 lh' row' best' ⟨by omega, by rw [hol]; exact r5, fun L' hL' => r6 L' (by omega)⟩
    rw [show ruinV (some o) = nN o.length from rfl, hol] at this
    exact this
def ruinAtV (z : Option (List Nat)) (k : Nat) : Int32 := match z with
  | none => -9
  | some o => if k < o.length then nN (o.getD k 0) else -9
theorem sv_ruinAt {n w i g k : Nat} {P : Nat → Nat} {a lh row best : Nat → Int32} {z1 z2 z3 : Int32} {Post : Int32 → Int32 → Int32 → Int32 → (Nat → Int32) → (Nat → Int32) → (Nat → Int32) → Prop} (hn : n ≤ 8) (hw : w ≤ 3) (hi : i < n) (hg : g ≤ 99999) (hk : k ≤ 99999) (hP : ∀ t, t < n → P t ≤ 99999) (ha : ∀ t, t < n → a t = nN (P t)) (h : ∀ z u1 u2 u3 u4 u5 u6, RU n w g P i z → Post (ruinAtV z k) u1 u2 u3 u4 u5 u6) : wp_X8_ruinAt (nN i) (nN g) (nN k) (nN n) (nN w) a z1 z2 z3 lh row best Post := by
  unfold wp_X8_ruinAt
  refine ok_isPerson hn (by omega) (by omega) (fun _ _ => ⟨fun _ => ok_isSum (by omega) (by omega) (fun _ _ => ⟨fun _ => ?_, fun c => absurd c one_ne⟩) (fun hh => absurd ⟨by omega, by omega⟩ hh), fun c => absurd c one_ne⟩) (fun hh => absurd ⟨by omega, by omega⟩ hh)
  refine ok_X4find hn hw hi hg hP ha (fun f' b' u1 lh' row' best' r1 r2 => ?_)
  unfold wp_X4_isFound
  rcases r1 with ⟨rfl, rfl, r3⟩ | ⟨L, o, r3, r4, r5, r7, r6⟩
  · refine ⟨fun _ => ⟨fun _ => ?_, fun c => absurd rfl c⟩, fun c => absurd ((n_le (by omega) (by omega)).mpr (Nat.le_refl _)) c⟩
    exact h none _ _ _ _ _ _ (fun L hL => r3 L (by omega))
  · rw [Nat.zero_add] at r3 r4
    subst r4
    rw [r7, List.nil_append] at r2
    simp only [] at r5
    have hol := (lay_mem n f' [i] o (List.mem_of_find?_eq_some r5)).1
    have hh := h (some o) (nN f') (nN n) u1 lh' row' best' ⟨by omega, by rw [hol]; exact r5, fun L' hL' => r6 L' (by omega)⟩
    rw [show ruinAtV (some o) k = (if k < o.length then nN (o.getD k 0) else -9) from rfl, hol] at hh
    rw [n_le (by omega) (by omega), show (nN k < (0 : Int32)) = (nN k < nN 0) from rfl, n_lt (by omega) (by omega), n_lt (by omega) (by omega)]
    refine ⟨fun c => absurd c (by omega), fun _ => ⟨fun c => absurd c one_ne, fun _ => ⟨fun c => by omega, fun _ => ⟨fun c2 => ⟨n_in (by omega) (by omega), ?_⟩, fun c2 => ?_⟩⟩⟩⟩
    · rw [n_nat (by omega), r2 k (by omega)]
      rw [if_pos c2] at hh
      exact hh
    · rw [if_neg c2] at hh
      exact hh
theorem nodup_at {o : List Nat} (h : o.Nodup) {i j : Nat} (hij : i < j) (hj : j < o.length) : o.getD i 0 ≠ o.getD j 0 := by
  rw [List.getD_eq_getElem?_getD, List.getD_eq_getElem?_getD, List.getElem?_eq_getElem (by omega), List.getElem?_eq_getElem hj]
  simp only [Option.getD_some]
  have := List.pairwise_iff_getElem.mp h i j (by omega) hj hij
  exact this
theorem take_mem {o : List Nat} {i x : Nat} (h : x ∈ o.take i) : ∃ j, j < i ∧ j < o.length ∧ o.getD j 0 = x := by
  obtain ⟨j, hj, e⟩ := List.mem_iff_getElem.mp h
  rw [List.length_take] at hj
  rw [List.getElem_take] at e
  refine ⟨j, by omega, by omega, ?_⟩
  rw [List.getD_eq_getElem?_getD, List.getElem?_eq_getElem (by omega)]
  exact e
theorem getD_lt {q : Nat} {o : List Nat} {k : Nat} (h : ∀ x, x ∈ o → x < q) (hk : k < o.length) : o.getD k 0 < q := by
  rw [List.getD_eq_getElem?_getD, List.getElem?_eq_getElem hk]
  exact h _ (List.getElem_mem hk)
/-- the first k of a row, as bits of a number -/
def met (o : List Nat) (u : List Nat) : Nat → List Nat
  | 0 => u
  | k + 1 => o.getD k 0 :: met o u k
theorem met_mem {o u : List Nat} {x : Nat} : ∀ k, x ∈ met o u k → x ∈ u ∨ ∃ j, j < k ∧ o.getD j 0 = x
  | 0, h => Or.inl h
  | k + 1, h => by
    rcases List.mem_cons.mp h with e | e
    · exact Or.inr ⟨k, by omega, e.symm⟩
    · rcases met_mem k e with h | ⟨j, h1, h2⟩
      · exact Or.inl h
      · exact Or.inr ⟨j, by omega, h2⟩
