/-! one object: what it holds, in plain numbers; the plain calls, as they answer -/
def RowC (n k : Nat) (A B C D : Nat → Nat) (fa sa ha ga : Nat → Int32) : Prop := k ≤ 32 ∧ (∀ j, j < k → A j < n ∧ B j < n ∧ C j ≤ 99999 ∧ D j ≤ 99999) ∧ (∀ j, j < k → fa j = nN (A j) ∧ sa j = nN (B j) ∧ ha j = nN (C j) ∧ ga j = nN (D j))
def SeeC (q : Nat) (U V : Nat → Nat) (sa ga : Nat → Int32) : Prop := q ≤ 8 ∧ (∀ j, j < q → 1 ≤ U j ∧ U j ≤ 99999 ∧ V j ≤ 99999) ∧ (∀ j, j < q → sa j = nN (U j) ∧ ga j = nN (V j))
def DayC (n q : Nat) (F G : Nat → Nat) (fa sa : Nat → Int32) : Prop := q ≤ 6 ∧ (∀ i, i < q → F i < n ∧ G i < n ∧ F i ≠ G i) ∧ (∀ i, i < q → fa i = nN (F i) ∧ sa i = nN (G i))
def TextC (q : Nat) (T : Nat → Nat) (a : Nat → Int32) : Prop := TextR q T a a
theorem RowC.push {n k i j c d : Nat} {A B C D : Nat → Nat} {fa sa ha ga : Nat → Int32} (h : RowC n k A B C D fa sa ha ga) (hk : k < 32) (hi : i < n) (hj : j < n) (hc : c ≤ 99999) (hd : d ≤ 99999) : RowC n (k + 1) (setN A k i) (setN B k j) (setN C k c) (setN D k d) (upd fa k (nN i)) (upd sa k (nN j)) (upd ha k (nN c)) (upd ga k (nN d)) := by
  obtain ⟨h1, h2, h3⟩ := h
  refine ⟨by omega, fun t ht => ?_, fun t ht => ⟨upd_set (fun z => (h3 t z).1) ht, upd_set (fun z => (h3 t z).2.1) ht, upd_set (fun z => (h3 t z).2.2.1) ht, upd_set (fun z => (h3 t z).2.2.2) ht⟩⟩
  unfold setN
  by_cases e : t = k
  · rw [if_pos e, if_pos e, if_pos e, if_pos e]; exact ⟨hi, hj, hc, hd⟩
  · rw [if_neg e, if_neg e, if_neg e, if_neg e]; exact h2 t (by omega)
theorem RowC.less {n k k' : Nat} {A B C D : Nat → Nat} {fa sa ha ga : Nat → Int32} (h : RowC n k A B C D fa sa ha ga) (hk : k' ≤ k) : RowC n k' A B C D fa sa ha ga :=
  ⟨Nat.le_trans hk h.1, fun j hj => h.2.1 j (by omega), fun j hj => h.2.2 j (by omega)⟩
theorem SeeC.push {q i j : Nat} {U V : Nat → Nat} {sa ga : Nat → Int32} (h : SeeC q U V sa ga) (hq : q < 8) (h1 : 1 ≤ i) (h2 : i ≤ 99999) (h3 : j ≤ 99999) : SeeC (q + 1) (setN U q i) (setN V q j) (upd sa q (nN i)) (upd ga q (nN j)) := by
  obtain ⟨g1, g2, g3⟩ := h
  refine ⟨by omega, fun t ht => ?_, fun t ht => ⟨upd_set (fun z => (g3 t z).1) ht, upd_set (fun z => (g3 t z).2) ht⟩⟩
  unfold setN
  by_cases e : t = q
  · rw [if_pos e, if_pos e]; omega
  · rw [if_neg e, if_neg e]; exact g2 t (by omega)
theorem nm1 : (-1 : Int32) = iI (-1) := rfl
/-! refused calls -/
theorem sr_write {q : Int32} {a : Nat → Int32} {Post : Int32 → Int32 → (Nat → Int32) → Prop} (h : Post (-2) q a) : wp_X8_write 0 0 q a Post := by
  unfold wp_X8_write
  exact ⟨fun _ => h, fun c => absurd (by decide) c⟩
theorem sr_purse {n : Nat} {a : Nat → Int32} {Post : Int32 → Prop} (hn : n ≤ 8) (h : Post (-1)) : wp_X8_purse (nN n) (nN n) a Post := by
  unfold wp_X8_purse
  exact ok_isPerson hn (by omega) (by omega) (fun _ b => absurd b (by omega)) (fun _ => ⟨fun c => absurd rfl c, fun _ => h⟩)
theorem sr_fillU {n : Nat} {m : Int32} {a : Nat → Int32} {Post : Int32 → Int32 → (Nat → Int32) → Prop} (hn : n ≤ 8) (h : Post (-1) m a) : wp_X8_fill (nN n) 0 (nN n) m a Post := by
  unfold wp_X8_fill
  exact ok_isPerson hn (by omega) (by omega) (fun _ b => absurd b (by omega)) (fun _ => ⟨fun c => absurd rfl c, fun _ => h⟩)
theorem sr_fillO {n : Nat} {m : Int32} {a : Nat → Int32} {Post : Int32 → Int32 → (Nat → Int32) → Prop} (hn : n ≤ 8) (hn0 : 0 < n) (h : Post (-2) m a) : wp_X8_fill 0 100000 (nN n) m a Post := by
  unfold wp_X8_fill
  refine ok_isPerson (z := 0) hn (by omega) (by omega) (fun _ _ => ⟨fun _ => ok_isSum (z := 100000) (by omega) (by omega) (fun _ b => by omega) (fun _ => ⟨fun c => absurd rfl c, fun _ => h⟩), fun c => absurd c one_ne⟩) (fun hh => absurd ⟨by omega, by omega⟩ hh)
theorem sr_law {w : Int32} {Post : Int32 → Int32 → Prop} (h : Post (-2) w) : wp_X8_law 4 w Post := by
  unfold wp_X8_law
  exact ⟨fun c => absurd c (by decide), fun _ => ⟨fun c => absurd c (by decide), fun _ => h⟩⟩
theorem sr_daily {m : Int32} {fa sa : Nat → Int32} {Post : Int32 → Prop} (h : Post (-2)) : wp_X8_daily 0 (-1) m fa sa Post := by
  unfold wp_X8_daily
  exact ⟨fun _ => h, fun c => absurd (by decide) c⟩
theorem sr_two {x y : Int32} {n : Nat} {z v : Int} {Post : Int32 → Prop} (hx : x = iI z) (hy : y = iI v) (hn : n ≤ 8) (hz : -2147483648 ≤ z) (hz2 : z ≤ 2147483647) (hv : -2147483648 ≤ v) (hv2 : v ≤ 2147483647) (hh : ¬ (0 ≤ z ∧ z < n ∧ 0 ≤ v ∧ v < n)) (h : Post (-1)) : wp_X8_refusalOfTwo x y (nN n) Post := by
  subst hx hy
  exact ok_refusalOfTwo hn hz hz2 hv hv2 (fun a b c d _ => absurd ⟨a, b, c, d⟩ hh) (fun a b c => absurd ⟨a, b, by omega, by omega⟩ hh) (fun _ => h)
theorem sr_same {x : Int32} {n : Nat} {z : Int} {Post : Int32 → Prop} (hx : x = iI z) (hn : n ≤ 8) (h0 : 0 ≤ z) (h1 : z < n) (h : Post (-3)) : wp_X8_refusalOfTwo x x (nN n) Post := by
  subst hx
  exact ok_refusalOfTwo hn (by omega) (by omega) (by omega) (by omega) (fun _ _ _ _ e => absurd rfl e) (fun _ _ _ => h) (fun hh => absurd ⟨h0, h1, h0, h1⟩ hh)
theorem sv_two {n i j : Nat} {Post : Int32 → Prop} (hn : n ≤ 8) (hi : i < n) (hj : j < n) (hij : i ≠ j) (h : Post 0) : wp_X8_refusalOfTwo (nN i) (nN j) (nN n) Post :=
  ok_refusalOfTwo hn (by omega) (by omega) (by omega) (by omega) (fun _ _ _ _ _ => h) (fun _ _ c => absurd c (by omega)) (fun hh => absurd ⟨by omega, by omega, by omega, by omega⟩ hh)
theorem sr_shared {n : Nat} {a : Nat → Int32} {Post : Int32 → Prop} (hn : n ≤ 8) (h : Post (-1)) : wp_X8_shared 0 (nN n) (nN n) a Post := by
  unfold wp_X8_shared
  exact sr_two (z := 0) (v := n) rfl rfl hn (by omega) (by omega) (by omega) (by omega) (by omega) ⟨fun c => absurd c (by decide), fun _ => h⟩
theorem sr_meetS {x : Int32} {n : Nat} {z : Int} {w k : Int32} {a fa sa ha ga : Nat → Int32} {Post : Int32 → Int32 → (Nat → Int32) → (Nat → Int32) → (Nat → Int32) → (Nat → Int32) → (Nat → Int32) → Prop} (hx : x = iI z) (hn : n ≤ 8) (h0 : 0 ≤ z) (h1 : z < n) (h : Post (-3) k a fa sa ha ga) : wp_X8_meet x x (nN n) w k a fa sa ha ga Post := by
  unfold wp_X8_meet
  exact sr_same hx hn h0 h1 ⟨fun c => absurd c (by decide), fun _ => h⟩
theorem sr_meetU {n : Nat} {w k : Int32} {a fa sa ha ga : Nat → Int32} {Post : Int32 → Int32 → (Nat → Int32) → (Nat → Int32) → (Nat → Int32) → (Nat → Int32) → (Nat → Int32) → Prop} (hn : n ≤ 8) (h : Post (-1) k a fa sa ha ga) : wp_X8_meet (nN n) 0 (nN n) w k a fa sa ha ga Post := by
  unfold wp_X8_meet
  exact sr_two (z := n) (v := 0) rfl rfl hn (by omega) (by omega) (by omega) (by omega) (by omega) ⟨fun c => absurd c (by decide), fun _ => h⟩
theorem sr_after {n : Nat} {w v1 v2 v3 v4 : Int32} {a A : Nat → Int32} {Post : Int32 → Int32 → Int32 → Int32 → Int32 → (Nat → Int32) → Prop} (hn : n ≤ 8) (hn2 : 2 ≤ n) (h : Post (-2) v1 v2 v3 v4 A) : wp_X8_after 0 1 (-1) (nN n) w a v1 v2 v3 v4 A Post := by
  unfold wp_X8_after
  refine ok_isPerson (z := 0) hn (by omega) (by omega) (fun _ _ => ⟨fun c => absurd c one_ne, fun _ => ?_⟩) (fun hh => absurd ⟨by omega, by omega⟩ hh)
  exact ok_isPerson (z := 1) hn (by omega) (by omega) (fun _ _ => ⟨fun _ => ⟨fun _ => h, fun c => absurd (by decide) c⟩, fun c => absurd c one_ne⟩) (fun hh => absurd ⟨by omega, by omega⟩ hh)
theorem sr_ring {n : Nat} {w v1 v2 v3 v4 : Int32} {a A : Nat → Int32} {Post : Int32 → Int32 → Int32 → Int32 → Int32 → (Nat → Int32) → Prop} (hn : n ≤ 8) (hn0 : 0 < n) (h : Post (-3) v1 v2 v3 v4 A) : wp_X8_ring 0 0 (nN n) w a v1 v2 v3 v4 A Post := by
  unfold wp_X8_ring
  exact sr_same (z := 0) rfl hn (by omega) (by omega) ⟨fun c => absurd c (by decide), fun _ => h⟩
theorem sr_lead {n : Nat} {w v1 v2 v3 v4 : Int32} {a A : Nat → Int32} {Post : Int32 → Int32 → Int32 → Int32 → Int32 → (Nat → Int32) → Prop} (hn : n ≤ 8) (h : Post (-1) v1 v2 v3 v4 A) : wp_X8_lead (nN n) 0 (nN n) w a v1 v2 v3 v4 A Post := by
  unfold wp_X8_lead
  exact sr_two (z := n) (v := 0) rfl rfl hn (by omega) (by omega) (by omega) (by omega) (by omega) ⟨fun c => absurd c (by decide), fun _ => h⟩
theorem sr_later {n : Nat} {m w : Int32} {fa sa a la : Nat → Int32} {Post : Int32 → (Nat → Int32) → Prop} (hn : n ≤ 8) (hn0 : 0 < n) (h : Post (-2) la) : wp_X8_later 0 301 m fa sa (nN n) w a la Post := by
  unfold wp_X8_later
  exact ok_isPerson (z := 0) hn (by omega) (by omega) (fun _ _ => ⟨fun _ => ⟨fun c => absurd c (by decide), fun _ => ⟨fun c => absurd c (by decide), fun _ => h⟩⟩, fun c => absurd c one_ne⟩) (fun hh => absurd ⟨by omega, by omega⟩ hh)
theorem sr_most {n : Nat} {m w z1 z2 z3 z4 : Int32} {fa sa a pa used ord best : Nat → Int32} {Post : Int32 → Int32 → Int32 → Int32 → Int32 → (Nat → Int32) → (Nat → Int32) → (Nat → Int32) → (Nat → Int32) → Prop} (hn : n ≤ 8) (h : Post (-1) z1 z2 z3 z4 pa used ord best) : wp_X8_most (nN n) m fa sa (nN n) w a z1 z2 z3 z4 pa used ord best Post := by
  unfold wp_X8_most
  exact ok_isPerson hn (by omega) (by omega) (fun _ b => absurd b (by omega)) (fun _ => ⟨fun c => absurd rfl c, fun _ => h⟩)
theorem sr_mostAt {n : Nat} {m w z1 z2 z3 z4 : Int32} {fa sa a pa used ord best : Nat → Int32} {Post : Int32 → Int32 → Int32 → Int32 → Int32 → (Nat → Int32) → (Nat → Int32) → (Nat → Int32) → (Nat → Int32) → Prop} (hn : n ≤ 8) (h : Post (-1) z1 z2 z3 z4 pa used ord best) : wp_X8_mostAt (-1) 0 m fa sa (nN n) w a z1 z2 z3 z4 pa used ord best Post := by
  unfold wp_X8_mostAt
  rw [nm1] at h ⊢
  exact ok_isPerson (z := -1) hn (by omega) (by omega) (fun b _ => by omega) (fun _ => ⟨fun c => absurd rfl c, fun _ => h⟩)
theorem sr_pennies {n : Nat} {w : Int32} {a : Nat → Int32} {Post : Int32 → Prop} (hn : n ≤ 8) (hn0 : 0 < n) (h : Post (-3)) : wp_X8_pennies 0 0 (nN n) w a Post := by
  unfold wp_X8_pennies
  exact sr_same (z := 0) rfl hn (by omega) (by omega) ⟨fun c => absurd c (by decide), fun _ => h⟩
theorem sr_see {e : Int32} {us vs : Nat → Int32} {Post : Int32 → Int32 → (Nat → Int32) → (Nat → Int32) → Prop} (h : Post (-2) e us vs) : wp_X8_see 0 1 e us vs Post := by
  unfold wp_X8_see
  exact ⟨fun _ => h, fun c => absurd (by decide) c⟩
theorem sr_mayHold {e v1 v2 v3 v4 v5 : Int32} {us vs A B : Nat → Int32} {Post : Int32 → Int32 → Int32 → Int32 → Int32 → Int32 → (Nat → Int32) → (Nat → Int32) → Prop} (h : Post (-2) v1 v2 v3 v4 v5 A B) : wp_X8_mayHold (-1) 0 e us vs v1 v2 v3 v4 v5 A B Post := by
  unfold wp_X8_mayHold
  rw [nm1]
  exact ok_isSum (z := -1) (by omega) (by omega) (fun b _ => by omega) (fun _ => ⟨fun _ => h, fun c => absurd rfl c⟩)
theorem sr_ruin {n : Nat} {w z1 z2 z3 : Int32} {a lh row best : Nat → Int32} {Post : Int32 → Int32 → Int32 → Int32 → (Nat → Int32) → (Nat → Int32) → (Nat → Int32) → Prop} (hn : n ≤ 8) (hn0 : 0 < n) (h : Post (-2) z1 z2 z3 lh row best) : wp_X8_ruin 0 (-1) (nN n) w a z1 z2 z3 lh row best Post := by
  unfold wp_X8_ruin
  rw [nm1]
  exact ok_isPerson (z := 0) hn (by omega) (by omega) (fun _ _ => ⟨fun _ => ok_isSum (z := -1) (by omega) (by omega) (fun b _ => by omega) (fun _ => ⟨fun c => absurd rfl c, fun _ => h⟩), fun c => absurd c one_ne⟩) (fun hh => absurd ⟨by omega, by omega⟩ hh)
theorem sr_ruinAt {n : Nat} {w z1 z2 z3 : Int32} {a lh row best : Nat → Int32} {Post : Int32 → Int32 → Int32 → Int32 → (Nat → Int32) → (Nat → Int32) → (Nat → Int32) → Prop} (hn : n ≤ 8) (h : Post (-1) z1 z2 z3 lh row best) : wp_X8_ruinAt (nN n) 0 0 (nN n) w a z1 z2 z3 lh row best Post := by
  unfold wp_X8_ruinAt
  exact ok_isPerson hn (by omega) (by omega) (fun _ b => absurd b (by omega)) (fun _ => ⟨fun c => absurd rfl c, fun _ => h⟩)
theorem sr_charm {n : Nat} {a : Nat → Int32} {Post : Int32 → Prop} (hn : n ≤ 8) (h : Post (-1)) : wp_X8_charm (nN n) (nN n) a Post := by
  unfold wp_X8_charm
  exact ok_isPerson hn (by omega) (by omega) (fun _ b => absurd b (by omega)) (fun _ => ⟨fun c => absurd rfl c, fun _ => h⟩)
theorem sr_count {q m n w k e : Int32} {a : Nat → Int32} {Post : Int32 → Prop} (h : Post (-2)) : wp_X8_count 7 q m n w k e a Post := by
  unfold wp_X8_count
  have e7 : Int32.toInt (7 : Int32) = 7 := by decide
  rw [e7]
  exact ⟨fun _ => h, fun c => by omega, fun c => by omega, fun c => by omega, fun c => by omega, fun c => by omega, fun c => by omega, fun c => by omega⟩
/-! calls that are answered -/
theorem sv_purse {n i : Nat} {P : Nat → Nat} {a : Nat → Int32} {Post : Int32 → Prop} (hn : n ≤ 8) (hi : i < n) (ha : ∀ t, t < n → a t = nN (P t)) (h : Post (nN (P i))) : wp_X8_purse (nN i) (nN n) a Post := by
  unfold wp_X8_purse
  refine ok_isPerson hn (by omega) (by omega) (fun _ _ => ⟨fun _ => ⟨n_in (by omega) (by omega), ?_⟩, fun c => absurd c one_ne⟩) (fun hh => absurd ⟨by omega, by omega⟩ hh)
  rw [n_nat (by omega), ha i hi]
  exact h
def cntV (q m n w k e s j : Nat) : Nat := if j = 0 then q else if j = 1 then n else if j = 2 then m else if j = 3 then k else if j = 4 then e else if j = 5 then s else w
theorem sv_count {q m n w k e j : Nat} {P : Nat → Nat} {a : Nat → Int32} {Post : Int32 → Prop} (hn : n ≤ 8) (hj : j ≤ 6) (ha : ∀ t, t < n → a t = nN (P t)) (h : Post (nN (cntV q m n w k e (sumN P n) j))) : wp_X8_count (nN j) (nN q) (nN m) (nN n) (nN w) (nN k) (nN e) a Post := by
  unfold wp_X8_count
  have e7 : Int32.toInt (nN j) = (j : Int) := i_int (by omega) (by omega)
  rw [e7]
  unfold cntV at h
  refine ⟨fun c => by omega, fun c => ?_, fun c => ?_, fun c => ?_, fun c => ?_, fun c => ?_, fun c => ok_sum hn ha (sumN P) rfl (fun _ => rfl) ?_, fun c => ?_⟩
  · rw [if_pos (by omega)] at h; exact h
  · rw [if_neg (by omega), if_pos (by omega)] at h; exact h
  · rw [if_neg (by omega), if_neg (by omega), if_pos (by omega)] at h; exact h
  · rw [if_neg (by omega), if_neg (by omega), if_neg (by omega), if_pos (by omega)] at h; exact h
  · rw [if_neg (by omega), if_neg (by omega), if_neg (by omega), if_neg (by omega), if_pos (by omega)] at h; exact h
  · rw [if_neg (by omega), if_neg (by omega), if_neg (by omega), if_neg (by omega), if_neg (by omega), if_pos (by omega)] at h; exact h
  · rw [if_neg (by omega), if_neg (by omega), if_neg (by omega), if_neg (by omega), if_neg (by omega), if_neg (by omega)] at h; exact h
theorem sv_count1 {q m w k e : Int32} {n : Nat} {a : Nat → Int32} {Post : Int32 → Prop} (h : Post (nN n)) : wp_X8_count 1 q m (nN n) w k e a Post := by
  unfold wp_X8_count
  have e7 : Int32.toInt (1 : Int32) = 1 := by decide
  rw [e7]
  exact ⟨fun c => by omega, fun c => by omega, fun _ => h, fun c => by omega, fun c => by omega, fun c => by omega, fun c => by omega, fun c => by omega⟩
theorem sv_count2 {q n w k e : Int32} {m : Nat} {a : Nat → Int32} {Post : Int32 → Prop} (h : Post (nN m)) : wp_X8_count 2 q (nN m) n w k e a Post := by
  unfold wp_X8_count
  have e7 : Int32.toInt (2 : Int32) = 2 := by decide
  rw [e7]
  exact ⟨fun c => by omega, fun c => by omega, fun c => by omega, fun _ => h, fun c => by omega, fun c => by omega, fun c => by omega, fun c => by omega⟩
theorem sv_count3 {q m n w e : Int32} {k : Nat} {a : Nat → Int32} {Post : Int32 → Prop} (h : Post (nN k)) : wp_X8_count 3 q m n w (nN k) e a Post := by
  unfold wp_X8_count
  have e7 : Int32.toInt (3 : Int32) = 3 := by decide
  rw [e7]
  exact ⟨fun c => by omega, fun c => by omega, fun c => by omega, fun c => by omega, fun _ => h, fun c => by omega, fun c => by omega, fun c => by omega⟩
theorem sv_count4 {q m n w k : Int32} {e : Nat} {a : Nat → Int32} {Post : Int32 → Prop} (h : Post (nN e)) : wp_X8_count 4 q m n w k (nN e) a Post := by
  unfold wp_X8_count
  have e7 : Int32.toInt (4 : Int32) = 4 := by decide
  rw [e7]
  exact ⟨fun c => by omega, fun c => by omega, fun c => by omega, fun c => by omega, fun c => by omega, fun _ => h, fun c => by omega, fun c => by omega⟩
theorem sv_count5 {q m w k e : Int32} {n : Nat} {P : Nat → Nat} {a : Nat → Int32} {Post : Int32 → Prop} (hn : n ≤ 8) (ha : ∀ t, t < n → a t = nN (P t)) (h : Post (nN (sumN P n))) : wp_X8_count 5 q m (nN n) w k e a Post := by
  unfold wp_X8_count
  have e7 : Int32.toInt (5 : Int32) = 5 := by decide
  rw [e7]
  exact ⟨fun c => by omega, fun c => by omega, fun c => by omega, fun c => by omega, fun c => by omega, fun c => by omega, fun _ => ok_sum hn ha (sumN P) rfl (fun _ => rfl) h, fun c => by omega⟩
theorem sv_fill {n i v : Nat} {m : Int32} {P : Nat → Nat} {a : Nat → Int32} {Post : Int32 → Int32 → (Nat → Int32) → Prop} (hn : n ≤ 8) (hi : i < n) (hv : v ≤ 99999) (ha : ∀ t, t < n → a t = nN (P t)) (h : Post (nN (P i)) 0 (upd a i (nN v))) : wp_X8_fill (nN i) (nN v) (nN n) m a Post := by
  unfold wp_X8_fill
  refine ok_isPerson hn (by omega) (by omega) (fun _ _ => ⟨fun _ => ok_isSum (by omega) (by omega) (fun _ _ => ⟨fun _ => ⟨n_in (by omega) (by omega), n_in (by omega) (by omega), ?_⟩, fun c => absurd c one_ne⟩) (fun hh => absurd ⟨by omega, by omega⟩ hh), fun c => absurd c one_ne⟩) (fun hh => absurd ⟨by omega, by omega⟩ hh)
  rw [n_nat (by omega), ha i hi]
  exact h
theorem sv_law {w v : Nat} {Post : Int32 → Int32 → Prop} (hv : v ≤ 3) (h : Post (nN w) (nN v)) : wp_X8_law (nN v) (nN w) Post := by
  unfold wp_X8_law
  rw [show (0 : Int32) = nN 0 from rfl, show (4 : Int32) = nN 4 from rfl, n_lt (by omega) (by omega), n_lt (by omega) (by omega)]
  exact ⟨fun c => by omega, fun _ => ⟨fun _ => h, fun c => by omega⟩⟩
theorem sv_shared {n i j : Nat} {P : Nat → Nat} {a : Nat → Int32} {Post : Int32 → Prop} (hn : n ≤ 8) (hi : i < n) (hj : j < n) (hij : i ≠ j) (hP : ∀ t, t < n → P t ≤ 99999) (ha : ∀ t, t < n → a t = nN (P t)) (h : Post (nN (sh (P i) (P j)))) : wp_X8_shared (nN i) (nN j) (nN n) a Post := by
  unfold wp_X8_shared
  refine sv_two hn hi hj hij ⟨fun _ => ⟨n_in (by omega) (by omega), n_in (by omega) (by omega), ?_⟩, fun c => absurd rfl c⟩
  have h1 := hP i hi
  have h2 := hP j hj
  rw [n_nat (by omega), n_nat (by omega), ha i hi, ha j hj]
  exact ok_sharedBy (by omega) (by omega) h
theorem sv_coin {n : Nat} {P : Nat → Nat} {a : Nat → Int32} {Post : Int32 → Prop} (hn : n ≤ 8) (hP : ∀ t, t < n → P t ≤ 99999) (ha : ∀ t, t < n → a t = nN (P t)) (h : Post (nN (gcdN P n))) : wp_X8_coin (nN n) a Post := by
  have gle : ∀ i, i ≤ n → gcdN P i ≤ 99999 := by
    intro i
    induction i with
    | zero => intro _; show 0 ≤ 99999; omega
    | succ i ih =>
      intro hi
      show Nat.gcd (gcdN P i) (P i) ≤ 99999
      have hp := hP i (by omega)
      by_cases h0 : P i = 0
      · rw [h0, Nat.gcd_zero_right]; exact ih (by omega)
      · exact Nat.le_trans (Nat.le_of_dvd (by omega) (Nat.gcd_dvd_right _ _)) hp
  unfold wp_X8_coin
  intro k hk
  have key : ∀ (N i : Nat), n - i < N → i ≤ n → k (nN i) (nN (gcdN P i)) := by
    intro N
    induction N with
    | zero => intro i h1; omega
    | succ N ih =>
      intro i h1 h2
      apply hk
      rw [n_le (by omega) (by omega), n_nat (by omega)]
      refine ⟨fun c => ?_, fun c => ⟨n_in (by omega) (by omega), ?_⟩⟩
      · have ei : i = n := by omega
        rw [ei]; exact h
      · have gi := gle i h2
        have hp := hP i (by omega)
        rw [ha i (by omega)]
        refine ok_greatestDivisor (by omega) (by omega) ?_
        rw [show nN i + 1 = nN (i + 1) from n_add _ 1]
        exact ih (i + 1) (by omega) (by omega)
  exact key (n + 1) 0 (by omega) (by omega)
theorem sv_unsee {e : Int32} {Post : Int32 → Int32 → Prop} (h : Post e 0) : wp_X8_unsee e Post := by
  unfold wp_X8_unsee; exact h
theorem sv_wipe {q : Int32} {Post : Int32 → Int32 → Prop} (h : Post q 0) : wp_X8_wipe q Post := by
  unfold wp_X8_wipe; exact h
theorem sv_see {q i j : Nat} {sa ga : Nat → Int32} {Post : Int32 → Int32 → (Nat → Int32) → (Nat → Int32) → Prop} (hq : q ≤ 8) (h1 : 1 ≤ i) (h2 : i ≤ 99999) (h3 : j ≤ 99999) (hf : q = 8 → Post (-4) (nN q) sa ga) (h : q < 8 → Post (nN (q + 1)) (nN (q + 1)) (upd sa q (nN i)) (upd ga q (nN j))) : wp_X8_see (nN i) (nN j) (nN q) sa ga Post := by
  have m8 : (nN q < (8 : Int32)) ↔ q < 8 := by rw [show (8 : Int32) = nN 8 from rfl, n_lt (by omega) (by omega)]
  unfold wp_X8_see
  rw [show (1 : Int32) = nN 1 from rfl, show (99999 : Int32) = nN 99999 from rfl, n_lt (by omega) (by omega), n_lt (by omega) (by omega)]
  refine ⟨fun c => by omega, fun _ => ⟨fun c => by omega, fun _ => ok_isSum (by omega) (by omega) (fun _ _ => ⟨fun _ => ?_, fun c => absurd c one_ne⟩) (fun hh => absurd ⟨by omega, by omega⟩ hh)⟩⟩
  rw [m8]
  refine ⟨fun cq => ?_, fun cq => hf (by omega)⟩
  unfold wp_X1_addSeen
  rw [m8]
  refine ⟨fun _ => ⟨n_in (by omega) (by omega), n_in (by omega) (by omega), ?_⟩, fun c => absurd cq c⟩
  rw [n_nat (by omega), show nN q + 1 = nN (q + 1) from n_add _ 1]
  exact h cq
theorem sv_day {n w q : Nat} {m : Int32} {F G P : Nat → Nat} {fa sa a : Nat → Int32} {Post : Int32 → Int32 → (Nat → Int32) → Prop} (hn : n ≤ 8) (hw : w ≤ 3) (hd : DayC n q F G fa sa) (hP : ∀ t, t < n → P t ≤ 99999) (ha : ∀ t, t < n → a t = nN (P t)) (h : ∀ a', (∀ t, t < n → a' t = nN (dayN w F G q P t)) → Post (nN (chN w F G q P)) 0 a') : wp_X8_day (nN q) fa sa (nN w) m a Post := by
  unfold wp_X8_day
  exact ok_makeAll hn hw (Nat.le_trans hd.1 (by omega)) hd.2.1 hd.2.2 hP ha h
