/-! RUIN: the reference -/
def shp (p x : Nat) : Nat := if x < p then x else x + 1
theorem shp_inj {p x y : Nat} (h : shp p x = shp p y) : x = y := by
  unfold shp at h
  split at h <;> split at h <;> omega
theorem shp_mem {p x : Nat} {u : List Nat} : shp p x ∈ u.map (shp p) ↔ x ∈ u := by
  rw [List.mem_map]
  exact ⟨fun ⟨y, h1, h2⟩ => shp_inj h2 ▸ h1, fun h => ⟨x, h, rfl⟩⟩
theorem fr_shA {p : Nat} {u : List Nat} : ∀ (k a : Nat), p ≤ a → (fr a k u).map (shp p) = fr (a + 1) k (p :: u.map (shp p))
  | 0, _, _ => rfl
  | k + 1, a, h => by
    have hs : shp p a = a + 1 := by unfold shp; rw [if_neg (by omega)]
    have hm : (a + 1 ∈ p :: u.map (shp p)) ↔ a ∈ u := by
      rw [List.mem_cons, ← hs, shp_mem, hs]
      exact ⟨fun z => z.elim (fun e => by omega) id, Or.inr⟩
    unfold fr
    by_cases c : a ∈ u
    · rw [if_pos c, if_pos (hm.mpr c)]; exact fr_shA k (a + 1) (by omega)
    · rw [if_neg c, if_neg (fun z => c (hm.mp z)), List.map_cons, hs, fr_shA k (a + 1) (by omega)]
theorem fr_shB {p : Nat} {u : List Nat} : ∀ (k a : Nat), a ≤ p → p ≤ a + k → (fr a k u).map (shp p) = fr a (k + 1) (p :: u.map (shp p))
  | 0, a, h1, h2 => by
    have : a = p := by omega
    subst this
    show [] = fr a 1 (a :: u.map (shp a))
    unfold fr
    rw [if_pos List.mem_cons_self]; rfl
  | k + 1, a, h1, h2 => by
    by_cases e : a = p
    · subst e
      rw [fr_shA (k + 1) a (Nat.le_refl a)]
      rw [show fr a (k + 1 + 1) (a :: u.map (shp a)) = fr (a + 1) (k + 1) (a :: u.map (shp a)) from by rw [fr, if_pos List.mem_cons_self]]
    · have hs : shp p a = a := by unfold shp; rw [if_pos (by omega)]
      have hm : (a ∈ p :: u.map (shp p)) ↔ a ∈ u := by
        have := shp_mem (p := p) (x := a) (u := u)
        rw [hs] at this
        rw [List.mem_cons, this]
        exact ⟨fun z => z.elim (fun e => by omega) id, Or.inr⟩
      rw [fr, show fr a (k + 1 + 1) (p :: u.map (shp p)) = if a ∈ p :: u.map (shp p) then fr (a + 1) (k + 1) (p :: u.map (shp p)) else a :: fr (a + 1) (k + 1) (p :: u.map (shp p)) from rfl]
      by_cases c : a ∈ u
      · rw [if_pos c, if_pos (hm.mpr c)]; exact fr_shB k (a + 1) (by omega) (by omega)
      · rw [if_neg c, if_neg (fun z => c (hm.mp z)), List.map_cons, hs, fr_shB k (a + 1) (by omega) (by omega)]
theorem lay_shift {m p : Nat} (hm : m + 1 ≤ 8) (hp : p ≤ m) : ∀ (l : Nat) (u : List Nat), (lay m l u).map (List.map (shp p)) = lay (m + 1) l (p :: u.map (shp p))
  | 0, _ => rfl
  | l + 1, u => by
    unfold lay
    rw [← fr_shB m 0 (by omega) (by omega), List.map_flatMap, List.flatMap_map]
    congr 1
    funext x
    have := lay_shift hm hp l (x :: u)
    rw [lay_congr hm l (shp p x :: p :: u.map (shp p)) (p :: (x :: u).map (shp p)) (fun y _ => by rw [List.map_cons, List.mem_cons, List.mem_cons, List.mem_cons, List.mem_cons]; exact ⟨fun z => z.elim (fun e => Or.inr (Or.inl e)) (fun z => z.elim Or.inl (fun e => Or.inr (Or.inr e))), fun z => z.elim (fun e => Or.inr (Or.inl e)) (fun z => z.elim Or.inl (fun e => Or.inr (Or.inr e)))⟩), ← this, List.map_map, List.map_map]
    rfl
theorem ok9_layRuin {n w p g : Nat} {P : Nat → Nat} {b ord : Nat → Int32} {v1 v2 : Int32} {Post : Int32 → Int32 → Int32 → (Nat → Int32) → Prop} (hn : n ≤ 8) (hw : w ≤ 3) (hp : p < n) (hg : g ≤ 99999) (hP : ∀ t, t < n → P t ≤ 99999) (hb : ∀ t, t < n → b t = nN (P t)) (hnone : (∀ L, L < n → (lay n L [p]).find? (hit w g P (P p)) = none) → ∀ u1 u2 ord', Post (-9) u1 u2 ord') (hsome : ∀ (L : Nat) (o : List Nat), L < n → (lay n L [p]).find? (hit w g P (P p)) = some o → (∀ L', L' < L → (lay n L' [p]).find? (hit w g P (P p)) = none) → ∀ u1 u2 ord', (∀ t, t < L → ord' t = nN (o.getD t 0)) → Post (nN L) u1 u2 ord') : wp_X9_layRuin (nN p) (nN g) (nN w) (nN n) v1 v2 b ord Post := by
  obtain ⟨m, rfl⟩ : ∃ m, n = m + 1 := ⟨n - 1, by omega⟩
  have hsh : ∀ L, (lay m L []).map (List.map (shp p)) = lay (m + 1) L [p] := fun L => lay_shift hn (by omega) L []
  unfold wp_X9_layRuin
  rw [show nN (m + 1) - (1 : Int32) = nN m from n_sub (a := m + 1) (b := 1) (by omega)]
  intro k2 hk2
  have key : ∀ (N L : Nat) (u1 u2 : Int32) (ord : Nat → Int32), m + 1 - L < N → L ≤ m + 1 → (∀ L', L' < L → (lay (m + 1) L' [p]).find? (hit w g P (P p)) = none) → k2 (nN L) (nN p) (nN g) u1 u2 ord := by
    intro N
    induction N with
    | zero => intro L u1 u2 ord g1; omega
    | succ N ih =>
      intro L u1 u2 ord g1 g2 g3
      apply hk2
      rw [n_le (by omega) (by omega)]
      refine ⟨fun c => hnone (fun L' hL' => g3 L' (by omega)) _ _ _, fun c => ?_⟩
      have hL : L ≤ m := by omega
      have hlen : (lay m L []).length = pw m L := by rw [lay_len, fr_full]
      have hpl := pw_le (m := m) (l := L) (by omega) (by omega)
      intro k13 hk13
      have key2 : ∀ (M c : Nat) (u1 u2 : Int32) (ord : Nat → Int32), pw m L - c < M → c ≤ pw m L → (((lay m L []).drop c).map (List.map (shp p))).find? (hit w g P (P p)) = (lay (m + 1) L [p]).find? (hit w g P (P p)) → k13 (nN c) (nN p) (nN g) (nN L) u1 u2 ord := by
        intro M
        induction M with
        | zero => intro c u1 u2 ord f1; omega
        | succ M ih2 =>
          intro c u1 u2 ord f1 f2 f3
          apply hk13
          refine ok9_rows (by omega) hL ?_
          rw [n_le (by omega) (by omega)]
          refine ⟨fun cc => ?_, fun cc => ?_⟩
          · rw [show nN L + 1 = nN (L + 1) from n_add _ 1]
            rw [List.drop_eq_nil_of_le (by omega)] at f3
            refine ih (L + 1) _ _ _ (by omega) (by omega) (fun L' hL' => ?_)
            by_cases e : L' = L
            · rw [e, ← f3]; rfl
            · exact g3 L' (by omega)
          · have hc : c < (lay m L []).length := by omega
            obtain ⟨o, ho⟩ : ∃ o, (lay m L [])[c]? = some o := ⟨_, List.getElem?_eq_getElem hc⟩
            have hd : (lay m L []).drop c = o :: (lay m L []).drop (c + 1) := by
              rw [List.drop_eq_getElem_cons hc]
              rw [List.getElem?_eq_getElem hc] at ho
              rw [Option.some.inj ho]
            obtain ⟨o1, o2⟩ := lay_mem m L [] o (List.mem_of_getElem? ho)
            rw [hd, List.map_cons, List.find?_cons] at f3
            have hlt : ∀ t, t < L → o.getD t 0 < m := fun t ht => o2 _ (getD_mem (by omega))
            refine ok9_layOrder (by omega) hL ho (fun ord' hord => ⟨n_in (by omega) (by omega), ?_⟩)
            rw [n_nat (by omega), hb p hp]
            intro k52 hk52
            have key3 : ∀ (M i hc : Nat) (u1 u2 : Int32) (oo : Nat → Int32), L - i < M → i ≤ L → hc ≤ 99999 → (∀ t, t < i → oo t = nN (shp p (o.getD t 0))) → (∀ t, i ≤ t → t < L → oo t = nN (o.getD t 0)) → sendL w P ((o.drop i).map (shp p)) hc = sendL w P (o.map (shp p)) (P p) → k52 (nN i) (nN hc) u1 u2 oo := by
              intro M
              induction M with
              | zero => intro i hc u1 u2 oo e1; omega
              | succ M ih3 =>
                intro i hc u1 u2 oo e1 e2 e3 e4 e5 e6
                apply hk52
                rw [n_le (by omega) (by omega), n_nat (a := i) (by omega)]
                refine ⟨fun ci => ?_, fun ci => ?_⟩
                · rw [List.drop_eq_nil_of_le (by omega)] at e6
                  have e7 : hc = sendL w P (o.map (shp p)) (P p) := e6
                  rw [n_lt (by omega) (by omega), show nN c + 1 = nN (c + 1) from n_add _ 1]
                  refine ⟨fun y => ?_, fun y => ?_⟩
                  · have hh : hit w g P (P p) (o.map (shp p)) = false := by
                      unfold hit
                      rw [decide_eq_false_iff_not, ← e7]; omega
                    rw [hh] at f3
                    exact ih2 (c + 1) _ _ _ (by omega) (by omega) f3
                  · have hh : hit w g P (P p) (o.map (shp p)) = true := by
                      unfold hit
                      rw [decide_eq_true_iff, ← e7]; omega
                    rw [hh] at f3
                    refine hsome L (o.map (shp p)) (by omega) f3.symm g3 _ _ _ (fun t ht => ?_)
                    rw [e4 t (by omega), List.getD_eq_getElem?_getD, List.getD_eq_getElem?_getD, List.getElem?_map, List.getElem?_eq_getElem (show t < o.length by omega)]
                    rfl
                · have hi : i < L := by omega
                  have hx := hlt i hi
                  have hxp : shp p (o.getD i 0) < m + 1 := by unfold shp; split <;> omega
                  rw [drop_cons (show i < o.length by omega), List.map_cons] at e6
                  have l1 : (oo i < nN p) ↔ o.getD i 0 < p := by rw [e5 i (Nat.le_refl i) hi, n_lt (by omega) (by omega)]
                  have goon : ∀ y : Int32, y = nN (shp p (o.getD i 0)) → (vp_in (nN i) 8 ∧ (vp_in (nN i) 8 ∧ (vp_in ((upd oo i y) i) 8 ∧ (wp_X9_meetTwo (nN hc) (b (Int32.toNatClampNeg ((upd oo i y) i))) (nN w) u1 u2 (fun (v_one_99 : Int32) (v_other_99 : Int32) => (k52 (nN i + 1) v_one_99 v_one_99 v_other_99 (upd oo i y))))))) := by
                    intro y hy
                    have hself : upd oo i y i = nN (shp p (o.getD i 0)) := by unfold upd; rw [if_pos rfl, hy]
                    rw [hself, n_nat (by omega), hb _ hxp]
                    refine ⟨n_in (by omega) (by omega), n_in (by omega) (by omega), n_in (by omega) (by omega), ok9_meetTwo hw e3 (hP _ hxp) ?_⟩
                    rw [show nN i + 1 = nN (i + 1) from n_add _ 1]
                    refine ih3 (i + 1) _ _ _ _ (by omega) (by omega) (mt_le e3) (fun t ht => ?_) (fun t ht1 ht2 => ?_) e6
                    · unfold upd
                      by_cases e : t = i
                      · rw [if_pos e, e, hy]
                      · rw [if_neg e]; exact e4 t (by omega)
                    · unfold upd
                      rw [if_neg (by omega)]; exact e5 t (by omega) ht2
                  rw [l1]
                  refine ⟨n_in (by omega) (by omega), n_in (by omega) (by omega), fun y => goon _ ?_, fun y => goon _ ?_⟩
                  · rw [e5 i (Nat.le_refl i) hi]; unfold shp; rw [if_pos y]; exact n_add _ 0
                  · rw [e5 i (Nat.le_refl i) hi]; unfold shp; rw [if_neg y]; exact n_add _ 1
            exact key3 (L + 1) 0 (P p) u1 u2 ord' (by omega) (by omega) (hP p hp) (fun t ht => by omega) (fun t _ ht => hord t ht) rfl
      exact key2 (pw m L + 1) 0 u1 u2 ord (by omega) (by omega) (by rw [List.drop_zero, hsh])
  exact key (m + 2) 0 v1 v2 ord (by omega) (by omega) (fun L' hL' => by omega)
theorem case_ruin {n w : Nat} {x y : Int32} {P : Nat → Nat} {a b lh row best ord : Nat → Int32} {z1 z2 z3 v1 v2 : Int32} {K : Int32 → Int32 → Int32 → (Nat → Int32) → (Nat → Int32) → (Nat → Int32) → Int32 → Int32 → (Nat → Int32) → Prop} (hn : n ≤ 8) (hw : w ≤ 3) (hP : ∀ t, t < n → P t ≤ 99999) (ha : ∀ t, t < n → a t = nN (P t)) (hb : ∀ t, t < n → b t = nN (P t)) (hK : ∀ u1 u2 u3 u4 u5 u6 p1 p2 p3, K u1 u2 u3 u4 u5 u6 p1 p2 p3) : wp_X8_ruin x y (nN n) (nN w) a z1 z2 z3 lh row best (fun r u1 u2 u3 u4 u5 u6 => wp_X9_ruin x y (nN w) (nN n) v1 v2 b ord (fun r' p1 p2 p3 => (r = r' → K u1 u2 u3 u4 u5 u6 p1 p2 p3) ∧ (¬ r = r' → False))) := by
  obtain ⟨z, rfl, hz, hz2⟩ := i_ex x
  obtain ⟨v, rfl, hv, hv2⟩ := i_ex y
  unfold wp_X8_ruin
  refine ok_isPerson hn hz hz2 (fun hz0 hzn => ⟨fun _ => ?_, fun c => absurd c one_ne⟩) (fun hh => ⟨fun c => absurd rfl c, fun _ => ?_⟩)
  · refine ok_isSum hv hv2 (fun hv0 hvn => ⟨fun _ => ?_, fun c => absurd c one_ne⟩) (fun hh => ⟨fun c => absurd rfl c, fun _ => ?_⟩)
    · obtain ⟨i, rfl⟩ : ∃ i : Nat, z = i := ⟨z.toNat, by omega⟩
      obtain ⟨g, rfl⟩ : ∃ g : Nat, v = g := ⟨v.toNat, by omega⟩
      refine ok_X4find hn hw (show i < n by omega) (show g ≤ 99999 by omega) hP ha (fun f' b' u1 lh' row' best' r1 r2 => ?_)
      have nine : ∀ (r : Int32) (q1 q2 q3 : Int32) (q4 q5 q6 : Nat → Int32), ((∀ L, L < n → (lay n L [i]).find? (hit w g P (P i)) = none) → r = -9) → (∀ L o, L < n → (lay n L [i]).find? (hit w g P (P i)) = some o → (∀ L', L' < L → (lay n L' [i]).find? (hit w g P (P i)) = none) → r = nN L) → wp_X9_ruin (iI i) (iI g) (nN w) (nN n) v1 v2 b ord (fun r' p1 p2 p3 => (r = r' → K q1 q2 q3 q4 q5 q6 p1 p2 p3) ∧ (¬ r = r' → False)) := by
        intro r q1 q2 q3 q4 q5 q6 e1 e2
        unfold wp_X9_ruin
        refine ok9_isPerson hn hz hz2 (fun _ _ => ⟨fun _ => ok_inI (lo := 0) (hi := 99999) hv hv2 rfl rfl (fun _ _ => ⟨fun c => absurd c one_ne, fun _ => ?_⟩) (fun hh => absurd ⟨by omega, by omega⟩ hh), fun c => absurd c one_ne⟩) (fun hh => absurd ⟨hz0, hzn⟩ hh)
        exact ok9_layRuin hn hw (show i < n by omega) (show g ≤ 99999 by omega) hP hb (fun hno _ _ _ => same_of (e1 hno) (hK _ _ _ _ _ _ _ _ _)) (fun L o hL ho hmin _ _ _ _ => same_of (e2 L o hL ho hmin) (hK _ _ _ _ _ _ _ _ _))
      unfold wp_X4_isFound
      rcases r1 with ⟨rfl, rfl, r3⟩ | ⟨L, o, r3, r4, r5, rfl, r6⟩
      · refine ⟨fun _ => ⟨fun _ => ?_, fun c => absurd rfl c⟩, fun c => absurd ((n_le (by omega) (by omega)).mpr (Nat.le_refl _)) c⟩
        refine nine _ _ _ _ _ _ _ (fun _ => rfl) (fun L o hL ho _ => ?_)
        have := r3 L (by omega)
        simp only [] at this
        rw [this] at ho
        exact absurd ho (by simp)
      · rw [Nat.zero_add] at r3 r4
        subst r4
        rw [n_le (by omega) (by omega)]
        refine ⟨fun c => absurd c (by omega), fun _ => ⟨fun c => absurd c one_ne, fun _ => ?_⟩⟩
        refine nine _ _ _ _ _ _ _ (fun hno => ?_) (fun L' o' hL' ho' hmin => ?_)
        · have := hno f' r3
          simp only [] at r5
          rw [this] at r5
          exact absurd r5 (by simp)
        · congr 2
          rcases Nat.lt_trichotomy f' L' with q | q | q
          · have := hmin f' q
            simp only [] at r5
            rw [this] at r5
            exact absurd r5 (by simp)
          · exact q
          · have := r6 L' q
            simp only [] at this
            rw [this] at ho'
            exact absurd ho' (by simp)
    · unfold wp_X9_ruin
      exact ok9_isPerson hn hz hz2 (fun _ _ => ⟨fun _ => ok_inI (lo := 0) (hi := 99999) hv hv2 rfl rfl (fun a b => absurd ⟨a, b⟩ hh) (fun _ => ⟨fun _ => same_k (hK _ _ _ _ _ _ _ _ _), fun c => absurd rfl c⟩), fun c => absurd c one_ne⟩) (fun hh => absurd ⟨hz0, hzn⟩ hh)
  · unfold wp_X9_ruin
    exact ok9_isPerson hn hz hz2 (fun a b => absurd ⟨a, b⟩ hh) (fun _ => ⟨fun c => absurd rfl c, fun _ => same_k (hK _ _ _ _ _ _ _ _ _)⟩)
