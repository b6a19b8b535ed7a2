/-! MOST: the reference goes through all orders by number -/
theorem drop_cons {o : List Nat} {i : Nat} (h : i < o.length) : o.drop i = o.getD i 0 :: o.drop (i + 1) := by
  rw [List.drop_eq_getElem_cons h, List.getD_eq_getElem?_getD, List.getElem?_eq_getElem h]; rfl
theorem getD_mem {o : List Nat} {i : Nat} (h : i < o.length) : o.getD i 0 ∈ o := by
  rw [List.getD_eq_getElem?_getD, List.getElem?_eq_getElem h]; exact List.getElem_mem h
theorem ok9_layBest {n w q p0 : Nat} {F G P : Nat → Nat} {da b tr ord best : Nat → Int32} {v1 v2 : Int32} {Post : Int32 → Int32 → Int32 → (Nat → Int32) → (Nat → Int32) → (Nat → Int32) → Prop} (hn : n ≤ 8) (hw : w ≤ 3) (hq : q ≤ 6) (hF : ∀ i, i < q → F i < n ∧ G i < n ∧ F i ≠ G i) (hda : ∀ i, i < q → da (2 * i) = nN (F i) ∧ da (2 * i + 1) = nN (G i)) (hp : p0 < n) (hP : ∀ t, t < n → P t ≤ 99999) (hb : ∀ t, t < n → b t = nN (P t)) (h : ∀ z u1 u2 tr' ord' best', BR q z best' ((lay q q []).foldl (stp w F G P p0) (-1, [])) → Post z u1 u2 tr' ord' best') : wp_X9_layBest (nN p0) (nN w) (nN q) v1 v2 b da tr ord best Post := by
  unfold wp_X9_layBest
  have hlen : (lay q q []).length = pw q q := by rw [lay_len, fr_full]
  have hpl := pw_le (m := q) (l := q) (by omega) (by omega)
  intro k4 hk4
  have key : ∀ (N c : Nat) (z u1 u2 : Int32) (tr ord best : Nat → Int32) (s : Int × List Nat), pw q q - c < N → c ≤ pw q q → BR q z best s → ((lay q q []).drop c).foldl (stp w F G P p0) s = (lay q q []).foldl (stp w F G P p0) (-1, []) → k4 (nN c) z (nN p0) u1 u2 tr ord best := by
    intro N
    induction N with
    | zero => intro c z u1 u2 tr ord best s g; omega
    | succ N ih =>
      intro c z u1 u2 tr ord best s g1 g2 g3 g4
      apply hk4
      refine ok9_rows (by omega) (Nat.le_refl q) ?_
      rw [n_le (by omega) (by omega)]
      refine ⟨fun cc => ?_, fun cc => ?_⟩
      · rw [List.drop_eq_nil_of_le (by omega)] at g4
        exact h z u1 u2 tr ord best (by rw [← g4]; exact g3)
      · have hc : c < (lay q q []).length := by omega
        obtain ⟨o, ho⟩ : ∃ o, (lay q q [])[c]? = some o := ⟨_, List.getElem?_eq_getElem hc⟩
        have hd : (lay q q []).drop c = o :: (lay q q []).drop (c + 1) := by
          rw [List.drop_eq_getElem_cons hc]
          rw [List.getElem?_eq_getElem hc] at ho
          rw [Option.some.inj ho]
        obtain ⟨o1, o2⟩ := lay_mem q q [] o (List.mem_of_getElem? ho)
        rw [hd, List.foldl_cons] at g4
        refine ok9_layOrder (by omega) (Nat.le_refl q) ho (fun ord' hord => ok9_takeTried (fun tr' htr => ?_))
        obtain ⟨b1, b2, b3, b4⟩ := g3
        intro k39 hk39
        have key2 : ∀ (M i : Nat) (u1 u2 : Int32) (tt : Nat → Int32) (T : Nat → Nat), q - i < M → i ≤ q → (∀ t, t < n → T t ≤ 99999) → (∀ t, t < n → tt t = nN (T t)) → mvs w F G (o.drop i) T = mvs w F G o P → k39 (nN i) u1 u2 tt := by
          intro M
          induction M with
          | zero => intro i u1 u2 tt T f; omega
          | succ M ih2 =>
            intro i u1 u2 tt T f1 f2 f3 f4 f5
            apply hk39
            rw [n_le (by omega) (by omega)]
            refine ⟨fun ci => ⟨n_in (by omega) (by omega), ?_⟩, fun ci => ⟨n_in (by omega) (by omega), ?_⟩⟩
            · rw [List.drop_eq_nil_of_le (by omega)] at f5
              have f6 : T p0 = mvs w F G o P p0 := congrFun f5 p0
              have f7 := f3 p0 hp
              rw [n_nat (by omega), f4 p0 hp, b1, i_le (by omega) (by omega) (by omega) (by omega), show nN c + 1 = nN (c + 1) from n_add _ 1]
              refine ⟨fun y => ?_, fun y => ⟨n_in (by omega) (by omega), ?_⟩⟩
              · refine ih (c + 1) _ _ _ _ _ best s (by omega) (by omega) ⟨rfl, b2, b3, b4⟩ ?_
                rw [← g4]
                congr 1
                unfold stp
                rw [if_neg (by omega)]
              · intro k86 hk86
                have key3 : ∀ (M i : Nat) (bb : Nat → Int32), q - i < M → i ≤ q → (∀ t, t < i → bb t = nN (o.getD t 0)) → k86 (nN i) bb := by
                  intro M
                  induction M with
                  | zero => intro i bb e; omega
                  | succ M ih3 =>
                    intro i bb e1 e2 e3
                    apply hk86
                    rw [n_le (by omega) (by omega)]
                    refine ⟨fun _ => ?_, fun _ => ⟨n_in (by omega) (by omega), n_in (by omega) (by omega), ?_⟩⟩
                    · refine ih (c + 1) _ _ _ _ _ bb ((T p0 : Int), o) (by omega) (by omega) ⟨rfl, by simp only []; omega, by simp only []; omega, fun _ t ht => e3 t (by omega)⟩ ?_
                      rw [← g4]
                      congr 1
                      unfold stp
                      rw [← f6, if_pos (by omega)]
                    · rw [n_nat (by omega), show nN i + 1 = nN (i + 1) from n_add _ 1]
                      refine ih3 (i + 1) _ (by omega) (by omega) (fun t ht => ?_)
                      unfold upd
                      by_cases e : t = i
                      · rw [if_pos e, e]; exact hord i (by omega)
                      · rw [if_neg e]; exact e3 t (by omega)
                exact key3 (q + 1) 0 best (by omega) (by omega) (fun t ht => by omega)
            · have hi : i < q := by omega
              rw [n_nat (by omega), hord i hi]
              have hx := o2 _ (getD_mem (show i < o.length by omega))
              obtain ⟨w1, w2, w3⟩ := hF _ hx
              refine ok9_tryDaily hn hw (by omega) w1 w2 w3 f3 f4 (hda _ hx).1 (hda _ hx).2 (fun x1 x2 a' ha' _ => ?_)
              rw [show nN i + 1 = nN (i + 1) from n_add _ 1]
              refine ih2 (i + 1) x1 x2 a' _ (by omega) (by omega) (mv_le w1 w2 f3) ha' ?_
              rw [← f5, drop_cons (show i < o.length by omega)]
              rfl
        exact key2 (q + 1) 0 u1 u2 tr' P (by omega) (by omega) hP (fun t ht => by rw [htr t (by omega)]; exact hb t ht) rfl
  exact key (pw q q + 1) 0 (-1) v1 v2 tr ord best (-1, []) (by omega) (by omega) ⟨rfl, by decide, by decide, fun c => absurd rfl c⟩ rfl
theorem case_most {n w q : Nat} {x : Int32} {F G P : Nat → Nat} {fa sa da a b pa used ord best tr ord9 best9 : Nat → Int32} {z1 z2 z3 z4 v1 v2 : Int32} {K : Int32 → Int32 → Int32 → Int32 → (Nat → Int32) → (Nat → Int32) → (Nat → Int32) → (Nat → Int32) → Int32 → Int32 → (Nat → Int32) → (Nat → Int32) → (Nat → Int32) → Prop} (hn : n ≤ 8) (hw : w ≤ 3) (hd : DayR n q F G fa sa da) (hP : ∀ t, t < n → P t ≤ 99999) (ha : ∀ t, t < n → a t = nN (P t)) (hb : ∀ t, t < n → b t = nN (P t)) (hu : ∀ t, t < 6 → used t = 0) (hK : ∀ u1 u2 u3 u4 u5 us u6 u7 p1 p2 p3 p4 p5, (∀ t, t < 6 → us t = 0) → K u1 u2 u3 u4 u5 us u6 u7 p1 p2 p3 p4 p5) : wp_X8_most x (nN q) fa sa (nN n) (nN w) a z1 z2 z3 z4 pa used ord best (fun r u1 u2 u3 u4 u5 us u6 u7 => wp_X9_most x (nN w) (nN n) (nN q) v1 v2 b da tr ord9 best9 (fun r' p1 p2 p3 p4 p5 => (r = r' → K u1 u2 u3 u4 u5 us u6 u7 p1 p2 p3 p4 p5) ∧ (¬ r = r' → False))) := by
  obtain ⟨z, rfl, hz, hz2⟩ := i_ex x
  obtain ⟨hq, h1, h2, h3⟩ := hd
  unfold wp_X8_most
  have l6 : (nN q ≤ (6 : Int32)) ↔ q ≤ 6 := by rw [show (6 : Int32) = nN 6 from rfl, n_le (by omega) (by omega)]
  rw [l6]
  refine ok_isPerson hn hz hz2 (fun hz0 hzn => ⟨fun _ => ⟨fun c => ?_, fun c => ?_⟩, fun c => absurd c one_ne⟩) (fun hh => ⟨fun c => absurd rfl c, fun _ => ?_⟩)
  · obtain ⟨i, rfl⟩ : ∃ i : Nat, z = i := ⟨z.toNat, by omega⟩
    refine ok_X3find hn hw c h1 h2 (by omega) hP ha hu (fun z' u1 u2 u3 a' us ord' best' r1 r2 => ?_)
    unfold wp_X9_most
    refine ok9_isPerson hn hz hz2 (fun _ _ => ⟨fun _ => ⟨fun _ => ?_, fun cc => absurd (l6.mpr c) cc⟩, fun c => absurd c one_ne⟩) (fun hh => absurd ⟨hz0, hzn⟩ hh)
    refine ok9_layBest hn hw c h1 h3 (by omega) hP hb (fun z2 p1 p2 p3 p4 p5 q1 => same_of ?_ (hK _ _ _ _ _ _ _ _ _ _ _ _ _ r2))
    rw [r1.1, q1.1]
  · unfold wp_X9_most
    exact ok9_isPerson hn hz hz2 (fun _ _ => ⟨fun _ => ⟨fun cc => absurd (l6.mp cc) c, fun _ => same_k (hK _ _ _ _ _ _ _ _ _ _ _ _ _ hu)⟩, fun c => absurd c one_ne⟩) (fun hh => absurd ⟨hz0, hzn⟩ hh)
  · unfold wp_X9_most
    exact ok9_isPerson hn hz hz2 (fun a b => absurd ⟨a, b⟩ hh) (fun _ => ⟨fun c => absurd rfl c, fun _ => same_k (hK _ _ _ _ _ _ _ _ _ _ _ _ _ hu)⟩)
theorem best_some {w q p0 : Nat} {F G P : Nat → Nat} {s : Int × List Nat} : ∀ (L : List (List Nat)) (s : Int × List Nat), 0 ≤ s.1 → 0 ≤ (L.foldl (stp w F G P p0) s).1
  | [], _, h => h
  | o :: L, s, h => by
    rw [List.foldl_cons]
    refine best_some (q := q) (s := s) L _ ?_
    unfold stp
    split
    · simp only []; omega
    · exact h
theorem best_ne (w q p0 : Nat) (F G P : Nat → Nat) : ((lay q q []).foldl (stp w F G P p0) (-1, [])).1 ≠ -1 := by
  have hl : 0 < (lay q q []).length := by rw [lay_len, fr_full]; exact pw_pos q q (Nat.le_refl q)
  match hL : lay q q [] with
  | [] => rw [hL] at hl; exact absurd hl (by simp)
  | o :: L =>
    rw [List.foldl_cons]
    have := best_some (w := w) (q := q) (p0 := p0) (F := F) (G := G) (P := P) (s := (-1, [])) L (stp w F G P p0 (-1, []) o) (by
      unfold stp
      rw [if_pos (by simp only []; omega)]
      simp only []; omega)
    omega
theorem case_mostAt {n w q : Nat} {x y : Int32} {F G P : Nat → Nat} {fa sa da a b pa used ord best tr ord9 best9 : Nat → Int32} {z1 z2 z3 z4 v1 v2 : Int32} {K : Int32 → Int32 → Int32 → Int32 → (Nat → Int32) → (Nat → Int32) → (Nat → Int32) → (Nat → Int32) → Int32 → Int32 → (Nat → Int32) → (Nat → Int32) → (Nat → Int32) → Prop} (hn : n ≤ 8) (hw : w ≤ 3) (hd : DayR n q F G fa sa da) (hP : ∀ t, t < n → P t ≤ 99999) (ha : ∀ t, t < n → a t = nN (P t)) (hb : ∀ t, t < n → b t = nN (P t)) (hu : ∀ t, t < 6 → used t = 0) (hK : ∀ u1 u2 u3 u4 u5 us u6 u7 p1 p2 p3 p4 p5, (∀ t, t < 6 → us t = 0) → K u1 u2 u3 u4 u5 us u6 u7 p1 p2 p3 p4 p5) : wp_X8_mostAt x y (nN q) fa sa (nN n) (nN w) a z1 z2 z3 z4 pa used ord best (fun r u1 u2 u3 u4 u5 us u6 u7 => wp_X9_mostAt x y (nN w) (nN n) (nN q) v1 v2 b da tr ord9 best9 (fun r' p1 p2 p3 p4 p5 => (r = r' → K u1 u2 u3 u4 u5 us u6 u7 p1 p2 p3 p4 p5) ∧ (¬ r = r' → False))) := by
  obtain ⟨z, rfl, hz, hz2⟩ := i_ex x
  obtain ⟨v, rfl, hv, hv2⟩ := i_ex y
  obtain ⟨hq, h1, h2, h3⟩ := hd
  unfold wp_X8_mostAt wp_X2_has
  have l6 : (nN q ≤ (6 : Int32)) ↔ q ≤ 6 := by rw [show (6 : Int32) = nN 6 from rfl, n_le (by omega) (by omega)]
  rw [l6, show (iI v < 0) = (iI v < iI 0) from rfl, i_lt (by omega) (by omega) (by omega) (by omega), i_le (by omega) (by omega) (by omega) (by omega)]
  refine ok_isPerson hn hz hz2 (fun hz0 hzn => ⟨fun _ => ⟨fun c => ?_, fun c => ?_⟩, fun c => absurd c one_ne⟩) (fun hh => ⟨fun c => absurd rfl c, fun _ => ?_⟩)
  · obtain ⟨i, rfl⟩ : ∃ i : Nat, z = i := ⟨z.toNat, by omega⟩
    have none : ∀ u1 u2 u3 u4 u5 us u6 u7, ¬ (0 ≤ v ∧ v < q) → (∀ t, t < 6 → us t = 0) → wp_X9_mostAt (iI i) (iI v) (nN w) (nN n) (nN q) v1 v2 b da tr ord9 best9 (fun r' p1 p2 p3 p4 p5 => ((-9 : Int32) = r' → K u1 u2 u3 u4 u5 us u6 u7 p1 p2 p3 p4 p5) ∧ (¬ (-9 : Int32) = r' → False)) := by
      intro u1 u2 u3 u4 u5 us u6 u7 hh hus
      unfold wp_X9_mostAt
      refine ok9_isPerson hn hz hz2 (fun _ _ => ⟨fun _ => ⟨fun _ => ?_, fun cc => absurd (l6.mpr c) cc⟩, fun c => absurd c one_ne⟩) (fun hh => absurd ⟨hz0, hzn⟩ hh)
      refine ok9_layBest hn hw c h1 h3 (by omega) hP hb (fun z2 p1 p2 p3 p4 p5 q1 => ?_)
      rw [L1, i_sub]
      exact ok_inI (lo := 0) (hi := q - 1) hv hv2 rfl (l_int (by omega) (by omega)) (fun a b => absurd ⟨a, by omega⟩ hh) (fun _ => ⟨fun _ => same_k (hK _ _ _ _ _ _ _ _ _ _ _ _ _ hus), fun c => absurd rfl c⟩)
    refine ⟨fun c3 => ⟨fun c => absurd rfl c, fun _ => none _ _ _ _ _ _ _ _ (by omega) hu⟩, fun c3 => ⟨fun c4 => ⟨fun c => absurd rfl c, fun _ => none _ _ _ _ _ _ _ _ (by omega) hu⟩, fun c4 => ⟨fun _ => ?_, fun c => absurd c one_ne⟩⟩⟩
    obtain ⟨j, rfl⟩ : ∃ j : Nat, v = j := ⟨v.toNat, by omega⟩
    refine ok_X3find hn hw c h1 h2 (by omega) hP ha hu (fun z' u1 u2 u3 a' us ord' best' r1 r2 => ?_)
    refine ⟨n_in (by omega) (by omega), ?_⟩
    unfold wp_X9_mostAt
    refine ok9_isPerson hn hz hz2 (fun _ _ => ⟨fun _ => ⟨fun _ => ?_, fun cc => absurd (l6.mpr c) cc⟩, fun c => absurd c one_ne⟩) (fun hh => absurd ⟨hz0, hzn⟩ hh)
    refine ok9_layBest hn hw c h1 h3 (by omega) hP hb (fun z2 p1 p2 p3 p4 p5 q1 => ?_)
    rw [L1, i_sub]
    refine ok_inI (lo := 0) (hi := q - 1) hv hv2 rfl (l_int (by omega) (by omega)) (fun a b => ⟨fun c => absurd c one_ne, fun _ => ⟨n_in (by omega) (by omega), same_of ?_ (hK _ _ _ _ _ _ _ _ _ _ _ _ _ r2)⟩⟩) (fun hh => absurd ⟨by omega, by omega⟩ hh)
    rw [n_nat (by omega), r1.2.2.2 (best_ne _ _ _ _ _ _) j (by omega), q1.2.2.2 (best_ne _ _ _ _ _ _) j (by omega)]
  · unfold wp_X9_mostAt
    exact ok9_isPerson hn hz hz2 (fun _ _ => ⟨fun _ => ⟨fun cc => absurd (l6.mp cc) c, fun _ => same_k (hK _ _ _ _ _ _ _ _ _ _ _ _ _ hu)⟩, fun c => absurd c one_ne⟩) (fun hh => absurd ⟨hz0, hzn⟩ hh)
  · unfold wp_X9_mostAt
    exact ok9_isPerson hn hz hz2 (fun a b => absurd ⟨a, b⟩ hh) (fun _ => ⟨fun c => absurd rfl c, fun _ => same_k (hK _ _ _ _ _ _ _ _ _ _ _ _ _ hu)⟩)
