/-! MOST: the class goes through all orders -/
def mvs (w : Nat) (F G : Nat → Nat) : List Nat → (Nat → Nat) → (Nat → Nat)
  | [], P => P
  | x :: r, P => mvs w F G r (mv w P (F x) (G x))
theorem mvs_add (w : Nat) (F G : Nat → Nat) (x : Nat) : ∀ (pre : List Nat) (P : Nat → Nat), mvs w F G (pre ++ [x]) P = mv w (mvs w F G pre P) (F x) (G x)
  | [], P => rfl
  | y :: pre, P => mvs_add w F G x pre (mv w P (F y) (G y))
def stp (w : Nat) (F G P : Nat → Nat) (p : Nat) (s : Int × List Nat) (o : List Nat) : Int × List Nat := if s.1 < ((mvs w F G o P p : Nat) : Int) then (((mvs w F G o P p : Nat) : Int), o) else s
def BR (q : Nat) (z : Int32) (a : Nat → Int32) (s : Int × List Nat) : Prop := z = iI s.1 ∧ -1 ≤ s.1 ∧ s.1 ≤ 99999 ∧ (s.1 ≠ -1 → ∀ t, t < q → a t = nN (s.2.getD t 0))
theorem pre_map (L : List (List Nat)) (pre : List Nat) (x : Nat) : (L.map (x :: ·)).map (pre ++ ·) = L.map ((pre ++ [x]) ++ ·) := by
  rw [List.map_map]
  congr 1
  funext r
  simp
theorem ok_X3goOn {n w q p0 : Nat} {F G P : Nat → Nat} {fa sa : Nat → Int32} (hn : n ≤ 8) (hw : w ≤ 3) (hq : q ≤ 6) (hF : ∀ i, i < q → F i < n ∧ G i < n ∧ F i ≠ G i) (hfs : ∀ i, i < q → fa i = nN (F i) ∧ sa i = nN (G i)) (hp : p0 < n) : ∀ (l p d : Nat) (u pre : List Nat) (z : Int32) (a used ord best : Nat → Int32) (s : Int × List Nat) (Post : Int32 → (Nat → Int32) → (Nat → Int32) → (Nat → Int32) → (Nat → Int32) → Prop), p + l = q → l < d → pre.length = p → (∀ t, t < n → mvs w F G pre P t ≤ 99999) → (∀ t, t < n → a t = nN (mvs w F G pre P t)) → (∀ t, t < 6 → (used t = 0 ↔ t ∉ u)) → (∀ t, t < p → ord t = nN (pre.getD t 0)) → BR q z best s → (∀ z' a' used' ord' best', BR q z' best' (((lay q l u).map (pre ++ ·)).foldl (stp w F G P p0) s) → (∀ t, t < n → a' t = nN (mvs w F G pre P t)) → (∀ t, t < 6 → used' t = used t) → (∀ t, t < p → ord' t = ord t) → Post z' a' used' ord' best') → wp_X3_goOn d (nN p) z (nN p0) (nN w) (nN q) a used ord best fa sa Post := by
  intro l
  induction l with
  | zero =>
    intro p d u pre z a used ord best s Post h1 h2 h3 h4 h5 h6 h7 h8 h9
    obtain ⟨d', rfl⟩ : ∃ d', d = d' + 1 := ⟨d - 1, by omega⟩
    unfold wp_X3_goOn
    rw [n_lt (by omega) (by omega)]
    refine ⟨fun c => absurd c (by omega), fun _ => ?_⟩
    unfold wp_X3_noteIfBetter
    obtain ⟨b1, b2, b3, b4⟩ := h8
    have hle := h4 p0 hp
    have fin : ∀ z' best', BR q z' best' (stp w F G P p0 s pre) → Post z' a used ord best' := by
      intro z' best' hb
      refine h9 z' a used ord best' ?_ h5 (fun t _ => rfl) (fun t _ => rfl)
      show BR q z' best' (stp w F G P p0 s (pre ++ []))
      rw [List.append_nil]; exact hb
    rw [n_nat (by omega), h5 p0 hp, b1, i_lt (by omega) (by omega) (by omega) (by omega)]
    refine ⟨n_in (by omega) (by omega), fun c => ⟨n_in (by omega) (by omega), fin _ _ ?_⟩, fun c => fin _ _ ?_⟩
    · unfold stp
      rw [if_pos c]
      refine ⟨rfl, by simp only []; omega, by simp only []; omega, fun _ t ht => ?_⟩
      rw [show Int32.toNatClampNeg (6 : Int32) = 6 from rfl, cpy_lo (by omega)]
      exact h7 t (by omega)
    · unfold stp
      rw [if_neg c]
      exact ⟨rfl, b2, b3, b4⟩
  | succ l ih =>
    intro p d u pre z a used ord best s Post h1 h2 h3 h4 h5 h6 h7 h8 h9
    obtain ⟨d', rfl⟩ : ∃ d', d = d' + 1 := ⟨d - 1, by omega⟩
    unfold wp_X3_goOn
    rw [n_lt (by omega) (by omega)]
    refine ⟨fun _ => ?_, fun c => absurd (show p < q by omega) c⟩
    intro k15 hk15
    have key : ∀ (kk x : Nat) (z' : Int32) (a' used' ord' best' : Nat → Int32) (s' : Int × List Nat), x + kk = q → BR q z' best' s' → (∀ t, t < n → a' t = nN (mvs w F G pre P t)) → (∀ t, t < 6 → used' t = used t) → (∀ t, t < p → ord' t = ord t) → (((fr x kk u).flatMap (fun y => (lay q l (y :: u)).map (y :: ·))).map (pre ++ ·)).foldl (stp w F G P p0) s' = ((lay q (l + 1) u).map (pre ++ ·)).foldl (stp w F G P p0) s → k15 (nN x) z' a' used' ord' best' := by
      intro kk
      induction kk with
      | zero =>
        intro x z' a' used' ord' best' s' g1 g2 g3 g4 g5 g6
        apply hk15
        rw [n_le (by omega) (by omega)]
        refine ⟨fun _ => h9 z' a' used' ord' best' ?_ g3 g4 g5, fun c => absurd (show q ≤ x by omega) c⟩
        rw [← g6]; exact g2
      | succ kk ih2 =>
        intro x z' a' used' ord' best' s' g1 g2 g3 g4 g5 g6
        apply hk15
        have hu := h6 x (by omega)
        rw [n_le (by omega) (by omega), n_nat (by omega), g4 x (by omega), hu, show nN x + 1 = nN (x + 1) from n_add _ 1]
        unfold fr at g6
        refine ⟨fun c => absurd c (by omega), fun _ => ⟨n_in (by omega) (by omega), fun c => ?_, fun c => ?_⟩⟩
        · rw [if_pos (Classical.byContradiction c)] at g6
          exact ih2 (x + 1) z' a' used' ord' best' s' (by omega) g2 g3 g4 g5 g6
        · rw [if_neg c, List.flatMap_cons, List.map_append, List.foldl_append, pre_map] at g6
          obtain ⟨f1, f2, f3⟩ := hF x (by omega)
          obtain ⟨e1, e2⟩ := hfs x (by omega)
          unfold wp_X3_tryNext
          rw [n_nat (a := x) (by omega), e1, e2, n_nat (by omega), n_nat (by omega), n_nat (by omega)]
          refine ⟨n_in (by omega) (by omega), n_in (by omega) (by omega), n_in (by omega) (by omega), n_in (by omega) (by omega), n_in (by omega) (by omega), n_in (by omega) (by omega), ?_⟩
          refine ok_makeMeeting hn hw f1 f2 f3 h4 g3 (fun a60 h60 => ?_)
          rw [show nN p + (1 : Int32) = nN (p + 1) from n_add _ 1]
          refine ih (p + 1) d' (x :: u) (pre ++ [x]) z' a60 (upd used' x 1) (upd ord' p (nN x)) best' s' _ (by omega) (by omega) (by rw [List.length_append, h3]; rfl) ?_ ?_ ?_ ?_ g2 ?_
          · rw [mvs_add]; exact mv_le f1 f2 h4
          · rw [mvs_add]; exact h60
          · intro t ht
            unfold upd
            by_cases e : t = x
            · rw [if_pos e, e]
              exact ⟨fun c => absurd c one_ne, fun c => absurd List.mem_cons_self c⟩
            · rw [if_neg e, g4 t ht, h6 t ht, List.mem_cons]
              exact ⟨fun c y => y.elim e c, fun c y => c (Or.inr y)⟩
          · intro t ht
            unfold upd
            by_cases e : t = p
            · rw [if_pos e, e, List.getD_eq_getElem?_getD, List.getElem?_append_right (by omega), h3, Nat.sub_self]; rfl
            · rw [if_neg e, g5 t (by omega), h7 t (by omega), List.getD_eq_getElem?_getD, List.getD_eq_getElem?_getD, List.getElem?_append_left (by omega)]
          · intro z2 a2 used2 ord2 best2 r1 r2 r3 r4
            refine ⟨n_in (by omega) (by omega), n_in (by omega) (by omega), n_in (by omega) (by omega), ?_⟩
            refine ih2 (x + 1) z2 _ _ ord2 best2 _ (by omega) r1 (fun t ht => ?_) (fun t ht => ?_) (fun t ht => ?_) g6
            · unfold upd
              by_cases k1 : t = G x
              · rw [if_pos k1, k1]; exact g3 (G x) f2
              · by_cases k2 : t = F x
                · rw [if_neg k1, if_pos k2, k2]; exact g3 (F x) f1
                · rw [if_neg k1, if_neg k2, r2 t ht, mvs_add]
                  unfold mv
                  rw [if_neg k1, if_neg k2]
            · unfold upd
              by_cases e : t = x
              · rw [if_pos e, e]; exact ((h6 x (by omega)).mpr c).symm
              · rw [if_neg e, r3 t ht]
                unfold upd
                rw [if_neg e]; exact g4 t ht
            · rw [r4 t (by omega)]
              unfold upd
              rw [if_neg (by omega)]; exact g5 t ht
    exact key q 0 z a used ord best s (by omega) h8 h5 (fun t _ => rfl) (fun t _ => rfl) rfl
theorem ok_X3find {n w q p0 : Nat} {F G P : Nat → Nat} {fa sa a pa used ord best : Nat → Int32} {z v1 v2 v3 : Int32} {Post : Int32 → Int32 → Int32 → Int32 → (Nat → Int32) → (Nat → Int32) → (Nat → Int32) → (Nat → Int32) → Prop} (hn : n ≤ 8) (hw : w ≤ 3) (hq : q ≤ 6) (hF : ∀ i, i < q → F i < n ∧ G i < n ∧ F i ≠ G i) (hfs : ∀ i, i < q → fa i = nN (F i) ∧ sa i = nN (G i)) (hp : p0 < n) (hP : ∀ t, t < n → P t ≤ 99999) (ha : ∀ t, t < n → a t = nN (P t)) (hu : ∀ t, t < 6 → used t = 0) (h : ∀ z' u1 u2 u3 a' used' ord' best', BR q z' best' ((lay q q []).foldl (stp w F G P p0) (-1, [])) → (∀ t, t < 6 → used' t = 0) → Post z' u1 u2 u3 a' used' ord' best') : wp_X3_find (nN p0) z v1 v2 v3 pa used ord best (nN w) a (nN q) fa sa Post := by
  unfold wp_X3_find
  intro r35 h35
  have l6 : ((6 : Int32) < nN q) ↔ 6 < q := by rw [show (6 : Int32) = nN 6 from rfl, n_lt (by omega) (by omega)]
  rw [if_neg (fun c => absurd (l6.mp c) (by omega))] at h35
  rw [h35]
  refine ok_X3goOn (P := P) hn hw hq hF hfs hp q 0 7 [] [] (-1) _ used ord best (-1, []) _ (by omega) (by omega) rfl hP (fun t ht => ?_) (fun t ht => ?_) (fun t ht => by omega) ⟨rfl, by decide, by decide, fun c => absurd rfl c⟩ (fun z' a' used' ord' best' r1 r2 r3 r4 => ?_)
  · rw [show Int32.toNatClampNeg (8 : Int32) = 8 from rfl, cpy_lo (by omega)]; exact ha t ht
  · rw [hu t ht]; exact ⟨fun _ => List.not_mem_nil, fun _ => rfl⟩
  · refine h z' _ _ _ a' used' ord' best' ?_ (fun t ht => by rw [r3 t ht]; exact hu t ht)
    have : (lay q q []).map ([] ++ ·) = lay q q [] := by
      rw [show (fun x : List Nat => [] ++ x) = id from rfl, List.map_id]
    rw [this] at r1
    exact r1
