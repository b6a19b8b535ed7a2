/-! RUIN: the class -/
theorem ok_heldAfterOne {w a b : Nat} {Post : Int32 → Prop} (hw : w ≤ 3) (ha : a ≤ 99999) (hb : b ≤ 99999) (h : Post (nN (mt w a b))) : wp_X8_heldAfterOne (nN w) (nN a) (nN b) Post := by
  unfold wp_X8_heldAfterOne
  exact ok_sharedBy (by omega) (by omega) (ok_heldOne hw ha hb h)
def Row (b : List Nat) (a : Nat → Int32) : Prop := ∀ t, t < b.length → a t = nN (b.getD t 0)
theorem row_push {pre : List Nat} {x p : Nat} {a : Nat → Int32} (hp : pre.length = p) (h : Row pre a) : Row (pre ++ [x]) (upd a p (nN x)) := by
  intro t ht
  rw [List.length_append, show [x].length = 1 from rfl] at ht
  unfold upd
  by_cases e : t = p
  · rw [if_pos e, e, List.getD_eq_getElem?_getD, List.getElem?_append_right (by omega), hp, Nat.sub_self]; rfl
  · rw [if_neg e, h t (by omega), List.getD_eq_getElem?_getD, List.getD_eq_getElem?_getD, List.getElem?_append_left (by omega)]
theorem row_keep {pre : List Nat} {a a' : Nat → Int32} (h : Row pre a) (e : ∀ t, t < pre.length → a' t = a t) : Row pre a' := fun t ht => by rw [e t ht]; exact h t ht
theorem ok_X4goOn {n w g : Nat} {P : Nat → Nat} {a : Nat → Int32} (hn : n ≤ 8) (hw : w ≤ 3) (hg : g ≤ 99999) (hP : ∀ t, t < n → P t ≤ 99999) (ha : ∀ t, t < n → a t = nN (P t)) : ∀ (d D k h f : Nat) (u pre b : List Nat) (lh row best : Nat → Int32) (Post : Int32 → (Nat → Int32) → (Nat → Int32) → (Nat → Int32) → Prop), (fr 0 n u).length < d → D + 1 + (fr 0 n u).length = n → BS k u → pre.length = D → Row pre row → Row b best → h ≤ 99999 → D < f → f ≤ n → (∀ k', SS k k' → Memo w g n P lh f k') → (∀ (f' : Nat) (b' : List Nat) (lh' row' best' : Nat → Int32), res (fun L => (lay n L u).find? (hit w g P h)) f D f' b' b pre → Row b' best' → (∀ t, t < D → row' t = row t) → (∀ k', k' < 256 → ¬ SS k k' → lh' k' = lh k') → (∀ k', SS k k' → Memo w g n P lh' f' k') → Post (nN f') lh' row' best') → wp_X4_goOn d (nN D) (nN k) (nN h) (nN f) (nN n) (nN g) lh row best (nN w) a Post := by
  intro d
  induction d with
  | zero => intro D k h f u pre b lh row best Post h1; omega
  | succ d ih =>
    intro D k h f u pre b lh row best Post h1 h2 h3 h4 h5 h6 h7 h8 h9 hM hPost
    unfold wp_X4_goOn
    rw [n_lt (by omega) (by omega)]
    refine ⟨fun c => ?_, fun c => ?_⟩
    · intro k32 hk32
      have key : ∀ (kk x f1 : Nat) (b1 : List Nat) (lh1 row1 best1 : Nat → Int32), x + kk = n → f1 ≤ f → Row b1 best1 → (∀ t, t < D → row1 t = row t) → (∀ k', k' < 256 → ¬ SS k k' → lh1 k' = lh k') → (∀ k', SS k k' → Memo w g n P lh1 f1 k') → (∀ (f' : Nat) (b' : List Nat), res (RF w g n P u h x kk) f1 D f' b' b1 pre → res (RF w g n P u h 0 n) f D f' b' b pre) → k32 (nN x) (nN f1) lh1 row1 best1 := by
        intro kk
        induction kk with
        | zero =>
          intro x f1 b1 lh1 row1 best1 g1 g2 g3 g4 g5 g6 g7
          apply hk32
          rw [n_le (by omega) (by omega)]
          refine ⟨fun _ => ?_, fun c2 => absurd (show n ≤ x by omega) c2⟩
          exact hPost f1 b1 lh1 row1 best1 (res_same (fun L => RF_all c L) (g7 f1 b1 (Or.inl ⟨rfl, rfl, fun L _ => RF_end L⟩))) g3 g4 g5 g6
        | succ kk ih2 =>
          intro x f1 b1 lh1 row1 best1 g1 g2 g3 g4 g5 g6 g7
          apply hk32
          have hb := (BS_at h3 (show x < 8 by omega)).2
          rw [n_le (by omega) (by omega), show nN D + (1 : Int32) = nN (D + 1) from n_add _ 1, n_le (by omega) (by omega), hb, show nN x + 1 = nN (x + 1) from n_add _ 1]
          refine ⟨fun c2 => absurd c2 (by omega), fun _ => ⟨fun c2 => ?_, fun c2 => ⟨fun c3 => ?_, fun c3 => ?_⟩⟩⟩
          · refine hPost f1 b1 lh1 row1 best1 (res_same (fun L => RF_all c L) (g7 f1 b1 (Or.inl ⟨rfl, rfl, fun L hL => ?_⟩))) g3 g4 g5 g6
            have : L = 0 := by omega
            rw [this]; rfl
          · have hx : x ∈ u := Classical.byContradiction c3
            exact ih2 (x + 1) f1 b1 lh1 row1 best1 (by omega) g2 g3 g4 g5 g6 (fun f' b' hr => g7 f' b' (res_same (fun L => (RF_in hx L).symm) hr))
          · have hpx := hP x (by omega)
            have hmt : mt w h (P x) ≤ 99999 := mt_le h7
            obtain ⟨o1, o2⟩ := BS_add h3 (show x < 8 by omega)
            have hlen := fr_len n 0 u x (by omega) (by omega) c3
            have hnb : Nat.testBit k x ≠ true := fun z => c3 ((h3.2 x (by omega)).mp z)
            have hss := SS_new h3.1 (show x < 8 by omega) hnb
            have hk1 := o2.1
            unfold wp_X4_trySending
            rw [o1, n_nat (a := x) (by omega), ha x (by omega), n_nat (a := k ||| 2 ^ x) (by omega), n_nat (a := D) (by omega)]
            refine ⟨n_in (by omega) (by omega), ok_heldAfterOne hw h7 hpx ⟨n_in (by omega) (by omega), fun c4 => ⟨n_in (by omega) (by omega), n_in (by omega) (by omega), ?_⟩, fun c4 => ?_⟩⟩
            · rw [show nN D + (1 : Int32) = nN (D + 1) from n_add _ 1]
              refine ih (D + 1) (k ||| 2 ^ x) (mt w h (P x)) f1 (x :: u) (pre ++ [x]) b1 _ _ best1 _ (by omega) (by omega) o2 (by rw [List.length_append, h4]; rfl) (row_push h4 (row_keep h5 (fun t ht => g4 t (by omega)))) g3 hmt (by omega) (by omega) (fun k' hk' => ?_) (fun f2 b2 lh2 row2 best2 r1 r2 r3 r4 r5 => ?_)
              · intro v1 v2 q1 q2 q3
                refine g6 k' (SS_step hk') v1 v2 q1 q2 ?_
                unfold upd at q3
                rw [if_neg (fun e => by rw [e] at hk'; exact SS_self hk')] at q3
                exact q3
              · have hle := res_le r1
                refine ih2 (x + 1) f2 b2 lh2 row2 best2 (by omega) (by omega) r2 (fun t ht => ?_) (fun k' hk' hn' => ?_) (fun k' hk' => ?_) (fun f' b' hr => ?_)
                · rw [r3 t (by omega)]
                  unfold upd
                  rw [if_neg (by omega)]; exact g4 t ht
                · rw [r4 k' hk' (fun z => hn' (SS_step z))]
                  unfold upd
                  rw [if_neg (fun e => hn' (by rw [e]; exact hss))]
                  exact g5 k' hk' hn'
                · by_cases z : SS (k ||| 2 ^ x) k'
                  · exact r5 k' z
                  · intro v1 v2 q1 q2 q3 L hL
                    rw [r4 k' hk'.1 z] at q3
                    unfold upd at q3
                    by_cases e : k' = k ||| 2 ^ x
                    · rw [if_pos e, n_eq (by omega) (by omega)] at q3
                      rw [← q3]
                      have hmem : ∀ y, y < 8 → (y ∈ v1 ↔ y ∈ x :: u) := fun y hy => by rw [← q1.2 y hy, ← o2.2 y hy, e]
                      rw [fr_congr n 0 v1 (x :: u) (by omega) hmem] at hL
                      rw [lay_congr hn L v1 (x :: u) hmem]
                      exact res_none r1 L (by omega)
                    · rw [if_neg e] at q3
                      exact g6 k' hk' v1 v2 q1 q2 q3 L (by omega)
                · exact g7 f' b' (res_same (fun L => RF_out c3 L) (res_or (res_up r1) hr))
            · refine ih2 (x + 1) f1 b1 lh1 row1 best1 (by omega) g2 g3 g4 g5 g6 (fun f' b' hr => ?_)
              refine g7 f' b' (res_same (fun L => RF_out c3 L) (res_or ?_ hr))
              refine res_up (Or.inl ⟨rfl, rfl, fun L hL => ?_⟩)
              exact g6 _ hss (x :: u) _ o2 hmt c4 L (by omega)
      exact key n 0 f b lh row best (by omega) (Nat.le_refl f) h6 (fun t _ => rfl) (fun k' _ _ => rfl) hM (fun f' b' hr => hr)
    · refine hPost D pre lh row _ (Or.inr ⟨0, [], by omega, rfl, ?_, by rw [List.append_nil], fun L' hL' => absurd hL' (by omega)⟩) (fun t ht => ?_) (fun t _ => rfl) (fun k' _ _ => rfl) (fun k' hk' => ?_)
      · show [[]].find? (hit w g P h) = some []
        have : hit w g P h [] = true := by
          unfold hit sendL
          rw [decide_eq_true_iff]; omega
        rw [List.find?_cons, this]
      · rw [show Int32.toNatClampNeg (8 : Int32) = 8 from rfl, cpy_lo (by omega)]
        exact h5 t ht
      · intro v1 v2 q1 q2 q3 L hL
        exact hM k' hk' v1 v2 q1 q2 q3 L (by omega)
theorem ok_fill {x : Int32} {A : Nat → Int32} {Post : (Nat → Int32) → Prop} (h : ∀ A', (∀ t, t < 256 → A' t = x) → Post A') : wp_J7_fill_53178 x A Post := by
  unfold wp_J7_fill_53178
  intro k hk
  have key : ∀ (N i : Nat) (B : Nat → Int32), 256 - i < N → i ≤ 256 → (∀ t, t < i → B t = x) → k (nN i) B := by
    intro N
    induction N with
    | zero => intro i B g; omega
    | succ N ih =>
      intro i B g1 g2 g3
      apply hk
      have l : ((256 : Int32) ≤ nN i) ↔ 256 ≤ i := by rw [show (256 : Int32) = nN 256 from rfl, n_le (by omega) (by omega)]
      rw [l]
      refine ⟨fun c => h B (fun t ht => g3 t (by omega)), fun c => ⟨n_in (by omega) (by omega), ?_⟩⟩
      rw [n_nat (by omega), show nN i + 1 = nN (i + 1) from n_add _ 1]
      refine ih (i + 1) _ (by omega) (by omega) (fun t ht => ?_)
      unfold upd
      by_cases e : t = i
      · rw [if_pos e]
      · rw [if_neg e]; exact g3 t (by omega)
  exact key 257 0 A (by omega) (by omega) (fun t ht => by omega)
theorem bit_one : ∀ x : Nat, x < 8 → (1 : Int32) <<< (nN x &&& 31) = nN (2 ^ x) := by decide +kernel
theorem ok_X4find {n w p g : Nat} {P : Nat → Nat} {a lh row best : Nat → Int32} {v1 v2 v3 : Int32} {Post : Int32 → Int32 → Int32 → (Nat → Int32) → (Nat → Int32) → (Nat → Int32) → Prop} (hn : n ≤ 8) (hw : w ≤ 3) (hp : p < n) (hg : g ≤ 99999) (hP : ∀ t, t < n → P t ≤ 99999) (ha : ∀ t, t < n → a t = nN (P t)) (h : ∀ (f' : Nat) (b' : List Nat) (u1 : Int32) (lh' row' best' : Nat → Int32), res (fun L => (lay n L [p]).find? (hit w g P (P p))) n 0 f' b' [] [] → Row b' best' → Post (nN f') (nN n) u1 lh' row' best') : wp_X4_find (nN p) (nN g) v1 v2 v3 lh row best (nN n) (nN w) a Post := by
  unfold wp_X4_find
  refine ok_fill (fun lh' hlh => ?_)
  have hone := bit_one p (by omega)
  have hbs : BS (0 ||| 2 ^ p) [p] := (BS_add BS_nil (show p < 8 by omega)).2
  rw [Nat.zero_or] at hbs
  rw [hone, n_nat (by omega), ha p hp]
  refine ⟨n_in (by omega) (by omega), ?_⟩
  have hl := fr_len n 0 [] p (by omega) (by omega) List.not_mem_nil
  rw [fr_full] at hl
  refine ok_X4goOn hn hw hg hP ha 9 0 (2 ^ p) (P p) n [p] [] [] lh' row best _ (by omega) (by omega) hbs rfl (fun t ht => absurd ht (by simp)) (fun t ht => absurd ht (by simp)) (hP p hp) (by omega) (Nat.le_refl n) (fun k' hk' => ?_) (fun f' b' lh2 row2 best2 r1 r2 r3 r4 r5 => h f' b' _ lh2 row2 best2 r1 r2)
  intro u v q1 q2 q3
  rw [hlh k' hk'.1, show (-1 : Int32) = iI (-1) from rfl, i_eq (by omega) (by omega) (by omega) (by omega)] at q3
  omega
