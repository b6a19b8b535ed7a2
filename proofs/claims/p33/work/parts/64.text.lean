/-! THE TEXT that the law writes, its FAULT, its TOWN -/
def TW (q : Nat) (T : Nat → Nat) (w n m : Nat) (P F G : Nat → Nat) : Prop := w ≤ 3 ∧ 2 ≤ n ∧ n ≤ 5 ∧ m ≤ 5 ∧ q = 2 + 5 * n + 3 * m ∧ T 0 = 76 ∧ T 1 = 48 + w ∧ (∀ i, i < n → T (2 + 5 * i) = 80 ∧ (∀ t, t < 4 → 48 ≤ T (2 + 5 * i + 1 + t) ∧ T (2 + 5 * i + 1 + t) < 58) ∧ P i = dv T (2 + 5 * i + 1) 4) ∧ (∀ j, j < m → T (2 + 5 * n + 3 * j) = 77 ∧ T (2 + 5 * n + 3 * j + 1) = 48 + F j ∧ T (2 + 5 * n + 3 * j + 2) = 48 + G j ∧ F j < n ∧ G j < n ∧ F j ≠ G j)
theorem TW.small {q w n m : Nat} {T P F G : Nat → Nat} (h : TW q T w n m P F G) {i : Nat} (hi : i < n) : P i ≤ 9999 := by
  obtain ⟨h1, h2, h3, h4, h5, h6, h7, h8, h9⟩ := h
  obtain ⟨g1, g2, g3⟩ := h8 i hi
  rw [g3]
  exact dv_small (q := q) (Nat.le_refl 4) (fun t ht => ⟨by omega, (g2 t ht).1, (g2 t ht).2⟩)
theorem t_run {q w n m : Nat} {T P F G : Nat → Nat} {a : Nat → Int32} {Post : Int32 → Int32 → Int32 → Int32 → (Nat → Int32) → Int32 → (Nat → Int32) → (Nat → Int32) → Prop} {k25 : Int32 → Int32 → Int32 → Int32 → (Nat → Int32) → Int32 → (Nat → Int32) → (Nat → Int32) → Prop} (hT : TextC q T a) (hx : HX q (nN w) a Post k25) (W : TW q T w n m P F G)
    (hok : ∀ s1 pu fi se, (∀ t, t < n → pu t = nN (P t)) → (∀ t, t < m → fi t = nN (F t) ∧ se t = nN (G t)) → Post (-9) s1 (nN w) (nN n) pu (nN m) fi se) :
    (∀ (N j : Nat) (pu fi se : Nat → Int32), m - j < N → j ≤ m → (∀ t, t < n → pu t = nN (P t)) → (∀ t, t < j → fi t = nN (F t) ∧ se t = nN (G t)) → k25 (nN (n + j)) 1 (nN (2 + 5 * n + 3 * j)) (nN n) pu (nN j) fi se) ∧
    (∀ (N i : Nat) (pu fi se : Nat → Int32), n - i < N → i ≤ n → (∀ t, t < i → pu t = nN (P t)) → k25 (nN i) 1 (nN (2 + 5 * i)) (nN i) pu (nN 0) fi se) := by
  obtain ⟨h1, h2, h3, h4, h5, h6, h7, h8, h9⟩ := W
  have part2 : ∀ (N j : Nat) (pu fi se : Nat → Int32), m - j < N → j ≤ m → (∀ t, t < n → pu t = nN (P t)) → (∀ t, t < j → fi t = nN (F t) ∧ se t = nN (G t)) → k25 (nN (n + j)) 1 (nN (2 + 5 * n + 3 * j)) (nN n) pu (nN j) fi se := by
    intro N
    induction N with
    | zero => intro j pu fi se g; omega
    | succ N ih =>
      intro j pu fi se g1 g2 g3 g4
      apply hx
      unfold xB
      have l96 : ((96 : Int32) ≤ nN (n + j)) ↔ 96 ≤ n + j := by rw [show (96 : Int32) = nN 96 from rfl, n_le (by omega) (by omega)]
      have l2 : (nN n < (2 : Int32)) ↔ n < 2 := by rw [show (2 : Int32) = nN 2 from rfl, n_lt (by omega) (by omega)]
      have lq : (nN q ≤ nN (2 + 5 * n + 3 * j)) ↔ q ≤ 2 + 5 * n + 3 * j := n_le (by omega) (by omega)
      rw [l96, l2, lq, show nN (n + j) + 1 = nN (n + (j + 1)) from n_add _ 1]
      refine ⟨fun cc => by omega, fun _ => ⟨fun c1 => absurd c1 one_ne, fun _ => ⟨fun cq => ⟨fun c1 => absurd c1 one_ne, fun _ => ⟨fun cn => by omega, fun cn => ?_⟩⟩, fun cq => ?_⟩⟩⟩
      · have e : j = m := by omega
        subst e
        exact hok _ pu fi se g3 g4
      · have hj : j < m := by omega
        obtain ⟨f1, f2, f3, f4, f5, f6⟩ := h9 j hj
        refine ok_readPart hT (by omega) (by omega) (by omega) (fun a1 => by omega) (fun a1 => by omega) (fun a1 a2 a3 a4 a5 a6 => ?_) (fun a1 a2 a3 a4 => ?_) (fun a1 a2 a3 a4 a5 => ?_) (fun a1 a2 => absurd ⟨f1, h2, by omega⟩ a2)
        · rw [show 2 + 5 * n + 3 * j + 3 = 2 + 5 * n + 3 * (j + 1) by omega, show T (2 + 5 * n + 3 * j + 1) - 48 = F j by omega, show T (2 + 5 * n + 3 * j + 2) - 48 = G j by omega]
          refine ih (j + 1) pu _ _ (by omega) (by omega) g3 (fun t ht => ?_)
          unfold upd
          by_cases e : t = j
          · rw [if_pos e, if_pos e, e]; exact ⟨rfl, rfl⟩
          · rw [if_neg e, if_neg e]; exact g4 t (by omega)
        · exact absurd ⟨by omega, by omega, by omega⟩ a4
        · exact absurd ⟨⟨by omega, by omega, by omega⟩, by omega⟩ a5
  refine ⟨part2, ?_⟩
  intro N
  induction N with
  | zero => intro i pu fi se g; omega
  | succ N ih =>
    intro i pu fi se g1 g2 g3
    rcases Nat.lt_or_ge i n with hi | hi
    · apply hx
      unfold xB
      have l96 : ((96 : Int32) ≤ nN i) ↔ 96 ≤ i := by rw [show (96 : Int32) = nN 96 from rfl, n_le (by omega) (by omega)]
      have lq : (nN q ≤ nN (2 + 5 * i)) ↔ q ≤ 2 + 5 * i := n_le (by omega) (by omega)
      rw [l96, lq, show nN i + 1 = nN (i + 1) from n_add _ 1]
      refine ⟨fun cc => by omega, fun _ => ⟨fun c1 => absurd c1 one_ne, fun _ => ⟨fun cq => by omega, fun cq => ?_⟩⟩⟩
      obtain ⟨f1, f2, f3⟩ := h8 i hi
      have fd : ∀ t, t < 4 → fgd q T 10 (2 + 5 * i + 1 + t) := fun t ht => ⟨by omega, (f2 t ht).1, (f2 t ht).2⟩
      refine ok_readPart hT (by omega) (by omega) (by omega) (fun a1 a2 a3 => ?_) (fun a1 a2 j a3 a4 a5 => absurd (fd j a3) a5) (fun a1 => by omega) (fun a1 => by omega) (fun a1 => by omega) (fun a1 a2 => absurd ⟨f1, by omega⟩ a1)
      rw [show 2 + 5 * i + 5 = 2 + 5 * (i + 1) by omega, ← f3]
      refine ih (i + 1) _ fi se (by omega) (by omega) (fun t ht => ?_)
      unfold upd
      by_cases e : t = i
      · rw [if_pos e, e]
      · rw [if_neg e]; exact g3 t (by omega)
    · have e : i = n := by omega
      subst e
      exact part2 (m + 1) 0 pu fi se (by omega) (by omega) g3 (fun t ht => absurd ht (by omega))
theorem sv_find {q w n m : Nat} {T P F G : Nat → Nat} {a pu fi se : Nat → Int32} {v1 v2 v3 v4 : Int32} {Post : Int32 → Int32 → Int32 → Int32 → (Nat → Int32) → Int32 → (Nat → Int32) → (Nat → Int32) → Prop} (hT : TextC q T a) (W : TW q T w n m P F G)
    (hok : ∀ s1 pu fi se, (∀ t, t < n → pu t = nN (P t)) → (∀ t, t < m → fi t = nN (F t) ∧ se t = nN (G t)) → Post (-9) s1 (nN w) (nN n) pu (nN m) fi se) : wp_X6_findFault (nN q) v1 v2 v3 a pu v4 fi se Post := by
  have W' := W
  obtain ⟨h1, h2, h3, h4, h5, h6, h7, h8, h9⟩ := W'
  unfold wp_X6_findFault
  unfold wp_X6_readLaw
  refine ok_nextIs (c := 76) (p := 0) hT (by omega) (by omega) (fun g1 g2 => ⟨fun _ => ?_, fun c => absurd c one_ne⟩) (fun g => absurd ⟨by omega, h6⟩ g)
  refine ok_readFigure (c := 4) (p := 1) hT (by omega) (by omega) (fun f1 => ⟨fun c => ?_, fun _ => ?_⟩) (fun f1 => absurd ⟨by omega, by omega, by omega⟩ f1)
  · exfalso
    rw [show (0 : Int32) = nN 0 from rfl, n_lt (by omega) (by omega)] at c
    omega
  · rw [show T 1 - 48 = w by omega]
    intro k25 hx
    exact (t_run hT hx W hok).2 (n + 1) 0 pu fi se (by omega) (by omega) (fun t ht => absurd ht (by omega))
theorem sv_findE {T : Nat → Nat} {a pu fi se : Nat → Int32} {v1 v2 v3 v4 : Int32} {Post : Int32 → Int32 → Int32 → Int32 → (Nat → Int32) → Int32 → (Nat → Int32) → (Nat → Int32) → Prop} (hT : TextC 0 T a) (hok : ∀ s1 s2 s3 s4 s5 s6 s7, Post 0 s1 s2 s3 s4 s5 s6 s7) : wp_X6_findFault (nN 0) v1 v2 v3 a pu v4 fi se Post := by
  unfold wp_X6_findFault
  unfold wp_X6_readLaw
  refine ok_nextIs (c := 76) (p := 0) hT (by omega) (by omega) (fun g1 g2 => by omega) (fun g => ⟨fun c => absurd rfl c, fun _ => ?_⟩)
  intro k25 hx
  exact x_bad (q := 0) hx (hok _ _ _ _ _ _ _)
/-- the text is empty, or a town's -/
def TF (q : Nat) (T : Nat → Nat) : Prop := q = 0 ∨ ∃ w n m P F G, TW q T w n m P F G
theorem sv_fault {q : Nat} {T : Nat → Nat} {a pu fi se : Nat → Int32} {v1 v2 v3 v4 : Int32} {Post : Int32 → Int32 → Int32 → Int32 → (Nat → Int32) → Int32 → (Nat → Int32) → (Nat → Int32) → Prop} (hT : TextC q T a) (hF : TF q T) (hok : ∀ s1 s2 s3 s4 s5 s6 s7, Post (if q = 0 then 0 else -9) s1 s2 s3 s4 s5 s6 s7) : wp_X8_fault (nN q) v1 v2 v3 a pu v4 fi se Post := by
  unfold wp_X8_fault
  rcases hF with rfl | ⟨w, n, m, P, F, G, W⟩
  · exact sv_findE hT (fun s1 s2 s3 s4 s5 s6 s7 => hok s1 s2 s3 s4 s5 s6 s7)
  · refine sv_find hT W (fun s1 pu fi se _ _ => ?_)
    have hq : q ≠ 0 := by have := W.2.2.2.2.1; omega
    have := hok s1 (nN w) (nN n) pu (nN m) fi se
    rw [if_neg hq] at this
    exact this
theorem sv_town {q w n m : Nat} {T P F G : Nat → Nat} {a tpu tfi tse : Nat → Int32} {tpl tlw tpe tsz : Int32} {dsz npe nlw nma nse ff sf : Int32} {df ds npu : Nat → Int32} {Post : Int32 → Int32 → Int32 → Int32 → (Nat → Int32) → Int32 → (Nat → Int32) → (Nat → Int32) → Int32 → (Nat → Int32) → (Nat → Int32) → Int32 → Int32 → Int32 → Int32 → (Nat → Int32) → Int32 → Int32 → Prop} (hT : TextC q T a) (W : TW q T w n m P F G)
    (h : ∀ s1 s2 s3 s4 s5 s6 s7 df ds npu, DayC n m F G df ds → (∀ t, t < n → npu t = nN (P t)) → Post (nN n) s1 s2 s3 s4 s5 s6 s7 (nN m) df ds (nN n) (nN w) 0 0 npu 0 0) : wp_X8_town (nN q) tpl tlw tpe a tpu tsz tfi tse dsz df ds npe nlw nma nse npu ff sf Post := by
  have W' := W
  obtain ⟨h1, h2, h3, h4, h5, h6, h7, h8, h9⟩ := W'
  unfold wp_X8_town
  refine sv_find hT W (fun s1 tpu2 tfi2 tse2 g1 g2 => ⟨fun _ => ?_, fun c => absurd rfl c⟩)
  unfold wp_X1_beginTown wp_X2_become
  refine h _ _ _ _ _ _ _ _ _ _ ⟨by omega, fun i hi => ?_, fun i hi => ?_⟩ (fun t ht => ?_)
  · obtain ⟨f1, f2, f3, f4, f5, f6⟩ := h9 i hi
    exact ⟨f4, f5, f6⟩
  · rw [show Int32.toNatClampNeg (16 : Int32) = 16 from rfl, cpy_lo (by omega), cpy_lo (by omega)]
    exact g2 i hi
  · rw [show Int32.toNatClampNeg (8 : Int32) = 8 from rfl, cpy_lo (by omega)]
    exact g1 t ht
/-! bytes that are written -/
theorem sv_write {q m : Nat} {T : Nat → Nat} {a : Nat → Int32} {v : Int64} {Post : Int32 → Int32 → (Nat → Int32) → Prop} (hT : TextC q T a) (hm1 : 1 ≤ m) (hm8 : m ≤ 8) (hq : q + m ≤ 96) (hv : ∀ j, j < m → T (q + j) = byteN v (m - 1 - j)) (h : ∀ a', TextC (q + m) T a' → Post (nN (q + m)) (nN (q + m)) a') : wp_X8_write (nN m) v (nN q) a Post := by
  unfold wp_X8_write
  rw [show (nN m < (1 : Int32)) = (nN m < nN 1) from rfl, n_lt (by omega) (by omega), show (nN m ≤ (8 : Int32)) = (nN m ≤ nN 8) from rfl, n_le (by omega) (by omega), n_add, show (nN (q + m) ≤ (96 : Int32)) = (nN (q + m) ≤ nN 96) from rfl, n_le (by omega) (by omega), show nN m - (1 : Int32) = iI ((m : Int) - 1) from i_sub m 1]
  refine ⟨fun c => by omega, fun _ => ⟨fun _ => ⟨fun _ => ?_, fun c => absurd hq c⟩, fun c => absurd hm8 c⟩⟩
  intro k hk
  have key : ∀ (j : Nat) (q1 : Nat) (a1 : Nat → Int32), j ≤ m → q1 + j = q + m → TextC q1 T a1 → k (iI ((j : Int) - 1)) (nN q1) a1 := by
    intro j
    induction j with
    | zero =>
      intro q1 a1 g1 g2 g3
      apply hk
      rw [show (0 : Int32) = iI 0 from rfl, i_lt (by omega) (by omega) (by omega) (by omega)]
      refine ⟨fun _ => ?_, fun c => by omega⟩
      have e : q1 = q + m := by omega
      subst e
      exact h a1 g3
    | succ j ih =>
      intro q1 a1 g1 g2 g3
      have hq1 := g3.1
      apply hk
      rw [show (((j + 1 : Nat) : Int) - 1) = ((j : Nat) : Int) by omega]
      rw [show (0 : Int32) = iI 0 from rfl, i_lt (by omega) (by omega) (by omega) (by omega)]
      refine ⟨fun c => by omega, fun _ => ?_⟩
      have hb := byte8 v (k := j) (by omega)
      unfold wp_X6_add
      have m96 : ((96 : Int32) ≤ nN q1) ↔ 96 ≤ q1 := by rw [show (96 : Int32) = nN 96 from rfl, n_le (by omega) (by omega)]
      rw [m96, n_nat (by omega), show nN q1 + 1 = nN (q1 + 1) from n_add _ 1]
      refine ⟨fun c => by omega, fun _ => ⟨n_in (by omega) (by omega), ?_⟩⟩
      have hb2 := byteN_le v j
      have ht : T q1 = byteN v j := by
        have := hv (m - 1 - j) (by omega)
        rw [show q + (m - 1 - j) = q1 by omega, show m - 1 - (m - 1 - j) = j by omega] at this
        exact this
      rw [hb, show (-1 : Int32) = iI (-1) from rfl, i_add, show ((j : Nat) : Int) + -1 = (j : Int) - 1 by omega]
      refine ih (q1 + 1) _ (by omega) (by omega) ?_
      obtain ⟨f1, f2, f3, f4⟩ := g3
      have fin : ∀ i, i < q1 + 1 → upd a1 q1 (nN (byteN v j)) i = nN (T i) := by
        intro i hi
        unfold upd
        by_cases e : i = q1
        · rw [if_pos e, e, ht]
        · rw [if_neg e]; exact f3 i (by omega)
      refine ⟨by omega, fun i hi => ?_, fin, fin⟩
      by_cases e : i = q1
      · rw [e, ht]; exact hb2
      · exact f2 i (by omega)
  exact key m q a (Nat.le_refl m) rfl hT
theorem l_of {w : Nat} (hw : w ≤ 99999) : Int32.toInt64 (nN w) = Int64.ofInt (w : Int) := by
  rw [← Int64.ofInt_toInt (Int32.toInt64 (nN w)), l_int (by omega) (by omega)]
theorem byte_of {z k : Nat} (hz : z < 4611686018427387904) : byteN (Int64.ofInt (z : Int)) k = z / 2 ^ (8 * k) % 256 := by
  unfold byteN
  have e : (Int64.ofInt (z : Int)).toBitVec.toNat = z := by
    show (BitVec.ofInt 64 (z : Int)).toNat = z
    rw [BitVec.toNat_ofInt]
    omega
  rw [e]
/-- the text of a town, byte by byte -/
def TT (w n : Nat) (D F G : Nat → Nat) : Nat → Nat := fun t => if t = 0 then 76 else if t = 1 then 48 + w else if t < 2 + 5 * n then (if (t - 2) % 5 = 0 then 80 else D (t - 2)) else if (t - (2 + 5 * n)) % 3 = 0 then 77 else if (t - (2 + 5 * n)) % 3 = 1 then 48 + F ((t - (2 + 5 * n)) / 3) else 48 + G ((t - (2 + 5 * n)) / 3)
theorem TT_p {w n : Nat} {D F G : Nat → Nat} {i j : Nat} (hi : i < n) (hj : j < 5) : TT w n D F G (2 + 5 * i + j) = if j = 0 then 80 else D (5 * i + j) := by
  unfold TT
  rw [if_neg (by omega), if_neg (by omega), if_pos (by omega), show 2 + 5 * i + j - 2 = 5 * i + j by omega]
  by_cases h : j = 0
  · rw [if_pos (by omega), if_pos h]
  · rw [if_neg (by omega), if_neg h]
theorem TT_m {w n : Nat} {D F G : Nat → Nat} {i j : Nat} (hj : j < 3) : TT w n D F G (2 + 5 * n + 3 * i + j) = if j = 0 then 77 else if j = 1 then 48 + F i else 48 + G i := by
  unfold TT
  rw [if_neg (by omega), if_neg (by omega), if_neg (by omega), show 2 + 5 * n + 3 * i + j - (2 + 5 * n) = 3 * i + j by omega]
  rcases (show j = 0 ∨ j = 1 ∨ j = 2 by omega) with rfl | rfl | rfl
  · rw [if_pos (by omega), if_pos rfl]
  · rw [if_neg (by omega), if_pos (by omega), if_neg (by omega), if_pos rfl, show (3 * i + 1) / 3 = i by omega]
  · rw [if_neg (by omega), if_neg (by omega), if_neg (by omega), if_neg (by omega), show (3 * i + 2) / 3 = i by omega]
theorem TT_W {w n m : Nat} {D F G : Nat → Nat} (hw : w ≤ 3) (hn : 2 ≤ n) (hn5 : n ≤ 5) (hm : m ≤ 5) (hD : ∀ t, 48 ≤ D t ∧ D t < 58) (hFG : ∀ j, j < m → F j < n ∧ G j < n ∧ F j ≠ G j) : TW (2 + 5 * n + 3 * m) (TT w n D F G) w n m (fun i => dv (TT w n D F G) (2 + 5 * i + 1) 4) F G := by
  refine ⟨hw, hn, hn5, hm, rfl, rfl, ?_, fun i hi => ⟨?_, fun t ht => ?_, rfl⟩, fun j hj => ⟨?_, ?_, ?_, (hFG j hj).1, (hFG j hj).2.1, (hFG j hj).2.2⟩⟩
  · unfold TT
    rw [if_neg (by omega), if_pos rfl]
  · have := TT_p (w := w) (D := D) (F := F) (G := G) hi (show 0 < 5 by omega)
    rw [if_pos rfl] at this
    exact this
  · have := TT_p (w := w) (D := D) (F := F) (G := G) hi (show 1 + t < 5 by omega)
    rw [if_neg (by omega), show 2 + 5 * i + (1 + t) = 2 + 5 * i + 1 + t by omega] at this
    rw [this]
    exact hD _
  · have := TT_m (w := w) (n := n) (D := D) (F := F) (G := G) (i := j) (show 0 < 3 by omega)
    rw [if_pos rfl] at this
    exact this
  · have := TT_m (w := w) (n := n) (D := D) (F := F) (G := G) (i := j) (show 1 < 3 by omega)
    rw [if_neg (by omega), if_pos rfl] at this
    exact this
  · have := TT_m (w := w) (n := n) (D := D) (F := F) (G := G) (i := j) (show 2 < 3 by omega)
    rw [if_neg (by omega), if_neg (by omega)] at this
    exact this
