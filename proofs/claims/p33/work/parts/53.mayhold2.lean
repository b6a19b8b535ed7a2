/-! MAY HOLD: both -/
theorem no_fit {q N : Nat} {U V : Nat → Nat} (h : ∀ p, p ≤ N → ¬ fits q U V p) : nN (tot (fb q U V) (N + 1)) = 0 ∧ iI (lea (fb q U V) (N + 1)) = -9 ∧ iI (gre (fb q U V) (N + 1)) = -9 := by
  have hf : ∀ p, p < N + 1 → fb q U V p = false := fun p hp => fb_false.mpr (h p (by omega))
  refine ⟨?_, ?_, ?_⟩
  · rw [tot_cnt, hf 0 (by omega), if_neg (by decide), cnt_none N (fun m _ hm => hf m (by omega))]; rfl
  · rw [lea_none _ hf]; rfl
  · rw [gre_none _ hf]; rfl
theorem sh_zero (a : Nat) : sh 0 a = 0 := by unfold sh; rw [if_pos (Or.inl rfl)]
theorem ok_X5find {q N : Nat} {U V : Nat → Nat} {sa ga A B : Nat → Int32} {v1 v2 v3 v4 v5 : Int32} {Post : Int32 → Int32 → Int32 → Int32 → Int32 → (Nat → Int32) → (Nat → Int32) → Prop} (hq : q ≤ 8) (hN : N ≤ 99999) (hUV : ∀ j, j < q → 1 ≤ U j ∧ U j ≤ 99999 ∧ V j ≤ 99999) (hs : ∀ j, j < q → sa j = nN (U j) ∧ ga j = nN (V j)) (h : ∀ u1 u2 A' B', Post u1 u2 (nN (tot (fb q U V) (N + 1))) (iI (lea (fb q U V) (N + 1))) (iI (gre (fb q U V) (N + 1))) A' B') : wp_X5_find (nN N) v1 v2 v3 v4 v5 A B (nN q) sa ga Post := by
  have none : (∀ p, p ≤ N → ¬ fits q U V p) → ∀ u1 u2 A' B', Post u1 u2 0 (-9) (-9) A' B' := by
    intro hn u1 u2 A' B'
    have := h u1 u2 A' B'
    obtain ⟨e1, e2, e3⟩ := no_fit hn
    rw [e1, e2, e3] at this
    exact this
  unfold wp_X5_find
  refine ok_countNothing hq (fun j hj => (hUV j hj).2.2) (fun j hj => (hs j hj).2) (fun e he1 he2 he3 => ?_)
  have z0 : (nN e = 0) ↔ e = 0 := by rw [show (0 : Int32) = nN 0 from rfl, n_eq (by omega) (by omega)]
  have zq : (nN q = 0) ↔ q = 0 := by rw [show (0 : Int32) = nN 0 from rfl, n_eq (by omega) (by omega)]
  rw [n_eq (by omega) (by omega), z0, zq]
  refine ⟨fun c => ⟨fun c2 => none (fun p hp hf => ?_) _ _ _ _, fun c2 => ?_⟩, fun c => ⟨fun c2 => ?_, fun c2 => ?_⟩⟩
  · rcases Nat.eq_zero_or_pos p with rfl | hpos
    · exact c (he2.mpr (fun j hj => by rw [← hf j hj, sh_zero]))
    · exact c2 (he3.mpr (fun j hj => by rw [← hf j hj]; have := sh_pos hpos (hUV j hj).1; omega))
  · have hV := he3.mp c2
    have hq1 : 1 ≤ q := by omega
    have zero : ¬ fits q U V 0 := fun hf => hV 0 (by omega) (by rw [← hf 0 (by omega), sh_zero])
    refine ok_findUnit hq hq1 hN hUV hV hs (fun hno u => ⟨fun _ => none (fun p hp hf => ?_) _ _ _ _, fun z => absurd rfl z⟩) (fun L hL hLN hd hmin => ⟨fun z => absurd z one_ne, fun _ => ?_⟩)
    · rcases Nat.eq_zero_or_pos p with rfl | hpos
      · exact zero hf
      · exact hno p hpos hp hf
    · have hLp : ∀ p, 1 ≤ p → fits q U V p → L ∣ p := by
        intro p hp hf
        refine hmin p (fun j hj => ?_)
        have := hf j hj
        rw [sh_gcd hp (hUV j hj).1] at this
        rw [← this]; exact Nat.gcd_dvd_left _ _
      refine ok_findPrimes hq hL (by omega) hUV hV hd hs (fun hbad f A' B' => ⟨fun _ => none (fun p hp hf => ?_) _ _ _ _, fun z => absurd rfl z⟩) (fun f prm A' B' hPR hc hso => ⟨fun z => absurd z one_ne, fun _ => ?_⟩)
      · rcases Nat.eq_zero_or_pos p with rfl | hpos
        · exact zero hf
        · obtain ⟨j, r, hj, hr, hru, hrl⟩ := hbad
          obtain ⟨m, rfl⟩ := hLp p hpos hf
          have h1 := hf j hj
          rw [sh_gcd hpos (hUV j hj).1] at h1
          have h2 : V j * r ∣ L * m := by
            have := Nat.mul_dvd_mul_left (V j) hrl
            rw [Nat.mul_div_cancel' (hd j hj).1] at this
            exact Nat.dvd_trans this (Nat.dvd_mul_right L m)
          have h3 : V j * r ∣ U j := by
            have := Nat.mul_dvd_mul_left (V j) hru
            rwa [Nat.mul_div_cancel' (hd j hj).2] at this
          have h4 := Nat.dvd_gcd h2 h3
          rw [h1] at h4
          have hv := hV j hj
          have h5 := Nat.le_of_dvd (by omega) h4
          have h6 := Nat.mul_le_mul_left (V j) hr.1
          omega
      · have zL : ¬ nN L = 0 := by rw [show (0 : Int32) = nN 0 from rfl, n_eq (by omega) (by omega)]; omega
        have hu1 : 1 ≤ N / L := (Nat.le_div_iff_mul_le hL).mpr (by omega)
        have hu2 : N / L * L ≤ N := Nat.div_mul_le_self N L
        have fm : ∀ {m}, 1 ≤ m → (fits q U V (L * m) ↔ fre prm f m = true) := fun hm => fits_mul hL hUV hV hd (fun i hi => (hPR.2.1 i hi).2.1) hc hso hm
        rw [n_div (by omega) (by omega) (by omega)]
        refine ⟨zL, ok_noteMultiples hPR hu1 (by omega) hL (fun last l1 l2 l3 l4 => ?_)⟩
        have hlast : L * last ≤ N := by
          have := Nat.mul_le_mul_left L l2
          rw [Nat.mul_comm L (N / L)] at this
          omega
        have e1 : tot (fb q U V) (N + 1) = cnt (fre prm f) (N / L) := by
          rw [tot_cnt, fb_false.mpr zero, if_neg (by decide), Nat.zero_add]
          rw [← cnt_mul (f := fb q U V) (g := fre prm f) hL (fun t ht => by
            rw [Bool.eq_iff_iff, fb_true]; exact fm ht) N]
          refine cnt_congr N (fun m hm1 hm2 => ?_)
          by_cases hf : fits q U V m
          · simp only [fb_true.mpr hf, hLp m hm1 hf, decide_true, Bool.and_self]
          · simp only [fb_false.mpr hf, Bool.and_false]
        have e2 : lea (fb q U V) (N + 1) = (L : Int) := by
          refine lea_at ?_ (fun p hp => ?_) _ (by omega)
          · have : fits q U V (L * 1) := (fm (Nat.le_refl 1)).mpr ((fre_iff prm 1 f).mpr (fun i hi hdv => by
              have := (hPR.2.1 i hi).2.1.1
              have := Nat.le_of_dvd (by omega) hdv
              omega))
            rw [Nat.mul_one] at this
            exact fb_true.mpr this
          · refine fb_false.mpr (fun hf => ?_)
            rcases Nat.eq_zero_or_pos p with rfl | hpos
            · exact zero hf
            · have := Nat.le_of_dvd hpos (hLp p hpos hf)
              omega
        have e3 : gre (fb q U V) (N + 1) = ((L * last : Nat) : Int) := by
          refine gre_at (fb_true.mpr ((fm l1).mpr l3)) _ (by omega) (fun p hp1 hp2 => fb_false.mpr (fun hf => ?_))
          obtain ⟨m, rfl⟩ := hLp p (by omega) hf
          have hm1 : last < m := by
            rcases Nat.lt_or_ge last m with z | z
            · exact z
            · have := Nat.mul_le_mul_left L z
              omega
          have hm2 : m ≤ N / L := (Nat.le_div_iff_mul_le hL).mpr (by rw [Nat.mul_comm]; omega)
          have h5 := (fm (show 1 ≤ m by omega)).mp hf
          rw [l4 m hm1 hm2] at h5
          exact absurd h5 (by decide)
        have := h (nN f) (nN L) A' B'
        rw [e1, e2, e3] at this
        exact this
  · unfold wp_X5_noteEmptyPurse
    have hV := he2.mp c
    have hf0 : fits q U V 0 := fun j hj => by rw [hV j hj, sh_zero]
    have hfp : ∀ p, 1 ≤ p → ¬ fits q U V p := fun p hp hf => by
      have h1 := hf 0 (by omega)
      rw [hV 0 (by omega)] at h1
      have := sh_pos hp (hUV 0 (by omega)).1
      omega
    have e1 : tot (fb q U V) (N + 1) = 1 := by
      rw [tot_cnt, if_pos (fb_true.mpr hf0), cnt_none N (fun m hm _ => fb_false.mpr (hfp m hm))]
    have e2 : lea (fb q U V) (N + 1) = ((0 : Nat) : Int) := lea_at (fb_true.mpr hf0) (fun p hp => by omega) _ (by omega)
    have e3 : gre (fb q U V) (N + 1) = ((0 : Nat) : Int) := gre_at (fb_true.mpr hf0) _ (by omega) (fun p hp1 _ => fb_false.mpr (hfp p hp1))
    have := h v1 v2 A B
    rw [e1, e2, e3] at this
    exact this
  · unfold wp_X5_noteEmptyPurse
    have hfa : ∀ p, fits q U V p := fun p j hj => by omega
    have e1 : tot (fb q U V) (N + 1) = N + 1 := by
      rw [tot_cnt, if_pos (fb_true.mpr (hfa 0)), cnt_all N (fun m _ _ => fb_true.mpr (hfa m))]; omega
    have e2 : lea (fb q U V) (N + 1) = ((0 : Nat) : Int) := lea_at (fb_true.mpr (hfa 0)) (fun p hp => by omega) _ (by omega)
    have e3 : gre (fb q U V) (N + 1) = ((N : Nat) : Int) := gre_at (fb_true.mpr (hfa N)) _ (by omega) (fun p hp1 hp2 => by omega)
    have := h v1 v2 A B
    rw [e1, e2, e3] at this
    rw [show nN N + (1 : Int32) = nN (N + 1) from n_add _ 1]
    exact this
