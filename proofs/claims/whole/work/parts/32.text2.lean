/-! THE TEXT read: class and reference side by side -/
def mB (v_length : Int32) (a_text : Nat → Int32) (Post : Int32 → (Int32) → (Int32) → (Int32) → (Int32) → (Int32) → (Nat → Int32) → (Nat → Int32) → Prop) (k57 : (Int32) → (Int32) → (Int32) → (Int32) → (Int32) → (Nat → Int32) → (Nat → Int32) → Prop) (v_readLaw_57 : Int32) (v_readMany_57 : Int32) (v_readMeetings_57 : Int32) (v_at_57 : Int32) (v_faultAt_57 : Int32) (a_readPurses_57 : Nat → Int32) (a_readDay_57 : Nat → Int32) : Prop := ((¬ v_faultAt_57 = (-9 : Int32) → ((¬ v_faultAt_57 = (-9 : Int32) → (Post v_faultAt_57 v_readLaw_57 v_readMany_57 v_readMeetings_57 v_at_57 v_faultAt_57 a_readPurses_57 a_readDay_57)) ∧ (v_faultAt_57 = (-9 : Int32) → (((2 : Int32) ≤ v_readMany_57 → (Post v_faultAt_57 v_readLaw_57 v_readMany_57 v_readMeetings_57 v_at_57 v_faultAt_57 a_readPurses_57 a_readDay_57)) ∧ (¬ (2 : Int32) ≤ v_readMany_57 → (Post v_length v_readLaw_57 v_readMany_57 v_readMeetings_57 v_at_57 v_faultAt_57 a_readPurses_57 a_readDay_57)))))) ∧ (v_faultAt_57 = (-9 : Int32) → ((v_length ≤ v_at_57 → ((¬ v_faultAt_57 = (-9 : Int32) → (Post v_faultAt_57 v_readLaw_57 v_readMany_57 v_readMeetings_57 v_at_57 v_faultAt_57 a_readPurses_57 a_readDay_57)) ∧ (v_faultAt_57 = (-9 : Int32) → (((2 : Int32) ≤ v_readMany_57 → (Post v_faultAt_57 v_readLaw_57 v_readMany_57 v_readMeetings_57 v_at_57 v_faultAt_57 a_readPurses_57 a_readDay_57)) ∧ (¬ (2 : Int32) ≤ v_readMany_57 → (Post v_length v_readLaw_57 v_readMany_57 v_readMeetings_57 v_at_57 v_faultAt_57 a_readPurses_57 a_readDay_57)))))) ∧ (¬ v_length ≤ v_at_57 → (vp_in v_at_57 96 ∧ ((¬ (a_text (Int32.toNatClampNeg v_at_57)) = (80 : Int32) → (vp_in v_at_57 96 ∧ ((¬ (a_text (Int32.toNatClampNeg v_at_57)) = (77 : Int32) → (k57 v_readLaw_57 v_readMany_57 v_readMeetings_57 v_at_57 v_at_57 a_readPurses_57 a_readDay_57)) ∧ ((a_text (Int32.toNatClampNeg v_at_57)) = (77 : Int32) → ((v_readMany_57 ≤ (1 : Int32) → (k57 v_readLaw_57 v_readMany_57 v_readMeetings_57 v_at_57 v_at_57 a_readPurses_57 a_readDay_57)) ∧ (¬ v_readMany_57 ≤ (1 : Int32) → (((16 : Int32) ≤ v_readMeetings_57 → (k57 v_readLaw_57 v_readMany_57 v_readMeetings_57 v_at_57 v_at_57 a_readPurses_57 a_readDay_57)) ∧ (¬ (16 : Int32) ≤ v_readMeetings_57 → (wp_X9_figure (v_readMany_57 - (1 : Int32)) (-9 : Int32) v_length (v_at_57 + (1 : Int32)) v_faultAt_57 a_text (fun (r212 : Int32) (v_at_212 : Int32) (v_faultAt_212 : Int32) => (vp_in ((2 : Int32) * v_readMeetings_57) 32 ∧ (wp_X9_figure (v_readMany_57 - (1 : Int32)) r212 v_length v_at_212 v_faultAt_212 a_text (fun (r248 : Int32) (v_at_248 : Int32) (v_faultAt_248 : Int32) => (vp_in (((2 : Int32) * v_readMeetings_57) + (1 : Int32)) 32 ∧ (k57 v_readLaw_57 v_readMany_57 (v_readMeetings_57 + (1 : Int32)) v_at_248 v_faultAt_248 a_readPurses_57 (upd (upd a_readDay_57 (Int32.toNatClampNeg ((2 : Int32) * v_readMeetings_57)) r212) (Int32.toNatClampNeg (((2 : Int32) * v_readMeetings_57) + (1 : Int32))) r248)))))))))))))))) ∧ ((a_text (Int32.toNatClampNeg v_at_57)) = (80 : Int32) → (((8 : Int32) ≤ v_readMany_57 → (vp_in v_at_57 96 ∧ ((¬ (a_text (Int32.toNatClampNeg v_at_57)) = (77 : Int32) → (k57 v_readLaw_57 v_readMany_57 v_readMeetings_57 v_at_57 v_at_57 a_readPurses_57 a_readDay_57)) ∧ ((a_text (Int32.toNatClampNeg v_at_57)) = (77 : Int32) → ((v_readMany_57 ≤ (1 : Int32) → (k57 v_readLaw_57 v_readMany_57 v_readMeetings_57 v_at_57 v_at_57 a_readPurses_57 a_readDay_57)) ∧ (¬ v_readMany_57 ≤ (1 : Int32) → (((16 : Int32) ≤ v_readMeetings_57 → (k57 v_readLaw_57 v_readMany_57 v_readMeetings_57 v_at_57 v_at_57 a_readPurses_57 a_readDay_57)) ∧ (¬ (16 : Int32) ≤ v_readMeetings_57 → (wp_X9_figure (v_readMany_57 - (1 : Int32)) (-9 : Int32) v_length (v_at_57 + (1 : Int32)) v_faultAt_57 a_text (fun (r212 : Int32) (v_at_212 : Int32) (v_faultAt_212 : Int32) => (vp_in ((2 : Int32) * v_readMeetings_57) 32 ∧ (wp_X9_figure (v_readMany_57 - (1 : Int32)) r212 v_length v_at_212 v_faultAt_212 a_text (fun (r248 : Int32) (v_at_248 : Int32) (v_faultAt_248 : Int32) => (vp_in (((2 : Int32) * v_readMeetings_57) + (1 : Int32)) 32 ∧ (k57 v_readLaw_57 v_readMany_57 (v_readMeetings_57 + (1 : Int32)) v_at_248 v_faultAt_248 a_readPurses_57 (upd (upd a_readDay_57 (Int32.toNatClampNeg ((2 : Int32) * v_readMeetings_57)) r212) (Int32.toNatClampNeg (((2 : Int32) * v_readMeetings_57) + (1 : Int32))) r248)))))))))))))))) ∧ (¬ (8 : Int32) ≤ v_readMany_57 → (∀ k114 : (Int32) → (Int32) → (Int32) → (Int32) → Prop, (∀ (x2_114 : Int32) (x1_114 : Int32) (v_at_114 : Int32) (v_faultAt_114 : Int32), (((4 : Int32) ≤ x2_114 → (vp_in v_readMany_57 8 ∧ (k57 v_readLaw_57 (v_readMany_57 + (1 : Int32)) v_readMeetings_57 v_at_114 v_faultAt_114 (upd a_readPurses_57 (Int32.toNatClampNeg v_readMany_57) x1_114) a_readDay_57))) ∧ (¬ (4 : Int32) ≤ x2_114 → (wp_X9_figure (9 : Int32) (-9 : Int32) v_length v_at_114 v_faultAt_114 a_text (fun (r128 : Int32) (v_at_128 : Int32) (v_faultAt_128 : Int32) => (k114 (x2_114 + 1) (((10 : Int32) * x1_114) + r128) v_at_128 v_faultAt_128))))) → k114 x2_114 x1_114 v_at_114 v_faultAt_114) → k114 (0 : Int32) (0 : Int32) (v_at_57 + (1 : Int32)) v_faultAt_57))))))))))
def HK (q : Nat) (b : Nat → Int32) (Q : Int32 → (Int32) → (Int32) → (Int32) → (Int32) → (Int32) → (Nat → Int32) → (Nat → Int32) → Prop) (k57 : (Int32) → (Int32) → (Int32) → (Int32) → (Int32) → (Nat → Int32) → (Nat → Int32) → Prop) : Prop := ∀ (v_readLaw_57 : Int32) (v_readMany_57 : Int32) (v_readMeetings_57 : Int32) (v_at_57 : Int32) (v_faultAt_57 : Int32) (a_readPurses_57 : Nat → Int32) (a_readDay_57 : Nat → Int32), mB (nN q) b Q k57 v_readLaw_57 v_readMany_57 v_readMeetings_57 v_at_57 v_faultAt_57 a_readPurses_57 a_readDay_57 → k57 v_readLaw_57 v_readMany_57 v_readMeetings_57 v_at_57 v_faultAt_57 a_readPurses_57 a_readDay_57
theorem ok9_figure2 {q p c : Nat} {e : Int} {x y : Int32} {T : Nat → Nat} {a b : Nat → Int32} {Post : Int32 → Int32 → Int32 → Prop} (hx : x = iI ((c : Int) - 1)) (hy : y = iI e) (hT : TextR q T a b) (hp : p ≤ q) (hc0 : 0 < c) (hc : c ≤ 1000) (he : -9 ≤ e) (he2 : e ≤ 1000) (h1 : fgd q T c p → e ≠ (T p : Int) - 48 → Post (nN (T p - 48)) (nN (p + 1)) (-9)) (h0 : ¬ (fgd q T c p ∧ e ≠ (T p : Int) - 48) → Post 0 (nN p) (nN p)) : wp_X9_figure x y (nN q) (nN p) (-9) b Post := by
  subst hx; subst hy
  exact ok9_figure hT hp hc0 hc he he2 h1 h0
theorem m_fault {q f : Nat} {b : Nat → Int32} {Q : Int32 → Int32 → Int32 → Int32 → Int32 → Int32 → (Nat → Int32) → (Nat → Int32) → Prop} {k57 : Int32 → Int32 → Int32 → Int32 → Int32 → (Nat → Int32) → (Nat → Int32) → Prop} (hk : HK q b Q k57) (hf : f ≤ 1000) {rl rm rt at' : Int32} {pu da : Nat → Int32} (h : Q (nN f) rl rm rt at' (nN f) pu da) : k57 rl rm rt at' (nN f) pu da := by
  have hne : ¬ nN f = (-9 : Int32) := by rw [show (-9 : Int32) = iI (-9) from rfl, i_eq (by omega) (by omega) (by omega) (by omega)]; omega
  apply hk
  unfold mB
  exact ⟨fun _ => ⟨fun _ => h, fun c => absurd c hne⟩, fun c => absurd c hne⟩
theorem m_end {q n : Nat} {b : Nat → Int32} {Q : Int32 → Int32 → Int32 → Int32 → Int32 → Int32 → (Nat → Int32) → (Nat → Int32) → Prop} {k57 : Int32 → Int32 → Int32 → Int32 → Int32 → (Nat → Int32) → (Nat → Int32) → Prop} (hk : HK q b Q k57) (hn : n ≤ 8) {rl rt : Int32} {pu da : Nat → Int32} (h2 : 2 ≤ n → Q (-9) rl (nN n) rt (nN q) (-9) pu da) (h0 : n < 2 → Q (nN q) rl (nN n) rt (nN q) (-9) pu da) : k57 rl (nN n) rt (nN q) (-9) pu da := by
  apply hk
  unfold mB
  have l2 : ((2 : Int32) ≤ nN n) ↔ 2 ≤ n := by rw [show (2 : Int32) = nN 2 from rfl, n_le (by omega) (by omega)]
  rw [l2]
  refine ⟨fun c => absurd rfl c, fun _ => ⟨fun _ => ⟨fun c => absurd rfl c, fun _ => ⟨h2, fun c => h0 (by omega)⟩⟩, fun c => absurd ?_ c⟩⟩
  rw [Int32.le_iff_toInt_le]
  exact Int.le_refl _
theorem ok9_part {q p n m w : Nat} {T : Nat → Nat} {a b : Nat → Int32} {Q : Int32 → Int32 → Int32 → Int32 → Int32 → Int32 → (Nat → Int32) → (Nat → Int32) → Prop} {k57 : Int32 → Int32 → Int32 → Int32 → Int32 → (Nat → Int32) → (Nat → Int32) → Prop} (hT : TextR q T a b) (hk : HK q b Q k57) (hp : p < q) (hn : n ≤ 8) (hm : m ≤ 16) {pu da : Nat → Int32}
    (hP1 : T p = 80 → n < 8 → (∀ t, t < 4 → fgd q T 10 (p + 1 + t)) → k57 (nN w) (nN (n + 1)) (nN m) (nN (p + 5)) (-9) (upd pu n (nN (dv T (p + 1) 4))) da)
    (hP0 : T p = 80 → n < 8 → ∀ j, j < 4 → (∀ t, t < j → fgd q T 10 (p + 1 + t)) → ¬ fgd q T 10 (p + 1 + j) → ∀ rm at' pu', k57 (nN w) rm (nN m) at' (nN (p + 1 + j)) pu' da)
    (hM1 : T p = 77 → 2 ≤ n → m < 16 → fgd q T n (p + 1) → fgd q T n (p + 2) → T (p + 1) ≠ T (p + 2) → k57 (nN w) (nN n) (nN (m + 1)) (nN (p + 3)) (-9) pu (upd (upd da (2 * m) (nN (T (p + 1) - 48))) (2 * m + 1) (nN (T (p + 2) - 48))))
    (hM01 : T p = 77 → 2 ≤ n → m < 16 → ¬ fgd q T n (p + 1) → ∀ rt at' da', k57 (nN w) (nN n) rt at' (nN (p + 1)) pu da')
    (hM02 : T p = 77 → 2 ≤ n → m < 16 → fgd q T n (p + 1) → ¬ (fgd q T n (p + 2) ∧ T (p + 1) ≠ T (p + 2)) → ∀ rt at' da', k57 (nN w) (nN n) rt at' (nN (p + 2)) pu da')
    (h0 : ¬ (T p = 80 ∧ n < 8) → ¬ (T p = 77 ∧ 2 ≤ n ∧ m < 16) → k57 (nN w) (nN n) (nN m) (nN p) (nN p) pu da) : k57 (nN w) (nN n) (nN m) (nN p) (-9) pu da := by
  have hq := hT.1
  have hT1 := hT.2.1 p hp
  have l1 : (nN n ≤ (1 : Int32)) ↔ n ≤ 1 := by rw [show (1 : Int32) = nN 1 from rfl, n_le (by omega) (by omega)]
  have l16 : ((16 : Int32) ≤ nN m) ↔ 16 ≤ m := by rw [show (16 : Int32) = nN 16 from rfl, n_le (by omega) (by omega)]
  have l8 : ((8 : Int32) ≤ nN n) ↔ 8 ≤ n := by rw [show (8 : Int32) = nN 8 from rfl, n_le (by omega) (by omega)]
  have lq : (nN q ≤ nN p) ↔ q ≤ p := n_le (by omega) (by omega)
  have e80 : (nN (T p) = (80 : Int32)) ↔ T p = 80 := by rw [show (80 : Int32) = nN 80 from rfl, n_eq (by omega) (by omega)]
  have e77 : (nN (T p) = (77 : Int32)) ↔ T p = 77 := by rw [show (77 : Int32) = nN 77 from rfl, n_eq (by omega) (by omega)]
  apply hk
  unfold mB
  refine ⟨fun c => absurd rfl c, fun _ => ?_⟩
  rw [lq, n_nat (by omega), hT.2.2.2 p hp, e80, e77, l1, l16, l8, n_nat (by omega), show nN p + 1 = nN (p + 1) from n_add _ 1]
  refine ⟨fun c => by omega, fun _ => ⟨n_in (by omega) (by omega), fun c80 => ⟨n_in (by omega) (by omega), fun c77 => h0 (by omega) (by omega), fun c77 => ⟨fun c1 => h0 (by omega) (by omega), fun c1 => ⟨fun c16 => h0 (by omega) (by omega), fun c16 => ?_⟩⟩⟩, fun c80 => ⟨fun c8 => ⟨n_in (by omega) (by omega), fun c77 => h0 (by omega) (by omega), fun c77 => by omega⟩, fun c8 => ?_⟩⟩⟩
  · have e1 : (2 : Int32) * nN m = nN (2 * m) := n_mul 2 m
    have e2 : nN (2 * m) + (1 : Int32) = nN (2 * m + 1) := n_add _ 1
    rw [e1, e2, n_nat (by omega), n_nat (by omega), show nN m + 1 = nN (m + 1) from n_add _ 1, show nN n - (1 : Int32) = iI ((n : Int) - 1) from i_sub _ 1]
    refine ok9_figure2 (c := n) (e := -9) rfl rfl hT (by omega) (by omega) (by omega) (by omega) (by omega) (fun f1 _ => ⟨n_in (by omega) (by omega), ?_⟩) (fun f1 => ⟨n_in (by omega) (by omega), ?_⟩)
    · have f1' := f1
      unfold fgd at f1'
      refine ok9_figure2 (c := n) (e := ((T (p + 1) - 48 : Nat) : Int)) rfl rfl hT (by omega) (by omega) (by omega) (by omega) (by omega) (fun f2 f3 => ⟨n_in (by omega) (by omega), hM1 c77 (by omega) (by omega) f1 f2 (by have e : T (p + 1 + 1) = T (p + 2) := rfl; omega)⟩) (fun f2 => ⟨n_in (by omega) (by omega), hM02 c77 (by omega) (by omega) f1 (fun hh => f2 ⟨hh.1, ?_⟩) _ _ _⟩)
      have g2 := hh.1
      have g3 := hh.2
      unfold fgd at g2
      have e : T (p + 1 + 1) = T (p + 2) := rfl
      omega
    · have f1' : ¬ fgd q T n (p + 1) := by
        intro hh
        refine f1 ⟨hh, ?_⟩
        unfold fgd at hh
        omega
      exact ok9_figureF (by omega) ⟨n_in (by omega) (by omega), hM01 c77 (by omega) (by omega) f1' _ _ _⟩
  · rw [show nN n + 1 = nN (n + 1) from n_add _ 1]
    intro k114 h114
    have bad : ∀ (N j : Nat) (v at' : Int32) (f : Nat), 4 - j < N → j ≤ 4 → f ≤ 1000 → (∀ rm at' pu', k57 (nN w) rm (nN m) at' (nN f) pu' da) → k114 (nN j) v at' (nN f) := by
      intro N
      induction N with
      | zero => intro j v at' f g; omega
      | succ N ih =>
        intro j v at' f g1 g2 g3 g4
        apply h114
        have l4 : ((4 : Int32) ≤ nN j) ↔ 4 ≤ j := by rw [show (4 : Int32) = nN 4 from rfl, n_le (by omega) (by omega)]
        rw [l4, show nN j + 1 = nN (j + 1) from n_add _ 1]
        exact ⟨fun _ => ⟨n_in (by omega) (by omega), g4 _ _ _⟩, fun c => ok9_figureF g3 (ih (j + 1) _ _ _ (by omega) (by omega) g3 g4)⟩
    have key : ∀ (N j : Nat), 4 - j < N → j ≤ 4 → p + 1 + j ≤ q → (∀ t, t < j → fgd q T 10 (p + 1 + t)) → k114 (nN j) (nN (dv T (p + 1) j)) (nN (p + 1 + j)) (-9) := by
      intro N
      induction N with
      | zero => intro j g; omega
      | succ N ih =>
        intro j g1 g2 g3 g4
        apply h114
        have hv := dv_small g2 g4
        have l4 : ((4 : Int32) ≤ nN j) ↔ 4 ≤ j := by rw [show (4 : Int32) = nN 4 from rfl, n_le (by omega) (by omega)]
        rw [l4, show nN j + 1 = nN (j + 1) from n_add _ 1, show (10 : Int32) * nN (dv T (p + 1) j) = nN (10 * dv T (p + 1) j) from n_mul 10 _]
        refine ⟨fun c => ?_, fun c => ok9_figure2 (c := 10) (e := -9) rfl rfl hT g3 (by omega) (by omega) (by omega) (by omega) (fun f1 _ => ?_) (fun f1 => ?_)⟩
        · have e : j = 4 := by omega
          subst e
          exact ⟨n_in (by omega) (by omega), hP1 c80 (by omega) g4⟩
        · rw [n_add, show 10 * dv T (p + 1) j + (T (p + 1 + j) - 48) = dv T (p + 1) (j + 1) by show _ = dv T (p + 1) j * 10 + (T (p + 1 + j) - 48); omega]
          have f1' := f1
          unfold fgd at f1'
          refine ih (j + 1) (by omega) (by omega) (by omega) (fun t ht => ?_)
          by_cases et : t = j
          · rw [et]; exact f1
          · exact g4 t (by omega)
        · have f1' : ¬ fgd q T 10 (p + 1 + j) := by
            intro hh
            refine f1 ⟨hh, ?_⟩
            unfold fgd at hh
            omega
          exact bad 5 (j + 1) _ _ _ (by omega) (by omega) (by omega) (hP0 c80 (by omega) j (by omega) g4 f1')
    exact key 5 0 (by omega) (by omega) (by omega) (fun t ht => absurd ht (by omega))
