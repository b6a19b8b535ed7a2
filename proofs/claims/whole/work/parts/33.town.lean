/-! FAULT and TOWN -/
/-- what the reference's reading of THE TEXT comes to, whatever is asked of it then -/
def R9 (q : Nat) (b : Nat → Int32) (Q : Int32 → Int32 → Int32 → Int32 → Int32 → Int32 → (Nat → Int32) → (Nat → Int32) → Prop) : Prop := ∀ (v1 v2 v3 v4 v5 : Int32) (pu da : Nat → Int32), wp_X9_readText v1 v2 v3 (nN q) v4 v5 pu da b Q
/-- a TOWN read: LAW, people, MEETINGS -/
def TownR (w n m : Nat) (P F G : Nat → Nat) (pu fi se pu' da' : Nat → Int32) : Prop := w ≤ 3 ∧ n ≤ 8 ∧ m ≤ 16 ∧ (∀ t, t < n → P t ≤ 99999 ∧ pu t = nN (P t) ∧ pu' t = nN (P t)) ∧ (∀ t, t < m → F t < n ∧ G t < n ∧ F t ≠ G t ∧ fi t = nN (F t) ∧ se t = nN (G t) ∧ da' (2 * t) = nN (F t) ∧ da' (2 * t + 1) = nN (G t))
theorem TownR.person {w n m v : Nat} {P F G : Nat → Nat} {pu fi se pu' da' : Nat → Int32} (h : TownR w n m P F G pu fi se pu' da') (hn : n < 8) (hv : v ≤ 99999) : TownR w (n + 1) m (setN P n v) F G (upd pu n (nN v)) fi se (upd pu' n (nN v)) da' := by
  obtain ⟨h1, h2, h3, h4, h5⟩ := h
  refine ⟨h1, by omega, h3, fun t ht => ⟨?_, upd_set (fun z => (h4 t z).2.1) ht, upd_set (fun z => (h4 t z).2.2) ht⟩, fun t ht => ?_⟩
  · unfold setN
    by_cases e : t = n
    · rw [if_pos e]; exact hv
    · rw [if_neg e]; exact (h4 t (by omega)).1
  · obtain ⟨a1, a2, a3⟩ := h5 t ht
    exact ⟨by omega, by omega, a3⟩
theorem TownR.meeting {w n m i j : Nat} {P F G : Nat → Nat} {pu fi se pu' da' : Nat → Int32} (h : TownR w n m P F G pu fi se pu' da') (hm : m < 16) (hi : i < n) (hj : j < n) (hij : i ≠ j) : TownR w n (m + 1) P (setN F m i) (setN G m j) pu (upd fi m (nN i)) (upd se m (nN j)) pu' (upd (upd da' (2 * m) (nN i)) (2 * m + 1) (nN j)) := by
  obtain ⟨h1, h2, h3, h4, h5⟩ := h
  refine ⟨h1, h2, by omega, h4, fun t ht => ?_⟩
  have u1 : upd fi m (nN i) t = nN (setN F m i t) := upd_set (fun z => (h5 t z).2.2.2.1) ht
  have u2 : upd se m (nN j) t = nN (setN G m j t) := upd_set (fun z => (h5 t z).2.2.2.2.1) ht
  rw [u1, u2]
  by_cases e : t = m
  · have e1 : setN F m i t = i := by unfold setN; rw [if_pos e]
    have e2 : setN G m j t = j := by unfold setN; rw [if_pos e]
    rw [e1, e2]
    refine ⟨hi, hj, hij, rfl, rfl, ?_, ?_⟩
    · unfold upd; rw [if_neg (by omega), if_pos (by omega)]
    · unfold upd; rw [if_pos (by omega)]
  · have e1 : setN F m i t = F t := by unfold setN; rw [if_neg e]
    have e2 : setN G m j t = G t := by unfold setN; rw [if_neg e]
    rw [e1, e2]
    obtain ⟨a1, a2, a3, a4, a5, a6, a7⟩ := h5 t (by omega)
    refine ⟨a1, a2, a3, rfl, rfl, ?_, ?_⟩
    · unfold upd; rw [if_neg (by omega), if_neg (by omega)]; exact a6
    · unfold upd; rw [if_neg (by omega), if_neg (by omega)]; exact a7
def xB (v_length : Int32) (v_lawNumber_19 : Int32) (a_bytes : Nat → Int32) (Post : Int32 → (Int32) → (Int32) → (Int32) → (Nat → Int32) → (Int32) → (Nat → Int32) → (Nat → Int32) → Prop) (k25 : (Int32) → (Int32) → (Int32) → (Int32) → (Nat → Int32) → (Int32) → (Nat → Int32) → (Nat → Int32) → Prop) (x2_25 : Int32) (x1_25 : Int32) (v_place_25 : Int32) (v_people_25 : Int32) (a_purses_25 : Nat → Int32) (v_meetings_size_25 : Int32) (a_meetings_firsts_25 : Nat → Int32) (a_meetings_seconds_25 : Nat → Int32) : Prop := (((96 : Int32) ≤ x2_25 → ((x1_25 = 0 → (Post v_place_25 v_place_25 v_lawNumber_19 v_people_25 a_purses_25 v_meetings_size_25 a_meetings_firsts_25 a_meetings_seconds_25)) ∧ (¬ x1_25 = 0 → ((v_people_25 < (2 : Int32) → (Post v_place_25 v_place_25 v_lawNumber_19 v_people_25 a_purses_25 v_meetings_size_25 a_meetings_firsts_25 a_meetings_seconds_25)) ∧ (¬ v_people_25 < (2 : Int32) → (Post (-9 : Int32) v_place_25 v_lawNumber_19 v_people_25 a_purses_25 v_meetings_size_25 a_meetings_firsts_25 a_meetings_seconds_25)))))) ∧ (¬ (96 : Int32) ≤ x2_25 → ((x1_25 = 0 → ((x1_25 = 0 → (Post v_place_25 v_place_25 v_lawNumber_19 v_people_25 a_purses_25 v_meetings_size_25 a_meetings_firsts_25 a_meetings_seconds_25)) ∧ (¬ x1_25 = 0 → ((v_people_25 < (2 : Int32) → (Post v_place_25 v_place_25 v_lawNumber_19 v_people_25 a_purses_25 v_meetings_size_25 a_meetings_firsts_25 a_meetings_seconds_25)) ∧ (¬ v_people_25 < (2 : Int32) → (Post (-9 : Int32) v_place_25 v_lawNumber_19 v_people_25 a_purses_25 v_meetings_size_25 a_meetings_firsts_25 a_meetings_seconds_25)))))) ∧ (¬ x1_25 = 0 → ((v_length ≤ v_place_25 → ((x1_25 = 0 → (Post v_place_25 v_place_25 v_lawNumber_19 v_people_25 a_purses_25 v_meetings_size_25 a_meetings_firsts_25 a_meetings_seconds_25)) ∧ (¬ x1_25 = 0 → ((v_people_25 < (2 : Int32) → (Post v_place_25 v_place_25 v_lawNumber_19 v_people_25 a_purses_25 v_meetings_size_25 a_meetings_firsts_25 a_meetings_seconds_25)) ∧ (¬ v_people_25 < (2 : Int32) → (Post (-9 : Int32) v_place_25 v_lawNumber_19 v_people_25 a_purses_25 v_meetings_size_25 a_meetings_firsts_25 a_meetings_seconds_25)))))) ∧ (¬ v_length ≤ v_place_25 → (wp_X6_readPart v_length v_place_25 v_people_25 a_bytes a_purses_25 v_meetings_size_25 a_meetings_firsts_25 a_meetings_seconds_25 (fun (r47 : Int32) (v_place_47 : Int32) (v_people_47 : Int32) (a_purses_47 : Nat → Int32) (v_meetings_size_47 : Int32) (a_meetings_firsts_47 : Nat → Int32) (a_meetings_seconds_47 : Nat → Int32) => (k25 (x2_25 + 1) r47 v_place_47 v_people_47 a_purses_47 v_meetings_size_47 a_meetings_firsts_47 a_meetings_seconds_47)))))))))
def HX (q : Nat) (lw : Int32) (a : Nat → Int32) (Post : Int32 → (Int32) → (Int32) → (Int32) → (Nat → Int32) → (Int32) → (Nat → Int32) → (Nat → Int32) → Prop) (k25 : (Int32) → (Int32) → (Int32) → (Int32) → (Nat → Int32) → (Int32) → (Nat → Int32) → (Nat → Int32) → Prop) : Prop := ∀ (x2_25 : Int32) (x1_25 : Int32) (v_place_25 : Int32) (v_people_25 : Int32) (a_purses_25 : Nat → Int32) (v_meetings_size_25 : Int32) (a_meetings_firsts_25 : Nat → Int32) (a_meetings_seconds_25 : Nat → Int32), xB (nN q) lw a Post k25 x2_25 x1_25 v_place_25 v_people_25 a_purses_25 v_meetings_size_25 a_meetings_firsts_25 a_meetings_seconds_25 → k25 x2_25 x1_25 v_place_25 v_people_25 a_purses_25 v_meetings_size_25 a_meetings_firsts_25 a_meetings_seconds_25
theorem x_bad {q : Nat} {lw : Int32} {a : Nat → Int32} {Post : Int32 → Int32 → Int32 → Int32 → (Nat → Int32) → Int32 → (Nat → Int32) → (Nat → Int32) → Prop} {k25 : Int32 → Int32 → Int32 → Int32 → (Nat → Int32) → Int32 → (Nat → Int32) → (Nat → Int32) → Prop} (hx : HX q lw a Post k25) {x2 pl pe sz : Int32} {pu fi se : Nat → Int32} (h : Post pl pl lw pe pu sz fi se) : k25 x2 0 pl pe pu sz fi se := by
  apply hx
  unfold xB
  exact ⟨fun _ => ⟨fun _ => h, fun c => absurd rfl c⟩, fun _ => ⟨fun _ => ⟨fun _ => h, fun c => absurd rfl c⟩, fun c => absurd rfl c⟩⟩
theorem x_run {q w : Nat} {T : Nat → Nat} {a b : Nat → Int32} {Post : Int32 → Int32 → Int32 → Int32 → (Nat → Int32) → Int32 → (Nat → Int32) → (Nat → Int32) → Prop} {k25 : Int32 → Int32 → Int32 → Int32 → (Nat → Int32) → Int32 → (Nat → Int32) → (Nat → Int32) → Prop} (hT : TextR q T a b) (hx : HX q (nN w) a Post k25)
    (hbad : ∀ (f : Nat) s1 s2 s3 s4 s5 s6 s7, f ≤ 1000 → (∀ Q, (∀ r1 r2 r3 r4 r5 r6 r7, Q (nN f) r1 r2 r3 r4 r5 r6 r7) → R9 q b Q) → Post (nN f) s1 s2 s3 s4 s5 s6 s7)
    (hok : ∀ (n m : Nat) (P F G : Nat → Nat) s1 pu fi se, 2 ≤ n → (∃ pu' da', TownR w n m P F G pu fi se pu' da') → (∀ Q, (∀ r4 r5 pu' da', TownR w n m P F G pu fi se pu' da' → Q (-9) (nN w) (nN n) (nN m) r4 r5 pu' da') → R9 q b Q) → Post (-9) s1 (nN w) (nN n) pu (nN m) fi se) :
    ∀ (N c p n m : Nat) (P F G : Nat → Nat) (pu fi se : Nat → Int32), q - p < N → p ≤ q → c + 2 ≤ p → (∃ pu' da', TownR w n m P F G pu fi se pu' da') → (∀ Q, (∀ k57, HK q b Q k57 → ∀ pu' da', TownR w n m P F G pu fi se pu' da' → k57 (nN w) (nN n) (nN m) (nN p) (-9) pu' da') → R9 q b Q) → k25 (nN c) 1 (nN p) (nN n) pu (nN m) fi se := by
  have hq := hT.1
  intro N
  induction N with
  | zero => intro c p n m P F G pu fi se g; omega
  | succ N ih =>
    intro c p n m P F G pu fi se g1 g2 g3 gR lk
    have hn : n ≤ 8 := by obtain ⟨pu', da', h⟩ := gR; exact h.2.1
    have hm : m ≤ 16 := by obtain ⟨pu', da', h⟩ := gR; exact h.2.2.1
    apply hx
    unfold xB
    have l96 : ((96 : Int32) ≤ nN c) ↔ 96 ≤ c := by rw [show (96 : Int32) = nN 96 from rfl, n_le (by omega) (by omega)]
    have l2 : (nN n < (2 : Int32)) ↔ n < 2 := by rw [show (2 : Int32) = nN 2 from rfl, n_lt (by omega) (by omega)]
    have lq : (nN q ≤ nN p) ↔ q ≤ p := n_le (by omega) (by omega)
    rw [l96, l2, lq, show nN c + 1 = nN (c + 1) from n_add _ 1]
    refine ⟨fun cc => by omega, fun _ => ⟨fun c1 => absurd c1 one_ne, fun _ => ⟨fun cq => ⟨fun c1 => absurd c1 one_ne, fun _ => ⟨fun cn => ?_, fun cn => ?_⟩⟩, fun cq => ?_⟩⟩⟩
    · have e : p = q := by omega
      subst e
      exact hbad p _ _ _ _ _ _ _ (by omega) (fun Q hQ => lk Q (fun k57 hk pu' da' hr => m_end hk hn (fun c => by omega) (fun _ => hQ _ _ _ _ _ _ _)))
    · have e : p = q := by omega
      subst e
      exact hok n m P F G _ pu fi se (by omega) gR (fun Q hQ => lk Q (fun k57 hk pu' da' hr => m_end hk hn (fun _ => hQ _ _ _ _ hr) (fun c => by omega)))
    · have hp : p < q := by omega
      refine ok_readPart hT hp hn hm (fun a1 a2 a3 => ?_) (fun a1 a2 j a3 a4 a5 => ?_) (fun a1 a2 a3 a4 a5 a6 => ?_) (fun a1 a2 a3 a4 => ?_) (fun a1 a2 a3 a4 a5 => ?_) (fun a1 a2 => ?_)
      · have a3' := a3 3 (by omega)
        unfold fgd at a3'
        have hv := dv_small (Nat.le_refl 4) a3
        refine ih (c + 1) (p + 5) (n + 1) m (setN P n (dv T (p + 1) 4)) F G _ fi se (by omega) (by omega) (by omega) ?_ (fun Q hQ => lk Q (fun k57 hk pu' da' hr => ok9_part hT hk hp hn hm (fun _ _ _ => hQ k57 hk _ _ (hr.person a2 (by omega))) (fun _ _ j b3 b4 b5 => absurd (a3 j b3) b5) (fun b1 => by omega) (fun b1 => by omega) (fun b1 => by omega) (fun b1 => absurd ⟨a1, a2⟩ b1)))
        obtain ⟨pu', da', hr⟩ := gR
        exact ⟨_, _, hr.person a2 (by omega)⟩
      · refine x_bad hx (hbad _ _ _ _ _ _ _ _ (by omega) (fun Q hQ => lk Q (fun k57 hk pu' da' hr => ok9_part hT hk hp hn hm (fun _ _ b3 => absurd (b3 j a3) a5) (fun _ _ j' b3 b4 b5 => ?_) (fun b1 => by omega) (fun b1 => by omega) (fun b1 => by omega) (fun b1 => absurd ⟨a1, a2⟩ b1))))
        have ej : j' = j := by
          rcases Nat.lt_or_ge j' j with h | h
          · exact absurd (a4 j' h) b5
          · rcases Nat.lt_or_ge j j' with h' | h'
            · exact absurd (b4 j h') a5
            · omega
        subst ej
        exact fun rm at' pu' => m_fault hk (by omega) (hQ _ _ _ _ _ _ _)
      · have a5' := a5
        have a4' := a4
        unfold fgd at a5' a4'
        refine ih (c + 1) (p + 3) n (m + 1) P (setN F m (T (p + 1) - 48)) (setN G m (T (p + 2) - 48)) pu _ _ (by omega) (by omega) (by omega) ?_ (fun Q hQ => lk Q (fun k57 hk pu' da' hr => ok9_part hT hk hp hn hm (fun b1 => by omega) (fun b1 => by omega) (fun _ _ _ _ _ _ => hQ k57 hk _ _ (hr.meeting a3 (by omega) (by omega) (by omega))) (fun _ _ _ b4 => absurd a4 b4) (fun _ _ _ _ b5 => absurd ⟨a5, a6⟩ b5) (fun _ b2 => absurd ⟨a1, a2, a3⟩ b2)))
        obtain ⟨pu', da', hr⟩ := gR
        exact ⟨_, _, hr.meeting a3 (by omega) (by omega) (by omega)⟩
      · exact x_bad hx (hbad _ _ _ _ _ _ _ _ (by omega) (fun Q hQ => lk Q (fun k57 hk pu' da' hr => ok9_part hT hk hp hn hm (fun b1 => by omega) (fun b1 => by omega) (fun _ _ _ b4 => absurd b4 a4) (fun _ _ _ _ _ _ _ => m_fault hk (by omega) (hQ _ _ _ _ _ _ _)) (fun _ _ _ b4 => absurd b4 a4) (fun _ b2 => absurd ⟨a1, a2, a3⟩ b2))))
      · exact x_bad hx (hbad _ _ _ _ _ _ _ _ (by omega) (fun Q hQ => lk Q (fun k57 hk pu' da' hr => ok9_part hT hk hp hn hm (fun b1 => by omega) (fun b1 => by omega) (fun _ _ _ _ b5 b6 => absurd ⟨b5, b6⟩ a5) (fun _ _ _ b4 => absurd a4 b4) (fun _ _ _ _ _ _ _ _ => m_fault hk (by omega) (hQ _ _ _ _ _ _ _)) (fun _ b2 => absurd ⟨a1, a2, a3⟩ b2))))
      · exact x_bad hx (hbad _ _ _ _ _ _ _ _ (by omega) (fun Q hQ => lk Q (fun k57 hk pu' da' hr => ok9_part hT hk hp hn hm (fun b1 b2 => absurd ⟨b1, b2⟩ a1) (fun b1 b2 => absurd ⟨b1, b2⟩ a1) (fun b1 b2 b3 => absurd ⟨b1, b2, b3⟩ a2) (fun b1 b2 b3 => absurd ⟨b1, b2, b3⟩ a2) (fun b1 b2 b3 => absurd ⟨b1, b2, b3⟩ a2) (fun _ _ => m_fault hk (by omega) (hQ _ _ _ _ _ _ _)))))
theorem sim_text {q : Nat} {T : Nat → Nat} {a b pu fi se : Nat → Int32} {v1 v2 v3 v4 : Int32} {Post : Int32 → Int32 → Int32 → Int32 → (Nat → Int32) → Int32 → (Nat → Int32) → (Nat → Int32) → Prop} (hT : TextR q T a b)
    (hbad : ∀ (f : Nat) s1 s2 s3 s4 s5 s6 s7, f ≤ 1000 → (∀ Q, (∀ r1 r2 r3 r4 r5 r6 r7, Q (nN f) r1 r2 r3 r4 r5 r6 r7) → R9 q b Q) → Post (nN f) s1 s2 s3 s4 s5 s6 s7)
    (hok : ∀ (w n m : Nat) (P F G : Nat → Nat) s1 pu fi se, 2 ≤ n → (∃ pu' da', TownR w n m P F G pu fi se pu' da') → (∀ Q, (∀ r4 r5 pu' da', TownR w n m P F G pu fi se pu' da' → Q (-9) (nN w) (nN n) (nN m) r4 r5 pu' da') → R9 q b Q) → Post (-9) s1 (nN w) (nN n) pu (nN m) fi se) :
    wp_X6_findFault (nN q) v1 v2 v3 a pu v4 fi se Post := by
  have hq := hT.1
  have e0 : (nN q = 0) ↔ q = 0 := by rw [show (0 : Int32) = nN 0 from rfl, n_eq (by omega) (by omega)]
  have none9 : ¬ (0 < q ∧ T 0 = 76) → ∀ Q, (∀ r1 r2 r3 r4 r5 r6 r7, Q (nN 0) r1 r2 r3 r4 r5 r6 r7) → R9 q b Q := by
    intro hno Q hQ w1 w2 w3 w4 w5 pu' da'
    unfold wp_X9_readText
    rw [e0]
    refine ⟨fun _ => hQ _ _ _ _ _ _ _, fun c => ?_⟩
    have hT1 := hT.2.1 0 (by omega)
    rw [show Int32.toNatClampNeg (0 : Int32) = 0 from rfl, hT.2.2.2 0 (by omega), show (76 : Int32) = nN 76 from rfl, n_eq (by omega) (by omega)]
    exact ⟨fun c2 => absurd ⟨by omega, c2⟩ hno, fun _ => hQ _ _ _ _ _ _ _⟩
  have law9 : 0 < q → T 0 = 76 → ∀ Q, (∀ k57, HK q b Q k57 → ∀ pu' da', (fgd q T 4 1 → k57 (nN (T 1 - 48)) 0 0 (nN 2) (-9) pu' da') ∧ (¬ fgd q T 4 1 → k57 0 0 0 (nN 1) (nN 1) pu' da')) → R9 q b Q := by
    intro hq0 h76 Q hQ w1 w2 w3 w4 w5 pu' da'
    unfold wp_X9_readText
    rw [e0]
    refine ⟨fun c => by omega, fun c => ?_⟩
    rw [show Int32.toNatClampNeg (0 : Int32) = 0 from rfl, hT.2.2.2 0 (by omega), h76]
    refine ⟨fun _ => ?_, fun c2 => absurd rfl c2⟩
    refine ok9_figure2 (p := 1) (c := 4) (e := -9) rfl rfl hT (by omega) (by omega) (by omega) (by omega) (by omega) (fun f1 _ => ?_) (fun f1 => ?_)
    · intro k57 hk
      exact (hQ k57 hk _ _).1 f1
    · intro k57 hk
      refine (hQ k57 hk _ _).2 (fun hh => f1 ⟨hh, ?_⟩)
      unfold fgd at hh
      omega
  unfold wp_X6_findFault
  unfold wp_X6_readLaw
  refine ok_nextIs (c := 76) (p := 0) hT (by omega) (by omega) (fun g1 g2 => ⟨fun _ => ?_, fun c => absurd c one_ne⟩) (fun g => ⟨fun c => absurd rfl c, fun _ => ?_⟩)
  · refine ok_readFigure (c := 4) (p := 1) hT (by omega) (by omega) (fun f1 => ⟨fun c => ?_, fun _ => ?_⟩) (fun f1 => ⟨fun _ => ?_, fun c => absurd (by decide) c⟩)
    · exfalso
      unfold fgd at f1
      rw [show (0 : Int32) = nN 0 from rfl, n_lt (by omega) (by omega)] at c
      omega
    · intro k25 hx
      have f1' := f1
      unfold fgd at f1'
      refine x_run (w := T 1 - 48) hT hx hbad (fun n m P F G s1 pu fi se h1 h2 h3 => hok _ n m P F G s1 pu fi se h1 h2 h3) (q + 1) 0 2 0 0 (fun _ => 0) (fun _ => 0) (fun _ => 0) pu fi se (by omega) (by omega) (by omega) ⟨pu, pu, ?_⟩ (fun Q hQ => law9 g1 g2 Q (fun k57 hk pu' da' => ⟨fun _ => hQ k57 hk pu' da' ?_, fun c => absurd f1 c⟩))
      · exact ⟨by omega, by omega, by omega, fun t ht => absurd ht (by omega), fun t ht => absurd ht (by omega)⟩
      · exact ⟨by omega, by omega, by omega, fun t ht => absurd ht (by omega), fun t ht => absurd ht (by omega)⟩
    · intro k25 hx
      exact x_bad (q := q) hx (hbad 1 _ _ _ _ _ _ _ (by omega) (fun Q hQ => law9 g1 g2 Q (fun k57 hk pu' da' => ⟨fun c => absurd c f1, fun _ => m_fault hk (by omega) (hQ _ _ _ _ _ _ _)⟩)))
  · intro k25 hx
    exact x_bad (q := q) hx (hbad 0 _ _ _ _ _ _ _ (by omega) (none9 g))
theorem case_fault {q : Nat} {T : Nat → Nat} {a b pu fi se pu9 da9 : Nat → Int32} {v1 v2 v3 v4 w1 w2 w3 w4 w5 : Int32} {K : Int32 → Int32 → Int32 → (Nat → Int32) → Int32 → (Nat → Int32) → (Nat → Int32) → Int32 → Int32 → Int32 → Int32 → Int32 → (Nat → Int32) → (Nat → Int32) → Prop} (hT : TextR q T a b) (hK : ∀ a1 a2 a3 a4 a5 a6 a7 b1 b2 b3 b4 b5 b6 b7, K a1 a2 a3 a4 a5 a6 a7 b1 b2 b3 b4 b5 b6 b7) : wp_X8_fault (nN q) v1 v2 v3 a pu v4 fi se (fun r a1 a2 a3 a4 a5 a6 a7 => wp_X9_fault w1 w2 w3 (nN q) w4 w5 pu9 da9 b (fun r' b1 b2 b3 b4 b5 b6 b7 => (r = r' → K a1 a2 a3 a4 a5 a6 a7 b1 b2 b3 b4 b5 b6 b7) ∧ (¬ r = r' → False))) := by
  unfold wp_X8_fault
  refine sim_text hT (fun f s1 s2 s3 s4 s5 s6 s7 hf h => ?_) (fun w n m P F G s1 pu fi se hn hr h => ?_)
  · unfold wp_X9_fault
    exact h _ (fun r1 r2 r3 r4 r5 r6 r7 => same_k (hK _ _ _ _ _ _ _ _ _ _ _ _ _ _)) w1 w2 w3 w4 w5 pu9 da9
  · unfold wp_X9_fault
    exact h _ (fun r4 r5 pu' da' _ => same_k (hK _ _ _ _ _ _ _ _ _ _ _ _ _ _)) w1 w2 w3 w4 w5 pu9 da9
