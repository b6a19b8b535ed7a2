/-- a TOWN read: LAW, people, MEETINGS -/
def TownR (w n m : Nat) (P F G : Nat → Nat) (pu fi se pu' da' : Nat → Int32) : Prop := w ≤ 3 ∧ n ≤ 8 ∧ m ≤ 16 ∧ (∀ t, t < n → P t ≤ 99999 ∧ pu t = nN (P t) ∧ pu' t = nN (P t)) ∧ (∀ t, t < m → F t < n ∧ G t < n ∧ F t ≠ G t ∧ fi t = nN (F t) ∧ se t = nN (G t) ∧ da' (2 * t) = nN (F t) ∧ da' (2 * t + 1) = nN (G t))
theorem TownR.person {w n m v : Nat} {P F G : Nat → Nat} {pu fi se pu' da' : Nat → Int32} (h : TownR w n m P F G pu fi se pu' da') (hn : n < 8) (hv : v ≤ 99999) : TownR w (n + 1) m (setN P n v) F G (upd pu n (nN v)) fi se (upd pu' n (nN v)) da' := by
  obtain ⟨h1, h2, h3, h4, h5⟩ := h
  refine ⟨h1, by omega, h3, fun t ht => ⟨?_, upd_set (fun z => (h4 t z).2.1) ht, upd_set (fun z => (h4 t z).2.2) ht⟩, fun t ht => ?_⟩
  · unfold setN
    by_cases e : t = n
    · rw [if_pos e]; exact hv
    · rw [if_neg e]; exact (h4 t (by omega)).1
  · obtain ⟨a1, a2, a3⟩ := h5 t ht
    exact ⟨by omega, by omega, a3⟩
theorem TownR.meeting {w n m i j : Nat} {P F G : Nat → Nat} {pu fi se pu' da' : Nat → Int32} (h : TownR w n m P F G pu fi se pu' da') (hm : m < 16) (hi : i < n) (hj : j < n) (hij : i ≠ j) : TownR w n (m + 1) P (setN F m i) (setN G m j) pu (upd fi m (nN i)) (upd se m (nN j)) pu' (upd (upd da' (2 * m) (nN i)) (2 * m + 1) (nN j)) := by
  obtain ⟨h1, h2, h3, h4, h5⟩ := h
  refine ⟨h1, h2, by omega, h4, fun t ht => ?_⟩
  have u1 : upd fi m (nN i) t = nN (setN F m i t) := upd_set (fun z => (h5 t z).2.2.2.1) ht
  have u2 : upd se m (nN j) t = nN (setN G m j t) := upd_set (fun z => (h5 t z).2.2.2.2.1) ht
  rw [u1, u2]
  by_cases e : t = m
  · have e1 : setN F m i t = i := by unfold setN; rw [if_pos e]
    have e2 : setN G m j t = j := by unfold setN; rw [if_pos e]
    rw [e1, e2]
    refine ⟨hi, hj, hij, rfl, rfl, ?_, ?_⟩
    · unfold upd; rw [if_neg (by omega), if_pos (by omega)]
    · unfold upd; rw [if_pos (by omega)]
  · have e1 : setN F m i t = F t := by unfold setN; rw [if_neg e]
    have e2 : setN G m j t = G t := by unfold setN; rw [if_neg e]
    rw [e1, e2]
    obtain ⟨a1, a2, a3, a4, a5, a6, a7⟩ := h5 t (by omega)
    refine ⟨a1, a2, a3, rfl, rfl, ?_, ?_⟩
    · unfold upd; rw [if_neg (by omega), if_neg (by omega)]; exact a6
    · unfold upd; rw [if_neg (by omega), if_neg (by omega)]; exact a7
def xB (v_length : Int32) (v_lawNumber_19 : Int32) (a_bytes : Nat → Int32) (Post : Int32 → (Int32) → (Int32) → (Int32) → (Nat → Int32) → (Int32) → (Nat → Int32) → (Nat → Int32) → Prop) (k25 : (Int32) → (Int32) → (Int32) → (Int32) → (Nat → Int32) → (Int32) → (Nat → Int32) → (Nat → Int32) → Prop) (x2_25 : Int32) (x1_25 : Int32) (v_place_25 : Int32) (v_people_25 : Int32) (a_purses_25 : Nat → Int32) (v_meetings_size_25 : Int32) (a_meetings_firsts_25 : Nat → Int32) (a_meetings_seconds_25 : Nat → Int32) : Prop := (((96 : Int32) ≤ x2_25 → ((x1_25 = 0 → (Post v_place_25 v_place_25 v_lawNumber_19 v_people_25 a_purses_25 v_meetings_size_25 a_meetings_firsts_25 a_meetings_seconds_25)) ∧ (¬ x1_25 = 0 → ((v_people_25 < (2 : Int32) → (Post v_place_25 v_place_25 v_lawNumber_19 v_people_25 a_purses_25 v_meetings_size_25 a_meetings_firsts_25 a_meetings_seconds_25)) ∧ (¬ v_people_25 < (2 : Int32) → (Post (-9 : Int32) v_place_25 v_lawNumber_19 v_people_25 a_purses_25 v_meetings_size_25 a_meetings_firsts_25 a_meetings_seconds_25)))))) ∧ (¬ (96 : Int32) ≤ x2_25 → ((x1_25 = 0 → ((x1_25 = 0 → (Post v_place_25 v_place_25 v_lawNumber_19 v_people_25 a_purses_25 v_meetings_size_25 a_meetings_firsts_25 a_meetings_seconds_25)) ∧ (¬ x1_25 = 0 → ((v_people_25 < (2 : Int32) → (Post v_place_25 v_place_25 v_lawNumber_19 v_people_25 a_purses_25 v_meetings_size_25 a_meetings_firsts_25 a_meetings_seconds_25)) ∧ (¬ v_people_25 < (2 : Int32) → (Post (-9 : Int32) v_place_25 v_lawNumber_19 v_people_25 a_purses_25 v_meetings_size_25 a_meetings_firsts_25 a_meetings_seconds_25)))))) ∧ (¬ x1_25 = 0 → ((v_length ≤ v_place_25 → ((x1_25 = 0 → (Post v_place_25 v_place_25 v_lawNumber_19 v_people_25 a_purses_25 v_meetings_size_25 a_meetings_firsts_25 a_meetings_seconds_25)) ∧ (¬ x1_25 = 0 → ((v_people_25 < (2 : Int32) → (Post v_place_25 v_place_25 v_lawNumber_19 v_people_25 a_purses_25 v_meetings_size_25 a_meetings_firsts_25 a_meetings_seconds_25)) ∧ (¬ v_people_25 < (2 : Int32) → (Post (-9 : Int32) v_place_25 v_lawNumber_19 v_people_25 a_purses_25 v_meetings_size_25 a_meetings_firsts_25 a_meetings_seconds_25)))))) ∧ (¬ v_length ≤ v_place_25 → (wp_X6_readPart v_length v_place_25 v_people_25 a_bytes a_purses_25 v_meetings_size_25 a_meetings_firsts_25 a_meetings_seconds_25 (fun (r47 : Int32) (v_place_47 : Int32) (v_people_47 : Int32) (a_purses_47 : Nat → Int32) (v_meetings_size_47 : Int32) (a_meetings_firsts_47 : Nat → Int32) (a_meetings_seconds_47 : Nat → Int32) => (k25 (x2_25 + 1) r47 v_place_47 v_people_47 a_purses_47 v_meetings_size_47 a_meetings_firsts_47 a_meetings_seconds_47)))))))))
def HX (q : Nat) (lw : Int32) (a : Nat → Int32) (Post : Int32 → (Int32) → (Int32) → (Int32) → (Nat → Int32) → (Int32) → (Nat → Int32) → (Nat → Int32) → Prop) (k25 : (Int32) → (Int32) → (Int32) → (Int32) → (Nat → Int32) → (Int32) → (Nat → Int32) → (Nat → Int32) → Prop) : Prop := ∀ (x2_25 : Int32) (x1_25 : Int32) (v_place_25 : Int32) (v_people_25 : Int32) (a_purses_25 : Nat → Int32) (v_meetings_size_25 : Int32) (a_meetings_firsts_25 : Nat → Int32) (a_meetings_seconds_25 : Nat → Int32), xB (nN q) lw a Post k25 x2_25 x1_25 v_place_25 v_people_25 a_purses_25 v_meetings_size_25 a_meetings_firsts_25 a_meetings_seconds_25 → k25 x2_25 x1_25 v_place_25 v_people_25 a_purses_25 v_meetings_size_25 a_meetings_firsts_25 a_meetings_seconds_25
theorem x_bad {q : Nat} {lw : Int32} {a : Nat → Int32} {Post : Int32 → Int32 → Int32 → Int32 → (Nat → Int32) → Int32 → (Nat → Int32) → (Nat → Int32) → Prop} {k25 : Int32 → Int32 → Int32 → Int32 → (Nat → Int32) → Int32 → (Nat → Int32) → (Nat → Int32) → Prop} (hx : HX q lw a Post k25) {x2 pl pe sz : Int32} {pu fi se : Nat → Int32} (h : Post pl pl lw pe pu sz fi se) : k25 x2 0 pl pe pu sz fi se := by
  apply hx
  unfold xB
  exact ⟨fun _ => ⟨fun _ => h, fun c => absurd rfl c⟩, fun _ => ⟨fun _ => ⟨fun _ => h, fun c => absurd rfl c⟩, fun c => absurd rfl c⟩⟩
