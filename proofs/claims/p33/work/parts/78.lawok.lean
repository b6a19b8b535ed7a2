set_option maxHeartbeats 40000000 in
set_option maxRecDepth 100000 in
theorem law_ok {L : Nat} {xs : Nat → Int32} (hL : L ≤ 260) : wp_L_law L xs 0 0 0 0 (fun _ => 0) (fun _ => 0) 0 (fun _ => 0) (fun _ => 0) 0 (fun _ => 0) (fun _ => 0) 0 2 0 0 0 (fun _ => 0) (fun _ => 0) (fun _ => 0) (fun _ => 0) (fun _ => 0) (fun _ => 0) (fun _ => 0) 0 0 0 0 0 (fun _ => 0) (fun _ => 0) (fun _ => 0) (fun _ => 0) (fun _ => 0) (fun _ => 0) (fun _ => 0) 0 0 0 0 0 (fun _ => 0) (fun _ => 0) (fun _ => 0) (fun _ => 0) (fun _ => 0) (fun _ => 0) (fun _ => 0) (fun _ => 0) 0 0 0 0 (fun _ => 0) 0 0 (fun _ => 0) (fun _ => 0) 0 0 0 0 (fun _ => 0) (fun _ => 0) (fun _ => 0) (fun _ => 0) 0 0 0 (fun _ => 0) (fun _ => 0) (fun _ => 0) 0 0 0 0 0 (fun _ => 0) (fun _ => 0) 0 0 0 0 (fun _ => 0) (fun _ => 0) 0 (fun _ => 0) (fun _ => 0) 0 (fun _ => 0) (fun _ => 0) 0 2 0 0 0 (fun _ => 0) (fun _ => 0) (fun _ => 0) (fun _ => 0) (fun _ => 0) (fun _ => 0) (fun _ => 0) 0 0 0 0 0 (fun _ => 0) (fun _ => 0) (fun _ => 0) (fun _ => 0) (fun _ => 0) (fun _ => 0) (fun _ => 0) 0 0 0 0 0 (fun _ => 0) (fun _ => 0) (fun _ => 0) (fun _ => 0) (fun _ => 0) (fun _ => 0) (fun _ => 0) (fun _ => 0) 0 0 0 0 (fun _ => 0) 0 0 (fun _ => 0) (fun _ => 0) 0 0 0 0 (fun _ => 0) (fun _ => 0) (fun _ => 0) (fun _ => 0) 0 0 0 (fun _ => 0) (fun _ => 0) (fun _ => 0) 0 0 0 0 0 (fun _ => 0) (fun _ => 0) := by
  unfold wp_L_law
  refine ok_refused (n := 2) (by omega) (by omega) ?_
  intro k24 hk24
  have key : ∀ (N i : Nat) {n0 : Nat} {q0 : Nat} {m0 : Nat} {w0 : Nat} {k0 : Nat} {e0 : Nat} {T0 : Nat → Nat} {F0 : Nat → Nat} {G0 : Nat → Nat} {P0 : Nat → Nat} {A0 : Nat → Nat} {B0 : Nat → Nat} {C0 : Nat → Nat} {D0 : Nat → Nat} {U0 : Nat → Nat} {V0 : Nat → Nat} {f10 : Nat} {h10 : Nat → Nat → Nat} {f20 : Nat} {h20 : Nat → Nat → Nat} {v_p2_text_length : Int32} {v_p2_text_place : Int32} {v_p2_text_lawNumber : Int32} {v_p2_text_people : Int32} {a_p2_text_bytes : Nat → Int32} {a_p2_text_purses : Nat → Int32} {v_p2_text_meetings_size : Int32} {a_p2_text_meetings_firsts : Nat → Int32} {a_p2_text_meetings_seconds : Nat → Int32} {v_p2_theDay_size : Int32} {a_p2_theDay_firsts : Nat → Int32} {a_p2_theDay_seconds : Nat → Int32} {v_p2_now_filled : Int32} {v_p2_now_people : Int32} {v_p2_now_lawNumber : Int32} {v_p2_now_made : Int32} {v_p2_now_seen : Int32} {a_p2_now_purses : Nat → Int32} {a_p2_now_firsts : Nat → Int32} {a_p2_now_seconds : Nat → Int32} {a_p2_now_firstsHad : Nat → Int32} {a_p2_now_secondsHad : Nat → Int32} {a_p2_now_seenSums : Nat → Int32} {a_p2_now_seenShared : Nat → Int32} {v_p2_firstSlot_filled : Int32} {v_p2_firstSlot_people : Int32} {v_p2_firstSlot_lawNumber : Int32} {v_p2_firstSlot_made : Int32} {v_p2_firstSlot_seen : Int32} {a_p2_firstSlot_purses : Nat → Int32} {a_p2_firstSlot_firsts : Nat → Int32} {a_p2_firstSlot_seconds : Nat → Int32} {a_p2_firstSlot_firstsHad : Nat → Int32} {a_p2_firstSlot_secondsHad : Nat → Int32} {a_p2_firstSlot_seenSums : Nat → Int32} {a_p2_firstSlot_seenShared : Nat → Int32} {v_p2_secondSlot_filled : Int32} {v_p2_secondSlot_people : Int32} {v_p2_secondSlot_lawNumber : Int32} {v_p2_secondSlot_made : Int32} {v_p2_secondSlot_seen : Int32} {a_p2_secondSlot_purses : Nat → Int32} {a_p2_secondSlot_firsts : Nat → Int32} {a_p2_secondSlot_seconds : Nat → Int32} {a_p2_secondSlot_firstsHad : Nat → Int32} {a_p2_secondSlot_secondsHad : Nat → Int32} {a_p2_secondSlot_seenSums : Nat → Int32} {a_p2_secondSlot_seenShared : Nat → Int32} {a_p2_laterPurses : Nat → Int32} {v_p2_two_lawNumber : Int32} {v_p2_two_mine : Int32} {v_p2_two_theirs : Int32} {v_p2_two_sharedSum : Int32} {a_p2_two_primes : Nat → Int32} {v_p2_days_ringDays : Int32} {v_p2_days_leadDays : Int32} {a_p2_days_rows : Nat → Int32} {a_p2_days_purses : Nat → Int32} {v_p2_orders_bestHeld : Int32} {v_p2_orders_person : Int32} {v_p2_orders_lawNumber : Int32} {v_p2_orders_size : Int32} {a_p2_orders_purses : Nat → Int32} {a_p2_orders_used : Nat → Int32} {a_p2_orders_order : Nat → Int32} {a_p2_orders_best : Nat → Int32} {v_p2_ruins_fewest : Int32} {v_p2_ruins_people : Int32} {v_p2_ruins_goal : Int32} {a_p2_ruins_lastHeld : Nat → Int32} {a_p2_ruins_row : Nat → Int32} {a_p2_ruins_best : Nat → Int32} {v_p2_fits_found : Int32} {v_p2_fits_unit : Int32} {v_p2_fits_howMany : Int32} {v_p2_fits_least : Int32} {v_p2_fits_greatest : Int32} {a_p2_fits_primes : Nat → Int32} {a_p2_fits_some : Nat → Int32} {v_p3_text_length : Int32} {v_p3_text_place : Int32} {v_p3_text_lawNumber : Int32} {v_p3_text_people : Int32} {a_p3_text_bytes : Nat → Int32} {a_p3_text_purses : Nat → Int32} {v_p3_text_meetings_size : Int32} {a_p3_text_meetings_firsts : Nat → Int32} {a_p3_text_meetings_seconds : Nat → Int32} {v_p3_theDay_size : Int32} {a_p3_theDay_firsts : Nat → Int32} {a_p3_theDay_seconds : Nat → Int32} {v_p3_now_filled : Int32} {v_p3_now_people : Int32} {v_p3_now_lawNumber : Int32} {v_p3_now_made : Int32} {v_p3_now_seen : Int32} {a_p3_now_purses : Nat → Int32} {a_p3_now_firsts : Nat → Int32} {a_p3_now_seconds : Nat → Int32} {a_p3_now_firstsHad : Nat → Int32} {a_p3_now_secondsHad : Nat → Int32} {a_p3_now_seenSums : Nat → Int32} {a_p3_now_seenShared : Nat → Int32} {v_p3_firstSlot_filled : Int32} {v_p3_firstSlot_people : Int32} {v_p3_firstSlot_lawNumber : Int32} {v_p3_firstSlot_made : Int32} {v_p3_firstSlot_seen : Int32} {a_p3_firstSlot_purses : Nat → Int32} {a_p3_firstSlot_firsts : Nat → Int32} {a_p3_firstSlot_seconds : Nat → Int32} {a_p3_firstSlot_firstsHad : Nat → Int32} {a_p3_firstSlot_secondsHad : Nat → Int32} {a_p3_firstSlot_seenSums : Nat → Int32} {a_p3_firstSlot_seenShared : Nat → Int32} {v_p3_secondSlot_filled : Int32} {v_p3_secondSlot_people : Int32} {v_p3_secondSlot_lawNumber : Int32} {v_p3_secondSlot_made : Int32} {v_p3_secondSlot_seen : Int32} {a_p3_secondSlot_purses : Nat → Int32} {a_p3_secondSlot_firsts : Nat → Int32} {a_p3_secondSlot_seconds : Nat → Int32} {a_p3_secondSlot_firstsHad : Nat → Int32} {a_p3_secondSlot_secondsHad : Nat → Int32} {a_p3_secondSlot_seenSums : Nat → Int32} {a_p3_secondSlot_seenShared : Nat → Int32} {a_p3_laterPurses : Nat → Int32} {v_p3_two_lawNumber : Int32} {v_p3_two_mine : Int32} {v_p3_two_theirs : Int32} {v_p3_two_sharedSum : Int32} {a_p3_two_primes : Nat → Int32} {v_p3_days_ringDays : Int32} {v_p3_days_leadDays : Int32} {a_p3_days_rows : Nat → Int32} {a_p3_days_purses : Nat → Int32} {v_p3_orders_bestHeld : Int32} {v_p3_orders_person : Int32} {v_p3_orders_lawNumber : Int32} {v_p3_orders_size : Int32} {a_p3_orders_purses : Nat → Int32} {a_p3_orders_used : Nat → Int32} {a_p3_orders_order : Nat → Int32} {a_p3_orders_best : Nat → Int32} {v_p3_ruins_fewest : Int32} {v_p3_ruins_people : Int32} {v_p3_ruins_goal : Int32} {a_p3_ruins_lastHeld : Nat → Int32} {a_p3_ruins_row : Nat → Int32} {a_p3_ruins_best : Nat → Int32} {v_p3_fits_found : Int32} {v_p3_fits_unit : Int32} {v_p3_fits_howMany : Int32} {v_p3_fits_least : Int32} {v_p3_fits_greatest : Int32} {a_p3_fits_primes : Nat → Int32} {a_p3_fits_some : Nat → Int32}, 34 - i < N → i ≤ 34 → OB n0 q0 m0 w0 k0 e0 T0 F0 G0 P0 A0 B0 C0 D0 U0 V0 f10 h10 f20 h20 v_p2_text_length a_p2_text_bytes v_p2_theDay_size a_p2_theDay_firsts a_p2_theDay_seconds v_p2_now_people v_p2_now_lawNumber v_p2_now_made v_p2_now_seen a_p2_now_purses a_p2_now_firsts a_p2_now_seconds a_p2_now_firstsHad a_p2_now_secondsHad a_p2_now_seenSums a_p2_now_seenShared v_p2_firstSlot_filled v_p2_firstSlot_people v_p2_firstSlot_lawNumber v_p2_firstSlot_made v_p2_firstSlot_seen a_p2_firstSlot_purses a_p2_firstSlot_firsts a_p2_firstSlot_seconds a_p2_firstSlot_firstsHad a_p2_firstSlot_secondsHad a_p2_firstSlot_seenSums a_p2_firstSlot_seenShared v_p2_secondSlot_filled v_p2_secondSlot_people v_p2_secondSlot_lawNumber v_p2_secondSlot_made v_p2_secondSlot_seen a_p2_secondSlot_purses a_p2_secondSlot_firsts a_p2_secondSlot_seconds a_p2_secondSlot_firstsHad a_p2_secondSlot_secondsHad a_p2_secondSlot_seenSums a_p2_secondSlot_seenShared → OB n0 q0 m0 w0 k0 e0 T0 F0 G0 P0 A0 B0 C0 D0 U0 V0 f10 h10 f20 h20 v_p3_text_length a_p3_text_bytes v_p3_theDay_size a_p3_theDay_firsts a_p3_theDay_seconds v_p3_now_people v_p3_now_lawNumber v_p3_now_made v_p3_now_seen a_p3_now_purses a_p3_now_firsts a_p3_now_seconds a_p3_now_firstsHad a_p3_now_secondsHad a_p3_now_seenSums a_p3_now_seenShared v_p3_firstSlot_filled v_p3_firstSlot_people v_p3_firstSlot_lawNumber v_p3_firstSlot_made v_p3_firstSlot_seen a_p3_firstSlot_purses a_p3_firstSlot_firsts a_p3_firstSlot_seconds a_p3_firstSlot_firstsHad a_p3_firstSlot_secondsHad a_p3_firstSlot_seenSums a_p3_firstSlot_seenShared v_p3_secondSlot_filled v_p3_secondSlot_people v_p3_secondSlot_lawNumber v_p3_secondSlot_made v_p3_secondSlot_seen a_p3_secondSlot_purses a_p3_secondSlot_firsts a_p3_secondSlot_seconds a_p3_secondSlot_firstsHad a_p3_secondSlot_secondsHad a_p3_secondSlot_seenSums a_p3_secondSlot_seenShared → (∀ t, t < 6 → a_p2_orders_used t = 0) → (∀ t, t < 6 → a_p3_orders_used t = 0) → k24 (nN i) 1 v_p2_text_length v_p2_text_place v_p2_text_lawNumber v_p2_text_people a_p2_text_bytes a_p2_text_purses v_p2_text_meetings_size a_p2_text_meetings_firsts a_p2_text_meetings_seconds v_p2_theDay_size a_p2_theDay_firsts a_p2_theDay_seconds v_p2_now_filled v_p2_now_people v_p2_now_lawNumber v_p2_now_made v_p2_now_seen a_p2_now_purses a_p2_now_firsts a_p2_now_seconds a_p2_now_firstsHad a_p2_now_secondsHad a_p2_now_seenSums a_p2_now_seenShared v_p2_firstSlot_filled v_p2_firstSlot_people v_p2_firstSlot_lawNumber v_p2_firstSlot_made v_p2_firstSlot_seen a_p2_firstSlot_purses a_p2_firstSlot_firsts a_p2_firstSlot_seconds a_p2_firstSlot_firstsHad a_p2_firstSlot_secondsHad a_p2_firstSlot_seenSums a_p2_firstSlot_seenShared v_p2_secondSlot_filled v_p2_secondSlot_people v_p2_secondSlot_lawNumber v_p2_secondSlot_made v_p2_secondSlot_seen a_p2_secondSlot_purses a_p2_secondSlot_firsts a_p2_secondSlot_seconds a_p2_secondSlot_firstsHad a_p2_secondSlot_secondsHad a_p2_secondSlot_seenSums a_p2_secondSlot_seenShared a_p2_laterPurses v_p2_two_lawNumber v_p2_two_mine v_p2_two_theirs v_p2_two_sharedSum a_p2_two_primes v_p2_days_ringDays v_p2_days_leadDays a_p2_days_rows a_p2_days_purses v_p2_orders_bestHeld v_p2_orders_person v_p2_orders_lawNumber v_p2_orders_size a_p2_orders_purses a_p2_orders_used a_p2_orders_order a_p2_orders_best v_p2_ruins_fewest v_p2_ruins_people v_p2_ruins_goal a_p2_ruins_lastHeld a_p2_ruins_row a_p2_ruins_best v_p2_fits_found v_p2_fits_unit v_p2_fits_howMany v_p2_fits_least v_p2_fits_greatest a_p2_fits_primes a_p2_fits_some v_p3_text_length v_p3_text_place v_p3_text_lawNumber v_p3_text_people a_p3_text_bytes a_p3_text_purses v_p3_text_meetings_size a_p3_text_meetings_firsts a_p3_text_meetings_seconds v_p3_theDay_size a_p3_theDay_firsts a_p3_theDay_seconds v_p3_now_filled v_p3_now_people v_p3_now_lawNumber v_p3_now_made v_p3_now_seen a_p3_now_purses a_p3_now_firsts a_p3_now_seconds a_p3_now_firstsHad a_p3_now_secondsHad a_p3_now_seenSums a_p3_now_seenShared v_p3_firstSlot_filled v_p3_firstSlot_people v_p3_firstSlot_lawNumber v_p3_firstSlot_made v_p3_firstSlot_seen a_p3_firstSlot_purses a_p3_firstSlot_firsts a_p3_firstSlot_seconds a_p3_firstSlot_firstsHad a_p3_firstSlot_secondsHad a_p3_firstSlot_seenSums a_p3_firstSlot_seenShared v_p3_secondSlot_filled v_p3_secondSlot_people v_p3_secondSlot_lawNumber v_p3_secondSlot_made v_p3_secondSlot_seen a_p3_secondSlot_purses a_p3_secondSlot_firsts a_p3_secondSlot_seconds a_p3_secondSlot_firstsHad a_p3_secondSlot_secondsHad a_p3_secondSlot_seenSums a_p3_secondSlot_seenShared a_p3_laterPurses v_p3_two_lawNumber v_p3_two_mine v_p3_two_theirs v_p3_two_sharedSum a_p3_two_primes v_p3_days_ringDays v_p3_days_leadDays a_p3_days_rows a_p3_days_purses v_p3_orders_bestHeld v_p3_orders_person v_p3_orders_lawNumber v_p3_orders_size a_p3_orders_purses a_p3_orders_used a_p3_orders_order a_p3_orders_best v_p3_ruins_fewest v_p3_ruins_people v_p3_ruins_goal a_p3_ruins_lastHeld a_p3_ruins_row a_p3_ruins_best v_p3_fits_found v_p3_fits_unit v_p3_fits_howMany v_p3_fits_least v_p3_fits_greatest a_p3_fits_primes a_p3_fits_some := by
    intro N
    induction N with
    | zero =>
      intro i
      intros
      omega
    | succ N ih =>
      intro i n0 q0 m0 w0 k0 e0 T0 F0 G0 P0 A0 B0 C0 D0 U0 V0 f10 h10 f20 h20 v_p2_text_length v_p2_text_place v_p2_text_lawNumber v_p2_text_people a_p2_text_bytes a_p2_text_purses v_p2_text_meetings_size a_p2_text_meetings_firsts a_p2_text_meetings_seconds v_p2_theDay_size a_p2_theDay_firsts a_p2_theDay_seconds v_p2_now_filled v_p2_now_people v_p2_now_lawNumber v_p2_now_made v_p2_now_seen a_p2_now_purses a_p2_now_firsts a_p2_now_seconds a_p2_now_firstsHad a_p2_now_secondsHad a_p2_now_seenSums a_p2_now_seenShared v_p2_firstSlot_filled v_p2_firstSlot_people v_p2_firstSlot_lawNumber v_p2_firstSlot_made v_p2_firstSlot_seen a_p2_firstSlot_purses a_p2_firstSlot_firsts a_p2_firstSlot_seconds a_p2_firstSlot_firstsHad a_p2_firstSlot_secondsHad a_p2_firstSlot_seenSums a_p2_firstSlot_seenShared v_p2_secondSlot_filled v_p2_secondSlot_people v_p2_secondSlot_lawNumber v_p2_secondSlot_made v_p2_secondSlot_seen a_p2_secondSlot_purses a_p2_secondSlot_firsts a_p2_secondSlot_seconds a_p2_secondSlot_firstsHad a_p2_secondSlot_secondsHad a_p2_secondSlot_seenSums a_p2_secondSlot_seenShared a_p2_laterPurses v_p2_two_lawNumber v_p2_two_mine v_p2_two_theirs v_p2_two_sharedSum a_p2_two_primes v_p2_days_ringDays v_p2_days_leadDays a_p2_days_rows a_p2_days_purses v_p2_orders_bestHeld v_p2_orders_person v_p2_orders_lawNumber v_p2_orders_size a_p2_orders_purses a_p2_orders_used a_p2_orders_order a_p2_orders_best v_p2_ruins_fewest v_p2_ruins_people v_p2_ruins_goal a_p2_ruins_lastHeld a_p2_ruins_row a_p2_ruins_best v_p2_fits_found v_p2_fits_unit v_p2_fits_howMany v_p2_fits_least v_p2_fits_greatest a_p2_fits_primes a_p2_fits_some v_p3_text_length v_p3_text_place v_p3_text_lawNumber v_p3_text_people a_p3_text_bytes a_p3_text_purses v_p3_text_meetings_size a_p3_text_meetings_firsts a_p3_text_meetings_seconds v_p3_theDay_size a_p3_theDay_firsts a_p3_theDay_seconds v_p3_now_filled v_p3_now_people v_p3_now_lawNumber v_p3_now_made v_p3_now_seen a_p3_now_purses a_p3_now_firsts a_p3_now_seconds a_p3_now_firstsHad a_p3_now_secondsHad a_p3_now_seenSums a_p3_now_seenShared v_p3_firstSlot_filled v_p3_firstSlot_people v_p3_firstSlot_lawNumber v_p3_firstSlot_made v_p3_firstSlot_seen a_p3_firstSlot_purses a_p3_firstSlot_firsts a_p3_firstSlot_seconds a_p3_firstSlot_firstsHad a_p3_firstSlot_secondsHad a_p3_firstSlot_seenSums a_p3_firstSlot_seenShared v_p3_secondSlot_filled v_p3_secondSlot_people v_p3_secondSlot_lawNumber v_p3_secondSlot_made v_p3_secondSlot_seen a_p3_secondSlot_purses a_p3_secondSlot_firsts a_p3_secondSlot_seconds a_p3_secondSlot_firstsHad a_p3_secondSlot_secondsHad a_p3_secondSlot_seenSums a_p3_secondSlot_seenShared a_p3_laterPurses v_p3_two_lawNumber v_p3_two_mine v_p3_two_theirs v_p3_two_sharedSum a_p3_two_primes v_p3_days_ringDays v_p3_days_leadDays a_p3_days_rows a_p3_days_purses v_p3_orders_bestHeld v_p3_orders_person v_p3_orders_lawNumber v_p3_orders_size a_p3_orders_purses a_p3_orders_used a_p3_orders_order a_p3_orders_best v_p3_ruins_fewest v_p3_ruins_people v_p3_ruins_goal a_p3_ruins_lastHeld a_p3_ruins_row a_p3_ruins_best v_p3_fits_found v_p3_fits_unit v_p3_fits_howMany v_p3_fits_least v_p3_fits_greatest a_p3_fits_primes a_p3_fits_some g1 g2 hp hq hup huq
      apply hk24
      rw [show (34 : Int32) = nN 34 from rfl, n_le (by omega) (by omega)]
      refine ⟨fun _ => rfl, fun c34 => ⟨fun c => absurd c one_ne, fun _ => ?_⟩⟩
      have hN1 : 34 - (i + 1) < N := by omega
      have hi1 : i + 1 ≤ 34 := by omega
      refine sv_cell hL g2 (fun X hX => ?_)
      obtain ⟨ra, n, q, m, w, k, e, T, F, G, P, A, B, C, D, U, V, f1, h1, f2, h2, hact⟩ := act_det (n := n0) (q := q0) (m := m0) (w := w0) (k := k0) (e := e0) (T := T0) (F := F0) (G := G0) (P := P0) (A := A0) (B := B0) (C := C0) (D := D0) (U := U0) (V := V0) (f1 := f10) (h1 := h10) (f2 := f20) (h2 := h20) hX
      refine hact _ _ _ _ _ _ _ _ _ _ _ _ _ _ _ _ _ _ _ _ _ _ _ _ _ _ _ _ _ _ _ _ _ _ _ _ _ _ _ _ _ _ _ _ _ _ _ _ _ hp ?_
      intro pv_text_length pv_text_place pv_text_lawNumber pv_text_people pa_text_bytes pa_text_purses pv_text_meetings_size pa_text_meetings_firsts pa_text_meetings_seconds pv_theDay_size pa_theDay_firsts pa_theDay_seconds pv_now_filled pv_now_people pv_now_lawNumber pv_now_made pv_now_seen pa_now_purses pa_now_firsts pa_now_seconds pa_now_firstsHad pa_now_secondsHad pa_now_seenSums pa_now_seenShared pv_firstSlot_filled pv_firstSlot_people pv_firstSlot_lawNumber pv_firstSlot_made pv_firstSlot_seen pa_firstSlot_purses pa_firstSlot_firsts pa_firstSlot_seconds pa_firstSlot_firstsHad pa_firstSlot_secondsHad pa_firstSlot_seenSums pa_firstSlot_seenShared pv_secondSlot_filled pv_secondSlot_people pv_secondSlot_lawNumber pv_secondSlot_made pv_secondSlot_seen pa_secondSlot_purses pa_secondSlot_firsts pa_secondSlot_seconds pa_secondSlot_firstsHad pa_secondSlot_secondsHad pa_secondSlot_seenSums pa_secondSlot_seenShared hp
      refine hact _ _ _ _ _ _ _ _ _ _ _ _ _ _ _ _ _ _ _ _ _ _ _ _ _ _ _ _ _ _ _ _ _ _ _ _ _ _ _ _ _ _ _ _ _ _ _ _ _ hq ?_
      intro qv_text_length qv_text_place qv_text_lawNumber qv_text_people qa_text_bytes qa_text_purses qv_text_meetings_size qa_text_meetings_firsts qa_text_meetings_seconds qv_theDay_size qa_theDay_firsts qa_theDay_seconds qv_now_filled qv_now_people qv_now_lawNumber qv_now_made qv_now_seen qa_now_purses qa_now_firsts qa_now_seconds qa_now_firstsHad qa_now_secondsHad qa_now_seenSums qa_now_seenShared qv_firstSlot_filled qv_firstSlot_people qv_firstSlot_lawNumber qv_firstSlot_made qv_firstSlot_seen qa_firstSlot_purses qa_firstSlot_firsts qa_firstSlot_seconds qa_firstSlot_firstsHad qa_firstSlot_secondsHad qa_firstSlot_seenSums qa_firstSlot_seenShared qv_secondSlot_filled qv_secondSlot_people qv_secondSlot_lawNumber qv_secondSlot_made qv_secondSlot_seen qa_secondSlot_purses qa_secondSlot_firsts qa_secondSlot_seconds qa_secondSlot_firstsHad qa_secondSlot_secondsHad qa_secondSlot_seenSums qa_secondSlot_seenShared hq
      clear hact
      refine rfl_if ?_
      obtain ⟨hn2, hn8, hTp, rfl, rfl, hDp, ⟨hw, rfl, rfl, rfl, rfl, hP, hap, hRp, hSp⟩, s1p, s2p, hF⟩ := hp
      obtain ⟨-, -, hTq, rfl, rfl, hDq, ⟨-, rfl, rfl, rfl, rfl, -, haq, hRq0, hSq⟩, s1q, s2q, -⟩ := hq
      have hk32 := hRp.1
      have he8 := hSp.1
      have hm6 := hDp.1
      refine ok_refused hn2 hn8 ⟨fun c => absurd c one_ne, fun _ => ?_⟩
      refine sv_fault hTp hF (fun _ _ _ _ _ _ _ => ?_)
      refine sv_fault hTq hF (fun _ _ _ _ _ _ _ => rfl_if ?_)
      refine sv_count1 ?_
      obtain ⟨a, ga⟩ : ∃ a, a = X / 16 % n := ⟨_, rfl⟩
      obtain ⟨b, gb⟩ : ∃ b, b = (X / 16 % n + 1 + X / 128 % (n - 1)) % n := ⟨_, rfl⟩
      have han : a < n := by rw [ga]; exact Nat.mod_lt _ (by omega)
      have hab0 := two_ne (d := X / 128) hn2 (show X / 16 % n < n from Nat.mod_lt _ (by omega))
      have hbn : b < n := by rw [gb]; exact hab0.2
      have hab : a ≠ b := by rw [ga, gb]; exact fun e => hab0.1 e.symm
      have hba : b ≠ a := fun e => hab e.symm
      have hX16 : X / 16 ≤ 2147483647 := Nat.le_trans (Nat.div_le_self _ _) (by omega)
      have hX128 : X / 128 ≤ 2147483647 := Nat.le_trans (Nat.div_le_self _ _) (by omega)
      have d16 : nN X / (16 : Int32) = nN (X / 16) := n_div (b := 16) (by omega) (by decide) (by decide)
      have d128 : nN X / (128 : Int32) = nN (X / 128) := n_div (b := 128) (by omega) (by decide) (by decide)
      have s1n : nN n - (1 : Int32) = nN (n - 1) := n_sub (b := 1) (by omega)
      have ea : (nN X / (16 : Int32)) - (nN X / (16 : Int32)) / nN n * nN n = nN a := by rw [d16, n_rem hX16 (by omega) (by omega), ga]
      have hlt := Nat.mod_lt (X / 128) (show 0 < n - 1 by omega)
      have eb : ((nN a + (1 : Int32)) + ((nN X / (128 : Int32)) - (nN X / (128 : Int32)) / (nN n - (1 : Int32)) * (nN n - (1 : Int32)))) - ((nN a + (1 : Int32)) + ((nN X / (128 : Int32)) - (nN X / (128 : Int32)) / (nN n - (1 : Int32)) * (nN n - (1 : Int32)))) / nN n * nN n = nN b := by rw [d128, s1n, n_rem hX128 (by omega) (by omega), show nN a + (1 : Int32) = nN (a + 1) from n_add _ 1, n_add, n_rem (by omega) (by omega) (by omega), gb, ga]
      refine ⟨nz (by omega) (by omega), by rw [s1n]; exact nz (by omega) (by omega), nz (by omega) (by omega), ?_⟩
      rw [ea, eb]
      have hpa := hP a han
      have hpb := hP b hbn
      have hcl := gcdN_le hP
      refine sv_coin hn8 hP hap ?_
      intro k132 hk132
      suffices hend : k132 (nN n) (nN (sumN P n)) by
        have key132 : ∀ (N i : Nat), n - i < N → i ≤ n → k132 (nN i) (nN (sumN P i)) := by
          intro N
          induction N with
          | zero => intro i g; omega
          | succ N ih2 =>
            intro i f1 f2
            rcases Nat.lt_or_ge i n with hi | hi
            · apply hk132
              refine ⟨fun c => absurd ((n_le (by omega) (by omega)).mp c) (by omega), fun _ => ?_⟩
              refine sv_purse hn8 hi hap ?_
              refine sv_purse hn8 hi haq (rfl_if ?_)
              refine j_had (hP i hi) hcl (gcdN_dvd n i hi) ?_
              rw [show nN i + 1 = nN (i + 1) from n_add _ 1, n_add]
              exact ih2 (i + 1) (by omega) (by omega)
            · have e : i = n := by omega
              rw [e]; exact hend
        exact key132 (n + 1) 0 (by omega) (by omega)
      apply hk132
      refine ⟨fun _ => ?_, fun c => absurd ((n_le (by omega) (by omega)).mpr (Nat.le_refl n)) c⟩
      intro k217 hk217
      suffices hend : k217 (nN 7) by
        have key217 : ∀ (N i : Nat), 7 - i < N → i ≤ 7 → k217 (nN i) := by
          intro N
          induction N with
          | zero => intro i g; omega
          | succ N ih2 =>
            intro i f1 f2
            rcases Nat.lt_or_ge i 7 with hi | hi
            · apply hk217
              refine ⟨fun c => absurd ((n_le (a := 7) (by omega) (by omega)).mp c) (by omega), fun _ => ?_⟩
              refine sv_count hn8 (by omega) hap ?_
              refine sv_count hn8 (by omega) haq (rfl_if ?_)
              rw [show nN i + 1 = nN (i + 1) from n_add _ 1]
              exact ih2 (i + 1) (by omega) (by omega)
            · have e : i = 7 := by omega
              rw [e]; exact hend
        exact key217 8 0 (by omega) (by omega)
      apply hk217
      refine ⟨fun _ => ?_, fun c => absurd ((n_le (a := 7) (b := 7) (by omega) (by omega)).mpr (Nat.le_refl 7)) c⟩
      refine sv_purse hn8 han hap ?_
      refine sv_purse hn8 hbn hap ?_
      refine sv_shared hn8 han hbn hab hP hap ?_
      refine sv_count5 hn8 hap (rfl_if ?_)
      refine sv_coin hn8 hP haq (rfl_if ?_)
      refine sv_shared hn8 han hbn hab hP haq (rfl_if ?_)
      refine sv_shared hn8 hbn han hba hP hap (eq_if (by rw [sh_comm]) ?_)
      intro k377 hk377
      suffices h377 : k377 by
        exact j377 hpa hpb hcl (gcdN_dvd n a han) (gcdN_dvd n b hbn) h377
      apply hk377
      refine sv_after1 hn8 hw han hbn hab hP hap (fun _ _ _ _ _ => ?_)
      refine sv_after1 hn8 hw hbn han hba hP hap (fun _ _ _ _ _ => ?_)
      refine sv_ring hn8 hw han hbn hab hP hap (fun Lr Rr _ _ _ _ _ hRL => ?_)
      refine sv_lead hn8 hw han hbn hab hP hap (fun L2 R2 _ _ _ _ _ hR2 => ?_)
      rw [(hRL.uniq hR2).1]
      refine sv_after1 hn8 hw han hbn hab hP haq (fun _ _ _ _ _ => rfl_if ?_)
      refine sv_ring hn8 hw han hbn hab hP haq (fun L3 R3 _ _ _ _ _ hR3 => ?_)
      rw [(hRL.uniq hR3).2]
      refine rfl_if ?_
      refine sv_lead hn8 hw han hbn hab hP haq (fun L4 R4 _ _ _ _ _ hR4 => ?_)
      rw [(hRL.uniq hR4).1]
      refine rfl_if ?_
      intro k481 hk481
      suffices h481 : k481 by
        exact j481 hRL.one h481
      apply hk481
      refine sv_ring hn8 hw hbn han hba hP hap (fun L5 R5 _ _ _ _ _ hR5 => ?_)
      rw [(hRL.swap.uniq hR5).2]
      refine rfl_if ?_
      refine sv_lead hn8 hw hbn han hba hP hap (fun L6 R6 _ _ _ _ _ hR6 => ?_)
      rw [(hRL.swap.uniq hR6).1]
      refine rfl_if ?_
      have hL9 := hRL.1
      have hR9 := hRL.one
      refine j517 hpa hpb (mt_sum hpa hpb) ?_
      refine sv_afterE rfl hn8 hw han hbn hab (by omega) hP hap (fun _ _ _ _ _ => ?_)
      refine sv_afterE (m := Lr + Rr) (n_add _ _) hn8 hw han hbn hab (by omega) hP hap (fun _ _ _ _ _ => ?_)
      refine eq_if (by rw [hRL.come]) ?_
      refine sv_afterE (m := Lr + 1) (n_add _ 1) hn8 hw han hbn hab (by omega) hP hap (fun _ _ _ _ _ => ?_)
      refine sv_afterE (m := Lr + 1 + Rr) (by rw [show nN Lr + (1 : Int32) = nN (Lr + 1) from n_add _ 1, n_add]) hn8 hw han hbn hab (by omega) hP hap (fun _ _ _ _ _ => ?_)
      refine eq_if (by rw [hRL.come2]) ?_
      refine sv_after0 hn8 hw han hbn hab hP hap (fun _ _ _ _ _ => rfl_if ?_)
      intro k613 hk613
      suffices h613 : k613 by
        exact j613 hpa hpb hRL h613
      apply hk613
      refine sv_count3 ?_
      intro k738 hk738
      suffices h738 : ∀ (pu fa sa ha ga : Nat → Int32) (t1 t2 t3 t4 : Int32) (t5 : Nat → Int32), (∀ t, t < n → pu t = nN (P t)) → RowC n k A B C D fa sa ha ga → k738 (nN k) pu fa sa ha ga t1 t2 t3 t4 t5 by
        rw [show (32 : Int32) = nN 32 from rfl, n_le (by omega) (by omega)]
        refine ⟨fun _ => h738 _ _ _ _ _ _ _ _ _ _ hap hRp, fun c => ?_⟩
        refine sv_count3 ?_
        refine sv_meet hn8 hw han hbn hab hk32 hP hap (fun h => by omega) (fun a1 hk1 ha1 => ?_)
        refine eq_if j645 ?_
        refine sv_purse hn8 han ha1 (eq_if (by rw [mv_i hab]) ?_)
        refine sv_purse hn8 hbn ha1 (eq_if (by rw [mv_j]) ?_)
        have hP1 := mv_le (w := w) han hbn hP
        have hR1 := hRp.push hk1 han hbn hpa hpb
        intro k701 hk701
        suffices h701 : ∀ (t1 t2 t3 t4 : Int32) (t5 : Nat → Int32), k701 t1 t2 t3 t4 t5 by
          rw [z0, n_eq (by omega) (by omega)]
          refine ⟨fun _ => h701 _ _ _ _ _, fun cL => ?_⟩
          refine sv_lead hn8 hw han hbn hab hP1 ha1 (fun L7 R7 _ _ _ _ _ hR7 => ?_)
          rw [mv_i hab, mv_j] at hR7
          rw [((hRL.next cL).uniq hR7).1]
          exact eq_if (n_sub (b := 1) (by omega)).symm (h701 _ _ _ _ _)
        intro t1 t2 t3 t4 t5
        apply hk701
        refine sv_back hn8 ha1 hR1 (fun h => by omega) (fun a2 _ ha2 => ?_)
        have ha3 : ∀ t, t < n → a2 t = nN (P t) := fun t ht => by rw [ha2 t ht, back_mv han hbn]
        refine eq_if (by rw [Nat.add_sub_cancel]) ?_
        refine sv_purse hn8 han ha3 (rfl_if ?_)
        refine sv_purse hn8 hbn ha3 (rfl_if ?_)
        rw [Nat.add_sub_cancel]
        exact h738 _ _ _ _ _ _ _ _ _ _ ha3 hRp.keep
      clear hap hRp
      intro pu fa sa ha ga t1 t2 t3 t4 t5 hap hRp
      apply hk738
      refine sv_pennies hn8 hw han hbn hab hP hap (fun m1 hm1 => ?_)
      refine sv_pennies hn8 hw han hbn hab hP haq (fun m2 hm2 => ?_)
      rw [hm1.uniq hm2]
      refine rfl_if ?_
      refine j802 hpa hm1 ?_
      intro k802 hk802
      suffices h802 : k802 by
        exact j802b hpa hm1 h802
      apply hk802
      have hX512 : X / 512 ≤ 2147483647 := Nat.le_trans (Nat.div_le_self _ _) (by omega)
      have e512 : (nN X / (512 : Int32)) - (nN X / (512 : Int32)) / (20 : Int32) * (20 : Int32) = nN (X / 512 % 20) := by rw [show nN X / (512 : Int32) = nN (X / 512) from n_div (b := 512) (by omega) (by decide) (by decide)]; exact n_rem (b := 20) hX512 (by decide) (by decide)
      refine sv_laterE e512 hn8 hw han (by omega) hDp hP hap (fun _ => ?_)
      refine sv_laterE e512 hn8 hw han (by omega) hDq hP haq (fun _ => rfl_if ?_)
      refine sv_laterE (d := 0) rfl hn8 hw han (by omega) hDp hP hap (fun _ => rfl_if ?_)
      refine sv_dayRing0 hn8 hw hDp hP hap (fun rr ll _ _ _ _ hd1 => ?_)
      refine sv_dayRing1 hn8 hw hDp hP hap (fun rr2 ll2 _ _ _ _ hd2 => ?_)
      rw [(hd1.uniq hd2).2]
      refine sv_dayRing0 hn8 hw hDq hP haq (fun rr3 ll3 _ _ _ _ hd3 => ?_)
      rw [(hd1.uniq hd3).1]
      refine rfl_if ?_
      refine sv_dayRing1 hn8 hw hDq hP haq (fun rr4 ll4 _ _ _ _ hd4 => ?_)
      rw [(hd1.uniq hd4).2]
      refine rfl_if ?_
      intro k925 hk925
      suffices h925 : k925 by
        exact j925 hd1 h925
      apply hk925
      intro k954 hk954
      suffices h954 : ∀ la, k954 la by
        rcases hd1.law with ⟨rfl, rfl⟩ | ⟨dd, de, u1, u2, rfl, rfl, u3⟩
        · exact ⟨fun _ => h954 _, fun c => absurd rfl c⟩
        · refine ⟨fun _ => h954 _, fun _ => ?_⟩
          refine sv_laterE rfl hn8 hw han (by omega) hDp hP hap (fun _ => ?_)
          refine sv_laterE (d := dd) (by rw [n_add, show de + (dd - de) = dd by omega]) hn8 hw han u2 hDp hP hap (fun _ => ?_)
          exact eq_if (by rw [u3 a han]) (h954 _)
      intro la
      apply hk954
      refine sv_count2 ?_
      intro k973 hk973
      suffices h973 : k973 by
        exact j973 (by omega) hd1 h973
      apply hk973
      refine sv_most hn8 hw han hDp hP hap hup (fun _ _ _ _ _ _ _ _ hbl hup => ?_)
      refine sv_most hn8 hw han hDq hP haq huq (fun _ _ _ _ _ _ _ _ _ huq => rfl_if ?_)
      refine sv_laterE (d := 1) rfl hn8 hw han (by omega) hDp hP hap (fun _ => ?_)
      refine j1011 hbl ?_
      refine sv_count2 ?_
      intro k1029 hk1029
      suffices h1029 : k1029 by
        exact j1029 (by omega) h1029
      apply hk1029
      intro k1041 hk1041
      suffices h1041 : ∀ (x23 : Int32) (y1 y2 y3 y4 : Int32) (y5 y6 y7 y8 : Nat → Int32) (x1 x2 x3 x4 : Int32) (x5 x6 x7 x8 : Nat → Int32), (∀ t, t < 6 → y6 t = 0) → (∀ t, t < 6 → x6 t = 0) → k1041 (nN m) x23 y1 y2 y3 y4 y5 y6 y7 y8 x1 x2 x3 x4 x5 x6 x7 x8 by
        obtain ⟨r1, r2, r3⟩ := bst_row w m F G P a
        have key1041 : ∀ (N i kk : Nat) (y1 y2 y3 y4 : Int32) (y5 y6 y7 y8 : Nat → Int32) (x1 x2 x3 x4 : Int32) (x5 x6 x7 x8 : Nat → Int32), m - i < N → i ≤ m → BS kk (met (bst w m F G P a).2 [] i) → (∀ t, t < 6 → y6 t = 0) → (∀ t, t < 6 → x6 t = 0) → k1041 (nN i) (nN kk) y1 y2 y3 y4 y5 y6 y7 y8 x1 x2 x3 x4 x5 x6 x7 x8 := by
          intro N
          induction N with
          | zero =>
            intro i
            intros
            omega
          | succ N ih2 =>
            intro i kk y1 y2 y3 y4 y5 y6 y7 y8 x1 x2 x3 x4 x5 x6 x7 x8 f1 f2 hbs hu1 hu2
            rcases Nat.lt_or_ge i m with hi | hi
            · have hx := getD_lt r2 (show i < (bst w m F G P a).2.length by rw [r3]; exact hi)
              obtain ⟨b1, b2, b3⟩ := j_bit r1 (show i < (bst w m F G P a).2.length by rw [r3]; exact hi) rfl (by omega) List.not_mem_nil hbs
              apply hk1041
              refine sv_count2 ?_
              refine ⟨fun c => absurd ((n_le (by omega) (by omega)).mp c) (by omega), fun _ => ?_⟩
              refine sv_mostAt hn8 hw han hi hDp hP hap hu1 (fun _ _ _ _ _ _ _ _ hu1 => ?_)
              refine sv_mostAt hn8 hw han hi hDq hP haq hu2 (fun _ _ _ _ _ _ _ _ hu2 => rfl_if ?_)
              refine ⟨fun c => absurd ((n_lt (b := 0) (by omega) (by omega)).mp c) (by omega), fun _ => ?_⟩
              refine sv_count2 ?_
              refine ⟨fun c => absurd ((n_le (by omega) (by omega)).mp c) (by omega), fun _ => ?_⟩
              refine eq_if b1 ?_
              rw [b2, show nN i + 1 = nN (i + 1) from n_add _ 1]
              exact ih2 (i + 1) _ _ _ _ _ _ _ _ _ _ _ _ _ _ _ _ _ (by omega) (by omega) b3 hu1 hu2
            · have e : i = m := by omega
              rw [e]
              exact h1041 _ _ _ _ _ _ _ _ _ _ _ _ _ _ _ _ _ hu1 hu2
        exact key1041 (m + 1) 0 0 _ _ _ _ _ _ _ _ _ _ _ _ _ _ _ _ (by omega) (by omega) BS_nil hup huq
      clear hup huq
      intro x23 y1 y2 y3 y4 y5 y6 y7 y8 x1 x2 x3 x4 x5 x6 x7 x8 hup huq
      apply hk1041
      refine sv_count2 ?_
      refine ⟨fun _ => ?_, fun c => absurd ((n_le (by omega) (by omega)).mpr (Nat.le_refl m)) c⟩
      refine sv_count2 ?_
      refine sv_mostAtN (w := w) (P := P) hn8 han hDp (rfl_if ?_)
      have hX64 : X / 64 ≤ 2147483647 := Nat.le_trans (Nat.div_le_self _ _) (by omega)
      obtain ⟨g, hg⟩ : ∃ g, g = X / 64 % (P a + 1) := ⟨_, rfl⟩
      have hg9 : g ≤ 99999 := by have := Nat.mod_lt (X / 64) (show 0 < P a + 1 by omega); omega
      have e64 : (nN X / (64 : Int32)) - (nN X / (64 : Int32)) / (nN (P a) + (1 : Int32)) * (nN (P a) + (1 : Int32)) = nN g := by rw [show nN X / (64 : Int32) = nN (X / 64) from n_div (b := 64) (by omega) (by decide) (by decide), show nN (P a) + (1 : Int32) = nN (P a + 1) from n_add _ 1, n_rem hX64 (by omega) (by omega), hg]
      rw [e64]
      refine ⟨by rw [show nN (P a) + (1 : Int32) = nN (P a + 1) from n_add _ 1]; exact nz (by omega) (by omega), ?_⟩
      refine sv_ruin hn8 hw han hg9 hP hap (fun zz _ _ _ _ _ _ hz1 => ?_)
      refine sv_ruin hn8 hw han hg9 hP haq (fun zz2 _ _ _ _ _ _ hz2 => ?_)
      rw [hz1.uniq hz2]
      refine rfl_if ?_
      intro k1208 hk1208
      suffices h1208 : k1208 by
        exact j1208 hn8 hz1 h1208
      apply hk1208
      intro k1233 hk1233
      suffices h1233 : k1233 by
        exact j1233 hn8 (by omega) hg9 hpa hz1 h1233
      apply hk1233
      intro k1249 hk1249
      suffices h1249 : ∀ s : Nat, s ≤ 8 → ruinAtV zz s = -9 → k1249 (nN s) by
        exact j1249 hn8 hz1 h1249
      intro s hs hs9
      apply hk1249
      refine sv_ruinAt hn8 hw han hg9 (by omega) hP hap (fun zz3 _ _ _ _ _ _ hz3 => ?_)
      rw [hz1.uniq hz3]
      refine eq_if hs9 ?_
      clear hz3
      refine sv_ruin hn8 hw han hpa hP hap (fun zz4 _ _ _ _ _ _ hz4 => ?_)
      refine j1262 (by omega) hz4 ?_
      clear hz4
      intro k1283 hk1283
      suffices h1283 : ∀ (x27 x26 : Int32) (y1 y2 y3 : Int32) (y4 y5 y6 : Nat → Int32) (x1 x2 x3 : Int32) (x4 x5 x6 : Nat → Int32), ruinV zz ≤ x27 → k1283 x27 x26 y1 y2 y3 y4 y5 y6 x1 x2 x3 x4 x5 x6 by
        rcases ru9 hn8 hz1 with ⟨v1, v2⟩ | ⟨oo, v1, v2, v3⟩
        · refine h1283 _ _ _ _ _ _ _ _ _ _ _ _ _ _ ?_
          rw [v2]; decide
        · subst v1
          obtain ⟨r1, r2, r3⟩ := hz1.row
          have key1283 : ∀ (N i kk : Nat) (y1 y2 y3 : Int32) (y4 y5 y6 : Nat → Int32) (x1 x2 x3 : Int32) (x4 x5 x6 : Nat → Int32), oo.length - i < N → i ≤ oo.length → BS kk (met oo [a] i) → k1283 (nN i) (nN kk) y1 y2 y3 y4 y5 y6 x1 x2 x3 x4 x5 x6 := by
            intro N
            induction N with
            | zero =>
              intro i
              intros
              omega
            | succ N ih2 =>
              intro i kk y1 y2 y3 y4 y5 y6 x1 x2 x3 x4 x5 x6 f1 f2 hbs
              rcases Nat.lt_or_ge i oo.length with hi | hi
              · have hx := r2 _ (show oo.getD i 0 ∈ oo by rw [List.getD_eq_getElem?_getD, List.getElem?_eq_getElem hi]; exact List.getElem_mem hi)
                obtain ⟨b1, b2, b3⟩ := j_bit r1 hi rfl (by omega) (fun hm => hx.2 (List.mem_singleton.mp hm)) hbs
                apply hk1283
                refine ⟨fun c => ?_, fun _ => ?_⟩
                · rw [v2, n_le (by omega) (by omega)] at c
                  omega
                refine sv_ruinAt hn8 hw han hg9 (by omega) hP hap (fun zz5 _ _ _ _ _ _ hz5 => ?_)
                rw [hz1.uniq hz5]
                refine sv_ruinAt hn8 hw han hg9 (by omega) hP haq (fun zz6 _ _ _ _ _ _ hz6 => ?_)
                rw [hz1.uniq hz6]
                refine rfl_if ?_
                rw [show ruinAtV (some oo) i = nN (oo.getD i 0) from if_pos hi]
                refine eq_if b1 ?_
                rw [b2, show nN i + 1 = nN (i + 1) from n_add _ 1]
                exact ih2 (i + 1) _ _ _ _ _ _ _ _ _ _ _ _ _ (by omega) (by omega) b3
              · have e : i = oo.length := by omega
                rw [e]
                refine h1283 _ _ _ _ _ _ _ _ _ _ _ _ _ _ ?_
                rw [v2, n_le (by omega) (by omega)]
                exact Nat.le_refl _
          have hbs := BS_add BS_nil (show a < 8 by omega)
          rw [bit_one a (by omega)]
          rw [Nat.zero_or] at hbs
          exact key1283 (oo.length + 1) 0 (2 ^ a) _ _ _ _ _ _ _ _ _ _ _ _ (by omega) (by omega) hbs.2
      intro x27 x26 p1 p2 p3 p4 p5 p6 q1 q2 q3 q4 q5 q6 hle
      apply hk1283
      refine ⟨fun _ => ?_, fun c => absurd hle c⟩
      have hX32 : X / 32 ≤ 2147483647 := Nat.le_trans (Nat.div_le_self _ _) (by omega)
      obtain ⟨fr, hfr⟩ : ∃ fr, fr = X / 32 % 700 := ⟨_, rfl⟩
      have hf7 : fr < 700 := by omega
      have e32 : (nN X / (32 : Int32)) - (nN X / (32 : Int32)) / (700 : Int32) * (700 : Int32) = nN fr := by rw [show nN X / (32 : Int32) = nN (X / 32) from n_div (b := 32) (by omega) (by decide) (by decide), hfr]; exact n_rem (b := 700) hX32 (by decide) (by decide)
      rw [e32]
      refine sv_may0 (by omega) hSp (fun _ _ _ _ _ _ _ => ?_)
      refine sv_may1 (by omega) hSp (fun _ _ _ _ _ _ _ => ?_)
      refine sv_may2 (by omega) hSp (fun _ _ _ _ _ _ _ => ?_)
      refine sv_may0 (by omega) hSq (fun _ _ _ _ _ _ _ => rfl_if ?_)
      refine sv_may1 (by omega) hSq (fun _ _ _ _ _ _ _ => rfl_if ?_)
      refine sv_may2 (by omega) hSq (fun _ _ _ _ _ _ _ => rfl_if ?_)
      intro k1494 hk1494
      suffices h1494 : ∀ (y1 y2 y3 y4 y5 : Int32) (y6 y7 : Nat → Int32), k1494 y1 y2 y3 y4 y5 y6 y7 by
        have ht := tot_le (fb e U V) (fr + 1)
        rcases may_law (fb e U V) (fr + 1) with ⟨u1, u2, u3⟩ | ⟨l1, l2, u1, u2, u3, u4, u5, u6, u7⟩
        · rw [u1, u2, u3]
          exact ⟨fun c => absurd rfl c, fun _ => ⟨fun c => c rfl, fun _ => ⟨fun c => c rfl, fun _ => h1494 _ _ _ _ _ _ _⟩⟩⟩
        · rw [u1, u2]
          refine ⟨fun _ => ⟨fun c => absurd ((n_lt (by omega) (by omega)).mp c) (by omega), fun _ => ⟨fun c => absurd ((n_lt (b := 0) (by omega) (by omega)).mp c) (by omega), fun _ => ⟨fun c => absurd ((n_lt (by omega) (by omega)).mp c) (by omega), fun _ => ⟨fun c => ?_, fun _ => ?_⟩⟩⟩⟩, fun c => absurd c (nz (by omega) (by omega))⟩
          · rw [n_sub u3, show nN (l2 - l1) + (1 : Int32) = nN (l2 - l1 + 1) from n_add _ 1, n_lt (by omega) (by omega)] at c
            omega
          · refine sv_may0 (by omega) hSp (fun _ _ _ _ _ _ _ => ?_)
            rw [u7]
            exact rfl_if (h1494 _ _ _ _ _ _ _)
      intro y1 y2 y3 y4 y5 y6 y7
      apply hk1494
      refine sv_count4 ?_
      intro k1511 hk1511
      suffices h1511 : k1511 by
        exact j1496 he8 (by omega) h1511
      apply hk1511
      rw [show nN fr + (1 : Int32) = nN (fr + 1) from n_add _ 1]
      refine sv_may0 (by omega) hSp (fun _ _ _ _ _ _ _ => ?_)
      refine j1517 (by omega) ?_
      refine sv_charm hn8 han hP hap (fun c1 hc1 => ?_)
      refine sv_charm hn8 han hP haq (fun c2 hc2 => ?_)
      rw [hc1.uniq hc2]
      refine rfl_if ?_
      refine j_charm hpa hc1 ?_
      intro k1588 hk1588
      suffices h1588 : k1588 by
        exact j_ch2 hpa hc1 h1588
      apply hk1588
      refine j_ch3 hpa hc1 ?_
      rw [show nN i + 1 = nN (i + 1) from n_add _ 1]
      refine ih (i + 1) (n0 := n) (q0 := q) (m0 := m) (w0 := w) (k0 := k) (e0 := e) (T0 := T) (F0 := F) (G0 := G) (P0 := P) (A0 := A) (B0 := B) (C0 := C) (D0 := D) (U0 := U) (V0 := V) (f10 := f1) (h10 := h1) (f20 := f2) (h20 := h2) hN1 hi1 ?_ ?_ hup huq
      · exact ⟨hn2, hn8, hTp, rfl, rfl, hDp, ⟨hw, rfl, rfl, rfl, rfl, hP, hap, hRp, hSp⟩, s1p, s2p, hF⟩
      · exact ⟨hn2, hn8, hTq, rfl, rfl, hDq, ⟨hw, rfl, rfl, rfl, rfl, hP, haq, hRq0, hSq⟩, s1q, s2q, hF⟩
  have hO : OB 2 0 0 0 0 0 (fun _ => 0) (fun _ => 0) (fun _ => 0) (fun _ => 0) (fun _ => 0) (fun _ => 0) (fun _ => 0) (fun _ => 0) (fun _ => 0) (fun _ => 0) 0 (fun _ _ => 0) 0 (fun _ _ => 0) 0 (fun _ => 0) 0 (fun _ => 0) (fun _ => 0) 2 0 0 0 (fun _ => 0) (fun _ => 0) (fun _ => 0) (fun _ => 0) (fun _ => 0) (fun _ => 0) (fun _ => 0) 0 0 0 0 0 (fun _ => 0) (fun _ => 0) (fun _ => 0) (fun _ => 0) (fun _ => 0) (fun _ => 0) (fun _ => 0) 0 0 0 0 0 (fun _ => 0) (fun _ => 0) (fun _ => 0) (fun _ => 0) (fun _ => 0) (fun _ => 0) (fun _ => 0) := ⟨by omega, by omega, ⟨by omega, fun i h => absurd h (by omega), fun i h => absurd h (by omega), fun i h => absurd h (by omega)⟩, rfl, rfl, ⟨by omega, fun i h => absurd h (by omega), fun i h => absurd h (by omega)⟩, ⟨by omega, rfl, rfl, rfl, rfl, fun t _ => Nat.zero_le _, fun t _ => rfl, ⟨by omega, fun j h => absurd h (by omega), fun j h => absurd h (by omega)⟩, ⟨by omega, fun j h => absurd h (by omega), fun j h => absurd h (by omega)⟩⟩, Or.inl ⟨rfl, rfl⟩, Or.inl ⟨rfl, rfl⟩, Or.inl rfl⟩
  exact key 35 0 (by omega) (by omega) hO hO (fun _ _ => rfl) (fun _ _ => rfl)
