abbrev rm_X0_wereHad : Room := { frames := 0, cells := 0, slots := 0, locals := 0 }
abbrev cw_X0_wereHad (cI cZ : ClassId) (o o_rows o_purses : Nat) (v_ringDays : Int32) (v_leadDays : Int32) (a_rows : Nat → Int32) (a_purses : Nat → Int32) : va_W := [(o, .inr (0, [.ref o_rows, .ref o_purses, .int v_ringDays, .int v_leadDays])), (o_rows, .inl (cI, 2408, .inl a_rows)), (o_purses, .inl (cI, 8, .inl a_purses))]
theorem inw_X0_wereHad_X0 : ∀ w ∈ u_ws RX0 TX0 4, w ∈ wsX0_wereHad := by decide +kernel
def wp_X0_wereHad (n1 : Int32) (n2 : Int32) (a_rows : Nat → Int32) (a_purses : Nat → Int32) (Post : Int32 → Prop) : Prop := (∀ k2 : (Int32) → Prop, (∀ (x3_2 : Int32), ((n2 ≤ x3_2 → (Post (1 : Int32))) ∧ (¬ n2 ≤ x3_2 → (vp_in ((n1 * (8 : Int32)) + x3_2) 2408 ∧ (vp_in x3_2 8 ∧ (((a_rows (Int32.toNatClampNeg ((n1 * (8 : Int32)) + x3_2))) = (a_purses (Int32.toNatClampNeg x3_2)) → (k2 (x3_2 + 1))) ∧ (¬ (a_rows (Int32.toNatClampNeg ((n1 * (8 : Int32)) + x3_2))) = (a_purses (Int32.toNatClampNeg x3_2)) → (Post (0 : Int32)))))))) → k2 x3_2) → k2 (0 : Int32))
set_option maxHeartbeats 4000000 in
set_option maxRecDepth 100000 in
theorem c_X0_wereHad (l : Launch) (D : va_G) (cI cZ : ClassId) (o o_rows o_purses : Nat) (sz : Nat) (n1 : Int32) (n2 : Int32) (v_ringDays : Int32) (v_leadDays : Int32) (a_rows : Nat → Int32) (a_purses : Nat → Int32) (Post : Int32 → Prop) (h : wp_X0_wereHad n1 n2 a_rows a_purses Post) : Met l yX0_wereHad wsX0_wereHad rm_X0_wereHad (cPc D cI cZ [.ref o, .int n1, .int n2] (cw_X0_wereHad cI cZ o o_rows o_purses v_ringDays v_leadDays a_rows a_purses) sz) (cQi0 D Post ((cw_X0_wereHad cI cZ o o_rows o_purses v_ringDays v_leadDays a_rows a_purses)) (va_A (cw_X0_wereHad cI cZ o o_rows o_purses v_ringDays v_leadDays a_rows a_purses) sz)) 0 0 (va_A (cw_X0_wereHad cI cZ o o_rows o_purses v_ringDays v_leadDays a_rows a_purses) sz) := by
  refine ent (cc := cX0_wereHad) (maxL := 4) (ret := (some .boolean)) (Qc := fun A => cQi0 D Post ((cw_X0_wereHad cI cZ o o_rows o_purses v_ringDays v_leadDays a_rows a_purses)) A) (by decide) rfl (Nat.le_of_ble_eq_true rfl) ?_
  intro p e s m args below meth c A ls Q hQ hsz hx hb hml hr hts hown hlocks hnm hK hP hD hA hS hl
  have hl : lv_has ls 4 [(0, .ref o), (1, .int n1), (2, .int n2)] := hl
  unfold wp_X0_wereHad at h
  refine lv_iconst (v := 0) hx hb dX0_wereHad_0 (by decide) ?_
  refine lv_istore_n (lv' := [(3, .int (0 : Int32)), (0, .ref o), (1, .int n1), (2, .int n2)]) hx hb dX0_wereHad_1 rfl hl (by decide) rfl (fun ls hl => ?_)
  refine h (fun x3_2 => ∀ (H : Heap) (locs : List Loc) (ls : Array Slot), lv_has ls 4 [(0, .ref o), (1, .int n1), (2, .int n2), (3, .int x3_2)] → va_P D vwCl (cw_X0_wereHad cI cZ o o_rows o_purses v_ringDays v_leadDays a_rows a_purses) H → va_D A (cw_X0_wereHad cI cZ o o_rows o_purses v_ringDays v_leadDays a_rows a_purses) → va_S A s.heap H locs → W p l e rm_X0_wereHad s m args below meth c H locs 0 0 Q (F0 m 2 ls [])) ?_ s.heap [] ls (lv_sub hl [1, 2, 3, 0] rfl) hP hD hS
  intro x3_2 h H locs ls hl hP hD hS
  refine lv_iload_n hx hb dX0_wereHad_2 rfl (lv_at hl 3 rfl) ?_
  refine lv_iload_n hx hb dX0_wereHad_3 rfl (lv_at hl 2 rfl) ?_
  refine lv_icmp_ge (tgt := 35) hx hb dX0_wereHad_4 (by decide) (fun c4 => ?_) (fun c4 => ?_)
  · have h := h.1 c4
    refine lv_iconst (v := 1) hx hb dX0_wereHad_35 (by decide) ?_
    exact ret_z0 hx hb hr hlocks hQ hS (by decide)  hP h dX0_wereHad_36
  · have h := h.2 c4
    refine lv_aload_n hx hb dX0_wereHad_7 rfl (lv_at hl 0 rfl) ?_
    refine va_get (D := D) (ci := 0) (v := .ref o_rows) (C := RX0) (T := TX0) (N := 4) hx hb hts inw_X0_wereHad_X0 hown hK.1 hP 0 rfl rfl 0 (by decide) (hts (.fieldLink RX0 9 "PursesShare$DaySearch" "rows" "[I") (by decide +kernel)) (fun _ h9 => h9) rfl dX0_wereHad_8 ?_
    refine lv_iload_n hx hb dX0_wereHad_11 rfl (lv_at hl 1 rfl) ?_
    refine lv_bipush (v := 8) hx hb dX0_wereHad_12 (by decide) ?_
    refine lv_imul hx hb dX0_wereHad_14 ?_
    refine lv_iload_n hx hb dX0_wereHad_15 rfl (lv_at hl 3 rfl) ?_
    refine lv_iadd hx hb dX0_wereHad_16 ?_
    have h0 := h.1
    have h := h.2
    refine va_iald hx hb hK.1 hP 1 0 rfl rfl h0 dX0_wereHad_17 ?_
    refine lv_aload_n hx hb dX0_wereHad_18 rfl (lv_at hl 0 rfl) ?_
    refine va_get (D := D) (ci := 0) (v := .ref o_purses) (C := RX0) (T := TX0) (N := 4) hx hb hts inw_X0_wereHad_X0 hown hK.1 hP 0 rfl rfl 1 (by decide) (hts (.fieldLink RX0 15 "PursesShare$DaySearch" "purses" "[I") (by decide +kernel)) (fun _ h9 => h9) rfl dX0_wereHad_19 ?_
    refine lv_iload_n hx hb dX0_wereHad_22 rfl (lv_at hl 3 rfl) ?_
    have h0 := h.1
    have h := h.2
    refine va_iald hx hb hK.1 hP 2 0 rfl rfl h0 dX0_wereHad_23 ?_
    refine lv_icmp_eq (tgt := 29) hx hb dX0_wereHad_24 (by decide) (fun c24 => ?_) (fun c24 => ?_)
    · have h := h.1 c24
      refine lv_iinc (v := (x3_2 + 1)) (lv' := [(3, .int (x3_2 + 1)), (0, .ref o), (1, .int n1), (2, .int n2)]) hx hb dX0_wereHad_29 hl (k := 3) rfl rfl (by decide) rfl (fun ls hl => ?_)
      refine lv_goto (tgt := 2) hx hb dX0_wereHad_32 (by decide) ?_
      exact h H locs ls (lv_sub hl [1, 2, 3, 0] rfl) hP hD hS
    · have h := h.2 c24
      refine lv_iconst (v := 0) hx hb dX0_wereHad_27 (by decide) ?_
      exact ret_z0 hx hb hr hlocks hQ hS (by decide)  hP h dX0_wereHad_28
abbrev rm_X0_noteIfHadBefore : Room := { frames := 1, cells := 0, slots := 0, locals := 23 }
abbrev cw_X0_noteIfHadBefore (cI cZ : ClassId) (o o_rows o_purses : Nat) (v_ringDays : Int32) (v_leadDays : Int32) (a_rows : Nat → Int32) (a_purses : Nat → Int32) : va_W := [(o, .inr (0, [.ref o_rows, .ref o_purses, .int v_ringDays, .int v_leadDays])), (o_rows, .inl (cI, 2408, .inl a_rows)), (o_purses, .inl (cI, 8, .inl a_purses))]
theorem inw_X0_noteIfHadBefore_X0 : ∀ w ∈ u_ws RX0 TX0 4, w ∈ wsX0_noteIfHadBefore := by decide +kernel
def wp_X0_noteIfHadBefore (n1 : Int32) (n2 : Int32) (v_ringDays : Int32) (v_leadDays : Int32) (a_rows : Nat → Int32) (a_purses : Nat → Int32) (Post : (Int32) → (Int32) → Prop) : Prop := (∀ k4 : (Int32) → Prop, (∀ (x3_4 : Int32), ((x3_4 < 0 → (Post v_ringDays v_leadDays)) ∧ (¬ x3_4 < 0 → (wp_X0_wereHad x3_4 n2 a_rows a_purses (fun (r11 : Int32) => ((¬ r11 = 0 → (Post (n1 - x3_4) x3_4)) ∧ (r11 = 0 → (k4 (x3_4 + (-1))))))))) → k4 x3_4) → k4 (n1 - (1 : Int32)))
set_option maxHeartbeats 4000000 in
set_option maxRecDepth 100000 in
theorem c_X0_noteIfHadBefore (l : Launch) (D : va_G) (cI cZ : ClassId) (o o_rows o_purses : Nat) (sz : Nat) (n1 : Int32) (n2 : Int32) (v_ringDays : Int32) (v_leadDays : Int32) (a_rows : Nat → Int32) (a_purses : Nat → Int32) (Post : (Int32) → (Int32) → Prop) (h : wp_X0_noteIfHadBefore n1 n2 v_ringDays v_leadDays a_rows a_purses Post) : Met l yX0_noteIfHadBefore wsX0_noteIfHadBefore rm_X0_noteIfHadBefore (cPc D cI cZ [.ref o, .int n1, .int n2] (cw_X0_noteIfHadBefore cI cZ o o_rows o_purses v_ringDays v_leadDays a_rows a_purses) sz) (cQv2 D Post (fun m_v_ringDays m_v_leadDays => (cw_X0_noteIfHadBefore cI cZ o o_rows o_purses m_v_ringDays m_v_leadDays a_rows a_purses)) (va_A (cw_X0_noteIfHadBefore cI cZ o o_rows o_purses v_ringDays v_leadDays a_rows a_purses) sz)) 0 0 (va_A (cw_X0_noteIfHadBefore cI cZ o o_rows o_purses v_ringDays v_leadDays a_rows a_purses) sz) := by
  refine ent (cc := cX0_noteIfHadBefore) (maxL := 4) (ret := none) (Qc := fun A => cQv2 D Post (fun m_v_ringDays m_v_leadDays => (cw_X0_noteIfHadBefore cI cZ o o_rows o_purses m_v_ringDays m_v_leadDays a_rows a_purses)) A) (by decide) rfl (Nat.le_of_ble_eq_true rfl) ?_
  intro p e s m args below meth c A ls Q hQ hsz hx hb hml hr hts hown hlocks hnm hK hP hD hA hS hl
  have hl : lv_has ls 4 [(0, .ref o), (1, .int n1), (2, .int n2)] := hl
  unfold wp_X0_noteIfHadBefore at h
  refine lv_iload_n hx hb dX0_noteIfHadBefore_0 rfl (lv_at hl 1 rfl) ?_
  refine lv_iconst (v := 1) hx hb dX0_noteIfHadBefore_1 (by decide) ?_
  refine lv_isub hx hb dX0_noteIfHadBefore_2 ?_
  refine lv_istore_n (lv' := [(3, .int (n1 - (1 : Int32))), (0, .ref o), (1, .int n1), (2, .int n2)]) hx hb dX0_noteIfHadBefore_3 rfl hl (by decide) rfl (fun ls hl => ?_)
  refine h (fun x3_4 => ∀ (H : Heap) (locs : List Loc) (ls : Array Slot), lv_has ls 4 [(0, .ref o), (1, .int n1), (2, .int n2), (3, .int x3_4)] → va_P D vwCl (cw_X0_noteIfHadBefore cI cZ o o_rows o_purses v_ringDays v_leadDays a_rows a_purses) H → va_D A (cw_X0_noteIfHadBefore cI cZ o o_rows o_purses v_ringDays v_leadDays a_rows a_purses) → va_S A s.heap H locs → W p l e rm_X0_noteIfHadBefore s m args below meth c H locs 0 0 Q (F0 m 4 ls [])) ?_ s.heap [] ls (lv_sub hl [1, 2, 3, 0] rfl) hP hD hS
  intro x3_4 h H locs ls hl hP hD hS
  refine lv_iload_n hx hb dX0_noteIfHadBefore_4 rfl (lv_at hl 3 rfl) ?_
  refine lv_if_lt (tgt := 39) hx hb dX0_noteIfHadBefore_5 (by decide) (fun c5 => ?_) (fun c5 => ?_)
  · have h := h.1 c5
    exact ret_v2 hx hb hr hlocks hQ hS v_ringDays v_leadDays hP h dX0_noteIfHadBefore_39
  · have h := h.2 c5
    refine lv_aload_n hx hb dX0_noteIfHadBefore_8 rfl (lv_at hl 0 rfl) ?_
    refine lv_iload_n hx hb dX0_noteIfHadBefore_9 rfl (lv_at hl 3 rfl) ?_
    refine lv_iload_n hx hb dX0_noteIfHadBefore_10 rfl (lv_at hl 2 rfl) ?_
    refine call_i0 (va_runV (As := [.int x3_4, .int n2]) (rest := []) ⟨hx, hb, hml, hown, hts⟩ (c_X0_wereHad l D cI cZ o o_rows o_purses (Array.size H) x3_4 n2 v_ringDays v_leadDays a_rows a_purses _ h) (cwV 2 hts gX0_noteIfHadBefore_X0_wereHad rfl rfl rfl (by decide +kernel) ⟨Nat.le_of_ble_eq_true rfl, Nat.le_of_ble_eq_true rfl⟩) (preV_of hP hD hK [0, 1, 2] rfl rfl 0 0 rfl rfl rfl) rfl rfl hl.1 rfl (lv_room (Nat.le_of_ble_eq_true rfl)) dX0_noteIfHadBefore_11 ⟨Nat.zero_le _, Nat.zero_le _⟩) hP hD hS hA [0, 1, 2] rfl ((cw_X0_noteIfHadBefore cI cZ o o_rows o_purses v_ringDays v_leadDays a_rows a_purses)) (rfl) (rfl) (fun r11 H locs h hP hD hS => ?_)
    refine lv_if_ne (tgt := 20) hx hb dX0_noteIfHadBefore_14 (by decide) (fun c14 => ?_) (fun c14 => ?_)
    · have h := h.1 c14
      refine lv_aload_n hx hb dX0_noteIfHadBefore_20 rfl (lv_at hl 0 rfl) ?_
      refine lv_iload_n hx hb dX0_noteIfHadBefore_21 rfl (lv_at hl 3 rfl) ?_
      refine va_put (D := D) (ci := 0) (v := .int x3_4) (ty := .int) (C := RX0) (T := TX0) (N := 4) hx hb hts inw_X0_noteIfHadBefore_X0 tyX0 tyX0_ok nmX0 hown hK.1 hP hD hS 0 rfl rfl 3 (by decide) (hts (.fieldLink RX0 22 "PursesShare$DaySearch" "leadDays" "I") (by decide +kernel)) (fun _ h9 => h9) rfl (by decide +kernel) rfl rfl (Nat.le_of_ble_eq_true rfl) dX0_noteIfHadBefore_22 (fun H locs hP hD hS => ?_)
      have hP : va_P D vwCl (cw_X0_noteIfHadBefore cI cZ o o_rows o_purses v_ringDays x3_4 a_rows a_purses) H := hP
      have hD : va_D A (cw_X0_noteIfHadBefore cI cZ o o_rows o_purses v_ringDays x3_4 a_rows a_purses) := hD
      refine lv_aload_n hx hb dX0_noteIfHadBefore_25 rfl (lv_at hl 0 rfl) ?_
      refine lv_iload_n hx hb dX0_noteIfHadBefore_26 rfl (lv_at hl 1 rfl) ?_
      refine lv_iload_n hx hb dX0_noteIfHadBefore_27 rfl (lv_at hl 3 rfl) ?_
      refine lv_isub hx hb dX0_noteIfHadBefore_28 ?_
      refine va_put (D := D) (ci := 0) (v := .int (n1 - x3_4)) (ty := .int) (C := RX0) (T := TX0) (N := 4) hx hb hts inw_X0_noteIfHadBefore_X0 tyX0 tyX0_ok nmX0 hown hK.1 hP hD hS 0 rfl rfl 2 (by decide) (hts (.fieldLink RX0 18 "PursesShare$DaySearch" "ringDays" "I") (by decide +kernel)) (fun _ h9 => h9) rfl (by decide +kernel) rfl rfl (Nat.le_of_ble_eq_true rfl) dX0_noteIfHadBefore_29 (fun H locs hP hD hS => ?_)
      have hP : va_P D vwCl (cw_X0_noteIfHadBefore cI cZ o o_rows o_purses (n1 - x3_4) x3_4 a_rows a_purses) H := hP
      have hD : va_D A (cw_X0_noteIfHadBefore cI cZ o o_rows o_purses (n1 - x3_4) x3_4 a_rows a_purses) := hD
      exact ret_v2 hx hb hr hlocks hQ hS (n1 - x3_4) x3_4 hP h dX0_noteIfHadBefore_32
    · have h := h.2 c14
      refine lv_goto (tgt := 33) hx hb dX0_noteIfHadBefore_17 (by decide) ?_
      refine lv_iinc (v := (x3_4 + (-1))) (lv' := [(3, .int (x3_4 + (-1))), (0, .ref o), (1, .int n1), (2, .int n2)]) hx hb dX0_noteIfHadBefore_33 hl (k := 3) rfl rfl (by decide) rfl (fun ls hl => ?_)
      refine lv_goto (tgt := 4) hx hb dX0_noteIfHadBefore_36 (by decide) ?_
      exact h H locs ls (lv_sub hl [1, 2, 3, 0] rfl) hP hD hS
abbrev rm_X8_sumPassed : Room := { frames := 1, cells := 0, slots := 0, locals := 60 }
abbrev cw_X8_sumPassed (cI cZ : ClassId)  : va_W := []
def wp_X8_sumPassed (n1 : Int32) (n2 : Int32) (n3 : Int32) (Post : Int32 → Prop) : Prop := ((¬ n1 = (2 : Int32) → ((¬ n1 = (3 : Int32) → (Post n3)) ∧ (n1 = (3 : Int32) → ((n3 ≤ 0 → (Post n3)) ∧ (¬ n3 ≤ 0 → (¬ n3 = 0 ∧ (∀ r25 : Int32, r25 = (if (1 : Int32) < ((n2 / n3) / (2 : Int32)) then ((n2 / n3) / (2 : Int32)) else (1 : Int32)) → (Post (n3 * r25))))))))) ∧ (n1 = (2 : Int32) → (Post (n3 / (2 : Int32)))))
set_option maxHeartbeats 4000000 in
set_option maxRecDepth 100000 in
theorem c_X8_sumPassed (l : Launch) (D : va_G) (cI cZ : ClassId) (sz : Nat) (n1 : Int32) (n2 : Int32) (n3 : Int32) (Post : Int32 → Prop) (h : wp_X8_sumPassed n1 n2 n3 Post) : Met l yX8_sumPassed wsX8_sumPassed rm_X8_sumPassed (cPc D cI cZ [.int n1, .int n2, .int n3] (cw_X8_sumPassed cI cZ) sz) (cQi0 D Post ((cw_X8_sumPassed cI cZ)) (va_A (cw_X8_sumPassed cI cZ) sz)) 0 0 (va_A (cw_X8_sumPassed cI cZ) sz) := by
  refine ent (cc := cX8_sumPassed) (maxL := 3) (ret := (some .int)) (Qc := fun A => cQi0 D Post ((cw_X8_sumPassed cI cZ)) A) (by decide) rfl (Nat.le_of_ble_eq_true rfl) ?_
  intro p e s m args below meth c A ls Q hQ hsz hx hb hml hr hts hown hlocks hnm hK hP hD hA hS hl
  have hl : lv_has ls 3 [(0, .int n1), (1, .int n2), (2, .int n3)] := hl
  unfold wp_X8_sumPassed at h
  refine lv_iload_n hx hb dX8_sumPassed_0 rfl (lv_at hl 0 rfl) ?_
  refine lv_iconst (v := 2) hx hb dX8_sumPassed_1 (by decide) ?_
  refine lv_icmp_ne (tgt := 9) hx hb dX8_sumPassed_2 (by decide) (fun c2 => ?_) (fun c2 => ?_)
  · have h := h.1 c2
    refine lv_iload_n hx hb dX8_sumPassed_9 rfl (lv_at hl 0 rfl) ?_
    refine lv_iconst (v := 3) hx hb dX8_sumPassed_10 (by decide) ?_
    refine lv_icmp_ne (tgt := 30) hx hb dX8_sumPassed_11 (by decide) (fun c11 => ?_) (fun c11 => ?_)
    · have h := h.1 c11
      refine lv_iload_n hx hb dX8_sumPassed_30 rfl (lv_at hl 2 rfl) ?_
      exact ret_i0 hx hb hr hlocks hQ hS  hP h dX8_sumPassed_31
    · have h := h.2 c11
      refine lv_iload_n hx hb dX8_sumPassed_14 rfl (lv_at hl 2 rfl) ?_
      refine lv_if_le (tgt := 30) hx hb dX8_sumPassed_15 (by decide) (fun c15 => ?_) (fun c15 => ?_)
      · have h := h.1 c15
        refine lv_iload_n hx hb dX8_sumPassed_30 rfl (lv_at hl 2 rfl) ?_
        exact ret_i0 hx hb hr hlocks hQ hS  hP h dX8_sumPassed_31
      · have h := h.2 c15
        refine lv_iload_n hx hb dX8_sumPassed_18 rfl (lv_at hl 2 rfl) ?_
        refine lv_iconst (v := 1) hx hb dX8_sumPassed_19 (by decide) ?_
        refine lv_iload_n hx hb dX8_sumPassed_20 rfl (lv_at hl 1 rfl) ?_
        refine lv_iload_n hx hb dX8_sumPassed_21 rfl (lv_at hl 2 rfl) ?_
        have h0 := h.1
        have h := h.2
        refine lv_idiv hx hb dX8_sumPassed_22 h0 ?_
        refine lv_iconst (v := 2) hx hb dX8_sumPassed_23 (by decide) ?_
        refine lv_idiv hx hb dX8_sumPassed_24 (by decide) ?_
        refine va_mmax hx hb (hml.trans hl.1.symm) hown (hts (.methodLink RX8 245 Lib.Math.max.name) (by decide +kernel)) (hts (.static Lib.Math.max.name) (by decide +kernel)) (hts (.initialized "java/lang/Math") (by decide +kernel)) (hts (.code Lib.Math.max.name Lib.Math.max.code 2 (some .int)) (by decide +kernel)) (Nat.le_of_ble_eq_true rfl) (Nat.le_of_ble_eq_true rfl) (Nat.zero_le _) (Nat.zero_le _) dX8_sumPassed_25 ?_
        refine lv_topi (fun r25 e25 => ?_)
        have h := h r25 e25
        refine lv_imul hx hb dX8_sumPassed_28 ?_
        exact ret_i0 hx hb hr hlocks hQ hS  hP h dX8_sumPassed_29
  · have h := h.2 c2
    refine lv_iload_n hx hb dX8_sumPassed_5 rfl (lv_at hl 2 rfl) ?_
    refine lv_iconst (v := 2) hx hb dX8_sumPassed_6 (by decide) ?_
    refine lv_idiv hx hb dX8_sumPassed_7 (by decide) ?_
    exact ret_i0 hx hb hr hlocks hQ hS  hP h dX8_sumPassed_8
abbrev rm_X8_heldAfter : Room := { frames := 2, cells := 0, slots := 0, locals := 82 }
abbrev cw_X8_heldAfter (cI cZ : ClassId)  : va_W := []
def wp_X8_heldAfter (n1 : Int32) (n2 : Int32) (n3 : Int32) (n4 : Int32) (n5 : Int32) (Post : Int32 → Prop) : Prop := ((n2 = n3 → (Post n2)) ∧ (¬ n2 = n3 → ((¬ n4 = 0 → (∀ r17 : Int32, r17 = (if 0 ≤ (n2 - n3) then (n2 - n3) else 0 - (n2 - n3)) → (wp_X8_sumPassed n1 r17 n4 (fun (r21 : Int32) => ((n2 ≤ n3 → ((¬ n1 = (1 : Int32) → ((¬ (0 : Int32) = (0 : Int32) → (((0 : Int32) = 0 → (Post (n2 - (n5 * r21)))) ∧ (¬ (0 : Int32) = 0 → (∀ r68 : Int32, r68 = (if (n2 + (n5 * r21)) < (99999 : Int32) then (n2 + (n5 * r21)) else (99999 : Int32)) → (Post r68))))) ∧ ((0 : Int32) = (0 : Int32) → (((1 : Int32) = 0 → (Post (n2 - (n5 * r21)))) ∧ (¬ (1 : Int32) = 0 → (∀ r68 : Int32, r68 = (if (n2 + (n5 * r21)) < (99999 : Int32) then (n2 + (n5 * r21)) else (99999 : Int32)) → (Post r68))))))) ∧ (n1 = (1 : Int32) → ((¬ (0 : Int32) = (1 : Int32) → (((0 : Int32) = 0 → (Post (n2 - (n5 * r21)))) ∧ (¬ (0 : Int32) = 0 → (∀ r68 : Int32, r68 = (if (n2 + (n5 * r21)) < (99999 : Int32) then (n2 + (n5 * r21)) else (99999 : Int32)) → (Post r68))))) ∧ ((0 : Int32) = (1 : Int32) → (((1 : Int32) = 0 → (Post (n2 - (n5 * r21)))) ∧ (¬ (1 : Int32) = 0 → (∀ r68 : Int32, r68 = (if (n2 + (n5 * r21)) < (99999 : Int32) then (n2 + (n5 * r21)) else (99999 : Int32)) → (Post r68))))))))) ∧ (¬ n2 ≤ n3 → ((¬ n1 = (1 : Int32) → ((¬ (1 : Int32) = (0 : Int32) → (((0 : Int32) = 0 → (Post (n2 - (n5 * r21)))) ∧ (¬ (0 : Int32) = 0 → (∀ r68 : Int32, r68 = (if (n2 + (n5 * r21)) < (99999 : Int32) then (n2 + (n5 * r21)) else (99999 : Int32)) → (Post r68))))) ∧ ((1 : Int32) = (0 : Int32) → (((1 : Int32) = 0 → (Post (n2 - (n5 * r21)))) ∧ (¬ (1 : Int32) = 0 → (∀ r68 : Int32, r68 = (if (n2 + (n5 * r21)) < (99999 : Int32) then (n2 + (n5 * r21)) else (99999 : Int32)) → (Post r68))))))) ∧ (n1 = (1 : Int32) → ((¬ (1 : Int32) = (1 : Int32) → (((0 : Int32) = 0 → (Post (n2 - (n5 * r21)))) ∧ (¬ (0 : Int32) = 0 → (∀ r68 : Int32, r68 = (if (n2 + (n5 * r21)) < (99999 : Int32) then (n2 + (n5 * r21)) else (99999 : Int32)) → (Post r68))))) ∧ ((1 : Int32) = (1 : Int32) → (((1 : Int32) = 0 → (Post (n2 - (n5 * r21)))) ∧ (¬ (1 : Int32) = 0 → (∀ r68 : Int32, r68 = (if (n2 + (n5 * r21)) < (99999 : Int32) then (n2 + (n5 * r21)) else (99999 : Int32)) → (Post r68)))))))))))))) ∧ (n4 = 0 → (Post n2)))))
set_option maxHeartbeats 4000000 in
set_option maxRecDepth 100000 in
theorem c_X8_heldAfter (l : Launch) (D : va_G) (cI cZ : ClassId) (sz : Nat) (n1 : Int32) (n2 : Int32) (n3 : Int32) (n4 : Int32) (n5 : Int32) (Post : Int32 → Prop) (h : wp_X8_heldAfter n1 n2 n3 n4 n5 Post) : Met l yX8_heldAfter wsX8_heldAfter rm_X8_heldAfter (cPc D cI cZ [.int n1, .int n2, .int n3, .int n4, .int n5] (cw_X8_heldAfter cI cZ) sz) (cQi0 D Post ((cw_X8_heldAfter cI cZ)) (va_A (cw_X8_heldAfter cI cZ) sz)) 0 0 (va_A (cw_X8_heldAfter cI cZ) sz) := by
  refine ent (cc := cX8_heldAfter) (maxL := 7) (ret := (some .int)) (Qc := fun A => cQi0 D Post ((cw_X8_heldAfter cI cZ)) A) (by decide) rfl (Nat.le_of_ble_eq_true rfl) ?_
  intro p e s m args below meth c A ls Q hQ hsz hx hb hml hr hts hown hlocks hnm hK hP hD hA hS hl
  have hl : lv_has ls 7 [(0, .int n1), (1, .int n2), (2, .int n3), (3, .int n4), (4, .int n5)] := hl
  unfold wp_X8_heldAfter at h
  refine lv_iload_n hx hb dX8_heldAfter_0 rfl (lv_at hl 1 rfl) ?_
  refine lv_iload_n hx hb dX8_heldAfter_1 rfl (lv_at hl 2 rfl) ?_
  refine lv_icmp_eq (tgt := 9) hx hb dX8_heldAfter_2 (by decide) (fun c2 => ?_) (fun c2 => ?_)
  · have h := h.1 c2
    refine lv_iload_n hx hb dX8_heldAfter_9 rfl (lv_at hl 1 rfl) ?_
    exact ret_i0 hx hb hr hlocks hQ hS  hP h dX8_heldAfter_10
  · have h := h.2 c2
    refine lv_iload_n hx hb dX8_heldAfter_5 rfl (lv_at hl 3 rfl) ?_
    refine lv_if_ne (tgt := 11) hx hb dX8_heldAfter_6 (by decide) (fun c6 => ?_) (fun c6 => ?_)
    · have h := h.1 c6
      refine lv_iload hx hb dX8_heldAfter_11 (lv_at hl 4 rfl) ?_
      refine lv_iload_n hx hb dX8_heldAfter_13 rfl (lv_at hl 0 rfl) ?_
      refine lv_iload_n hx hb dX8_heldAfter_14 rfl (lv_at hl 1 rfl) ?_
      refine lv_iload_n hx hb dX8_heldAfter_15 rfl (lv_at hl 2 rfl) ?_
      refine lv_isub hx hb dX8_heldAfter_16 ?_
      refine va_mabs hx hb (hml.trans hl.1.symm) hown (hts (.methodLink RX8 250 Lib.Math.abs.name) (by decide +kernel)) (hts (.static Lib.Math.abs.name) (by decide +kernel)) (hts (.initialized "java/lang/Math") (by decide +kernel)) (hts (.code Lib.Math.abs.name Lib.Math.abs.code 1 (some .int)) (by decide +kernel)) (Nat.le_of_ble_eq_true rfl) (Nat.le_of_ble_eq_true rfl) (Nat.zero_le _) (Nat.zero_le _) dX8_heldAfter_17 ?_
      refine lv_topi (fun r17 e17 => ?_)
      have h := h r17 e17
      refine lv_iload_n hx hb dX8_heldAfter_20 rfl (lv_at hl 3 rfl) ?_
      refine call_i0 (va_runS (As := [.int n1, .int r17, .int n4]) (rest := [.int n5]) ⟨hx, hb, hml, hown, hts⟩ (c_X8_sumPassed l D cI cZ (Array.size s.heap) n1 r17 n4 _ h) (va_cwS 3 hts gX8_heldAfter_X8_sumPassed rfl rfl rfl (by decide +kernel) ⟨Nat.le_of_ble_eq_true rfl, Nat.le_of_ble_eq_true rfl⟩) (preS_of hP hD hK [] rfl rfl) rfl rfl hl.1 rfl (lv_room (Nat.le_of_ble_eq_true rfl)) dX8_heldAfter_21 ⟨Nat.zero_le _, Nat.zero_le _⟩) hP hD hS hA [] rfl ((cw_X8_heldAfter cI cZ)) (rfl) (rfl) (fun r21 H locs h hP hD hS => ?_)
      refine lv_imul hx hb dX8_heldAfter_24 ?_
      refine lv_istore (lv' := [(5, .int (n5 * r21)), (0, .int n1), (1, .int n2), (2, .int n3), (3, .int n4), (4, .int n5)]) hx hb dX8_heldAfter_25 hl (by decide) rfl (fun ls hl => ?_)
      refine lv_iload_n hx hb dX8_heldAfter_27 rfl (lv_at hl 2 rfl) ?_
      refine lv_iload_n hx hb dX8_heldAfter_28 rfl (lv_at hl 3 rfl) ?_
      refine lv_icmp_le (tgt := 36) hx hb dX8_heldAfter_29 (by decide) (fun c29 => ?_) (fun c29 => ?_)
      · have h := h.1 c29
        refine lv_iconst (v := 0) hx hb dX8_heldAfter_36 (by decide) ?_
        refine lv_iload_n hx hb dX8_heldAfter_37 rfl (lv_at hl 1 rfl) ?_
        refine lv_iconst (v := 1) hx hb dX8_heldAfter_38 (by decide) ?_
        refine lv_icmp_ne (tgt := 46) hx hb dX8_heldAfter_39 (by decide) (fun c39 => ?_) (fun c39 => ?_)
        · have h := h.1 c39
          refine lv_iconst (v := 0) hx hb dX8_heldAfter_46 (by decide) ?_
          refine lv_icmp_ne (tgt := 54) hx hb dX8_heldAfter_47 (by decide) (fun c47 => ?_) (fun c47 => ?_)
          · have h := h.1 c47
            refine lv_iconst (v := 0) hx hb dX8_heldAfter_54 (by decide) ?_
            refine lv_istore (lv' := [(6, .int (0 : Int32)), (5, .int (n5 * r21)), (0, .int n1), (1, .int n2), (2, .int n3), (3, .int n4), (4, .int n5)]) hx hb dX8_heldAfter_55 hl (by decide) rfl (fun ls hl => ?_)
            refine lv_iload hx hb dX8_heldAfter_57 (lv_at hl 0 rfl) ?_
            refine lv_if_eq (tgt := 74) hx hb dX8_heldAfter_59 (by decide) (fun c59 => ?_) (fun c59 => ?_)
            · have h := h.1 c59
              refine lv_iload_n hx hb dX8_heldAfter_74 rfl (lv_at hl 3 rfl) ?_
              refine lv_iload hx hb dX8_heldAfter_75 (lv_at hl 1 rfl) ?_
              refine lv_isub hx hb dX8_heldAfter_77 ?_
              exact ret_i0 hx hb hr hlocks hQ hS  hP h dX8_heldAfter_78
            · have h := h.2 c59
              refine lv_ldc (own := RX8) (index := 198) (v := 99999) hx hb hown (hts (.constant RX8 198 (99999)) (by decide +kernel)) dX8_heldAfter_62 ?_
              refine lv_iload_n hx hb dX8_heldAfter_64 rfl (lv_at hl 3 rfl) ?_
              refine lv_iload hx hb dX8_heldAfter_65 (lv_at hl 1 rfl) ?_
              refine lv_iadd hx hb dX8_heldAfter_67 ?_
              refine va_mmin hx hb (hml.trans hl.1.symm) hown (hts (.methodLink RX8 257 Lib.Math.min.name) (by decide +kernel)) (hts (.static Lib.Math.min.name) (by decide +kernel)) (hts (.initialized "java/lang/Math") (by decide +kernel)) (hts (.code Lib.Math.min.name Lib.Math.min.code 2 (some .int)) (by decide +kernel)) (Nat.le_of_ble_eq_true rfl) (Nat.le_of_ble_eq_true rfl) (Nat.zero_le _) (Nat.zero_le _) dX8_heldAfter_68 ?_
              refine lv_topi (fun r68 e68 => ?_)
              have h := h r68 e68
              refine lv_goto (tgt := 78) hx hb dX8_heldAfter_71 (by decide) ?_
              exact ret_i0 hx hb hr hlocks hQ hS  hP h dX8_heldAfter_78
          · have h := h.2 c47
            refine lv_iconst (v := 1) hx hb dX8_heldAfter_50 (by decide) ?_
            refine lv_goto (tgt := 55) hx hb dX8_heldAfter_51 (by decide) ?_
            refine lv_istore (lv' := [(6, .int (1 : Int32)), (5, .int (n5 * r21)), (0, .int n1), (1, .int n2), (2, .int n3), (3, .int n4), (4, .int n5)]) hx hb dX8_heldAfter_55 hl (by decide) rfl (fun ls hl => ?_)
            refine lv_iload hx hb dX8_heldAfter_57 (lv_at hl 0 rfl) ?_
            refine lv_if_eq (tgt := 74) hx hb dX8_heldAfter_59 (by decide) (fun c59 => ?_) (fun c59 => ?_)
            · have h := h.1 c59
              refine lv_iload_n hx hb dX8_heldAfter_74 rfl (lv_at hl 3 rfl) ?_
              refine lv_iload hx hb dX8_heldAfter_75 (lv_at hl 1 rfl) ?_
              refine lv_isub hx hb dX8_heldAfter_77 ?_
              exact ret_i0 hx hb hr hlocks hQ hS  hP h dX8_heldAfter_78
            · have h := h.2 c59
              refine lv_ldc (own := RX8) (index := 198) (v := 99999) hx hb hown (hts (.constant RX8 198 (99999)) (by decide +kernel)) dX8_heldAfter_62 ?_
              refine lv_iload_n hx hb dX8_heldAfter_64 rfl (lv_at hl 3 rfl) ?_
              refine lv_iload hx hb dX8_heldAfter_65 (lv_at hl 1 rfl) ?_
              refine lv_iadd hx hb dX8_heldAfter_67 ?_
              refine va_mmin hx hb (hml.trans hl.1.symm) hown (hts (.methodLink RX8 257 Lib.Math.min.name) (by decide +kernel)) (hts (.static Lib.Math.min.name) (by decide +kernel)) (hts (.initialized "java/lang/Math") (by decide +kernel)) (hts (.code Lib.Math.min.name Lib.Math.min.code 2 (some .int)) (by decide +kernel)) (Nat.le_of_ble_eq_true rfl) (Nat.le_of_ble_eq_true rfl) (Nat.zero_le _) (Nat.zero_le _) dX8_heldAfter_68 ?_
              refine lv_topi (fun r68 e68 => ?_)
              have h := h r68 e68
              refine lv_goto (tgt := 78) hx hb dX8_heldAfter_71 (by decide) ?_
              exact ret_i0 hx hb hr hlocks hQ hS  hP h dX8_heldAfter_78
        · have h := h.2 c39
          refine lv_iconst (v := 1) hx hb dX8_heldAfter_42 (by decide) ?_
          refine lv_goto (tgt := 47) hx hb dX8_heldAfter_43 (by decide) ?_
          refine lv_icmp_ne (tgt := 54) hx hb dX8_heldAfter_47 (by decide) (fun c47 => ?_) (fun c47 => ?_)
          · have h := h.1 c47
            refine lv_iconst (v := 0) hx hb dX8_heldAfter_54 (by decide) ?_
            refine lv_istore (lv' := [(6, .int (0 : Int32)), (5, .int (n5 * r21)), (0, .int n1), (1, .int n2), (2, .int n3), (3, .int n4), (4, .int n5)]) hx hb dX8_heldAfter_55 hl (by decide) rfl (fun ls hl => ?_)
            refine lv_iload hx hb dX8_heldAfter_57 (lv_at hl 0 rfl) ?_
            refine lv_if_eq (tgt := 74) hx hb dX8_heldAfter_59 (by decide) (fun c59 => ?_) (fun c59 => ?_)
            · have h := h.1 c59
              refine lv_iload_n hx hb dX8_heldAfter_74 rfl (lv_at hl 3 rfl) ?_
              refine lv_iload hx hb dX8_heldAfter_75 (lv_at hl 1 rfl) ?_
              refine lv_isub hx hb dX8_heldAfter_77 ?_
              exact ret_i0 hx hb hr hlocks hQ hS  hP h dX8_heldAfter_78
            · have h := h.2 c59
              refine lv_ldc (own := RX8) (index := 198) (v := 99999) hx hb hown (hts (.constant RX8 198 (99999)) (by decide +kernel)) dX8_heldAfter_62 ?_
              refine lv_iload_n hx hb dX8_heldAfter_64 rfl (lv_at hl 3 rfl) ?_
              refine lv_iload hx hb dX8_heldAfter_65 (lv_at hl 1 rfl) ?_
              refine lv_iadd hx hb dX8_heldAfter_67 ?_
              refine va_mmin hx hb (hml.trans hl.1.symm) hown (hts (.methodLink RX8 257 Lib.Math.min.name) (by decide +kernel)) (hts (.static Lib.Math.min.name) (by decide +kernel)) (hts (.initialized "java/lang/Math") (by decide +kernel)) (hts (.code Lib.Math.min.name Lib.Math.min.code 2 (some .int)) (by decide +kernel)) (Nat.le_of_ble_eq_true rfl) (Nat.le_of_ble_eq_true rfl) (Nat.zero_le _) (Nat.zero_le _) dX8_heldAfter_68 ?_
              refine lv_topi (fun r68 e68 => ?_)
              have h := h r68 e68
              refine lv_goto (tgt := 78) hx hb dX8_heldAfter_71 (by decide) ?_
              exact ret_i0 hx hb hr hlocks hQ hS  hP h dX8_heldAfter_78
          · have h := h.2 c47
            refine lv_iconst (v := 1) hx hb dX8_heldAfter_50 (by decide) ?_
            refine lv_goto (tgt := 55) hx hb dX8_heldAfter_51 (by decide) ?_
            refine lv_istore (lv' := [(6, .int (1 : Int32)), (5, .int (n5 * r21)), (0, .int n1), (1, .int n2), (2, .int n3), (3, .int n4), (4, .int n5)]) hx hb dX8_heldAfter_55 hl (by decide) rfl (fun ls hl => ?_)
            refine lv_iload hx hb dX8_heldAfter_57 (lv_at hl 0 rfl) ?_
            refine lv_if_eq (tgt := 74) hx hb dX8_heldAfter_59 (by decide) (fun c59 => ?_) (fun c59 => ?_)
            · have h := h.1 c59
              refine lv_iload_n hx hb dX8_heldAfter_74 rfl (lv_at hl 3 rfl) ?_
              refine lv_iload hx hb dX8_heldAfter_75 (lv_at hl 1 rfl) ?_
              refine lv_isub hx hb dX8_heldAfter_77 ?_
              exact ret_i0 hx hb hr hlocks hQ hS  hP h dX8_heldAfter_78
            · have h := h.2 c59
              refine lv_ldc (own := RX8) (index := 198) (v := 99999) hx hb hown (hts (.constant RX8 198 (99999)) (by decide +kernel)) dX8_heldAfter_62 ?_
              refine lv_iload_n hx hb dX8_heldAfter_64 rfl (lv_at hl 3 rfl) ?_
              refine lv_iload hx hb dX8_heldAfter_65 (lv_at hl 1 rfl) ?_
              refine lv_iadd hx hb dX8_heldAfter_67 ?_
              refine va_mmin hx hb (hml.trans hl.1.symm) hown (hts (.methodLink RX8 257 Lib.Math.min.name) (by decide +kernel)) (hts (.static Lib.Math.min.name) (by decide +kernel)) (hts (.initialized "java/lang/Math") (by decide +kernel)) (hts (.code Lib.Math.min.name Lib.Math.min.code 2 (some .int)) (by decide +kernel)) (Nat.le_of_ble_eq_true rfl) (Nat.le_of_ble_eq_true rfl) (Nat.zero_le _) (Nat.zero_le _) dX8_heldAfter_68 ?_
              refine lv_topi (fun r68 e68 => ?_)
              have h := h r68 e68
              refine lv_goto (tgt := 78) hx hb dX8_heldAfter_71 (by decide) ?_
              exact ret_i0 hx hb hr hlocks hQ hS  hP h dX8_heldAfter_78
      · have h := h.2 c29
        refine lv_iconst (v := 1) hx hb dX8_heldAfter_32 (by decide) ?_
        refine lv_goto (tgt := 37) hx hb dX8_heldAfter_33 (by decide) ?_
        refine lv_iload_n hx hb dX8_heldAfter_37 rfl (lv_at hl 1 rfl) ?_
        refine lv_iconst (v := 1) hx hb dX8_heldAfter_38 (by decide) ?_
        refine lv_icmp_ne (tgt := 46) hx hb dX8_heldAfter_39 (by decide) (fun c39 => ?_) (fun c39 => ?_)
        · have h := h.1 c39
          refine lv_iconst (v := 0) hx hb dX8_heldAfter_46 (by decide) ?_
          refine lv_icmp_ne (tgt := 54) hx hb dX8_heldAfter_47 (by decide) (fun c47 => ?_) (fun c47 => ?_)
          · have h := h.1 c47
            refine lv_iconst (v := 0) hx hb dX8_heldAfter_54 (by decide) ?_
            refine lv_istore (lv' := [(6, .int (0 : Int32)), (5, .int (n5 * r21)), (0, .int n1), (1, .int n2), (2, .int n3), (3, .int n4), (4, .int n5)]) hx hb dX8_heldAfter_55 hl (by decide) rfl (fun ls hl => ?_)
            refine lv_iload hx hb dX8_heldAfter_57 (lv_at hl 0 rfl) ?_
            refine lv_if_eq (tgt := 74) hx hb dX8_heldAfter_59 (by decide) (fun c59 => ?_) (fun c59 => ?_)
            · have h := h.1 c59
              refine lv_iload_n hx hb dX8_heldAfter_74 rfl (lv_at hl 3 rfl) ?_
              refine lv_iload hx hb dX8_heldAfter_75 (lv_at hl 1 rfl) ?_
              refine lv_isub hx hb dX8_heldAfter_77 ?_
              exact ret_i0 hx hb hr hlocks hQ hS  hP h dX8_heldAfter_78
            · have h := h.2 c59
              refine lv_ldc (own := RX8) (index := 198) (v := 99999) hx hb hown (hts (.constant RX8 198 (99999)) (by decide +kernel)) dX8_heldAfter_62 ?_
              refine lv_iload_n hx hb dX8_heldAfter_64 rfl (lv_at hl 3 rfl) ?_
              refine lv_iload hx hb dX8_heldAfter_65 (lv_at hl 1 rfl) ?_
              refine lv_iadd hx hb dX8_heldAfter_67 ?_
              refine va_mmin hx hb (hml.trans hl.1.symm) hown (hts (.methodLink RX8 257 Lib.Math.min.name) (by decide +kernel)) (hts (.static Lib.Math.min.name) (by decide +kernel)) (hts (.initialized "java/lang/Math") (by decide +kernel)) (hts (.code Lib.Math.min.name Lib.Math.min.code 2 (some .int)) (by decide +kernel)) (Nat.le_of_ble_eq_true rfl) (Nat.le_of_ble_eq_true rfl) (Nat.zero_le _) (Nat.zero_le _) dX8_heldAfter_68 ?_
              refine lv_topi (fun r68 e68 => ?_)
              have h := h r68 e68
              refine lv_goto (tgt := 78) hx hb dX8_heldAfter_71 (by decide) ?_
              exact ret_i0 hx hb hr hlocks hQ hS  hP h dX8_heldAfter_78
          · have h := h.2 c47
            refine lv_iconst (v := 1) hx hb dX8_heldAfter_50 (by decide) ?_
            refine lv_goto (tgt := 55) hx hb dX8_heldAfter_51 (by decide) ?_
            refine lv_istore (lv' := [(6, .int (1 : Int32)), (5, .int (n5 * r21)), (0, .int n1), (1, .int n2), (2, .int n3), (3, .int n4), (4, .int n5)]) hx hb dX8_heldAfter_55 hl (by decide) rfl (fun ls hl => ?_)
            refine lv_iload hx hb dX8_heldAfter_57 (lv_at hl 0 rfl) ?_
            refine lv_if_eq (tgt := 74) hx hb dX8_heldAfter_59 (by decide) (fun c59 => ?_) (fun c59 => ?_)
            · have h := h.1 c59
              refine lv_iload_n hx hb dX8_heldAfter_74 rfl (lv_at hl 3 rfl) ?_
              refine lv_iload hx hb dX8_heldAfter_75 (lv_at hl 1 rfl) ?_
              refine lv_isub hx hb dX8_heldAfter_77 ?_
              exact ret_i0 hx hb hr hlocks hQ hS  hP h dX8_heldAfter_78
            · have h := h.2 c59
              refine lv_ldc (own := RX8) (index := 198) (v := 99999) hx hb hown (hts (.constant RX8 198 (99999)) (by decide +kernel)) dX8_heldAfter_62 ?_
              refine lv_iload_n hx hb dX8_heldAfter_64 rfl (lv_at hl 3 rfl) ?_
              refine lv_iload hx hb dX8_heldAfter_65 (lv_at hl 1 rfl) ?_
              refine lv_iadd hx hb dX8_heldAfter_67 ?_
              refine va_mmin hx hb (hml.trans hl.1.symm) hown (hts (.methodLink RX8 257 Lib.Math.min.name) (by decide +kernel)) (hts (.static Lib.Math.min.name) (by decide +kernel)) (hts (.initialized "java/lang/Math") (by decide +kernel)) (hts (.code Lib.Math.min.name Lib.Math.min.code 2 (some .int)) (by decide +kernel)) (Nat.le_of_ble_eq_true rfl) (Nat.le_of_ble_eq_true rfl) (Nat.zero_le _) (Nat.zero_le _) dX8_heldAfter_68 ?_
              refine lv_topi (fun r68 e68 => ?_)
              have h := h r68 e68
              refine lv_goto (tgt := 78) hx hb dX8_heldAfter_71 (by decide) ?_
              exact ret_i0 hx hb hr hlocks hQ hS  hP h dX8_heldAfter_78
        · have h := h.2 c39
          refine lv_iconst (v := 1) hx hb dX8_heldAfter_42 (by decide) ?_
          refine lv_goto (tgt := 47) hx hb dX8_heldAfter_43 (by decide) ?_
          refine lv_icmp_ne (tgt := 54) hx hb dX8_heldAfter_47 (by decide) (fun c47 => ?_) (fun c47 => ?_)
          · have h := h.1 c47
            refine lv_iconst (v := 0) hx hb dX8_heldAfter_54 (by decide) ?_
            refine lv_istore (lv' := [(6, .int (0 : Int32)), (5, .int (n5 * r21)), (0, .int n1), (1, .int n2), (2, .int n3), (3, .int n4), (4, .int n5)]) hx hb dX8_heldAfter_55 hl (by decide) rfl (fun ls hl => ?_)
            refine lv_iload hx hb dX8_heldAfter_57 (lv_at hl 0 rfl) ?_
            refine lv_if_eq (tgt := 74) hx hb dX8_heldAfter_59 (by decide) (fun c59 => ?_) (fun c59 => ?_)
            · have h := h.1 c59
              refine lv_iload_n hx hb dX8_heldAfter_74 rfl (lv_at hl 3 rfl) ?_
              refine lv_iload hx hb dX8_heldAfter_75 (lv_at hl 1 rfl) ?_
              refine lv_isub hx hb dX8_heldAfter_77 ?_
              exact ret_i0 hx hb hr hlocks hQ hS  hP h dX8_heldAfter_78
            · have h := h.2 c59
              refine lv_ldc (own := RX8) (index := 198) (v := 99999) hx hb hown (hts (.constant RX8 198 (99999)) (by decide +kernel)) dX8_heldAfter_62 ?_
              refine lv_iload_n hx hb dX8_heldAfter_64 rfl (lv_at hl 3 rfl) ?_
              refine lv_iload hx hb dX8_heldAfter_65 (lv_at hl 1 rfl) ?_
              refine lv_iadd hx hb dX8_heldAfter_67 ?_
              refine va_mmin hx hb (hml.trans hl.1.symm) hown (hts (.methodLink RX8 257 Lib.Math.min.name) (by decide +kernel)) (hts (.static Lib.Math.min.name) (by decide +kernel)) (hts (.initialized "java/lang/Math") (by decide +kernel)) (hts (.code Lib.Math.min.name Lib.Math.min.code 2 (some .int)) (by decide +kernel)) (Nat.le_of_ble_eq_true rfl) (Nat.le_of_ble_eq_true rfl) (Nat.zero_le _) (Nat.zero_le _) dX8_heldAfter_68 ?_
              refine lv_topi (fun r68 e68 => ?_)
              have h := h r68 e68
              refine lv_goto (tgt := 78) hx hb dX8_heldAfter_71 (by decide) ?_
              exact ret_i0 hx hb hr hlocks hQ hS  hP h dX8_heldAfter_78
          · have h := h.2 c47
            refine lv_iconst (v := 1) hx hb dX8_heldAfter_50 (by decide) ?_
            refine lv_goto (tgt := 55) hx hb dX8_heldAfter_51 (by decide) ?_
            refine lv_istore (lv' := [(6, .int (1 : Int32)), (5, .int (n5 * r21)), (0, .int n1), (1, .int n2), (2, .int n3), (3, .int n4), (4, .int n5)]) hx hb dX8_heldAfter_55 hl (by decide) rfl (fun ls hl => ?_)
            refine lv_iload hx hb dX8_heldAfter_57 (lv_at hl 0 rfl) ?_
            refine lv_if_eq (tgt := 74) hx hb dX8_heldAfter_59 (by decide) (fun c59 => ?_) (fun c59 => ?_)
            · have h := h.1 c59
              refine lv_iload_n hx hb dX8_heldAfter_74 rfl (lv_at hl 3 rfl) ?_
              refine lv_iload hx hb dX8_heldAfter_75 (lv_at hl 1 rfl) ?_
              refine lv_isub hx hb dX8_heldAfter_77 ?_
              exact ret_i0 hx hb hr hlocks hQ hS  hP h dX8_heldAfter_78
            · have h := h.2 c59
              refine lv_ldc (own := RX8) (index := 198) (v := 99999) hx hb hown (hts (.constant RX8 198 (99999)) (by decide +kernel)) dX8_heldAfter_62 ?_
              refine lv_iload_n hx hb dX8_heldAfter_64 rfl (lv_at hl 3 rfl) ?_
              refine lv_iload hx hb dX8_heldAfter_65 (lv_at hl 1 rfl) ?_
              refine lv_iadd hx hb dX8_heldAfter_67 ?_
              refine va_mmin hx hb (hml.trans hl.1.symm) hown (hts (.methodLink RX8 257 Lib.Math.min.name) (by decide +kernel)) (hts (.static Lib.Math.min.name) (by decide +kernel)) (hts (.initialized "java/lang/Math") (by decide +kernel)) (hts (.code Lib.Math.min.name Lib.Math.min.code 2 (some .int)) (by decide +kernel)) (Nat.le_of_ble_eq_true rfl) (Nat.le_of_ble_eq_true rfl) (Nat.zero_le _) (Nat.zero_le _) dX8_heldAfter_68 ?_
              refine lv_topi (fun r68 e68 => ?_)
              have h := h r68 e68
              refine lv_goto (tgt := 78) hx hb dX8_heldAfter_71 (by decide) ?_
              exact ret_i0 hx hb hr hlocks hQ hS  hP h dX8_heldAfter_78
    · have h := h.2 c6
      refine lv_iload_n hx hb dX8_heldAfter_9 rfl (lv_at hl 1 rfl) ?_
      exact ret_i0 hx hb hr hlocks hQ hS  hP h dX8_heldAfter_10
abbrev rm_X8_greatestDivisor : Room := { frames := 0, cells := 0, slots := 0, locals := 0 }
abbrev cw_X8_greatestDivisor (cI cZ : ClassId)  : va_W := []
def wp_X8_greatestDivisor (n1 : Int32) (n2 : Int32) (Post : Int32 → Prop) : Prop := (∀ k7 : (Int32) → (Int32) → (Int32) → Prop, (∀ (x4_7 : Int32) (x3_7 : Int32) (x2_7 : Int32), (((1000000 : Int32) ≤ x4_7 → (Post x2_7)) ∧ (¬ (1000000 : Int32) ≤ x4_7 → ((x3_7 ≤ 0 → (Post x2_7)) ∧ (¬ x3_7 ≤ 0 → (¬ x3_7 = 0 ∧ (k7 (x4_7 + 1) (x2_7 - x2_7 / x3_7 * x3_7) x3_7)))))) → k7 x4_7 x3_7 x2_7) → k7 (0 : Int32) n2 n1)
set_option maxHeartbeats 4000000 in
set_option maxRecDepth 100000 in
theorem c_X8_greatestDivisor (l : Launch) (D : va_G) (cI cZ : ClassId) (sz : Nat) (n1 : Int32) (n2 : Int32) (Post : Int32 → Prop) (h : wp_X8_greatestDivisor n1 n2 Post) : Met l yX8_greatestDivisor wsX8_greatestDivisor rm_X8_greatestDivisor (cPc D cI cZ [.int n1, .int n2] (cw_X8_greatestDivisor cI cZ) sz) (cQi0 D Post ((cw_X8_greatestDivisor cI cZ)) (va_A (cw_X8_greatestDivisor cI cZ) sz)) 0 0 (va_A (cw_X8_greatestDivisor cI cZ) sz) := by
  refine ent (cc := cX8_greatestDivisor) (maxL := 6) (ret := (some .int)) (Qc := fun A => cQi0 D Post ((cw_X8_greatestDivisor cI cZ)) A) (by decide) rfl (Nat.le_of_ble_eq_true rfl) ?_
  intro p e s m args below meth c A ls Q hQ hsz hx hb hml hr hts hown hlocks hnm hK hP hD hA hS hl
  have hl : lv_has ls 6 [(0, .int n1), (1, .int n2)] := hl
  unfold wp_X8_greatestDivisor at h
  refine lv_iload_n hx hb dX8_greatestDivisor_0 rfl (lv_at hl 0 rfl) ?_
  refine lv_istore_n (lv' := [(2, .int n1), (0, .int n1), (1, .int n2)]) hx hb dX8_greatestDivisor_1 rfl hl (by decide) rfl (fun ls hl => ?_)
  refine lv_iload_n hx hb dX8_greatestDivisor_2 rfl (lv_at hl 2 rfl) ?_
  refine lv_istore_n (lv' := [(3, .int n2), (2, .int n1), (0, .int n1), (1, .int n2)]) hx hb dX8_greatestDivisor_3 rfl hl (by decide) rfl (fun ls hl => ?_)
  refine lv_iconst (v := 0) hx hb dX8_greatestDivisor_4 (by decide) ?_
  refine lv_istore (lv' := [(4, .int (0 : Int32)), (3, .int n2), (2, .int n1), (0, .int n1), (1, .int n2)]) hx hb dX8_greatestDivisor_5 hl (by decide) rfl (fun ls hl => ?_)
  refine h (fun x4_7 x3_7 x2_7 => ∀ (H : Heap) (locs : List Loc) (ls : Array Slot), lv_has ls 6 [(0, .int n1), (1, .int n2), (2, .int x2_7), (3, .int x3_7), (4, .int x4_7)] → va_P D vwCl (cw_X8_greatestDivisor cI cZ) H → va_D A (cw_X8_greatestDivisor cI cZ) → va_S A s.heap H locs → W p l e rm_X8_greatestDivisor s m args below meth c H locs 0 0 Q (F0 m 7 ls [])) ?_ s.heap [] ls (lv_sub hl [3, 4, 2, 1, 0] rfl) hP hD hS
  intro x4_7 x3_7 x2_7 h H locs ls hl hP hD hS
  refine lv_iload hx hb dX8_greatestDivisor_7 (lv_at hl 4 rfl) ?_
  refine lv_ldc (own := RX8) (index := 231) (v := 1000000) hx hb hown (hts (.constant RX8 231 (1000000)) (by decide +kernel)) dX8_greatestDivisor_9 ?_
  refine lv_icmp_ge (tgt := 34) hx hb dX8_greatestDivisor_11 (by decide) (fun c11 => ?_) (fun c11 => ?_)
  · have h := h.1 c11
    refine lv_iload_n hx hb dX8_greatestDivisor_34 rfl (lv_at hl 2 rfl) ?_
    exact ret_i0 hx hb hr hlocks hQ hS  hP h dX8_greatestDivisor_35
  · have h := h.2 c11
    refine lv_iload_n hx hb dX8_greatestDivisor_14 rfl (lv_at hl 3 rfl) ?_
    refine lv_if_le (tgt := 34) hx hb dX8_greatestDivisor_15 (by decide) (fun c15 => ?_) (fun c15 => ?_)
    · have h := h.1 c15
      refine lv_iload_n hx hb dX8_greatestDivisor_34 rfl (lv_at hl 2 rfl) ?_
      exact ret_i0 hx hb hr hlocks hQ hS  hP h dX8_greatestDivisor_35
    · have h := h.2 c15
      refine lv_iload_n hx hb dX8_greatestDivisor_18 rfl (lv_at hl 2 rfl) ?_
      refine lv_iload_n hx hb dX8_greatestDivisor_19 rfl (lv_at hl 3 rfl) ?_
      have h0 := h.1
      have h := h.2
      refine lv_irem hx hb dX8_greatestDivisor_20 h0 ?_
      refine lv_istore (lv' := [(5, .int (x2_7 - x2_7 / x3_7 * x3_7)), (0, .int n1), (1, .int n2), (2, .int x2_7), (3, .int x3_7), (4, .int x4_7)]) hx hb dX8_greatestDivisor_21 hl (by decide) rfl (fun ls hl => ?_)
      refine lv_iload_n hx hb dX8_greatestDivisor_23 rfl (lv_at hl 4 rfl) ?_
      refine lv_istore_n (lv' := [(2, .int x3_7), (5, .int (x2_7 - x2_7 / x3_7 * x3_7)), (0, .int n1), (1, .int n2), (3, .int x3_7), (4, .int x4_7)]) hx hb dX8_greatestDivisor_24 rfl hl (by decide) rfl (fun ls hl => ?_)
      refine lv_iload hx hb dX8_greatestDivisor_25 (lv_at hl 1 rfl) ?_
      refine lv_istore_n (lv' := [(3, .int (x2_7 - x2_7 / x3_7 * x3_7)), (2, .int x3_7), (5, .int (x2_7 - x2_7 / x3_7 * x3_7)), (0, .int n1), (1, .int n2), (4, .int x4_7)]) hx hb dX8_greatestDivisor_27 rfl hl (by decide) rfl (fun ls hl => ?_)
      refine lv_iinc (v := (x4_7 + 1)) (lv' := [(4, .int (x4_7 + 1)), (3, .int (x2_7 - x2_7 / x3_7 * x3_7)), (2, .int x3_7), (5, .int (x2_7 - x2_7 / x3_7 * x3_7)), (0, .int n1), (1, .int n2)]) hx hb dX8_greatestDivisor_28 hl (k := 5) rfl rfl (by decide) rfl (fun ls hl => ?_)
      refine lv_goto (tgt := 7) hx hb dX8_greatestDivisor_31 (by decide) ?_
      exact h H locs ls (lv_sub hl [4, 5, 2, 1, 0] rfl) hP hD hS
abbrev rm_X8_sharedBy : Room := { frames := 1, cells := 0, slots := 0, locals := 25 }
abbrev cw_X8_sharedBy (cI cZ : ClassId)  : va_W := []
def wp_X8_sharedBy (n1 : Int32) (n2 : Int32) (Post : Int32 → Prop) : Prop := ((n1 = 0 → (Post (0 : Int32))) ∧ (¬ n1 = 0 → ((¬ n2 = 0 → (wp_X8_greatestDivisor n1 n2 (fun (r14 : Int32) => (Post r14)))) ∧ (n2 = 0 → (Post (0 : Int32))))))
set_option maxHeartbeats 4000000 in
set_option maxRecDepth 100000 in
theorem c_X8_sharedBy (l : Launch) (D : va_G) (cI cZ : ClassId) (sz : Nat) (n1 : Int32) (n2 : Int32) (Post : Int32 → Prop) (h : wp_X8_sharedBy n1 n2 Post) : Met l yX8_sharedBy wsX8_sharedBy rm_X8_sharedBy (cPc D cI cZ [.int n1, .int n2] (cw_X8_sharedBy cI cZ) sz) (cQi0 D Post ((cw_X8_sharedBy cI cZ)) (va_A (cw_X8_sharedBy cI cZ) sz)) 0 0 (va_A (cw_X8_sharedBy cI cZ) sz) := by
  refine ent (cc := cX8_sharedBy) (maxL := 2) (ret := (some .int)) (Qc := fun A => cQi0 D Post ((cw_X8_sharedBy cI cZ)) A) (by decide) rfl (Nat.le_of_ble_eq_true rfl) ?_
  intro p e s m args below meth c A ls Q hQ hsz hx hb hml hr hts hown hlocks hnm hK hP hD hA hS hl
  have hl : lv_has ls 2 [(0, .int n1), (1, .int n2)] := hl
  unfold wp_X8_sharedBy at h
  refine lv_iload_n hx hb dX8_sharedBy_0 rfl (lv_at hl 0 rfl) ?_
  refine lv_if_eq (tgt := 8) hx hb dX8_sharedBy_1 (by decide) (fun c1 => ?_) (fun c1 => ?_)
  · have h := h.1 c1
    refine lv_iconst (v := 0) hx hb dX8_sharedBy_8 (by decide) ?_
    refine lv_goto (tgt := 17) hx hb dX8_sharedBy_9 (by decide) ?_
    exact ret_i0 hx hb hr hlocks hQ hS  hP h dX8_sharedBy_17
  · have h := h.2 c1
    refine lv_iload_n hx hb dX8_sharedBy_4 rfl (lv_at hl 1 rfl) ?_
    refine lv_if_ne (tgt := 12) hx hb dX8_sharedBy_5 (by decide) (fun c5 => ?_) (fun c5 => ?_)
    · have h := h.1 c5
      refine lv_iload_n hx hb dX8_sharedBy_12 rfl (lv_at hl 0 rfl) ?_
      refine lv_iload_n hx hb dX8_sharedBy_13 rfl (lv_at hl 1 rfl) ?_
      refine call_i0 (va_runS (As := [.int n1, .int n2]) (rest := []) ⟨hx, hb, hml, hown, hts⟩ (c_X8_greatestDivisor l D cI cZ (Array.size s.heap) n1 n2 _ h) (va_cwS 2 hts gX8_sharedBy_X8_greatestDivisor rfl rfl rfl (by decide +kernel) ⟨Nat.le_of_ble_eq_true rfl, Nat.le_of_ble_eq_true rfl⟩) (preS_of hP hD hK [] rfl rfl) rfl rfl hl.1 rfl (lv_room (Nat.le_of_ble_eq_true rfl)) dX8_sharedBy_14 ⟨Nat.zero_le _, Nat.zero_le _⟩) hP hD hS hA [] rfl ((cw_X8_sharedBy cI cZ)) (rfl) (rfl) (fun r14 H locs h hP hD hS => ?_)
      exact ret_i0 hx hb hr hlocks hQ hS  hP h dX8_sharedBy_17
    · have h := h.2 c5
      refine lv_iconst (v := 0) hx hb dX8_sharedBy_8 (by decide) ?_
      refine lv_goto (tgt := 17) hx hb dX8_sharedBy_9 (by decide) ?_
      exact ret_i0 hx hb hr hlocks hQ hS  hP h dX8_sharedBy_17
abbrev rm_X8_makeMeeting : Room := { frames := 3, cells := 0, slots := 0, locals := 108 }
abbrev cw_X8_makeMeeting (cI cZ : ClassId) (o_p1 : Nat) (a_p1 : Nat → Int32) : va_W := [(o_p1, .inl (cI, 8, .inl a_p1))]
def wp_X8_makeMeeting (n2 : Int32) (n3 : Int32) (n4 : Int32) (a_p1 : Nat → Int32) (Post : Int32 → (Nat → Int32) → Prop) : Prop := (vp_in n3 8 ∧ (vp_in n4 8 ∧ (wp_X8_sharedBy (a_p1 (Int32.toNatClampNeg n3)) (a_p1 (Int32.toNatClampNeg n4)) (fun (r14 : Int32) => (wp_X8_heldAfter n2 (a_p1 (Int32.toNatClampNeg n3)) (a_p1 (Int32.toNatClampNeg n4)) r14 (1 : Int32) (fun (r29 : Int32) => (vp_in n3 8 ∧ (wp_X8_heldAfter n2 (a_p1 (Int32.toNatClampNeg n4)) (a_p1 (Int32.toNatClampNeg n3)) r14 (1 : Int32) (fun (r43 : Int32) => (vp_in n4 8 ∧ (vp_in n3 8 ∧ ((¬ ((upd (upd a_p1 (Int32.toNatClampNeg n3) r29) (Int32.toNatClampNeg n4) r43) (Int32.toNatClampNeg n3)) = (a_p1 (Int32.toNatClampNeg n3)) → (Post (1 : Int32) (upd (upd a_p1 (Int32.toNatClampNeg n3) r29) (Int32.toNatClampNeg n4) r43))) ∧ (((upd (upd a_p1 (Int32.toNatClampNeg n3) r29) (Int32.toNatClampNeg n4) r43) (Int32.toNatClampNeg n3)) = (a_p1 (Int32.toNatClampNeg n3)) → (vp_in n4 8 ∧ ((((upd (upd a_p1 (Int32.toNatClampNeg n3) r29) (Int32.toNatClampNeg n4) r43) (Int32.toNatClampNeg n4)) = (a_p1 (Int32.toNatClampNeg n4)) → (Post (0 : Int32) (upd (upd a_p1 (Int32.toNatClampNeg n3) r29) (Int32.toNatClampNeg n4) r43))) ∧ (¬ ((upd (upd a_p1 (Int32.toNatClampNeg n3) r29) (Int32.toNatClampNeg n4) r43) (Int32.toNatClampNeg n4)) = (a_p1 (Int32.toNatClampNeg n4)) → (Post (1 : Int32) (upd (upd a_p1 (Int32.toNatClampNeg n3) r29) (Int32.toNatClampNeg n4) r43))))))))))))))))))
set_option maxHeartbeats 4000000 in
set_option maxRecDepth 100000 in
theorem c_X8_makeMeeting (l : Launch) (D : va_G) (cI cZ : ClassId) (o_p1 : Nat) (sz : Nat) (n2 : Int32) (n3 : Int32) (n4 : Int32) (a_p1 : Nat → Int32) (Post : Int32 → (Nat → Int32) → Prop) (h : wp_X8_makeMeeting n2 n3 n4 a_p1 Post) : Met l yX8_makeMeeting wsX8_makeMeeting rm_X8_makeMeeting (cPc D cI cZ [.ref o_p1, .int n2, .int n3, .int n4] (cw_X8_makeMeeting cI cZ o_p1 a_p1) sz) (cQi1 D Post (fun m_a_p1 => (cw_X8_makeMeeting cI cZ o_p1 m_a_p1)) (va_A (cw_X8_makeMeeting cI cZ o_p1 a_p1) sz)) 0 0 (va_A (cw_X8_makeMeeting cI cZ o_p1 a_p1) sz) := by
  refine ent (cc := cX8_makeMeeting) (maxL := 7) (ret := (some .boolean)) (Qc := fun A => cQi1 D Post (fun m_a_p1 => (cw_X8_makeMeeting cI cZ o_p1 m_a_p1)) A) (by decide) rfl (Nat.le_of_ble_eq_true rfl) ?_
  intro p e s m args below meth c A ls Q hQ hsz hx hb hml hr hts hown hlocks hnm hK hP hD hA hS hl
  have hl : lv_has ls 7 [(0, .ref o_p1), (1, .int n2), (2, .int n3), (3, .int n4)] := hl
  unfold wp_X8_makeMeeting at h
  refine lv_aload_n hx hb dX8_makeMeeting_0 rfl (lv_at hl 0 rfl) ?_
  refine lv_iload_n hx hb dX8_makeMeeting_1 rfl (lv_at hl 2 rfl) ?_
  have h0 := h.1
  have h := h.2
  refine va_iald hx hb hK.1 hP 0 0 rfl rfl h0 dX8_makeMeeting_2 ?_
  refine lv_istore (lv' := [(4, .int (a_p1 (Int32.toNatClampNeg n3))), (0, .ref o_p1), (1, .int n2), (2, .int n3), (3, .int n4)]) hx hb dX8_makeMeeting_3 hl (by decide) rfl (fun ls hl => ?_)
  refine lv_aload_n hx hb dX8_makeMeeting_5 rfl (lv_at hl 1 rfl) ?_
  refine lv_iload_n hx hb dX8_makeMeeting_6 rfl (lv_at hl 4 rfl) ?_
  have h0 := h.1
  have h := h.2
  refine va_iald hx hb hK.1 hP 0 0 rfl rfl h0 dX8_makeMeeting_7 ?_
  refine lv_istore (lv' := [(5, .int (a_p1 (Int32.toNatClampNeg n4))), (4, .int (a_p1 (Int32.toNatClampNeg n3))), (0, .ref o_p1), (1, .int n2), (2, .int n3), (3, .int n4)]) hx hb dX8_makeMeeting_8 hl (by decide) rfl (fun ls hl => ?_)
  refine lv_iload hx hb dX8_makeMeeting_10 (lv_at hl 1 rfl) ?_
  refine lv_iload hx hb dX8_makeMeeting_12 (lv_at hl 0 rfl) ?_
  refine call_i0 (va_runS (As := [.int (a_p1 (Int32.toNatClampNeg n3)), .int (a_p1 (Int32.toNatClampNeg n4))]) (rest := []) ⟨hx, hb, hml, hown, hts⟩ (c_X8_sharedBy l D cI cZ (Array.size s.heap) (a_p1 (Int32.toNatClampNeg n3)) (a_p1 (Int32.toNatClampNeg n4)) _ h) (va_cwS 2 hts gX8_makeMeeting_X8_sharedBy rfl rfl rfl (by decide +kernel) ⟨Nat.le_of_ble_eq_true rfl, Nat.le_of_ble_eq_true rfl⟩) (preS_of hP hD hK [] rfl rfl) rfl rfl hl.1 rfl (lv_room (Nat.le_of_ble_eq_true rfl)) dX8_makeMeeting_14 ⟨Nat.zero_le _, Nat.zero_le _⟩) hP hD hS hA [] rfl ((cw_X8_makeMeeting cI cZ o_p1 a_p1)) (rfl) (rfl) (fun r14 H locs h hP hD hS => ?_)
  refine lv_istore (lv' := [(6, .int r14), (5, .int (a_p1 (Int32.toNatClampNeg n4))), (4, .int (a_p1 (Int32.toNatClampNeg n3))), (0, .ref o_p1), (1, .int n2), (2, .int n3), (3, .int n4)]) hx hb dX8_makeMeeting_17 hl (by decide) rfl (fun ls hl => ?_)
  refine lv_aload_n hx hb dX8_makeMeeting_19 rfl (lv_at hl 3 rfl) ?_
  refine lv_iload_n hx hb dX8_makeMeeting_20 rfl (lv_at hl 5 rfl) ?_
  refine lv_iload_n hx hb dX8_makeMeeting_21 rfl (lv_at hl 4 rfl) ?_
  refine lv_iload hx hb dX8_makeMeeting_22 (lv_at hl 2 rfl) ?_
  refine lv_iload hx hb dX8_makeMeeting_24 (lv_at hl 1 rfl) ?_
  refine lv_iload hx hb dX8_makeMeeting_26 (lv_at hl 0 rfl) ?_
  refine lv_iconst (v := 1) hx hb dX8_makeMeeting_28 (by decide) ?_
  refine call_i0 (va_runS (As := [.int n2, .int (a_p1 (Int32.toNatClampNeg n3)), .int (a_p1 (Int32.toNatClampNeg n4)), .int r14, .int (1 : Int32)]) (rest := [.int n3, .ref o_p1]) ⟨hx, hb, hml, hown, hts⟩ (c_X8_heldAfter l D cI cZ (Array.size H) n2 (a_p1 (Int32.toNatClampNeg n3)) (a_p1 (Int32.toNatClampNeg n4)) r14 (1 : Int32) _ h) (va_cwS 5 hts gX8_makeMeeting_X8_heldAfter rfl rfl rfl (by decide +kernel) ⟨Nat.le_of_ble_eq_true rfl, Nat.le_of_ble_eq_true rfl⟩) (preS_of hP hD hK [] rfl rfl) rfl rfl hl.1 rfl (lv_room (Nat.le_of_ble_eq_true rfl)) dX8_makeMeeting_29 ⟨Nat.zero_le _, Nat.zero_le _⟩) hP hD hS hA [] rfl ((cw_X8_makeMeeting cI cZ o_p1 a_p1)) (rfl) (rfl) (fun r29 H locs h hP hD hS => ?_)
  have h0 := h.1
  have h := h.2
  refine va_iast hx hb hK.1 hP hD hS 0 0 rfl rfl h0 dX8_makeMeeting_32 (fun H locs hP hD hS => ?_)
  have hP : va_P D vwCl (cw_X8_makeMeeting cI cZ o_p1 (upd a_p1 (Int32.toNatClampNeg n3) r29)) H := hP
  have hD : va_D A (cw_X8_makeMeeting cI cZ o_p1 (upd a_p1 (Int32.toNatClampNeg n3) r29)) := hD
  refine lv_aload_n hx hb dX8_makeMeeting_33 rfl (lv_at hl 3 rfl) ?_
  refine lv_iload_n hx hb dX8_makeMeeting_34 rfl (lv_at hl 6 rfl) ?_
  refine lv_iload_n hx hb dX8_makeMeeting_35 rfl (lv_at hl 4 rfl) ?_
  refine lv_iload hx hb dX8_makeMeeting_36 (lv_at hl 1 rfl) ?_
  refine lv_iload hx hb dX8_makeMeeting_38 (lv_at hl 2 rfl) ?_
  refine lv_iload hx hb dX8_makeMeeting_40 (lv_at hl 0 rfl) ?_
  refine lv_iconst (v := 1) hx hb dX8_makeMeeting_42 (by decide) ?_
  refine call_i0 (va_runS (As := [.int n2, .int (a_p1 (Int32.toNatClampNeg n4)), .int (a_p1 (Int32.toNatClampNeg n3)), .int r14, .int (1 : Int32)]) (rest := [.int n4, .ref o_p1]) ⟨hx, hb, hml, hown, hts⟩ (c_X8_heldAfter l D cI cZ (Array.size H) n2 (a_p1 (Int32.toNatClampNeg n4)) (a_p1 (Int32.toNatClampNeg n3)) r14 (1 : Int32) _ h) (va_cwS 5 hts gX8_makeMeeting_X8_heldAfter rfl rfl rfl (by decide +kernel) ⟨Nat.le_of_ble_eq_true rfl, Nat.le_of_ble_eq_true rfl⟩) (preS_of hP hD hK [] rfl rfl) rfl rfl hl.1 rfl (lv_room (Nat.le_of_ble_eq_true rfl)) dX8_makeMeeting_43 ⟨Nat.zero_le _, Nat.zero_le _⟩) hP hD hS hA [] rfl ((cw_X8_makeMeeting cI cZ o_p1 (upd a_p1 (Int32.toNatClampNeg n3) r29))) (rfl) (rfl) (fun r43 H locs h hP hD hS => ?_)
  have h0 := h.1
  have h := h.2
  refine va_iast hx hb hK.1 hP hD hS 0 0 rfl rfl h0 dX8_makeMeeting_46 (fun H locs hP hD hS => ?_)
  have hP : va_P D vwCl (cw_X8_makeMeeting cI cZ o_p1 (upd (upd a_p1 (Int32.toNatClampNeg n3) r29) (Int32.toNatClampNeg n4) r43)) H := hP
  have hD : va_D A (cw_X8_makeMeeting cI cZ o_p1 (upd (upd a_p1 (Int32.toNatClampNeg n3) r29) (Int32.toNatClampNeg n4) r43)) := hD
  refine lv_aload_n hx hb dX8_makeMeeting_47 rfl (lv_at hl 3 rfl) ?_
  refine lv_iload_n hx hb dX8_makeMeeting_48 rfl (lv_at hl 5 rfl) ?_
  have h0 := h.1
  have h := h.2
  refine va_iald hx hb hK.1 hP 0 0 rfl rfl h0 dX8_makeMeeting_49 ?_
  refine lv_iload hx hb dX8_makeMeeting_50 (lv_at hl 2 rfl) ?_
  refine lv_icmp_ne (tgt := 63) hx hb dX8_makeMeeting_52 (by decide) (fun c52 => ?_) (fun c52 => ?_)
  · have h := h.1 c52
    refine lv_iconst (v := 1) hx hb dX8_makeMeeting_63 (by decide) ?_
    refine lv_goto (tgt := 68) hx hb dX8_makeMeeting_64 (by decide) ?_
    exact ret_z1 hx hb hr hlocks hQ hS (by decide) (upd (upd a_p1 (Int32.toNatClampNeg n3) r29) (Int32.toNatClampNeg n4) r43) hP h dX8_makeMeeting_68
  · have h := h.2 c52
    refine lv_aload_n hx hb dX8_makeMeeting_55 rfl (lv_at hl 3 rfl) ?_
    refine lv_iload_n hx hb dX8_makeMeeting_56 rfl (lv_at hl 6 rfl) ?_
    have h0 := h.1
    have h := h.2
    refine va_iald hx hb hK.1 hP 0 0 rfl rfl h0 dX8_makeMeeting_57 ?_
    refine lv_iload hx hb dX8_makeMeeting_58 (lv_at hl 1 rfl) ?_
    refine lv_icmp_eq (tgt := 67) hx hb dX8_makeMeeting_60 (by decide) (fun c60 => ?_) (fun c60 => ?_)
    · have h := h.1 c60
      refine lv_iconst (v := 0) hx hb dX8_makeMeeting_67 (by decide) ?_
      exact ret_z1 hx hb hr hlocks hQ hS (by decide) (upd (upd a_p1 (Int32.toNatClampNeg n3) r29) (Int32.toNatClampNeg n4) r43) hP h dX8_makeMeeting_68
    · have h := h.2 c60
      refine lv_iconst (v := 1) hx hb dX8_makeMeeting_63 (by decide) ?_
      refine lv_goto (tgt := 68) hx hb dX8_makeMeeting_64 (by decide) ?_
      exact ret_z1 hx hb hr hlocks hQ hS (by decide) (upd (upd a_p1 (Int32.toNatClampNeg n3) r29) (Int32.toNatClampNeg n4) r43) hP h dX8_makeMeeting_68
abbrev rm_X2_makeOne : Room := { frames := 4, cells := 0, slots := 0, locals := 134 }
abbrev cw_X2_makeOne (cI cZ : ClassId) (o o_firsts o_seconds o_p2 : Nat) (v_size : Int32) (a_firsts : Nat → Int32) (a_seconds : Nat → Int32) (a_p2 : Nat → Int32) : va_W := [(o, .inr (2, [.ref o_firsts, .ref o_seconds, .int v_size])), (o_firsts, .inl (cI, 16, .inl a_firsts)), (o_seconds, .inl (cI, 16, .inl a_seconds)), (o_p2, .inl (cI, 8, .inl a_p2))]
theorem inw_X2_makeOne_X2 : ∀ w ∈ u_ws RX2 TX2 3, w ∈ wsX2_makeOne := by decide +kernel
def wp_X2_makeOne (n1 : Int32) (n3 : Int32) (a_firsts : Nat → Int32) (a_seconds : Nat → Int32) (a_p2 : Nat → Int32) (Post : Int32 → (Nat → Int32) → Prop) : Prop := (vp_in n1 16 ∧ (vp_in n1 16 ∧ (wp_X8_makeMeeting n3 (a_firsts (Int32.toNatClampNeg n1)) (a_seconds (Int32.toNatClampNeg n1)) a_p2 (fun (r14 : Int32) (a_p2_14 : Nat → Int32) => (r14 &&& 1 = r14 ∧ (Post r14 a_p2_14))))))
set_option maxHeartbeats 4000000 in
set_option maxRecDepth 100000 in
theorem c_X2_makeOne (l : Launch) (D : va_G) (cI cZ : ClassId) (o o_firsts o_seconds o_p2 : Nat) (sz : Nat) (n1 : Int32) (n3 : Int32) (v_size : Int32) (a_firsts : Nat → Int32) (a_seconds : Nat → Int32) (a_p2 : Nat → Int32) (Post : Int32 → (Nat → Int32) → Prop) (h : wp_X2_makeOne n1 n3 a_firsts a_seconds a_p2 Post) : Met l yX2_makeOne wsX2_makeOne rm_X2_makeOne (cPc D cI cZ [.ref o, .int n1, .ref o_p2, .int n3] (cw_X2_makeOne cI cZ o o_firsts o_seconds o_p2 v_size a_firsts a_seconds a_p2) sz) (cQi1 D Post (fun m_a_p2 => (cw_X2_makeOne cI cZ o o_firsts o_seconds o_p2 v_size a_firsts a_seconds m_a_p2)) (va_A (cw_X2_makeOne cI cZ o o_firsts o_seconds o_p2 v_size a_firsts a_seconds a_p2) sz)) 0 0 (va_A (cw_X2_makeOne cI cZ o o_firsts o_seconds o_p2 v_size a_firsts a_seconds a_p2) sz) := by
  refine ent (cc := cX2_makeOne) (maxL := 4) (ret := (some .boolean)) (Qc := fun A => cQi1 D Post (fun m_a_p2 => (cw_X2_makeOne cI cZ o o_firsts o_seconds o_p2 v_size a_firsts a_seconds m_a_p2)) A) (by decide) rfl (Nat.le_of_ble_eq_true rfl) ?_
  intro p e s m args below meth c A ls Q hQ hsz hx hb hml hr hts hown hlocks hnm hK hP hD hA hS hl
  have hl : lv_has ls 4 [(0, .ref o), (1, .int n1), (2, .ref o_p2), (3, .int n3)] := hl
  unfold wp_X2_makeOne at h
  refine lv_aload_n hx hb dX2_makeOne_0 rfl (lv_at hl 2 rfl) ?_
  refine lv_iload_n hx hb dX2_makeOne_1 rfl (lv_at hl 3 rfl) ?_
  refine lv_aload_n hx hb dX2_makeOne_2 rfl (lv_at hl 0 rfl) ?_
  refine va_get (D := D) (ci := 2) (v := .ref o_firsts) (C := RX2) (T := TX2) (N := 3) hx hb hts inw_X2_makeOne_X2 hown hK.1 hP 0 rfl rfl 0 (by decide) (hts (.fieldLink RX2 9 "PursesShare$Meetings" "firsts" "[I") (by decide +kernel)) (fun _ h9 => h9) rfl dX2_makeOne_3 ?_
  refine lv_iload_n hx hb dX2_makeOne_6 rfl (lv_at hl 1 rfl) ?_
  have h0 := h.1
  have h := h.2
  refine va_iald hx hb hK.1 hP 1 0 rfl rfl h0 dX2_makeOne_7 ?_
  refine lv_aload_n hx hb dX2_makeOne_8 rfl (lv_at hl 0 rfl) ?_
  refine va_get (D := D) (ci := 2) (v := .ref o_seconds) (C := RX2) (T := TX2) (N := 3) hx hb hts inw_X2_makeOne_X2 hown hK.1 hP 0 rfl rfl 1 (by decide) (hts (.fieldLink RX2 15 "PursesShare$Meetings" "seconds" "[I") (by decide +kernel)) (fun _ h9 => h9) rfl dX2_makeOne_9 ?_
  refine lv_iload_n hx hb dX2_makeOne_12 rfl (lv_at hl 1 rfl) ?_
  have h0 := h.1
  have h := h.2
  refine va_iald hx hb hK.1 hP 2 0 rfl rfl h0 dX2_makeOne_13 ?_
  refine call_i1 (va_runSN (As := [.ref o_p2, .int n3, .int (a_firsts (Int32.toNatClampNeg n1)), .int (a_seconds (Int32.toNatClampNeg n1))]) (rest := []) ⟨hx, hb, hml, hown, hts⟩ (c_X8_makeMeeting l D cI cZ o_p2 (Array.size s.heap) n3 (a_firsts (Int32.toNatClampNeg n1)) (a_seconds (Int32.toNatClampNeg n1)) a_p2 _ h) ⟨va_cnB (own := RX2) 4 hts gX2_makeOne_X8_makeMeeting_n28 rfl rfl rfl (nM_23 hK) (hts (.initialized RX8) (by decide +kernel)) (by decide +kernel) ⟨Nat.le_of_ble_eq_true rfl, Nat.le_of_ble_eq_true rfl⟩, hts (.static yX8_makeMeeting) (by decide +kernel), trivial⟩ (preS_of hP hD hK [3] rfl rfl) rfl rfl hl.1 rfl (lv_room (Nat.le_of_ble_eq_true rfl)) dX2_makeOne_14 ⟨Nat.zero_le _, Nat.zero_le _⟩) hP hD hS hA [3] rfl (fun a_p2_14 => (cw_X2_makeOne cI cZ o o_firsts o_seconds o_p2 v_size a_firsts a_seconds a_p2_14)) (fun _ => rfl) (fun _ => rfl) (fun r14 a_p2_14 H locs h hP hD hS => ?_)
  have hz := h.1
  have h := h.2
  exact ret_z1 hx hb hr hlocks hQ hS hz a_p2_14 hP h dX2_makeOne_17
abbrev rm_X2_makeAll : Room := { frames := 5, cells := 0, slots := 0, locals := 157 }
abbrev cw_X2_makeAll (cI cZ : ClassId) (o o_firsts o_seconds o_p1 : Nat) (v_size : Int32) (a_firsts : Nat → Int32) (a_seconds : Nat → Int32) (a_p1 : Nat → Int32) : va_W := [(o, .inr (2, [.ref o_firsts, .ref o_seconds, .int v_size])), (o_firsts, .inl (cI, 16, .inl a_firsts)), (o_seconds, .inl (cI, 16, .inl a_seconds)), (o_p1, .inl (cI, 8, .inl a_p1))]
theorem inw_X2_makeAll_X2 : ∀ w ∈ u_ws RX2 TX2 3, w ∈ wsX2_makeAll := by decide +kernel
def wp_X2_makeAll (n2 : Int32) (v_size : Int32) (a_firsts : Nat → Int32) (a_seconds : Nat → Int32) (a_p1 : Nat → Int32) (Post : Int32 → (Nat → Int32) → Prop) : Prop := (∀ k5 : (Int32) → (Int32) → (Nat → Int32) → Prop, (∀ (x4_5 : Int32) (x3_5 : Int32) (a_p1_5 : Nat → Int32), ((v_size ≤ x4_5 → (Post x3_5 a_p1_5)) ∧ (¬ v_size ≤ x4_5 → (wp_X2_makeOne x4_5 n2 a_firsts a_seconds a_p1_5 (fun (r19 : Int32) (a_p1_19 : Nat → Int32) => ((r19 = 0 → (k5 (x4_5 + 1) x3_5 a_p1_19)) ∧ (¬ r19 = 0 → (k5 (x4_5 + 1) (x3_5 + 1) a_p1_19))))))) → k5 x4_5 x3_5 a_p1_5) → k5 (0 : Int32) (0 : Int32) a_p1)
set_option maxHeartbeats 4000000 in
set_option maxRecDepth 100000 in
theorem c_X2_makeAll (l : Launch) (D : va_G) (cI cZ : ClassId) (o o_firsts o_seconds o_p1 : Nat) (sz : Nat) (n2 : Int32) (v_size : Int32) (a_firsts : Nat → Int32) (a_seconds : Nat → Int32) (a_p1 : Nat → Int32) (Post : Int32 → (Nat → Int32) → Prop) (h : wp_X2_makeAll n2 v_size a_firsts a_seconds a_p1 Post) : Met l yX2_makeAll wsX2_makeAll rm_X2_makeAll (cPc D cI cZ [.ref o, .ref o_p1, .int n2] (cw_X2_makeAll cI cZ o o_firsts o_seconds o_p1 v_size a_firsts a_seconds a_p1) sz) (cQi1 D Post (fun m_a_p1 => (cw_X2_makeAll cI cZ o o_firsts o_seconds o_p1 v_size a_firsts a_seconds m_a_p1)) (va_A (cw_X2_makeAll cI cZ o o_firsts o_seconds o_p1 v_size a_firsts a_seconds a_p1) sz)) 0 0 (va_A (cw_X2_makeAll cI cZ o o_firsts o_seconds o_p1 v_size a_firsts a_seconds a_p1) sz) := by
  refine ent (cc := cX2_makeAll) (maxL := 5) (ret := (some .int)) (Qc := fun A => cQi1 D Post (fun m_a_p1 => (cw_X2_makeAll cI cZ o o_firsts o_seconds o_p1 v_size a_firsts a_seconds m_a_p1)) A) (by decide) rfl (Nat.le_of_ble_eq_true rfl) ?_
  intro p e s m args below meth c A ls Q hQ hsz hx hb hml hr hts hown hlocks hnm hK hP hD hA hS hl
  have hl : lv_has ls 5 [(0, .ref o), (1, .ref o_p1), (2, .int n2)] := hl
  unfold wp_X2_makeAll at h
  refine lv_iconst (v := 0) hx hb dX2_makeAll_0 (by decide) ?_
  refine lv_istore_n (lv' := [(3, .int (0 : Int32)), (0, .ref o), (1, .ref o_p1), (2, .int n2)]) hx hb dX2_makeAll_1 rfl hl (by decide) rfl (fun ls hl => ?_)
  refine lv_iconst (v := 0) hx hb dX2_makeAll_2 (by decide) ?_
  refine lv_istore (lv' := [(4, .int (0 : Int32)), (3, .int (0 : Int32)), (0, .ref o), (1, .ref o_p1), (2, .int n2)]) hx hb dX2_makeAll_3 hl (by decide) rfl (fun ls hl => ?_)
  refine h (fun x4_5 x3_5 a_p1_5 => ∀ (H : Heap) (locs : List Loc) (ls : Array Slot), lv_has ls 5 [(0, .ref o), (1, .ref o_p1), (2, .int n2), (3, .int x3_5), (4, .int x4_5)] → va_P D vwCl (cw_X2_makeAll cI cZ o o_firsts o_seconds o_p1 v_size a_firsts a_seconds a_p1_5) H → va_D A (cw_X2_makeAll cI cZ o o_firsts o_seconds o_p1 v_size a_firsts a_seconds a_p1_5) → va_S A s.heap H locs → W p l e rm_X2_makeAll s m args below meth c H locs 0 0 Q (F0 m 5 ls [])) ?_ s.heap [] ls (lv_sub hl [2, 3, 4, 1, 0] rfl) hP hD hS
  intro x4_5 x3_5 a_p1_5 h H locs ls hl hP hD hS
  refine lv_iload hx hb dX2_makeAll_5 (lv_at hl 4 rfl) ?_
  refine lv_aload_n hx hb dX2_makeAll_7 rfl (lv_at hl 0 rfl) ?_
  refine va_get (D := D) (ci := 2) (v := .int v_size) (C := RX2) (T := TX2) (N := 3) hx hb hts inw_X2_makeAll_X2 hown hK.1 hP 0 rfl rfl 2 (by decide) (hts (.fieldLink RX2 18 "PursesShare$Meetings" "size" "I") (by decide +kernel)) (fun _ h9 => h9) rfl dX2_makeAll_8 ?_
  refine lv_icmp_ge (tgt := 34) hx hb dX2_makeAll_11 (by decide) (fun c11 => ?_) (fun c11 => ?_)
  · have h := h.1 c11
    refine lv_iload_n hx hb dX2_makeAll_34 rfl (lv_at hl 3 rfl) ?_
    exact ret_i1 hx hb hr hlocks hQ hS a_p1_5 hP h dX2_makeAll_35
  · have h := h.2 c11
    refine lv_aload_n hx hb dX2_makeAll_14 rfl (lv_at hl 0 rfl) ?_
    refine lv_iload hx hb dX2_makeAll_15 (lv_at hl 4 rfl) ?_
    refine lv_aload_n hx hb dX2_makeAll_17 rfl (lv_at hl 1 rfl) ?_
    refine lv_iload_n hx hb dX2_makeAll_18 rfl (lv_at hl 2 rfl) ?_
    refine call_i1 (va_runV (As := [.int x4_5, .ref o_p1, .int n2]) (rest := []) ⟨hx, hb, hml, hown, hts⟩ (c_X2_makeOne l D cI cZ o o_firsts o_seconds o_p1 (Array.size H) x4_5 n2 v_size a_firsts a_seconds a_p1_5 _ h) (cwV 3 hts gX2_makeAll_X2_makeOne rfl rfl rfl (by decide +kernel) ⟨Nat.le_of_ble_eq_true rfl, Nat.le_of_ble_eq_true rfl⟩) (preV_of hP hD hK [0, 1, 2, 3] rfl rfl 0 2 rfl rfl rfl) rfl rfl hl.1 rfl (lv_room (Nat.le_of_ble_eq_true rfl)) dX2_makeAll_19 ⟨Nat.zero_le _, Nat.zero_le _⟩) hP hD hS hA [0, 1, 2, 3] rfl (fun a_p1_19 => (cw_X2_makeAll cI cZ o o_firsts o_seconds o_p1 v_size a_firsts a_seconds a_p1_19)) (fun _ => rfl) (fun _ => rfl) (fun r19 a_p1_19 H locs h hP hD hS => ?_)
    refine lv_if_eq (tgt := 28) hx hb dX2_makeAll_22 (by decide) (fun c22 => ?_) (fun c22 => ?_)
    · have h := h.1 c22
      refine lv_iinc (v := (x4_5 + 1)) (lv' := [(4, .int (x4_5 + 1)), (0, .ref o), (1, .ref o_p1), (2, .int n2), (3, .int x3_5)]) hx hb dX2_makeAll_28 hl (k := 4) rfl rfl (by decide) rfl (fun ls hl => ?_)
      refine lv_goto (tgt := 5) hx hb dX2_makeAll_31 (by decide) ?_
      exact h H locs ls (lv_sub hl [1, 2, 3, 4, 0] rfl) hP hD hS
    · have h := h.2 c22
      refine lv_iinc (v := (x3_5 + 1)) (lv' := [(3, .int (x3_5 + 1)), (0, .ref o), (1, .ref o_p1), (2, .int n2), (4, .int x4_5)]) hx hb dX2_makeAll_25 hl (k := 3) rfl rfl (by decide) rfl (fun ls hl => ?_)
      refine lv_iinc (v := (x4_5 + 1)) (lv' := [(4, .int (x4_5 + 1)), (3, .int (x3_5 + 1)), (0, .ref o), (1, .ref o_p1), (2, .int n2)]) hx hb dX2_makeAll_28 hl (k := 4) rfl rfl (by decide) rfl (fun ls hl => ?_)
      refine lv_goto (tgt := 5) hx hb dX2_makeAll_31 (by decide) ?_
      exact h H locs ls (lv_sub hl [2, 3, 4, 1, 0] rfl) hP hD hS
abbrev rm_X0_find : Room := { frames := 6, cells := 0, slots := 0, locals := 181 }
abbrev cw_X0_find (cI cZ : ClassId) (o o_rows o_purses o_p1 o_p1_purses o_p1_firsts o_p1_seconds o_p1_firstsHad o_p1_secondsHad o_p1_seenSums o_p1_seenShared o_p2 o_p2_firsts o_p2_seconds : Nat) (v_ringDays : Int32) (v_leadDays : Int32) (a_rows : Nat → Int32) (a_purses : Nat → Int32) (v_p1_filled : Int32) (v_p1_people : Int32) (v_p1_lawNumber : Int32) (v_p1_made : Int32) (v_p1_seen : Int32) (a_p1_purses : Nat → Int32) (v_p2_size : Int32) (a_p2_firsts : Nat → Int32) (a_p2_seconds : Nat → Int32) : va_W := [(o, .inr (0, [.ref o_rows, .ref o_purses, .int v_ringDays, .int v_leadDays])), (o_rows, .inl (cI, 2408, .inl a_rows)), (o_purses, .inl (cI, 8, .inl a_purses)), (o_p1, .inr (1, [.int v_p1_filled, .int v_p1_people, .int v_p1_lawNumber, .ref o_p1_purses, .int v_p1_made, .ref o_p1_firsts, .ref o_p1_seconds, .ref o_p1_firstsHad, .ref o_p1_secondsHad, .int v_p1_seen, .ref o_p1_seenSums, .ref o_p1_seenShared])), (o_p1_purses, .inl (cI, 8, .inl a_p1_purses)), (o_p2, .inr (2, [.ref o_p2_firsts, .ref o_p2_seconds, .int v_p2_size])), (o_p2_firsts, .inl (cI, 16, .inl a_p2_firsts)), (o_p2_seconds, .inl (cI, 16, .inl a_p2_seconds))]
theorem inw_X0_find_X0 : ∀ w ∈ u_ws RX0 TX0 4, w ∈ wsX0_find := by decide +kernel
theorem inw_X0_find_X1 : ∀ w ∈ u_ws RX1 TX1 12, w ∈ wsX0_find := by decide +kernel
def wp_X0_find (v_ringDays : Int32) (v_leadDays : Int32) (a_rows : Nat → Int32) (a_purses : Nat → Int32) (v_p1_people : Int32) (v_p1_lawNumber : Int32) (a_p1_purses : Nat → Int32) (v_p2_size : Int32) (a_p2_firsts : Nat → Int32) (a_p2_seconds : Nat → Int32) (Post : (Int32) → (Int32) → (Nat → Int32) → (Nat → Int32) → Prop) : Prop := (∀ k44 : (Int32) → (Int32) → (Int32) → (Nat → Int32) → (Nat → Int32) → Prop, (∀ (x3_44 : Int32) (v_ringDays_44 : Int32) (v_leadDays_44 : Int32) (a_rows_44 : Nat → Int32) (a_purses_44 : Nat → Int32), (((300 : Int32) < x3_44 → (Post v_ringDays_44 v_leadDays_44 a_rows_44 a_purses_44)) ∧ (¬ (300 : Int32) < x3_44 → ((¬ v_leadDays_44 = (-9 : Int32) → (Post v_ringDays_44 v_leadDays_44 a_rows_44 a_purses_44)) ∧ (v_leadDays_44 = (-9 : Int32) → (wp_X2_makeAll v_p1_lawNumber v_p2_size a_p2_firsts a_p2_seconds a_purses_44 (fun (r69 : Int32) (a_purses_69 : Nat → Int32) => (wp_X0_noteIfHadBefore x3_44 v_p1_people v_ringDays_44 v_leadDays_44 a_rows_44 a_purses_69 (fun (v_ringDays_79 : Int32) (v_leadDays_79 : Int32) => (¬ (x3_44 * (8 : Int32)) < 0 ∧ (Int32.toNatClampNeg (x3_44 * (8 : Int32)) + Int32.toNatClampNeg (8 : Int32) ≤ 2408 ∧ (k44 (x3_44 + 1) v_ringDays_79 v_leadDays_79 (va_cpy a_purses_69 a_rows_44 (Int32.toNatClampNeg (0 : Int32)) (Int32.toNatClampNeg (x3_44 * (8 : Int32))) (Int32.toNatClampNeg (8 : Int32))) a_purses_69))))))))))) → k44 x3_44 v_ringDays_44 v_leadDays_44 a_rows_44 a_purses_44) → k44 (1 : Int32) (-9 : Int32) (-9 : Int32) (va_cpy (va_cpy a_p1_purses a_purses (Int32.toNatClampNeg (0 : Int32)) (Int32.toNatClampNeg (0 : Int32)) (Int32.toNatClampNeg (8 : Int32))) a_rows (Int32.toNatClampNeg (0 : Int32)) (Int32.toNatClampNeg (0 : Int32)) (Int32.toNatClampNeg (8 : Int32))) (va_cpy a_p1_purses a_purses (Int32.toNatClampNeg (0 : Int32)) (Int32.toNatClampNeg (0 : Int32)) (Int32.toNatClampNeg (8 : Int32))))
set_option maxHeartbeats 4000000 in
set_option maxRecDepth 100000 in
theorem c_X0_find (l : Launch) (D : va_G) (cI cZ : ClassId) (o o_rows o_purses o_p1 o_p1_purses o_p1_firsts o_p1_seconds o_p1_firstsHad o_p1_secondsHad o_p1_seenSums o_p1_seenShared o_p2 o_p2_firsts o_p2_seconds : Nat) (sz : Nat) (v_ringDays : Int32) (v_leadDays : Int32) (a_rows : Nat → Int32) (a_purses : Nat → Int32) (v_p1_filled : Int32) (v_p1_people : Int32) (v_p1_lawNumber : Int32) (v_p1_made : Int32) (v_p1_seen : Int32) (a_p1_purses : Nat → Int32) (v_p2_size : Int32) (a_p2_firsts : Nat → Int32) (a_p2_seconds : Nat → Int32) (Post : (Int32) → (Int32) → (Nat → Int32) → (Nat → Int32) → Prop) (h : wp_X0_find v_ringDays v_leadDays a_rows a_purses v_p1_people v_p1_lawNumber a_p1_purses v_p2_size a_p2_firsts a_p2_seconds Post) : Met l yX0_find wsX0_find rm_X0_find (cPc D cI cZ [.ref o, .ref o_p1, .ref o_p2] (cw_X0_find cI cZ o o_rows o_purses o_p1 o_p1_purses o_p1_firsts o_p1_seconds o_p1_firstsHad o_p1_secondsHad o_p1_seenSums o_p1_seenShared o_p2 o_p2_firsts o_p2_seconds v_ringDays v_leadDays a_rows a_purses v_p1_filled v_p1_people v_p1_lawNumber v_p1_made v_p1_seen a_p1_purses v_p2_size a_p2_firsts a_p2_seconds) sz) (cQv4 D Post (fun m_v_ringDays m_v_leadDays m_a_rows m_a_purses => (cw_X0_find cI cZ o o_rows o_purses o_p1 o_p1_purses o_p1_firsts o_p1_seconds o_p1_firstsHad o_p1_secondsHad o_p1_seenSums o_p1_seenShared o_p2 o_p2_firsts o_p2_seconds m_v_ringDays m_v_leadDays m_a_rows m_a_purses v_p1_filled v_p1_people v_p1_lawNumber v_p1_made v_p1_seen a_p1_purses v_p2_size a_p2_firsts a_p2_seconds)) (va_A (cw_X0_find cI cZ o o_rows o_purses o_p1 o_p1_purses o_p1_firsts o_p1_seconds o_p1_firstsHad o_p1_secondsHad o_p1_seenSums o_p1_seenShared o_p2 o_p2_firsts o_p2_seconds v_ringDays v_leadDays a_rows a_purses v_p1_filled v_p1_people v_p1_lawNumber v_p1_made v_p1_seen a_p1_purses v_p2_size a_p2_firsts a_p2_seconds) sz)) 0 0 (va_A (cw_X0_find cI cZ o o_rows o_purses o_p1 o_p1_purses o_p1_firsts o_p1_seconds o_p1_firstsHad o_p1_secondsHad o_p1_seenSums o_p1_seenShared o_p2 o_p2_firsts o_p2_seconds v_ringDays v_leadDays a_rows a_purses v_p1_filled v_p1_people v_p1_lawNumber v_p1_made v_p1_seen a_p1_purses v_p2_size a_p2_firsts a_p2_seconds) sz) := by
  refine ent (cc := cX0_find) (maxL := 4) (ret := none) (Qc := fun A => cQv4 D Post (fun m_v_ringDays m_v_leadDays m_a_rows m_a_purses => (cw_X0_find cI cZ o o_rows o_purses o_p1 o_p1_purses o_p1_firsts o_p1_seconds o_p1_firstsHad o_p1_secondsHad o_p1_seenSums o_p1_seenShared o_p2 o_p2_firsts o_p2_seconds m_v_ringDays m_v_leadDays m_a_rows m_a_purses v_p1_filled v_p1_people v_p1_lawNumber v_p1_made v_p1_seen a_p1_purses v_p2_size a_p2_firsts a_p2_seconds)) A) (by decide) rfl (Nat.le_of_ble_eq_true rfl) ?_
  intro p e s m args below meth c A ls Q hQ hsz hx hb hml hr hts hown hlocks hnm hK hP hD hA hS hl
  have hl : lv_has ls 4 [(0, .ref o), (1, .ref o_p1), (2, .ref o_p2)] := hl
  unfold wp_X0_find at h
  refine lv_aload_n hx hb dX0_find_0 rfl (lv_at hl 0 rfl) ?_
  refine lv_bipush (v := -9) hx hb dX0_find_1 (by decide) ?_
  refine va_put (D := D) (ci := 0) (v := .int (-9 : Int32)) (ty := .int) (C := RX0) (T := TX0) (N := 4) hx hb hts inw_X0_find_X0 tyX0 tyX0_ok nmX0 hown hK.1 hP hD hS 0 rfl rfl 2 (by decide) (hts (.fieldLink RX0 18 "PursesShare$DaySearch" "ringDays" "I") (by decide +kernel)) (fun _ h9 => h9) rfl (by decide +kernel) rfl rfl (Nat.le_of_ble_eq_true rfl) dX0_find_3 (fun H locs hP hD hS => ?_)
  have hP : va_P D vwCl (cw_X0_find cI cZ o o_rows o_purses o_p1 o_p1_purses o_p1_firsts o_p1_seconds o_p1_firstsHad o_p1_secondsHad o_p1_seenSums o_p1_seenShared o_p2 o_p2_firsts o_p2_seconds (-9 : Int32) v_leadDays a_rows a_purses v_p1_filled v_p1_people v_p1_lawNumber v_p1_made v_p1_seen a_p1_purses v_p2_size a_p2_firsts a_p2_seconds) H := hP
  have hD : va_D A (cw_X0_find cI cZ o o_rows o_purses o_p1 o_p1_purses o_p1_firsts o_p1_seconds o_p1_firstsHad o_p1_secondsHad o_p1_seenSums o_p1_seenShared o_p2 o_p2_firsts o_p2_seconds (-9 : Int32) v_leadDays a_rows a_purses v_p1_filled v_p1_people v_p1_lawNumber v_p1_made v_p1_seen a_p1_purses v_p2_size a_p2_firsts a_p2_seconds) := hD
  refine lv_aload_n hx hb dX0_find_6 rfl (lv_at hl 0 rfl) ?_
  refine lv_bipush (v := -9) hx hb dX0_find_7 (by decide) ?_
  refine va_put (D := D) (ci := 0) (v := .int (-9 : Int32)) (ty := .int) (C := RX0) (T := TX0) (N := 4) hx hb hts inw_X0_find_X0 tyX0 tyX0_ok nmX0 hown hK.1 hP hD hS 0 rfl rfl 3 (by decide) (hts (.fieldLink RX0 22 "PursesShare$DaySearch" "leadDays" "I") (by decide +kernel)) (fun _ h9 => h9) rfl (by decide +kernel) rfl rfl (Nat.le_of_ble_eq_true rfl) dX0_find_9 (fun H locs hP hD hS => ?_)
  have hP : va_P D vwCl (cw_X0_find cI cZ o o_rows o_purses o_p1 o_p1_purses o_p1_firsts o_p1_seconds o_p1_firstsHad o_p1_secondsHad o_p1_seenSums o_p1_seenShared o_p2 o_p2_firsts o_p2_seconds (-9 : Int32) (-9 : Int32) a_rows a_purses v_p1_filled v_p1_people v_p1_lawNumber v_p1_made v_p1_seen a_p1_purses v_p2_size a_p2_firsts a_p2_seconds) H := hP
  have hD : va_D A (cw_X0_find cI cZ o o_rows o_purses o_p1 o_p1_purses o_p1_firsts o_p1_seconds o_p1_firstsHad o_p1_secondsHad o_p1_seenSums o_p1_seenShared o_p2 o_p2_firsts o_p2_seconds (-9 : Int32) (-9 : Int32) a_rows a_purses v_p1_filled v_p1_people v_p1_lawNumber v_p1_made v_p1_seen a_p1_purses v_p2_size a_p2_firsts a_p2_seconds) := hD
  refine lv_aload_n hx hb dX0_find_12 rfl (lv_at hl 1 rfl) ?_
  refine va_getN (D := D) (ci := 1) (v := .ref o_p1_purses) (C := RX1) (T := TX1) (N := 12) hx hb hts inw_X0_find_X1 hown hK.1 hP 3 rfl rfl 3 (by decide) (nF_21 hK) (fun _ h9 => h9) rfl dX0_find_13 ?_
  refine lv_iconst (v := 0) hx hb dX0_find_16 (by decide) ?_
  refine lv_aload_n hx hb dX0_find_17 rfl (lv_at hl 0 rfl) ?_
  refine va_get (D := D) (ci := 0) (v := .ref o_purses) (C := RX0) (T := TX0) (N := 4) hx hb hts inw_X0_find_X0 hown hK.1 hP 0 rfl rfl 1 (by decide) (hts (.fieldLink RX0 15 "PursesShare$DaySearch" "purses" "[I") (by decide +kernel)) (fun _ h9 => h9) rfl dX0_find_18 ?_
  refine lv_iconst (v := 0) hx hb dX0_find_21 (by decide) ?_
  refine lv_bipush (v := 8) hx hb dX0_find_22 (by decide) ?_
  refine va_copyi hx hb (hml.trans hl.1.symm) hown (hts (.methodLink RX0 28 arraycopyName) (by decide +kernel)) (hts (.native arraycopyName) (by decide +kernel)) (hts (.static arraycopyName) (by decide +kernel)) (hts (.initialized "java/lang/System") (by decide +kernel)) hK.1 hP hD hS 4 2 0 0 (ty := .int) rfl rfl rfl rfl rfl (by decide) (by decide) (by decide) (by decide) (by decide) (fun _ _ => rfl) (Nat.le_of_ble_eq_true rfl) (Nat.le_of_ble_eq_true rfl) dX0_find_24 (fun H locs hP hD hS => ?_)
  have hP : va_P D vwCl (cw_X0_find cI cZ o o_rows o_purses o_p1 o_p1_purses o_p1_firsts o_p1_seconds o_p1_firstsHad o_p1_secondsHad o_p1_seenSums o_p1_seenShared o_p2 o_p2_firsts o_p2_seconds (-9 : Int32) (-9 : Int32) a_rows (va_cpy a_p1_purses a_purses (Int32.toNatClampNeg (0 : Int32)) (Int32.toNatClampNeg (0 : Int32)) (Int32.toNatClampNeg (8 : Int32))) v_p1_filled v_p1_people v_p1_lawNumber v_p1_made v_p1_seen a_p1_purses v_p2_size a_p2_firsts a_p2_seconds) H := hP
  have hD : va_D A (cw_X0_find cI cZ o o_rows o_purses o_p1 o_p1_purses o_p1_firsts o_p1_seconds o_p1_firstsHad o_p1_secondsHad o_p1_seenSums o_p1_seenShared o_p2 o_p2_firsts o_p2_seconds (-9 : Int32) (-9 : Int32) a_rows (va_cpy a_p1_purses a_purses (Int32.toNatClampNeg (0 : Int32)) (Int32.toNatClampNeg (0 : Int32)) (Int32.toNatClampNeg (8 : Int32))) v_p1_filled v_p1_people v_p1_lawNumber v_p1_made v_p1_seen a_p1_purses v_p2_size a_p2_firsts a_p2_seconds) := hD
  refine lv_aload_n hx hb dX0_find_27 rfl (lv_at hl 0 rfl) ?_
  refine va_get (D := D) (ci := 0) (v := .ref o_purses) (C := RX0) (T := TX0) (N := 4) hx hb hts inw_X0_find_X0 hown hK.1 hP 0 rfl rfl 1 (by decide) (hts (.fieldLink RX0 15 "PursesShare$DaySearch" "purses" "[I") (by decide +kernel)) (fun _ h9 => h9) rfl dX0_find_28 ?_
  refine lv_iconst (v := 0) hx hb dX0_find_31 (by decide) ?_
  refine lv_aload_n hx hb dX0_find_32 rfl (lv_at hl 0 rfl) ?_
  refine va_get (D := D) (ci := 0) (v := .ref o_rows) (C := RX0) (T := TX0) (N := 4) hx hb hts inw_X0_find_X0 hown hK.1 hP 0 rfl rfl 0 (by decide) (hts (.fieldLink RX0 9 "PursesShare$DaySearch" "rows" "[I") (by decide +kernel)) (fun _ h9 => h9) rfl dX0_find_33 ?_
  refine lv_iconst (v := 0) hx hb dX0_find_36 (by decide) ?_
  refine lv_bipush (v := 8) hx hb dX0_find_37 (by decide) ?_
  refine va_copyi hx hb (hml.trans hl.1.symm) hown (hts (.methodLink RX0 28 arraycopyName) (by decide +kernel)) (hts (.native arraycopyName) (by decide +kernel)) (hts (.static arraycopyName) (by decide +kernel)) (hts (.initialized "java/lang/System") (by decide +kernel)) hK.1 hP hD hS 2 1 0 0 (ty := .int) rfl rfl rfl rfl rfl (by decide) (by decide) (by decide) (by decide) (by decide) (fun _ _ => rfl) (Nat.le_of_ble_eq_true rfl) (Nat.le_of_ble_eq_true rfl) dX0_find_39 (fun H locs hP hD hS => ?_)
  have hP : va_P D vwCl (cw_X0_find cI cZ o o_rows o_purses o_p1 o_p1_purses o_p1_firsts o_p1_seconds o_p1_firstsHad o_p1_secondsHad o_p1_seenSums o_p1_seenShared o_p2 o_p2_firsts o_p2_seconds (-9 : Int32) (-9 : Int32) (va_cpy (va_cpy a_p1_purses a_purses (Int32.toNatClampNeg (0 : Int32)) (Int32.toNatClampNeg (0 : Int32)) (Int32.toNatClampNeg (8 : Int32))) a_rows (Int32.toNatClampNeg (0 : Int32)) (Int32.toNatClampNeg (0 : Int32)) (Int32.toNatClampNeg (8 : Int32))) (va_cpy a_p1_purses a_purses (Int32.toNatClampNeg (0 : Int32)) (Int32.toNatClampNeg (0 : Int32)) (Int32.toNatClampNeg (8 : Int32))) v_p1_filled v_p1_people v_p1_lawNumber v_p1_made v_p1_seen a_p1_purses v_p2_size a_p2_firsts a_p2_seconds) H := hP
  have hD : va_D A (cw_X0_find cI cZ o o_rows o_purses o_p1 o_p1_purses o_p1_firsts o_p1_seconds o_p1_firstsHad o_p1_secondsHad o_p1_seenSums o_p1_seenShared o_p2 o_p2_firsts o_p2_seconds (-9 : Int32) (-9 : Int32) (va_cpy (va_cpy a_p1_purses a_purses (Int32.toNatClampNeg (0 : Int32)) (Int32.toNatClampNeg (0 : Int32)) (Int32.toNatClampNeg (8 : Int32))) a_rows (Int32.toNatClampNeg (0 : Int32)) (Int32.toNatClampNeg (0 : Int32)) (Int32.toNatClampNeg (8 : Int32))) (va_cpy a_p1_purses a_purses (Int32.toNatClampNeg (0 : Int32)) (Int32.toNatClampNeg (0 : Int32)) (Int32.toNatClampNeg (8 : Int32))) v_p1_filled v_p1_people v_p1_lawNumber v_p1_made v_p1_seen a_p1_purses v_p2_size a_p2_firsts a_p2_seconds) := hD
  refine lv_iconst (v := 1) hx hb dX0_find_42 (by decide) ?_
  refine lv_istore_n (lv' := [(3, .int (1 : Int32)), (0, .ref o), (1, .ref o_p1), (2, .ref o_p2)]) hx hb dX0_find_43 rfl hl (by decide) rfl (fun ls hl => ?_)
  refine h (fun x3_44 v_ringDays_44 v_leadDays_44 a_rows_44 a_purses_44 => ∀ (H : Heap) (locs : List Loc) (ls : Array Slot), lv_has ls 4 [(0, .ref o), (1, .ref o_p1), (2, .ref o_p2), (3, .int x3_44)] → va_P D vwCl (cw_X0_find cI cZ o o_rows o_purses o_p1 o_p1_purses o_p1_firsts o_p1_seconds o_p1_firstsHad o_p1_secondsHad o_p1_seenSums o_p1_seenShared o_p2 o_p2_firsts o_p2_seconds v_ringDays_44 v_leadDays_44 a_rows_44 a_purses_44 v_p1_filled v_p1_people v_p1_lawNumber v_p1_made v_p1_seen a_p1_purses v_p2_size a_p2_firsts a_p2_seconds) H → va_D A (cw_X0_find cI cZ o o_rows o_purses o_p1 o_p1_purses o_p1_firsts o_p1_seconds o_p1_firstsHad o_p1_secondsHad o_p1_seenSums o_p1_seenShared o_p2 o_p2_firsts o_p2_seconds v_ringDays_44 v_leadDays_44 a_rows_44 a_purses_44 v_p1_filled v_p1_people v_p1_lawNumber v_p1_made v_p1_seen a_p1_purses v_p2_size a_p2_firsts a_p2_seconds) → va_S A s.heap H locs → W p l e rm_X0_find s m args below meth c H locs 0 0 Q (F0 m 44 ls [])) ?_ H locs ls (lv_sub hl [1, 2, 3, 0] rfl) hP hD hS
  intro x3_44 v_ringDays_44 v_leadDays_44 a_rows_44 a_purses_44 h H locs ls hl hP hD hS
  refine lv_iload_n hx hb dX0_find_44 rfl (lv_at hl 3 rfl) ?_
  refine lv_sipush (v := 300) hx hb dX0_find_45 (by decide) ?_
  refine lv_icmp_gt (tgt := 106) hx hb dX0_find_48 (by decide) (fun c48 => ?_) (fun c48 => ?_)
  · have h := h.1 c48
    exact ret_v4 hx hb hr hlocks hQ hS v_ringDays_44 v_leadDays_44 a_rows_44 a_purses_44 hP h dX0_find_106
  · have h := h.2 c48
    refine lv_aload_n hx hb dX0_find_51 rfl (lv_at hl 0 rfl) ?_
    refine va_get (D := D) (ci := 0) (v := .int v_leadDays_44) (C := RX0) (T := TX0) (N := 4) hx hb hts inw_X0_find_X0 hown hK.1 hP 0 rfl rfl 3 (by decide) (hts (.fieldLink RX0 22 "PursesShare$DaySearch" "leadDays" "I") (by decide +kernel)) (fun _ h9 => h9) rfl dX0_find_52 ?_
    refine lv_bipush (v := -9) hx hb dX0_find_55 (by decide) ?_
    refine lv_icmp_ne (tgt := 106) hx hb dX0_find_57 (by decide) (fun c57 => ?_) (fun c57 => ?_)
    · have h := h.1 c57
      exact ret_v4 hx hb hr hlocks hQ hS v_ringDays_44 v_leadDays_44 a_rows_44 a_purses_44 hP h dX0_find_106
    · have h := h.2 c57
      refine lv_aload_n hx hb dX0_find_60 rfl (lv_at hl 2 rfl) ?_
      refine lv_aload_n hx hb dX0_find_61 rfl (lv_at hl 0 rfl) ?_
      refine va_get (D := D) (ci := 0) (v := .ref o_purses) (C := RX0) (T := TX0) (N := 4) hx hb hts inw_X0_find_X0 hown hK.1 hP 0 rfl rfl 1 (by decide) (hts (.fieldLink RX0 15 "PursesShare$DaySearch" "purses" "[I") (by decide +kernel)) (fun _ h9 => h9) rfl dX0_find_62 ?_
      refine lv_aload_n hx hb dX0_find_65 rfl (lv_at hl 1 rfl) ?_
      refine va_getN (D := D) (ci := 1) (v := .int v_p1_lawNumber) (C := RX1) (T := TX1) (N := 12) hx hb hts inw_X0_find_X1 hown hK.1 hP 3 rfl rfl 2 (by decide) (nF_17 hK) (fun _ h9 => h9) rfl dX0_find_66 ?_
      refine call_i1 (va_runVN (As := [.ref o_purses, .int v_p1_lawNumber]) (rest := []) ⟨hx, hb, hml, hown, hts⟩ (c_X2_makeAll l D cI cZ o_p2 o_p2_firsts o_p2_seconds o_purses (Array.size H) v_p1_lawNumber v_p2_size a_p2_firsts a_p2_seconds a_purses_44 _ h) ⟨va_cnB (own := RX0) 2 hts gX0_find_X2_makeAll_n37 rfl rfl rfl (nM_25 hK) (hts (.initialized RX2) (by decide +kernel)) (by decide +kernel) ⟨Nat.le_of_ble_eq_true rfl, Nat.le_of_ble_eq_true rfl⟩, hts (.instanceMethod yX2_makeAll) (by decide +kernel), hts (.selects RX2 yX2_makeAll yX2_makeAll) (by decide +kernel)⟩ (preV_of hP hD hK [5, 6, 7, 2] rfl rfl 5 2 rfl rfl rfl) rfl rfl hl.1 rfl (lv_room (Nat.le_of_ble_eq_true rfl)) dX0_find_69 ⟨Nat.zero_le _, Nat.zero_le _⟩) hP hD hS hA [5, 6, 7, 2] rfl (fun a_purses_69 => (cw_X0_find cI cZ o o_rows o_purses o_p1 o_p1_purses o_p1_firsts o_p1_seconds o_p1_firstsHad o_p1_secondsHad o_p1_seenSums o_p1_seenShared o_p2 o_p2_firsts o_p2_seconds v_ringDays_44 v_leadDays_44 a_rows_44 a_purses_69 v_p1_filled v_p1_people v_p1_lawNumber v_p1_made v_p1_seen a_p1_purses v_p2_size a_p2_firsts a_p2_seconds)) (fun _ => rfl) (fun _ => rfl) (fun r69 a_purses_69 H locs h hP hD hS => ?_)
      refine lv_pop hx hb dX0_find_72 rfl ?_
      refine lv_aload_n hx hb dX0_find_73 rfl (lv_at hl 0 rfl) ?_
      refine lv_iload_n hx hb dX0_find_74 rfl (lv_at hl 3 rfl) ?_
      refine lv_aload_n hx hb dX0_find_75 rfl (lv_at hl 1 rfl) ?_
      refine va_getN (D := D) (ci := 1) (v := .int v_p1_people) (C := RX1) (T := TX1) (N := 12) hx hb hts inw_X0_find_X1 hown hK.1 hP 3 rfl rfl 1 (by decide) (nF_15 hK) (fun _ h9 => h9) rfl dX0_find_76 ?_
      refine call_v2 (va_runV (As := [.int x3_44, .int v_p1_people]) (rest := []) ⟨hx, hb, hml, hown, hts⟩ (c_X0_noteIfHadBefore l D cI cZ o o_rows o_purses (Array.size H) x3_44 v_p1_people v_ringDays_44 v_leadDays_44 a_rows_44 a_purses_69 _ h) (cwV 2 hts gX0_find_X0_noteIfHadBefore rfl rfl rfl (by decide +kernel) ⟨Nat.le_of_ble_eq_true rfl, Nat.le_of_ble_eq_true rfl⟩) (preV_of hP hD hK [0, 1, 2] rfl rfl 0 0 rfl rfl rfl) rfl rfl hl.1 rfl (lv_room (Nat.le_of_ble_eq_true rfl)) dX0_find_79 ⟨Nat.zero_le _, Nat.zero_le _⟩) hP hD hS hA [0, 1, 2] rfl (fun v_ringDays_79 v_leadDays_79 => (cw_X0_find cI cZ o o_rows o_purses o_p1 o_p1_purses o_p1_firsts o_p1_seconds o_p1_firstsHad o_p1_secondsHad o_p1_seenSums o_p1_seenShared o_p2 o_p2_firsts o_p2_seconds v_ringDays_79 v_leadDays_79 a_rows_44 a_purses_69 v_p1_filled v_p1_people v_p1_lawNumber v_p1_made v_p1_seen a_p1_purses v_p2_size a_p2_firsts a_p2_seconds)) (fun _ _ => rfl) (fun _ _ => rfl) (fun v_ringDays_79 v_leadDays_79 H locs h hP hD hS => ?_)
      refine lv_aload_n hx hb dX0_find_82 rfl (lv_at hl 0 rfl) ?_
      refine va_get (D := D) (ci := 0) (v := .ref o_purses) (C := RX0) (T := TX0) (N := 4) hx hb hts inw_X0_find_X0 hown hK.1 hP 0 rfl rfl 1 (by decide) (hts (.fieldLink RX0 15 "PursesShare$DaySearch" "purses" "[I") (by decide +kernel)) (fun _ h9 => h9) rfl dX0_find_83 ?_
      refine lv_iconst (v := 0) hx hb dX0_find_86 (by decide) ?_
      refine lv_aload_n hx hb dX0_find_87 rfl (lv_at hl 0 rfl) ?_
      refine va_get (D := D) (ci := 0) (v := .ref o_rows) (C := RX0) (T := TX0) (N := 4) hx hb hts inw_X0_find_X0 hown hK.1 hP 0 rfl rfl 0 (by decide) (hts (.fieldLink RX0 9 "PursesShare$DaySearch" "rows" "[I") (by decide +kernel)) (fun _ h9 => h9) rfl dX0_find_88 ?_
      refine lv_iload_n hx hb dX0_find_91 rfl (lv_at hl 3 rfl) ?_
      refine lv_bipush (v := 8) hx hb dX0_find_92 (by decide) ?_
      refine lv_imul hx hb dX0_find_94 ?_
      refine lv_bipush (v := 8) hx hb dX0_find_95 (by decide) ?_
      have h97_1 := h.1
      have h := h.2
      have h97_2 := h.1
      have h := h.2
      refine va_copyi hx hb (hml.trans hl.1.symm) hown (hts (.methodLink RX0 28 arraycopyName) (by decide +kernel)) (hts (.native arraycopyName) (by decide +kernel)) (hts (.static arraycopyName) (by decide +kernel)) (hts (.initialized "java/lang/System") (by decide +kernel)) hK.1 hP hD hS 2 1 0 0 (ty := .int) rfl rfl rfl rfl rfl (by decide) h97_1 (by decide) (by decide) h97_2 (fun _ _ => rfl) (Nat.le_of_ble_eq_true rfl) (Nat.le_of_ble_eq_true rfl) dX0_find_97 (fun H locs hP hD hS => ?_)
      have hP : va_P D vwCl (cw_X0_find cI cZ o o_rows o_purses o_p1 o_p1_purses o_p1_firsts o_p1_seconds o_p1_firstsHad o_p1_secondsHad o_p1_seenSums o_p1_seenShared o_p2 o_p2_firsts o_p2_seconds v_ringDays_79 v_leadDays_79 (va_cpy a_purses_69 a_rows_44 (Int32.toNatClampNeg (0 : Int32)) (Int32.toNatClampNeg (x3_44 * (8 : Int32))) (Int32.toNatClampNeg (8 : Int32))) a_purses_69 v_p1_filled v_p1_people v_p1_lawNumber v_p1_made v_p1_seen a_p1_purses v_p2_size a_p2_firsts a_p2_seconds) H := hP
      have hD : va_D A (cw_X0_find cI cZ o o_rows o_purses o_p1 o_p1_purses o_p1_firsts o_p1_seconds o_p1_firstsHad o_p1_secondsHad o_p1_seenSums o_p1_seenShared o_p2 o_p2_firsts o_p2_seconds v_ringDays_79 v_leadDays_79 (va_cpy a_purses_69 a_rows_44 (Int32.toNatClampNeg (0 : Int32)) (Int32.toNatClampNeg (x3_44 * (8 : Int32))) (Int32.toNatClampNeg (8 : Int32))) a_purses_69 v_p1_filled v_p1_people v_p1_lawNumber v_p1_made v_p1_seen a_p1_purses v_p2_size a_p2_firsts a_p2_seconds) := hD
      refine lv_iinc (v := (x3_44 + 1)) (lv' := [(3, .int (x3_44 + 1)), (0, .ref o), (1, .ref o_p1), (2, .ref o_p2)]) hx hb dX0_find_100 hl (k := 3) rfl rfl (by decide) rfl (fun ls hl => ?_)
      refine lv_goto (tgt := 44) hx hb dX0_find_103 (by decide) ?_
      exact h H locs ls (lv_sub hl [1, 2, 3, 0] rfl) hP hD hS
abbrev rm_X1_isPerson : Room := { frames := 0, cells := 0, slots := 0, locals := 0 }
abbrev cw_X1_isPerson (cI cZ : ClassId) (o o_purses o_firsts o_seconds o_firstsHad o_secondsHad o_seenSums o_seenShared : Nat) (v_filled : Int32) (v_people : Int32) (v_lawNumber : Int32) (v_made : Int32) (v_seen : Int32) : va_W := [(o, .inr (1, [.int v_filled, .int v_people, .int v_lawNumber, .ref o_purses, .int v_made, .ref o_firsts, .ref o_seconds, .ref o_firstsHad, .ref o_secondsHad, .int v_seen, .ref o_seenSums, .ref o_seenShared]))]
theorem inw_X1_isPerson_X1 : ∀ w ∈ u_ws RX1 TX1 12, w ∈ wsX1_isPerson := by decide +kernel
def wp_X1_isPerson (n1 : Int32) (v_people : Int32) (Post : Int32 → Prop) : Prop := ((n1 < 0 → (Post (0 : Int32))) ∧ (¬ n1 < 0 → ((v_people ≤ n1 → (Post (0 : Int32))) ∧ (¬ v_people ≤ n1 → (Post (1 : Int32))))))
set_option maxHeartbeats 4000000 in
set_option maxRecDepth 100000 in
theorem c_X1_isPerson (l : Launch) (D : va_G) (cI cZ : ClassId) (o o_purses o_firsts o_seconds o_firstsHad o_secondsHad o_seenSums o_seenShared : Nat) (sz : Nat) (n1 : Int32) (v_filled : Int32) (v_people : Int32) (v_lawNumber : Int32) (v_made : Int32) (v_seen : Int32) (Post : Int32 → Prop) (h : wp_X1_isPerson n1 v_people Post) : Met l yX1_isPerson wsX1_isPerson rm_X1_isPerson (cPc D cI cZ [.ref o, .int n1] (cw_X1_isPerson cI cZ o o_purses o_firsts o_seconds o_firstsHad o_secondsHad o_seenSums o_seenShared v_filled v_people v_lawNumber v_made v_seen) sz) (cQi0 D Post ((cw_X1_isPerson cI cZ o o_purses o_firsts o_seconds o_firstsHad o_secondsHad o_seenSums o_seenShared v_filled v_people v_lawNumber v_made v_seen)) (va_A (cw_X1_isPerson cI cZ o o_purses o_firsts o_seconds o_firstsHad o_secondsHad o_seenSums o_seenShared v_filled v_people v_lawNumber v_made v_seen) sz)) 0 0 (va_A (cw_X1_isPerson cI cZ o o_purses o_firsts o_seconds o_firstsHad o_secondsHad o_seenSums o_seenShared v_filled v_people v_lawNumber v_made v_seen) sz) := by
  refine ent (cc := cX1_isPerson) (maxL := 2) (ret := (some .boolean)) (Qc := fun A => cQi0 D Post ((cw_X1_isPerson cI cZ o o_purses o_firsts o_seconds o_firstsHad o_secondsHad o_seenSums o_seenShared v_filled v_people v_lawNumber v_made v_seen)) A) (by decide) rfl (Nat.le_of_ble_eq_true rfl) ?_
  intro p e s m args below meth c A ls Q hQ hsz hx hb hml hr hts hown hlocks hnm hK hP hD hA hS hl
  have hl : lv_has ls 2 [(0, .ref o), (1, .int n1)] := hl
  unfold wp_X1_isPerson at h
  refine lv_iload_n hx hb dX1_isPerson_0 rfl (lv_at hl 1 rfl) ?_
  refine lv_if_lt (tgt := 16) hx hb dX1_isPerson_1 (by decide) (fun c1 => ?_) (fun c1 => ?_)
  · have h := h.1 c1
    refine lv_iconst (v := 0) hx hb dX1_isPerson_16 (by decide) ?_
    exact ret_z0 hx hb hr hlocks hQ hS (by decide)  hP h dX1_isPerson_17
  · have h := h.2 c1
    refine lv_iload_n hx hb dX1_isPerson_4 rfl (lv_at hl 1 rfl) ?_
    refine lv_aload_n hx hb dX1_isPerson_5 rfl (lv_at hl 0 rfl) ?_
    refine va_get (D := D) (ci := 1) (v := .int v_people) (C := RX1) (T := TX1) (N := 12) hx hb hts inw_X1_isPerson_X1 hown hK.1 hP 0 rfl rfl 1 (by decide) (hts (.fieldLink RX1 33 "PursesShare$Holding" "people" "I") (by decide +kernel)) (fun _ h9 => h9) rfl dX1_isPerson_6 ?_
    refine lv_icmp_ge (tgt := 16) hx hb dX1_isPerson_9 (by decide) (fun c9 => ?_) (fun c9 => ?_)
    · have h := h.1 c9
      refine lv_iconst (v := 0) hx hb dX1_isPerson_16 (by decide) ?_
      exact ret_z0 hx hb hr hlocks hQ hS (by decide)  hP h dX1_isPerson_17
    · have h := h.2 c9
      refine lv_iconst (v := 1) hx hb dX1_isPerson_12 (by decide) ?_
      refine lv_goto (tgt := 17) hx hb dX1_isPerson_13 (by decide) ?_
      exact ret_z0 hx hb hr hlocks hQ hS (by decide)  hP h dX1_isPerson_17
abbrev rm_X1_beginTown : Room := { frames := 1, cells := 0, slots := 0, locals := 60 }
abbrev cw_X1_beginTown (cI cZ : ClassId) (o o_purses o_firsts o_seconds o_firstsHad o_secondsHad o_seenSums o_seenShared o_p1 o_p1_bytes o_p1_purses o_p1_meetings : Nat) (v_filled : Int32) (v_people : Int32) (v_lawNumber : Int32) (v_made : Int32) (v_seen : Int32) (a_purses : Nat → Int32) (v_p1_length : Int32) (v_p1_place : Int32) (v_p1_lawNumber : Int32) (v_p1_people : Int32) (a_p1_purses : Nat → Int32) : va_W := [(o, .inr (1, [.int v_filled, .int v_people, .int v_lawNumber, .ref o_purses, .int v_made, .ref o_firsts, .ref o_seconds, .ref o_firstsHad, .ref o_secondsHad, .int v_seen, .ref o_seenSums, .ref o_seenShared])), (o_purses, .inl (cI, 8, .inl a_purses)), (o_p1, .inr (6, [.ref o_p1_bytes, .int v_p1_length, .int v_p1_place, .int v_p1_lawNumber, .int v_p1_people, .ref o_p1_purses, .ref o_p1_meetings])), (o_p1_purses, .inl (cI, 8, .inl a_p1_purses))]
theorem inw_X1_beginTown_X1 : ∀ w ∈ u_ws RX1 TX1 12, w ∈ wsX1_beginTown := by decide +kernel
theorem inw_X1_beginTown_X6 : ∀ w ∈ u_ws RX6 TX6 7, w ∈ wsX1_beginTown := by decide +kernel
def wp_X1_beginTown (v_people : Int32) (v_lawNumber : Int32) (v_made : Int32) (v_seen : Int32) (a_purses : Nat → Int32) (v_p1_lawNumber : Int32) (v_p1_people : Int32) (a_p1_purses : Nat → Int32) (Post : (Int32) → (Int32) → (Int32) → (Int32) → (Nat → Int32) → Prop) : Prop := (Post v_p1_people v_p1_lawNumber (0 : Int32) (0 : Int32) (va_cpy a_p1_purses a_purses (Int32.toNatClampNeg (0 : Int32)) (Int32.toNatClampNeg (0 : Int32)) (Int32.toNatClampNeg (8 : Int32))))
set_option maxHeartbeats 4000000 in
set_option maxRecDepth 100000 in
theorem c_X1_beginTown (l : Launch) (D : va_G) (cI cZ : ClassId) (o o_purses o_firsts o_seconds o_firstsHad o_secondsHad o_seenSums o_seenShared o_p1 o_p1_bytes o_p1_purses o_p1_meetings : Nat) (sz : Nat) (v_filled : Int32) (v_people : Int32) (v_lawNumber : Int32) (v_made : Int32) (v_seen : Int32) (a_purses : Nat → Int32) (v_p1_length : Int32) (v_p1_place : Int32) (v_p1_lawNumber : Int32) (v_p1_people : Int32) (a_p1_purses : Nat → Int32) (Post : (Int32) → (Int32) → (Int32) → (Int32) → (Nat → Int32) → Prop) (h : wp_X1_beginTown v_people v_lawNumber v_made v_seen a_purses v_p1_lawNumber v_p1_people a_p1_purses Post) : Met l yX1_beginTown wsX1_beginTown rm_X1_beginTown (cPc D cI cZ [.ref o, .ref o_p1] (cw_X1_beginTown cI cZ o o_purses o_firsts o_seconds o_firstsHad o_secondsHad o_seenSums o_seenShared o_p1 o_p1_bytes o_p1_purses o_p1_meetings v_filled v_people v_lawNumber v_made v_seen a_purses v_p1_length v_p1_place v_p1_lawNumber v_p1_people a_p1_purses) sz) (cQv5 D Post (fun m_v_people m_v_lawNumber m_v_made m_v_seen m_a_purses => (cw_X1_beginTown cI cZ o o_purses o_firsts o_seconds o_firstsHad o_secondsHad o_seenSums o_seenShared o_p1 o_p1_bytes o_p1_purses o_p1_meetings v_filled m_v_people m_v_lawNumber m_v_made m_v_seen m_a_purses v_p1_length v_p1_place v_p1_lawNumber v_p1_people a_p1_purses)) (va_A (cw_X1_beginTown cI cZ o o_purses o_firsts o_seconds o_firstsHad o_secondsHad o_seenSums o_seenShared o_p1 o_p1_bytes o_p1_purses o_p1_meetings v_filled v_people v_lawNumber v_made v_seen a_purses v_p1_length v_p1_place v_p1_lawNumber v_p1_people a_p1_purses) sz)) 0 0 (va_A (cw_X1_beginTown cI cZ o o_purses o_firsts o_seconds o_firstsHad o_secondsHad o_seenSums o_seenShared o_p1 o_p1_bytes o_p1_purses o_p1_meetings v_filled v_people v_lawNumber v_made v_seen a_purses v_p1_length v_p1_place v_p1_lawNumber v_p1_people a_p1_purses) sz) := by
  refine ent (cc := cX1_beginTown) (maxL := 2) (ret := none) (Qc := fun A => cQv5 D Post (fun m_v_people m_v_lawNumber m_v_made m_v_seen m_a_purses => (cw_X1_beginTown cI cZ o o_purses o_firsts o_seconds o_firstsHad o_secondsHad o_seenSums o_seenShared o_p1 o_p1_bytes o_p1_purses o_p1_meetings v_filled m_v_people m_v_lawNumber m_v_made m_v_seen m_a_purses v_p1_length v_p1_place v_p1_lawNumber v_p1_people a_p1_purses)) A) (by decide) rfl (Nat.le_of_ble_eq_true rfl) ?_
  intro p e s m args below meth c A ls Q hQ hsz hx hb hml hr hts hown hlocks hnm hK hP hD hA hS hl
  have hl : lv_has ls 2 [(0, .ref o), (1, .ref o_p1)] := hl
  unfold wp_X1_beginTown at h
  refine lv_aload_n hx hb dX1_beginTown_0 rfl (lv_at hl 0 rfl) ?_
  refine lv_aload_n hx hb dX1_beginTown_1 rfl (lv_at hl 1 rfl) ?_
  refine va_getN (D := D) (ci := 6) (v := .int v_p1_people) (C := RX6) (T := TX6) (N := 7) hx hb hts inw_X1_beginTown_X6 hown hK.1 hP 2 rfl rfl 4 (by decide) (nF_9 hK) (fun _ h9 => h9) rfl dX1_beginTown_2 ?_
  refine va_put (D := D) (ci := 1) (v := .int v_p1_people) (ty := .int) (C := RX1) (T := TX1) (N := 12) hx hb hts inw_X1_beginTown_X1 tyX1 tyX1_ok nmX1 hown hK.1 hP hD hS 0 rfl rfl 1 (by decide) (hts (.fieldLink RX1 33 "PursesShare$Holding" "people" "I") (by decide +kernel)) (fun _ h9 => h9) rfl (by decide +kernel) rfl rfl (Nat.le_of_ble_eq_true rfl) dX1_beginTown_5 (fun H locs hP hD hS => ?_)
  have hP : va_P D vwCl (cw_X1_beginTown cI cZ o o_purses o_firsts o_seconds o_firstsHad o_secondsHad o_seenSums o_seenShared o_p1 o_p1_bytes o_p1_purses o_p1_meetings v_filled v_p1_people v_lawNumber v_made v_seen a_purses v_p1_length v_p1_place v_p1_lawNumber v_p1_people a_p1_purses) H := hP
  have hD : va_D A (cw_X1_beginTown cI cZ o o_purses o_firsts o_seconds o_firstsHad o_secondsHad o_seenSums o_seenShared o_p1 o_p1_bytes o_p1_purses o_p1_meetings v_filled v_p1_people v_lawNumber v_made v_seen a_purses v_p1_length v_p1_place v_p1_lawNumber v_p1_people a_p1_purses) := hD
  refine lv_aload_n hx hb dX1_beginTown_8 rfl (lv_at hl 0 rfl) ?_
  refine lv_aload_n hx hb dX1_beginTown_9 rfl (lv_at hl 1 rfl) ?_
  refine va_getN (D := D) (ci := 6) (v := .int v_p1_lawNumber) (C := RX6) (T := TX6) (N := 7) hx hb hts inw_X1_beginTown_X6 hown hK.1 hP 2 rfl rfl 3 (by decide) (nF_8 hK) (fun _ h9 => h9) rfl dX1_beginTown_10 ?_
  refine va_put (D := D) (ci := 1) (v := .int v_p1_lawNumber) (ty := .int) (C := RX1) (T := TX1) (N := 12) hx hb hts inw_X1_beginTown_X1 tyX1 tyX1_ok nmX1 hown hK.1 hP hD hS 0 rfl rfl 2 (by decide) (hts (.fieldLink RX1 43 "PursesShare$Holding" "lawNumber" "I") (by decide +kernel)) (fun _ h9 => h9) rfl (by decide +kernel) rfl rfl (Nat.le_of_ble_eq_true rfl) dX1_beginTown_13 (fun H locs hP hD hS => ?_)
  have hP : va_P D vwCl (cw_X1_beginTown cI cZ o o_purses o_firsts o_seconds o_firstsHad o_secondsHad o_seenSums o_seenShared o_p1 o_p1_bytes o_p1_purses o_p1_meetings v_filled v_p1_people v_p1_lawNumber v_made v_seen a_purses v_p1_length v_p1_place v_p1_lawNumber v_p1_people a_p1_purses) H := hP
  have hD : va_D A (cw_X1_beginTown cI cZ o o_purses o_firsts o_seconds o_firstsHad o_secondsHad o_seenSums o_seenShared o_p1 o_p1_bytes o_p1_purses o_p1_meetings v_filled v_p1_people v_p1_lawNumber v_made v_seen a_purses v_p1_length v_p1_place v_p1_lawNumber v_p1_people a_p1_purses) := hD
  refine lv_aload_n hx hb dX1_beginTown_16 rfl (lv_at hl 1 rfl) ?_
  refine va_getN (D := D) (ci := 6) (v := .ref o_p1_purses) (C := RX6) (T := TX6) (N := 7) hx hb hts inw_X1_beginTown_X6 hown hK.1 hP 2 rfl rfl 5 (by decide) (nF_10 hK) (fun _ h9 => h9) rfl dX1_beginTown_17 ?_
  refine lv_iconst (v := 0) hx hb dX1_beginTown_20 (by decide) ?_
  refine lv_aload_n hx hb dX1_beginTown_21 rfl (lv_at hl 0 rfl) ?_
  refine va_get (D := D) (ci := 1) (v := .ref o_purses) (C := RX1) (T := TX1) (N := 12) hx hb hts inw_X1_beginTown_X1 hown hK.1 hP 0 rfl rfl 3 (by decide) (hts (.fieldLink RX1 9 "PursesShare$Holding" "purses" "[I") (by decide +kernel)) (fun _ h9 => h9) rfl dX1_beginTown_22 ?_
  refine lv_iconst (v := 0) hx hb dX1_beginTown_25 (by decide) ?_
  refine lv_bipush (v := 8) hx hb dX1_beginTown_26 (by decide) ?_
  refine va_copyi hx hb (hml.trans hl.1.symm) hown (hts (.methodLink RX1 45 arraycopyName) (by decide +kernel)) (hts (.native arraycopyName) (by decide +kernel)) (hts (.static arraycopyName) (by decide +kernel)) (hts (.initialized "java/lang/System") (by decide +kernel)) hK.1 hP hD hS 3 1 0 0 (ty := .int) rfl rfl rfl rfl rfl (by decide) (by decide) (by decide) (by decide) (by decide) (fun _ _ => rfl) (Nat.le_of_ble_eq_true rfl) (Nat.le_of_ble_eq_true rfl) dX1_beginTown_28 (fun H locs hP hD hS => ?_)
  have hP : va_P D vwCl (cw_X1_beginTown cI cZ o o_purses o_firsts o_seconds o_firstsHad o_secondsHad o_seenSums o_seenShared o_p1 o_p1_bytes o_p1_purses o_p1_meetings v_filled v_p1_people v_p1_lawNumber v_made v_seen (va_cpy a_p1_purses a_purses (Int32.toNatClampNeg (0 : Int32)) (Int32.toNatClampNeg (0 : Int32)) (Int32.toNatClampNeg (8 : Int32))) v_p1_length v_p1_place v_p1_lawNumber v_p1_people a_p1_purses) H := hP
  have hD : va_D A (cw_X1_beginTown cI cZ o o_purses o_firsts o_seconds o_firstsHad o_secondsHad o_seenSums o_seenShared o_p1 o_p1_bytes o_p1_purses o_p1_meetings v_filled v_p1_people v_p1_lawNumber v_made v_seen (va_cpy a_p1_purses a_purses (Int32.toNatClampNeg (0 : Int32)) (Int32.toNatClampNeg (0 : Int32)) (Int32.toNatClampNeg (8 : Int32))) v_p1_length v_p1_place v_p1_lawNumber v_p1_people a_p1_purses) := hD
  refine lv_aload_n hx hb dX1_beginTown_31 rfl (lv_at hl 0 rfl) ?_
  refine lv_iconst (v := 0) hx hb dX1_beginTown_32 (by decide) ?_
  refine va_put (D := D) (ci := 1) (v := .int (0 : Int32)) (ty := .int) (C := RX1) (T := TX1) (N := 12) hx hb hts inw_X1_beginTown_X1 tyX1 tyX1_ok nmX1 hown hK.1 hP hD hS 0 rfl rfl 4 (by decide) (hts (.fieldLink RX1 51 "PursesShare$Holding" "made" "I") (by decide +kernel)) (fun _ h9 => h9) rfl (by decide +kernel) rfl rfl (Nat.le_of_ble_eq_true rfl) dX1_beginTown_33 (fun H locs hP hD hS => ?_)
  have hP : va_P D vwCl (cw_X1_beginTown cI cZ o o_purses o_firsts o_seconds o_firstsHad o_secondsHad o_seenSums o_seenShared o_p1 o_p1_bytes o_p1_purses o_p1_meetings v_filled v_p1_people v_p1_lawNumber (0 : Int32) v_seen (va_cpy a_p1_purses a_purses (Int32.toNatClampNeg (0 : Int32)) (Int32.toNatClampNeg (0 : Int32)) (Int32.toNatClampNeg (8 : Int32))) v_p1_length v_p1_place v_p1_lawNumber v_p1_people a_p1_purses) H := hP
  have hD : va_D A (cw_X1_beginTown cI cZ o o_purses o_firsts o_seconds o_firstsHad o_secondsHad o_seenSums o_seenShared o_p1 o_p1_bytes o_p1_purses o_p1_meetings v_filled v_p1_people v_p1_lawNumber (0 : Int32) v_seen (va_cpy a_p1_purses a_purses (Int32.toNatClampNeg (0 : Int32)) (Int32.toNatClampNeg (0 : Int32)) (Int32.toNatClampNeg (8 : Int32))) v_p1_length v_p1_place v_p1_lawNumber v_p1_people a_p1_purses) := hD
  refine lv_aload_n hx hb dX1_beginTown_36 rfl (lv_at hl 0 rfl) ?_
  refine lv_iconst (v := 0) hx hb dX1_beginTown_37 (by decide) ?_
  refine va_put (D := D) (ci := 1) (v := .int (0 : Int32)) (ty := .int) (C := RX1) (T := TX1) (N := 12) hx hb hts inw_X1_beginTown_X1 tyX1 tyX1_ok nmX1 hown hK.1 hP hD hS 0 rfl rfl 9 (by decide) (hts (.fieldLink RX1 54 "PursesShare$Holding" "seen" "I") (by decide +kernel)) (fun _ h9 => h9) rfl (by decide +kernel) rfl rfl (Nat.le_of_ble_eq_true rfl) dX1_beginTown_38 (fun H locs hP hD hS => ?_)
  have hP : va_P D vwCl (cw_X1_beginTown cI cZ o o_purses o_firsts o_seconds o_firstsHad o_secondsHad o_seenSums o_seenShared o_p1 o_p1_bytes o_p1_purses o_p1_meetings v_filled v_p1_people v_p1_lawNumber (0 : Int32) (0 : Int32) (va_cpy a_p1_purses a_purses (Int32.toNatClampNeg (0 : Int32)) (Int32.toNatClampNeg (0 : Int32)) (Int32.toNatClampNeg (8 : Int32))) v_p1_length v_p1_place v_p1_lawNumber v_p1_people a_p1_purses) H := hP
  have hD : va_D A (cw_X1_beginTown cI cZ o o_purses o_firsts o_seconds o_firstsHad o_secondsHad o_seenSums o_seenShared o_p1 o_p1_bytes o_p1_purses o_p1_meetings v_filled v_p1_people v_p1_lawNumber (0 : Int32) (0 : Int32) (va_cpy a_p1_purses a_purses (Int32.toNatClampNeg (0 : Int32)) (Int32.toNatClampNeg (0 : Int32)) (Int32.toNatClampNeg (8 : Int32))) v_p1_length v_p1_place v_p1_lawNumber v_p1_people a_p1_purses) := hD
  exact ret_v5 hx hb hr hlocks hQ hS v_p1_people v_p1_lawNumber (0 : Int32) (0 : Int32) (va_cpy a_p1_purses a_purses (Int32.toNatClampNeg (0 : Int32)) (Int32.toNatClampNeg (0 : Int32)) (Int32.toNatClampNeg (8 : Int32))) hP h dX1_beginTown_41
abbrev rm_X1_become : Room := { frames := 1, cells := 0, slots := 0, locals := 60 }
abbrev cw_X1_become (cI cZ : ClassId) (o o_purses o_firsts o_seconds o_firstsHad o_secondsHad o_seenSums o_seenShared o_p1 o_p1_purses o_p1_firsts o_p1_seconds o_p1_firstsHad o_p1_secondsHad o_p1_seenSums o_p1_seenShared : Nat) (v_filled : Int32) (v_people : Int32) (v_lawNumber : Int32) (v_made : Int32) (v_seen : Int32) (a_purses : Nat → Int32) (a_firsts : Nat → Int32) (a_seconds : Nat → Int32) (a_firstsHad : Nat → Int32) (a_secondsHad : Nat → Int32) (a_seenSums : Nat → Int32) (a_seenShared : Nat → Int32) (v_p1_filled : Int32) (v_p1_people : Int32) (v_p1_lawNumber : Int32) (v_p1_made : Int32) (v_p1_seen : Int32) (a_p1_purses : Nat → Int32) (a_p1_firsts : Nat → Int32) (a_p1_seconds : Nat → Int32) (a_p1_firstsHad : Nat → Int32) (a_p1_secondsHad : Nat → Int32) (a_p1_seenSums : Nat → Int32) (a_p1_seenShared : Nat → Int32) : va_W := [(o, .inr (1, [.int v_filled, .int v_people, .int v_lawNumber, .ref o_purses, .int v_made, .ref o_firsts, .ref o_seconds, .ref o_firstsHad, .ref o_secondsHad, .int v_seen, .ref o_seenSums, .ref o_seenShared])), (o_purses, .inl (cI, 8, .inl a_purses)), (o_firsts, .inl (cI, 32, .inl a_firsts)), (o_seconds, .inl (cI, 32, .inl a_seconds)), (o_firstsHad, .inl (cI, 32, .inl a_firstsHad)), (o_secondsHad, .inl (cI, 32, .inl a_secondsHad)), (o_seenSums, .inl (cI, 8, .inl a_seenSums)), (o_seenShared, .inl (cI, 8, .inl a_seenShared)), (o_p1, .inr (1, [.int v_p1_filled, .int v_p1_people, .int v_p1_lawNumber, .ref o_p1_purses, .int v_p1_made, .ref o_p1_firsts, .ref o_p1_seconds, .ref o_p1_firstsHad, .ref o_p1_secondsHad, .int v_p1_seen, .ref o_p1_seenSums, .ref o_p1_seenShared])), (o_p1_purses, .inl (cI, 8, .inl a_p1_purses)), (o_p1_firsts, .inl (cI, 32, .inl a_p1_firsts)), (o_p1_seconds, .inl (cI, 32, .inl a_p1_seconds)), (o_p1_firstsHad, .inl (cI, 32, .inl a_p1_firstsHad)), (o_p1_secondsHad, .inl (cI, 32, .inl a_p1_secondsHad)), (o_p1_seenSums, .inl (cI, 8, .inl a_p1_seenSums)), (o_p1_seenShared, .inl (cI, 8, .inl a_p1_seenShared))]
theorem inw_X1_become_X1 : ∀ w ∈ u_ws RX1 TX1 12, w ∈ wsX1_become := by decide +kernel
def wp_X1_become (v_filled : Int32) (v_people : Int32) (v_lawNumber : Int32) (v_made : Int32) (v_seen : Int32) (a_purses : Nat → Int32) (a_firsts : Nat → Int32) (a_seconds : Nat → Int32) (a_firstsHad : Nat → Int32) (a_secondsHad : Nat → Int32) (a_seenSums : Nat → Int32) (a_seenShared : Nat → Int32) (v_p1_people : Int32) (v_p1_lawNumber : Int32) (v_p1_made : Int32) (v_p1_seen : Int32) (a_p1_purses : Nat → Int32) (a_p1_firsts : Nat → Int32) (a_p1_seconds : Nat → Int32) (a_p1_firstsHad : Nat → Int32) (a_p1_secondsHad : Nat → Int32) (a_p1_seenSums : Nat → Int32) (a_p1_seenShared : Nat → Int32) (Post : (Int32) → (Int32) → (Int32) → (Int32) → (Int32) → (Nat → Int32) → (Nat → Int32) → (Nat → Int32) → (Nat → Int32) → (Nat → Int32) → (Nat → Int32) → (Nat → Int32) → Prop) : Prop := (Post (1 : Int32) v_p1_people v_p1_lawNumber v_p1_made v_p1_seen (va_cpy a_p1_purses a_purses (Int32.toNatClampNeg (0 : Int32)) (Int32.toNatClampNeg (0 : Int32)) (Int32.toNatClampNeg (8 : Int32))) (va_cpy a_p1_firsts a_firsts (Int32.toNatClampNeg (0 : Int32)) (Int32.toNatClampNeg (0 : Int32)) (Int32.toNatClampNeg (32 : Int32))) (va_cpy a_p1_seconds a_seconds (Int32.toNatClampNeg (0 : Int32)) (Int32.toNatClampNeg (0 : Int32)) (Int32.toNatClampNeg (32 : Int32))) (va_cpy a_p1_firstsHad a_firstsHad (Int32.toNatClampNeg (0 : Int32)) (Int32.toNatClampNeg (0 : Int32)) (Int32.toNatClampNeg (32 : Int32))) (va_cpy a_p1_secondsHad a_secondsHad (Int32.toNatClampNeg (0 : Int32)) (Int32.toNatClampNeg (0 : Int32)) (Int32.toNatClampNeg (32 : Int32))) (va_cpy a_p1_seenSums a_seenSums (Int32.toNatClampNeg (0 : Int32)) (Int32.toNatClampNeg (0 : Int32)) (Int32.toNatClampNeg (8 : Int32))) (va_cpy a_p1_seenShared a_seenShared (Int32.toNatClampNeg (0 : Int32)) (Int32.toNatClampNeg (0 : Int32)) (Int32.toNatClampNeg (8 : Int32))))
set_option maxHeartbeats 4000000 in
set_option maxRecDepth 100000 in
theorem c_X1_become (l : Launch) (D : va_G) (cI cZ : ClassId) (o o_purses o_firsts o_seconds o_firstsHad o_secondsHad o_seenSums o_seenShared o_p1 o_p1_purses o_p1_firsts o_p1_seconds o_p1_firstsHad o_p1_secondsHad o_p1_seenSums o_p1_seenShared : Nat) (sz : Nat) (v_filled : Int32) (v_people : Int32) (v_lawNumber : Int32) (v_made : Int32) (v_seen : Int32) (a_purses : Nat → Int32) (a_firsts : Nat → Int32) (a_seconds : Nat → Int32) (a_firstsHad : Nat → Int32) (a_secondsHad : Nat → Int32) (a_seenSums : Nat → Int32) (a_seenShared : Nat → Int32) (v_p1_filled : Int32) (v_p1_people : Int32) (v_p1_lawNumber : Int32) (v_p1_made : Int32) (v_p1_seen : Int32) (a_p1_purses : Nat → Int32) (a_p1_firsts : Nat → Int32) (a_p1_seconds : Nat → Int32) (a_p1_firstsHad : Nat → Int32) (a_p1_secondsHad : Nat → Int32) (a_p1_seenSums : Nat → Int32) (a_p1_seenShared : Nat → Int32) (Post : (Int32) → (Int32) → (Int32) → (Int32) → (Int32) → (Nat → Int32) → (Nat → Int32) → (Nat → Int32) → (Nat → Int32) → (Nat → Int32) → (Nat → Int32) → (Nat → Int32) → Prop) (h : wp_X1_become v_filled v_people v_lawNumber v_made v_seen a_purses a_firsts a_seconds a_firstsHad a_secondsHad a_seenSums a_seenShared v_p1_people v_p1_lawNumber v_p1_made v_p1_seen a_p1_purses a_p1_firsts a_p1_seconds a_p1_firstsHad a_p1_secondsHad a_p1_seenSums a_p1_seenShared Post) : Met l yX1_become wsX1_become rm_X1_become (cPc D cI cZ [.ref o, .ref o_p1] (cw_X1_become cI cZ o o_purses o_firsts o_seconds o_firstsHad o_secondsHad o_seenSums o_seenShared o_p1 o_p1_purses o_p1_firsts o_p1_seconds o_p1_firstsHad o_p1_secondsHad o_p1_seenSums o_p1_seenShared v_filled v_people v_lawNumber v_made v_seen a_purses a_firsts a_seconds a_firstsHad a_secondsHad a_seenSums a_seenShared v_p1_filled v_p1_people v_p1_lawNumber v_p1_made v_p1_seen a_p1_purses a_p1_firsts a_p1_seconds a_p1_firstsHad a_p1_secondsHad a_p1_seenSums a_p1_seenShared) sz) (cQv12 D Post (fun m_v_filled m_v_people m_v_lawNumber m_v_made m_v_seen m_a_purses m_a_firsts m_a_seconds m_a_firstsHad m_a_secondsHad m_a_seenSums m_a_seenShared => (cw_X1_become cI cZ o o_purses o_firsts o_seconds o_firstsHad o_secondsHad o_seenSums o_seenShared o_p1 o_p1_purses o_p1_firsts o_p1_seconds o_p1_firstsHad o_p1_secondsHad o_p1_seenSums o_p1_seenShared m_v_filled m_v_people m_v_lawNumber m_v_made m_v_seen m_a_purses m_a_firsts m_a_seconds m_a_firstsHad m_a_secondsHad m_a_seenSums m_a_seenShared v_p1_filled v_p1_people v_p1_lawNumber v_p1_made v_p1_seen a_p1_purses a_p1_firsts a_p1_seconds a_p1_firstsHad a_p1_secondsHad a_p1_seenSums a_p1_seenShared)) (va_A (cw_X1_become cI cZ o o_purses o_firsts o_seconds o_firstsHad o_secondsHad o_seenSums o_seenShared o_p1 o_p1_purses o_p1_firsts o_p1_seconds o_p1_firstsHad o_p1_secondsHad o_p1_seenSums o_p1_seenShared v_filled v_people v_lawNumber v_made v_seen a_purses a_firsts a_seconds a_firstsHad a_secondsHad a_seenSums a_seenShared v_p1_filled v_p1_people v_p1_lawNumber v_p1_made v_p1_seen a_p1_purses a_p1_firsts a_p1_seconds a_p1_firstsHad a_p1_secondsHad a_p1_seenSums a_p1_seenShared) sz)) 0 0 (va_A (cw_X1_become cI cZ o o_purses o_firsts o_seconds o_firstsHad o_secondsHad o_seenSums o_seenShared o_p1 o_p1_purses o_p1_firsts o_p1_seconds o_p1_firstsHad o_p1_secondsHad o_p1_seenSums o_p1_seenShared v_filled v_people v_lawNumber v_made v_seen a_purses a_firsts a_seconds a_firstsHad a_secondsHad a_seenSums a_seenShared v_p1_filled v_p1_people v_p1_lawNumber v_p1_made v_p1_seen a_p1_purses a_p1_firsts a_p1_seconds a_p1_firstsHad a_p1_secondsHad a_p1_seenSums a_p1_seenShared) sz) := by
  refine ent (cc := cX1_become) (maxL := 2) (ret := none) (Qc := fun A => cQv12 D Post (fun m_v_filled m_v_people m_v_lawNumber m_v_made m_v_seen m_a_purses m_a_firsts m_a_seconds m_a_firstsHad m_a_secondsHad m_a_seenSums m_a_seenShared => (cw_X1_become cI cZ o o_purses o_firsts o_seconds o_firstsHad o_secondsHad o_seenSums o_seenShared o_p1 o_p1_purses o_p1_firsts o_p1_seconds o_p1_firstsHad o_p1_secondsHad o_p1_seenSums o_p1_seenShared m_v_filled m_v_people m_v_lawNumber m_v_made m_v_seen m_a_purses m_a_firsts m_a_seconds m_a_firstsHad m_a_secondsHad m_a_seenSums m_a_seenShared v_p1_filled v_p1_people v_p1_lawNumber v_p1_made v_p1_seen a_p1_purses a_p1_firsts a_p1_seconds a_p1_firstsHad a_p1_secondsHad a_p1_seenSums a_p1_seenShared)) A) (by decide) rfl (Nat.le_of_ble_eq_true rfl) ?_
  intro p e s m args below meth c A ls Q hQ hsz hx hb hml hr hts hown hlocks hnm hK hP hD hA hS hl
  have hl : lv_has ls 2 [(0, .ref o), (1, .ref o_p1)] := hl
  unfold wp_X1_become at h
  refine lv_aload_n hx hb dX1_become_0 rfl (lv_at hl 0 rfl) ?_
  refine lv_iconst (v := 1) hx hb dX1_become_1 (by decide) ?_
  refine va_put (D := D) (ci := 1) (v := .int (1 : Int32)) (ty := .boolean) (C := RX1) (T := TX1) (N := 12) hx hb hts inw_X1_become_X1 tyX1 tyX1_ok nmX1 hown hK.1 hP hD hS 0 rfl rfl 0 (by decide) (hts (.fieldLink RX1 57 "PursesShare$Holding" "filled" "Z") (by decide +kernel)) (fun _ h9 => h9) rfl (by decide +kernel) rfl rfl (Nat.le_of_ble_eq_true rfl) dX1_become_2 (fun H locs hP hD hS => ?_)
  have hP : va_P D vwCl (cw_X1_become cI cZ o o_purses o_firsts o_seconds o_firstsHad o_secondsHad o_seenSums o_seenShared o_p1 o_p1_purses o_p1_firsts o_p1_seconds o_p1_firstsHad o_p1_secondsHad o_p1_seenSums o_p1_seenShared (1 : Int32) v_people v_lawNumber v_made v_seen a_purses a_firsts a_seconds a_firstsHad a_secondsHad a_seenSums a_seenShared v_p1_filled v_p1_people v_p1_lawNumber v_p1_made v_p1_seen a_p1_purses a_p1_firsts a_p1_seconds a_p1_firstsHad a_p1_secondsHad a_p1_seenSums a_p1_seenShared) H := hP
  have hD : va_D A (cw_X1_become cI cZ o o_purses o_firsts o_seconds o_firstsHad o_secondsHad o_seenSums o_seenShared o_p1 o_p1_purses o_p1_firsts o_p1_seconds o_p1_firstsHad o_p1_secondsHad o_p1_seenSums o_p1_seenShared (1 : Int32) v_people v_lawNumber v_made v_seen a_purses a_firsts a_seconds a_firstsHad a_secondsHad a_seenSums a_seenShared v_p1_filled v_p1_people v_p1_lawNumber v_p1_made v_p1_seen a_p1_purses a_p1_firsts a_p1_seconds a_p1_firstsHad a_p1_secondsHad a_p1_seenSums a_p1_seenShared) := hD
  refine lv_aload_n hx hb dX1_become_5 rfl (lv_at hl 0 rfl) ?_
  refine lv_aload_n hx hb dX1_become_6 rfl (lv_at hl 1 rfl) ?_
  refine va_get (D := D) (ci := 1) (v := .int v_p1_people) (C := RX1) (T := TX1) (N := 12) hx hb hts inw_X1_become_X1 hown hK.1 hP 8 rfl rfl 1 (by decide) (hts (.fieldLink RX1 33 "PursesShare$Holding" "people" "I") (by decide +kernel)) (fun _ h9 => h9) rfl dX1_become_7 ?_
  refine va_put (D := D) (ci := 1) (v := .int v_p1_people) (ty := .int) (C := RX1) (T := TX1) (N := 12) hx hb hts inw_X1_become_X1 tyX1 tyX1_ok nmX1 hown hK.1 hP hD hS 0 rfl rfl 1 (by decide) (hts (.fieldLink RX1 33 "PursesShare$Holding" "people" "I") (by decide +kernel)) (fun _ h9 => h9) rfl (by decide +kernel) rfl rfl (Nat.le_of_ble_eq_true rfl) dX1_become_10 (fun H locs hP hD hS => ?_)
  have hP : va_P D vwCl (cw_X1_become cI cZ o o_purses o_firsts o_seconds o_firstsHad o_secondsHad o_seenSums o_seenShared o_p1 o_p1_purses o_p1_firsts o_p1_seconds o_p1_firstsHad o_p1_secondsHad o_p1_seenSums o_p1_seenShared (1 : Int32) v_p1_people v_lawNumber v_made v_seen a_purses a_firsts a_seconds a_firstsHad a_secondsHad a_seenSums a_seenShared v_p1_filled v_p1_people v_p1_lawNumber v_p1_made v_p1_seen a_p1_purses a_p1_firsts a_p1_seconds a_p1_firstsHad a_p1_secondsHad a_p1_seenSums a_p1_seenShared) H := hP
  have hD : va_D A (cw_X1_become cI cZ o o_purses o_firsts o_seconds o_firstsHad o_secondsHad o_seenSums o_seenShared o_p1 o_p1_purses o_p1_firsts o_p1_seconds o_p1_firstsHad o_p1_secondsHad o_p1_seenSums o_p1_seenShared (1 : Int32) v_p1_people v_lawNumber v_made v_seen a_purses a_firsts a_seconds a_firstsHad a_secondsHad a_seenSums a_seenShared v_p1_filled v_p1_people v_p1_lawNumber v_p1_made v_p1_seen a_p1_purses a_p1_firsts a_p1_seconds a_p1_firstsHad a_p1_secondsHad a_p1_seenSums a_p1_seenShared) := hD
  refine lv_aload_n hx hb dX1_become_13 rfl (lv_at hl 0 rfl) ?_
  refine lv_aload_n hx hb dX1_become_14 rfl (lv_at hl 1 rfl) ?_
  refine va_get (D := D) (ci := 1) (v := .int v_p1_lawNumber) (C := RX1) (T := TX1) (N := 12) hx hb hts inw_X1_become_X1 hown hK.1 hP 8 rfl rfl 2 (by decide) (hts (.fieldLink RX1 43 "PursesShare$Holding" "lawNumber" "I") (by decide +kernel)) (fun _ h9 => h9) rfl dX1_become_15 ?_
  refine va_put (D := D) (ci := 1) (v := .int v_p1_lawNumber) (ty := .int) (C := RX1) (T := TX1) (N := 12) hx hb hts inw_X1_become_X1 tyX1 tyX1_ok nmX1 hown hK.1 hP hD hS 0 rfl rfl 2 (by decide) (hts (.fieldLink RX1 43 "PursesShare$Holding" "lawNumber" "I") (by decide +kernel)) (fun _ h9 => h9) rfl (by decide +kernel) rfl rfl (Nat.le_of_ble_eq_true rfl) dX1_become_18 (fun H locs hP hD hS => ?_)
  have hP : va_P D vwCl (cw_X1_become cI cZ o o_purses o_firsts o_seconds o_firstsHad o_secondsHad o_seenSums o_seenShared o_p1 o_p1_purses o_p1_firsts o_p1_seconds o_p1_firstsHad o_p1_secondsHad o_p1_seenSums o_p1_seenShared (1 : Int32) v_p1_people v_p1_lawNumber v_made v_seen a_purses a_firsts a_seconds a_firstsHad a_secondsHad a_seenSums a_seenShared v_p1_filled v_p1_people v_p1_lawNumber v_p1_made v_p1_seen a_p1_purses a_p1_firsts a_p1_seconds a_p1_firstsHad a_p1_secondsHad a_p1_seenSums a_p1_seenShared) H := hP
  have hD : va_D A (cw_X1_become cI cZ o o_purses o_firsts o_seconds o_firstsHad o_secondsHad o_seenSums o_seenShared o_p1 o_p1_purses o_p1_firsts o_p1_seconds o_p1_firstsHad o_p1_secondsHad o_p1_seenSums o_p1_seenShared (1 : Int32) v_p1_people v_p1_lawNumber v_made v_seen a_purses a_firsts a_seconds a_firstsHad a_secondsHad a_seenSums a_seenShared v_p1_filled v_p1_people v_p1_lawNumber v_p1_made v_p1_seen a_p1_purses a_p1_firsts a_p1_seconds a_p1_firstsHad a_p1_secondsHad a_p1_seenSums a_p1_seenShared) := hD
  refine lv_aload_n hx hb dX1_become_21 rfl (lv_at hl 1 rfl) ?_
  refine va_get (D := D) (ci := 1) (v := .ref o_p1_purses) (C := RX1) (T := TX1) (N := 12) hx hb hts inw_X1_become_X1 hown hK.1 hP 8 rfl rfl 3 (by decide) (hts (.fieldLink RX1 9 "PursesShare$Holding" "purses" "[I") (by decide +kernel)) (fun _ h9 => h9) rfl dX1_become_22 ?_
  refine lv_iconst (v := 0) hx hb dX1_become_25 (by decide) ?_
  refine lv_aload_n hx hb dX1_become_26 rfl (lv_at hl 0 rfl) ?_
  refine va_get (D := D) (ci := 1) (v := .ref o_purses) (C := RX1) (T := TX1) (N := 12) hx hb hts inw_X1_become_X1 hown hK.1 hP 0 rfl rfl 3 (by decide) (hts (.fieldLink RX1 9 "PursesShare$Holding" "purses" "[I") (by decide +kernel)) (fun _ h9 => h9) rfl dX1_become_27 ?_
  refine lv_iconst (v := 0) hx hb dX1_become_30 (by decide) ?_
  refine lv_bipush (v := 8) hx hb dX1_become_31 (by decide) ?_
  refine va_copyi hx hb (hml.trans hl.1.symm) hown (hts (.methodLink RX1 45 arraycopyName) (by decide +kernel)) (hts (.native arraycopyName) (by decide +kernel)) (hts (.static arraycopyName) (by decide +kernel)) (hts (.initialized "java/lang/System") (by decide +kernel)) hK.1 hP hD hS 9 1 0 0 (ty := .int) rfl rfl rfl rfl rfl (by decide) (by decide) (by decide) (by decide) (by decide) (fun _ _ => rfl) (Nat.le_of_ble_eq_true rfl) (Nat.le_of_ble_eq_true rfl) dX1_become_33 (fun H locs hP hD hS => ?_)
  have hP : va_P D vwCl (cw_X1_become cI cZ o o_purses o_firsts o_seconds o_firstsHad o_secondsHad o_seenSums o_seenShared o_p1 o_p1_purses o_p1_firsts o_p1_seconds o_p1_firstsHad o_p1_secondsHad o_p1_seenSums o_p1_seenShared (1 : Int32) v_p1_people v_p1_lawNumber v_made v_seen (va_cpy a_p1_purses a_purses (Int32.toNatClampNeg (0 : Int32)) (Int32.toNatClampNeg (0 : Int32)) (Int32.toNatClampNeg (8 : Int32))) a_firsts a_seconds a_firstsHad a_secondsHad a_seenSums a_seenShared v_p1_filled v_p1_people v_p1_lawNumber v_p1_made v_p1_seen a_p1_purses a_p1_firsts a_p1_seconds a_p1_firstsHad a_p1_secondsHad a_p1_seenSums a_p1_seenShared) H := hP
  have hD : va_D A (cw_X1_become cI cZ o o_purses o_firsts o_seconds o_firstsHad o_secondsHad o_seenSums o_seenShared o_p1 o_p1_purses o_p1_firsts o_p1_seconds o_p1_firstsHad o_p1_secondsHad o_p1_seenSums o_p1_seenShared (1 : Int32) v_p1_people v_p1_lawNumber v_made v_seen (va_cpy a_p1_purses a_purses (Int32.toNatClampNeg (0 : Int32)) (Int32.toNatClampNeg (0 : Int32)) (Int32.toNatClampNeg (8 : Int32))) a_firsts a_seconds a_firstsHad a_secondsHad a_seenSums a_seenShared v_p1_filled v_p1_people v_p1_lawNumber v_p1_made v_p1_seen a_p1_purses a_p1_firsts a_p1_seconds a_p1_firstsHad a_p1_secondsHad a_p1_seenSums a_p1_seenShared) := hD
  refine lv_aload_n hx hb dX1_become_36 rfl (lv_at hl 0 rfl) ?_
  refine lv_aload_n hx hb dX1_become_37 rfl (lv_at hl 1 rfl) ?_
  refine va_get (D := D) (ci := 1) (v := .int v_p1_made) (C := RX1) (T := TX1) (N := 12) hx hb hts inw_X1_become_X1 hown hK.1 hP 8 rfl rfl 4 (by decide) (hts (.fieldLink RX1 51 "PursesShare$Holding" "made" "I") (by decide +kernel)) (fun _ h9 => h9) rfl dX1_become_38 ?_
  refine va_put (D := D) (ci := 1) (v := .int v_p1_made) (ty := .int) (C := RX1) (T := TX1) (N := 12) hx hb hts inw_X1_become_X1 tyX1 tyX1_ok nmX1 hown hK.1 hP hD hS 0 rfl rfl 4 (by decide) (hts (.fieldLink RX1 51 "PursesShare$Holding" "made" "I") (by decide +kernel)) (fun _ h9 => h9) rfl (by decide +kernel) rfl rfl (Nat.le_of_ble_eq_true rfl) dX1_become_41 (fun H locs hP hD hS => ?_)
  have hP : va_P D vwCl (cw_X1_become cI cZ o o_purses o_firsts o_seconds o_firstsHad o_secondsHad o_seenSums o_seenShared o_p1 o_p1_purses o_p1_firsts o_p1_seconds o_p1_firstsHad o_p1_secondsHad o_p1_seenSums o_p1_seenShared (1 : Int32) v_p1_people v_p1_lawNumber v_p1_made v_seen (va_cpy a_p1_purses a_purses (Int32.toNatClampNeg (0 : Int32)) (Int32.toNatClampNeg (0 : Int32)) (Int32.toNatClampNeg (8 : Int32))) a_firsts a_seconds a_firstsHad a_secondsHad a_seenSums a_seenShared v_p1_filled v_p1_people v_p1_lawNumber v_p1_made v_p1_seen a_p1_purses a_p1_firsts a_p1_seconds a_p1_firstsHad a_p1_secondsHad a_p1_seenSums a_p1_seenShared) H := hP
  have hD : va_D A (cw_X1_become cI cZ o o_purses o_firsts o_seconds o_firstsHad o_secondsHad o_seenSums o_seenShared o_p1 o_p1_purses o_p1_firsts o_p1_seconds o_p1_firstsHad o_p1_secondsHad o_p1_seenSums o_p1_seenShared (1 : Int32) v_p1_people v_p1_lawNumber v_p1_made v_seen (va_cpy a_p1_purses a_purses (Int32.toNatClampNeg (0 : Int32)) (Int32.toNatClampNeg (0 : Int32)) (Int32.toNatClampNeg (8 : Int32))) a_firsts a_seconds a_firstsHad a_secondsHad a_seenSums a_seenShared v_p1_filled v_p1_people v_p1_lawNumber v_p1_made v_p1_seen a_p1_purses a_p1_firsts a_p1_seconds a_p1_firstsHad a_p1_secondsHad a_p1_seenSums a_p1_seenShared) := hD
  refine lv_aload_n hx hb dX1_become_44 rfl (lv_at hl 1 rfl) ?_
  refine va_get (D := D) (ci := 1) (v := .ref o_p1_firsts) (C := RX1) (T := TX1) (N := 12) hx hb hts inw_X1_become_X1 hown hK.1 hP 8 rfl rfl 5 (by decide) (hts (.fieldLink RX1 15 "PursesShare$Holding" "firsts" "[I") (by decide +kernel)) (fun _ h9 => h9) rfl dX1_become_45 ?_
  refine lv_iconst (v := 0) hx hb dX1_become_48 (by decide) ?_
  refine lv_aload_n hx hb dX1_become_49 rfl (lv_at hl 0 rfl) ?_
  refine va_get (D := D) (ci := 1) (v := .ref o_firsts) (C := RX1) (T := TX1) (N := 12) hx hb hts inw_X1_become_X1 hown hK.1 hP 0 rfl rfl 5 (by decide) (hts (.fieldLink RX1 15 "PursesShare$Holding" "firsts" "[I") (by decide +kernel)) (fun _ h9 => h9) rfl dX1_become_50 ?_
  refine lv_iconst (v := 0) hx hb dX1_become_53 (by decide) ?_
  refine lv_bipush (v := 32) hx hb dX1_become_54 (by decide) ?_
  refine va_copyi hx hb (hml.trans hl.1.symm) hown (hts (.methodLink RX1 45 arraycopyName) (by decide +kernel)) (hts (.native arraycopyName) (by decide +kernel)) (hts (.static arraycopyName) (by decide +kernel)) (hts (.initialized "java/lang/System") (by decide +kernel)) hK.1 hP hD hS 10 2 0 0 (ty := .int) rfl rfl rfl rfl rfl (by decide) (by decide) (by decide) (by decide) (by decide) (fun _ _ => rfl) (Nat.le_of_ble_eq_true rfl) (Nat.le_of_ble_eq_true rfl) dX1_become_56 (fun H locs hP hD hS => ?_)
  have hP : va_P D vwCl (cw_X1_become cI cZ o o_purses o_firsts o_seconds o_firstsHad o_secondsHad o_seenSums o_seenShared o_p1 o_p1_purses o_p1_firsts o_p1_seconds o_p1_firstsHad o_p1_secondsHad o_p1_seenSums o_p1_seenShared (1 : Int32) v_p1_people v_p1_lawNumber v_p1_made v_seen (va_cpy a_p1_purses a_purses (Int32.toNatClampNeg (0 : Int32)) (Int32.toNatClampNeg (0 : Int32)) (Int32.toNatClampNeg (8 : Int32))) (va_cpy a_p1_firsts a_firsts (Int32.toNatClampNeg (0 : Int32)) (Int32.toNatClampNeg (0 : Int32)) (Int32.toNatClampNeg (32 : Int32))) a_seconds a_firstsHad a_secondsHad a_seenSums a_seenShared v_p1_filled v_p1_people v_p1_lawNumber v_p1_made v_p1_seen a_p1_purses a_p1_firsts a_p1_seconds a_p1_firstsHad a_p1_secondsHad a_p1_seenSums a_p1_seenShared) H := hP
  have hD : va_D A (cw_X1_become cI cZ o o_purses o_firsts o_seconds o_firstsHad o_secondsHad o_seenSums o_seenShared o_p1 o_p1_purses o_p1_firsts o_p1_seconds o_p1_firstsHad o_p1_secondsHad o_p1_seenSums o_p1_seenShared (1 : Int32) v_p1_people v_p1_lawNumber v_p1_made v_seen (va_cpy a_p1_purses a_purses (Int32.toNatClampNeg (0 : Int32)) (Int32.toNatClampNeg (0 : Int32)) (Int32.toNatClampNeg (8 : Int32))) (va_cpy a_p1_firsts a_firsts (Int32.toNatClampNeg (0 : Int32)) (Int32.toNatClampNeg (0 : Int32)) (Int32.toNatClampNeg (32 : Int32))) a_seconds a_firstsHad a_secondsHad a_seenSums a_seenShared v_p1_filled v_p1_people v_p1_lawNumber v_p1_made v_p1_seen a_p1_purses a_p1_firsts a_p1_seconds a_p1_firstsHad a_p1_secondsHad a_p1_seenSums a_p1_seenShared) := hD
  refine lv_aload_n hx hb dX1_become_59 rfl (lv_at hl 1 rfl) ?_
  refine va_get (D := D) (ci := 1) (v := .ref o_p1_seconds) (C := RX1) (T := TX1) (N := 12) hx hb hts inw_X1_become_X1 hown hK.1 hP 8 rfl rfl 6 (by decide) (hts (.fieldLink RX1 18 "PursesShare$Holding" "seconds" "[I") (by decide +kernel)) (fun _ h9 => h9) rfl dX1_become_60 ?_
  refine lv_iconst (v := 0) hx hb dX1_become_63 (by decide) ?_
  refine lv_aload_n hx hb dX1_become_64 rfl (lv_at hl 0 rfl) ?_
  refine va_get (D := D) (ci := 1) (v := .ref o_seconds) (C := RX1) (T := TX1) (N := 12) hx hb hts inw_X1_become_X1 hown hK.1 hP 0 rfl rfl 6 (by decide) (hts (.fieldLink RX1 18 "PursesShare$Holding" "seconds" "[I") (by decide +kernel)) (fun _ h9 => h9) rfl dX1_become_65 ?_
  refine lv_iconst (v := 0) hx hb dX1_become_68 (by decide) ?_
  refine lv_bipush (v := 32) hx hb dX1_become_69 (by decide) ?_
  refine va_copyi hx hb (hml.trans hl.1.symm) hown (hts (.methodLink RX1 45 arraycopyName) (by decide +kernel)) (hts (.native arraycopyName) (by decide +kernel)) (hts (.static arraycopyName) (by decide +kernel)) (hts (.initialized "java/lang/System") (by decide +kernel)) hK.1 hP hD hS 11 3 0 0 (ty := .int) rfl rfl rfl rfl rfl (by decide) (by decide) (by decide) (by decide) (by decide) (fun _ _ => rfl) (Nat.le_of_ble_eq_true rfl) (Nat.le_of_ble_eq_true rfl) dX1_become_71 (fun H locs hP hD hS => ?_)
  have hP : va_P D vwCl (cw_X1_become cI cZ o o_purses o_firsts o_seconds o_firstsHad o_secondsHad o_seenSums o_seenShared o_p1 o_p1_purses o_p1_firsts o_p1_seconds o_p1_firstsHad o_p1_secondsHad o_p1_seenSums o_p1_seenShared (1 : Int32) v_p1_people v_p1_lawNumber v_p1_made v_seen (va_cpy a_p1_purses a_purses (Int32.toNatClampNeg (0 : Int32)) (Int32.toNatClampNeg (0 : Int32)) (Int32.toNatClampNeg (8 : Int32))) (va_cpy a_p1_firsts a_firsts (Int32.toNatClampNeg (0 : Int32)) (Int32.toNatClampNeg (0 : Int32)) (Int32.toNatClampNeg (32 : Int32))) (va_cpy a_p1_seconds a_seconds (Int32.toNatClampNeg (0 : Int32)) (Int32.toNatClampNeg (0 : Int32)) (Int32.toNatClampNeg (32 : Int32))) a_firstsHad a_secondsHad a_seenSums a_seenShared v_p1_filled v_p1_people v_p1_lawNumber v_p1_made v_p1_seen a_p1_purses a_p1_firsts a_p1_seconds a_p1_firstsHad a_p1_secondsHad a_p1_seenSums a_p1_seenShared) H := hP
  have hD : va_D A (cw_X1_become cI cZ o o_purses o_firsts o_seconds o_firstsHad o_secondsHad o_seenSums o_seenShared o_p1 o_p1_purses o_p1_firsts o_p1_seconds o_p1_firstsHad o_p1_secondsHad o_p1_seenSums o_p1_seenShared (1 : Int32) v_p1_people v_p1_lawNumber v_p1_made v_seen (va_cpy a_p1_purses a_purses (Int32.toNatClampNeg (0 : Int32)) (Int32.toNatClampNeg (0 : Int32)) (Int32.toNatClampNeg (8 : Int32))) (va_cpy a_p1_firsts a_firsts (Int32.toNatClampNeg (0 : Int32)) (Int32.toNatClampNeg (0 : Int32)) (Int32.toNatClampNeg (32 : Int32))) (va_cpy a_p1_seconds a_seconds (Int32.toNatClampNeg (0 : Int32)) (Int32.toNatClampNeg (0 : Int32)) (Int32.toNatClampNeg (32 : Int32))) a_firstsHad a_secondsHad a_seenSums a_seenShared v_p1_filled v_p1_people v_p1_lawNumber v_p1_made v_p1_seen a_p1_purses a_p1_firsts a_p1_seconds a_p1_firstsHad a_p1_secondsHad a_p1_seenSums a_p1_seenShared) := hD
  refine lv_aload_n hx hb dX1_become_74 rfl (lv_at hl 1 rfl) ?_
  refine va_get (D := D) (ci := 1) (v := .ref o_p1_firstsHad) (C := RX1) (T := TX1) (N := 12) hx hb hts inw_X1_become_X1 hown hK.1 hP 8 rfl rfl 7 (by decide) (hts (.fieldLink RX1 21 "PursesShare$Holding" "firstsHad" "[I") (by decide +kernel)) (fun _ h9 => h9) rfl dX1_become_75 ?_
  refine lv_iconst (v := 0) hx hb dX1_become_78 (by decide) ?_
  refine lv_aload_n hx hb dX1_become_79 rfl (lv_at hl 0 rfl) ?_
  refine va_get (D := D) (ci := 1) (v := .ref o_firstsHad) (C := RX1) (T := TX1) (N := 12) hx hb hts inw_X1_become_X1 hown hK.1 hP 0 rfl rfl 7 (by decide) (hts (.fieldLink RX1 21 "PursesShare$Holding" "firstsHad" "[I") (by decide +kernel)) (fun _ h9 => h9) rfl dX1_become_80 ?_
  refine lv_iconst (v := 0) hx hb dX1_become_83 (by decide) ?_
  refine lv_bipush (v := 32) hx hb dX1_become_84 (by decide) ?_
  refine va_copyi hx hb (hml.trans hl.1.symm) hown (hts (.methodLink RX1 45 arraycopyName) (by decide +kernel)) (hts (.native arraycopyName) (by decide +kernel)) (hts (.static arraycopyName) (by decide +kernel)) (hts (.initialized "java/lang/System") (by decide +kernel)) hK.1 hP hD hS 12 4 0 0 (ty := .int) rfl rfl rfl rfl rfl (by decide) (by decide) (by decide) (by decide) (by decide) (fun _ _ => rfl) (Nat.le_of_ble_eq_true rfl) (Nat.le_of_ble_eq_true rfl) dX1_become_86 (fun H locs hP hD hS => ?_)
  have hP : va_P D vwCl (cw_X1_become cI cZ o o_purses o_firsts o_seconds o_firstsHad o_secondsHad o_seenSums o_seenShared o_p1 o_p1_purses o_p1_firsts o_p1_seconds o_p1_firstsHad o_p1_secondsHad o_p1_seenSums o_p1_seenShared (1 : Int32) v_p1_people v_p1_lawNumber v_p1_made v_seen (va_cpy a_p1_purses a_purses (Int32.toNatClampNeg (0 : Int32)) (Int32.toNatClampNeg (0 : Int32)) (Int32.toNatClampNeg (8 : Int32))) (va_cpy a_p1_firsts a_firsts (Int32.toNatClampNeg (0 : Int32)) (Int32.toNatClampNeg (0 : Int32)) (Int32.toNatClampNeg (32 : Int32))) (va_cpy a_p1_seconds a_seconds (Int32.toNatClampNeg (0 : Int32)) (Int32.toNatClampNeg (0 : Int32)) (Int32.toNatClampNeg (32 : Int32))) (va_cpy a_p1_firstsHad a_firstsHad (Int32.toNatClampNeg (0 : Int32)) (Int32.toNatClampNeg (0 : Int32)) (Int32.toNatClampNeg (32 : Int32))) a_secondsHad a_seenSums a_seenShared v_p1_filled v_p1_people v_p1_lawNumber v_p1_made v_p1_seen a_p1_purses a_p1_firsts a_p1_seconds a_p1_firstsHad a_p1_secondsHad a_p1_seenSums a_p1_seenShared) H := hP
  have hD : va_D A (cw_X1_become cI cZ o o_purses o_firsts o_seconds o_firstsHad o_secondsHad o_seenSums o_seenShared o_p1 o_p1_purses o_p1_firsts o_p1_seconds o_p1_firstsHad o_p1_secondsHad o_p1_seenSums o_p1_seenShared (1 : Int32) v_p1_people v_p1_lawNumber v_p1_made v_seen (va_cpy a_p1_purses a_purses (Int32.toNatClampNeg (0 : Int32)) (Int32.toNatClampNeg (0 : Int32)) (Int32.toNatClampNeg (8 : Int32))) (va_cpy a_p1_firsts a_firsts (Int32.toNatClampNeg (0 : Int32)) (Int32.toNatClampNeg (0 : Int32)) (Int32.toNatClampNeg (32 : Int32))) (va_cpy a_p1_seconds a_seconds (Int32.toNatClampNeg (0 : Int32)) (Int32.toNatClampNeg (0 : Int32)) (Int32.toNatClampNeg (32 : Int32))) (va_cpy a_p1_firstsHad a_firstsHad (Int32.toNatClampNeg (0 : Int32)) (Int32.toNatClampNeg (0 : Int32)) (Int32.toNatClampNeg (32 : Int32))) a_secondsHad a_seenSums a_seenShared v_p1_filled v_p1_people v_p1_lawNumber v_p1_made v_p1_seen a_p1_purses a_p1_firsts a_p1_seconds a_p1_firstsHad a_p1_secondsHad a_p1_seenSums a_p1_seenShared) := hD
  refine lv_aload_n hx hb dX1_become_89 rfl (lv_at hl 1 rfl) ?_
  refine va_get (D := D) (ci := 1) (v := .ref o_p1_secondsHad) (C := RX1) (T := TX1) (N := 12) hx hb hts inw_X1_become_X1 hown hK.1 hP 8 rfl rfl 8 (by decide) (hts (.fieldLink RX1 24 "PursesShare$Holding" "secondsHad" "[I") (by decide +kernel)) (fun _ h9 => h9) rfl dX1_become_90 ?_
  refine lv_iconst (v := 0) hx hb dX1_become_93 (by decide) ?_
  refine lv_aload_n hx hb dX1_become_94 rfl (lv_at hl 0 rfl) ?_
  refine va_get (D := D) (ci := 1) (v := .ref o_secondsHad) (C := RX1) (T := TX1) (N := 12) hx hb hts inw_X1_become_X1 hown hK.1 hP 0 rfl rfl 8 (by decide) (hts (.fieldLink RX1 24 "PursesShare$Holding" "secondsHad" "[I") (by decide +kernel)) (fun _ h9 => h9) rfl dX1_become_95 ?_
  refine lv_iconst (v := 0) hx hb dX1_become_98 (by decide) ?_
  refine lv_bipush (v := 32) hx hb dX1_become_99 (by decide) ?_
  refine va_copyi hx hb (hml.trans hl.1.symm) hown (hts (.methodLink RX1 45 arraycopyName) (by decide +kernel)) (hts (.native arraycopyName) (by decide +kernel)) (hts (.static arraycopyName) (by decide +kernel)) (hts (.initialized "java/lang/System") (by decide +kernel)) hK.1 hP hD hS 13 5 0 0 (ty := .int) rfl rfl rfl rfl rfl (by decide) (by decide) (by decide) (by decide) (by decide) (fun _ _ => rfl) (Nat.le_of_ble_eq_true rfl) (Nat.le_of_ble_eq_true rfl) dX1_become_101 (fun H locs hP hD hS => ?_)
  have hP : va_P D vwCl (cw_X1_become cI cZ o o_purses o_firsts o_seconds o_firstsHad o_secondsHad o_seenSums o_seenShared o_p1 o_p1_purses o_p1_firsts o_p1_seconds o_p1_firstsHad o_p1_secondsHad o_p1_seenSums o_p1_seenShared (1 : Int32) v_p1_people v_p1_lawNumber v_p1_made v_seen (va_cpy a_p1_purses a_purses (Int32.toNatClampNeg (0 : Int32)) (Int32.toNatClampNeg (0 : Int32)) (Int32.toNatClampNeg (8 : Int32))) (va_cpy a_p1_firsts a_firsts (Int32.toNatClampNeg (0 : Int32)) (Int32.toNatClampNeg (0 : Int32)) (Int32.toNatClampNeg (32 : Int32))) (va_cpy a_p1_seconds a_seconds (Int32.toNatClampNeg (0 : Int32)) (Int32.toNatClampNeg (0 : Int32)) (Int32.toNatClampNeg (32 : Int32))) (va_cpy a_p1_firstsHad a_firstsHad (Int32.toNatClampNeg (0 : Int32)) (Int32.toNatClampNeg (0 : Int32)) (Int32.toNatClampNeg (32 : Int32))) (va_cpy a_p1_secondsHad a_secondsHad (Int32.toNatClampNeg (0 : Int32)) (Int32.toNatClampNeg (0 : Int32)) (Int32.toNatClampNeg (32 : Int32))) a_seenSums a_seenShared v_p1_filled v_p1_people v_p1_lawNumber v_p1_made v_p1_seen a_p1_purses a_p1_firsts a_p1_seconds a_p1_firstsHad a_p1_secondsHad a_p1_seenSums a_p1_seenShared) H := hP
  have hD : va_D A (cw_X1_become cI cZ o o_purses o_firsts o_seconds o_firstsHad o_secondsHad o_seenSums o_seenShared o_p1 o_p1_purses o_p1_firsts o_p1_seconds o_p1_firstsHad o_p1_secondsHad o_p1_seenSums o_p1_seenShared (1 : Int32) v_p1_people v_p1_lawNumber v_p1_made v_seen (va_cpy a_p1_purses a_purses (Int32.toNatClampNeg (0 : Int32)) (Int32.toNatClampNeg (0 : Int32)) (Int32.toNatClampNeg (8 : Int32))) (va_cpy a_p1_firsts a_firsts (Int32.toNatClampNeg (0 : Int32)) (Int32.toNatClampNeg (0 : Int32)) (Int32.toNatClampNeg (32 : Int32))) (va_cpy a_p1_seconds a_seconds (Int32.toNatClampNeg (0 : Int32)) (Int32.toNatClampNeg (0 : Int32)) (Int32.toNatClampNeg (32 : Int32))) (va_cpy a_p1_firstsHad a_firstsHad (Int32.toNatClampNeg (0 : Int32)) (Int32.toNatClampNeg (0 : Int32)) (Int32.toNatClampNeg (32 : Int32))) (va_cpy a_p1_secondsHad a_secondsHad (Int32.toNatClampNeg (0 : Int32)) (Int32.toNatClampNeg (0 : Int32)) (Int32.toNatClampNeg (32 : Int32))) a_seenSums a_seenShared v_p1_filled v_p1_people v_p1_lawNumber v_p1_made v_p1_seen a_p1_purses a_p1_firsts a_p1_seconds a_p1_firstsHad a_p1_secondsHad a_p1_seenSums a_p1_seenShared) := hD
  refine lv_aload_n hx hb dX1_become_104 rfl (lv_at hl 0 rfl) ?_
  refine lv_aload_n hx hb dX1_become_105 rfl (lv_at hl 1 rfl) ?_
  refine va_get (D := D) (ci := 1) (v := .int v_p1_seen) (C := RX1) (T := TX1) (N := 12) hx hb hts inw_X1_become_X1 hown hK.1 hP 8 rfl rfl 9 (by decide) (hts (.fieldLink RX1 54 "PursesShare$Holding" "seen" "I") (by decide +kernel)) (fun _ h9 => h9) rfl dX1_become_106 ?_
  refine va_put (D := D) (ci := 1) (v := .int v_p1_seen) (ty := .int) (C := RX1) (T := TX1) (N := 12) hx hb hts inw_X1_become_X1 tyX1 tyX1_ok nmX1 hown hK.1 hP hD hS 0 rfl rfl 9 (by decide) (hts (.fieldLink RX1 54 "PursesShare$Holding" "seen" "I") (by decide +kernel)) (fun _ h9 => h9) rfl (by decide +kernel) rfl rfl (Nat.le_of_ble_eq_true rfl) dX1_become_109 (fun H locs hP hD hS => ?_)
  have hP : va_P D vwCl (cw_X1_become cI cZ o o_purses o_firsts o_seconds o_firstsHad o_secondsHad o_seenSums o_seenShared o_p1 o_p1_purses o_p1_firsts o_p1_seconds o_p1_firstsHad o_p1_secondsHad o_p1_seenSums o_p1_seenShared (1 : Int32) v_p1_people v_p1_lawNumber v_p1_made v_p1_seen (va_cpy a_p1_purses a_purses (Int32.toNatClampNeg (0 : Int32)) (Int32.toNatClampNeg (0 : Int32)) (Int32.toNatClampNeg (8 : Int32))) (va_cpy a_p1_firsts a_firsts (Int32.toNatClampNeg (0 : Int32)) (Int32.toNatClampNeg (0 : Int32)) (Int32.toNatClampNeg (32 : Int32))) (va_cpy a_p1_seconds a_seconds (Int32.toNatClampNeg (0 : Int32)) (Int32.toNatClampNeg (0 : Int32)) (Int32.toNatClampNeg (32 : Int32))) (va_cpy a_p1_firstsHad a_firstsHad (Int32.toNatClampNeg (0 : Int32)) (Int32.toNatClampNeg (0 : Int32)) (Int32.toNatClampNeg (32 : Int32))) (va_cpy a_p1_secondsHad a_secondsHad (Int32.toNatClampNeg (0 : Int32)) (Int32.toNatClampNeg (0 : Int32)) (Int32.toNatClampNeg (32 : Int32))) a_seenSums a_seenShared v_p1_filled v_p1_people v_p1_lawNumber v_p1_made v_p1_seen a_p1_purses a_p1_firsts a_p1_seconds a_p1_firstsHad a_p1_secondsHad a_p1_seenSums a_p1_seenShared) H := hP
  have hD : va_D A (cw_X1_become cI cZ o o_purses o_firsts o_seconds o_firstsHad o_secondsHad o_seenSums o_seenShared o_p1 o_p1_purses o_p1_firsts o_p1_seconds o_p1_firstsHad o_p1_secondsHad o_p1_seenSums o_p1_seenShared (1 : Int32) v_p1_people v_p1_lawNumber v_p1_made v_p1_seen (va_cpy a_p1_purses a_purses (Int32.toNatClampNeg (0 : Int32)) (Int32.toNatClampNeg (0 : Int32)) (Int32.toNatClampNeg (8 : Int32))) (va_cpy a_p1_firsts a_firsts (Int32.toNatClampNeg (0 : Int32)) (Int32.toNatClampNeg (0 : Int32)) (Int32.toNatClampNeg (32 : Int32))) (va_cpy a_p1_seconds a_seconds (Int32.toNatClampNeg (0 : Int32)) (Int32.toNatClampNeg (0 : Int32)) (Int32.toNatClampNeg (32 : Int32))) (va_cpy a_p1_firstsHad a_firstsHad (Int32.toNatClampNeg (0 : Int32)) (Int32.toNatClampNeg (0 : Int32)) (Int32.toNatClampNeg (32 : Int32))) (va_cpy a_p1_secondsHad a_secondsHad (Int32.toNatClampNeg (0 : Int32)) (Int32.toNatClampNeg (0 : Int32)) (Int32.toNatClampNeg (32 : Int32))) a_seenSums a_seenShared v_p1_filled v_p1_people v_p1_lawNumber v_p1_made v_p1_seen a_p1_purses a_p1_firsts a_p1_seconds a_p1_firstsHad a_p1_secondsHad a_p1_seenSums a_p1_seenShared) := hD
  refine lv_aload_n hx hb dX1_become_112 rfl (lv_at hl 1 rfl) ?_
  refine va_get (D := D) (ci := 1) (v := .ref o_p1_seenSums) (C := RX1) (T := TX1) (N := 12) hx hb hts inw_X1_become_X1 hown hK.1 hP 8 rfl rfl 10 (by decide) (hts (.fieldLink RX1 27 "PursesShare$Holding" "seenSums" "[I") (by decide +kernel)) (fun _ h9 => h9) rfl dX1_become_113 ?_
  refine lv_iconst (v := 0) hx hb dX1_become_116 (by decide) ?_
  refine lv_aload_n hx hb dX1_become_117 rfl (lv_at hl 0 rfl) ?_
  refine va_get (D := D) (ci := 1) (v := .ref o_seenSums) (C := RX1) (T := TX1) (N := 12) hx hb hts inw_X1_become_X1 hown hK.1 hP 0 rfl rfl 10 (by decide) (hts (.fieldLink RX1 27 "PursesShare$Holding" "seenSums" "[I") (by decide +kernel)) (fun _ h9 => h9) rfl dX1_become_118 ?_
  refine lv_iconst (v := 0) hx hb dX1_become_121 (by decide) ?_
  refine lv_bipush (v := 8) hx hb dX1_become_122 (by decide) ?_
  refine va_copyi hx hb (hml.trans hl.1.symm) hown (hts (.methodLink RX1 45 arraycopyName) (by decide +kernel)) (hts (.native arraycopyName) (by decide +kernel)) (hts (.static arraycopyName) (by decide +kernel)) (hts (.initialized "java/lang/System") (by decide +kernel)) hK.1 hP hD hS 14 6 0 0 (ty := .int) rfl rfl rfl rfl rfl (by decide) (by decide) (by decide) (by decide) (by decide) (fun _ _ => rfl) (Nat.le_of_ble_eq_true rfl) (Nat.le_of_ble_eq_true rfl) dX1_become_124 (fun H locs hP hD hS => ?_)
  have hP : va_P D vwCl (cw_X1_become cI cZ o o_purses o_firsts o_seconds o_firstsHad o_secondsHad o_seenSums o_seenShared o_p1 o_p1_purses o_p1_firsts o_p1_seconds o_p1_firstsHad o_p1_secondsHad o_p1_seenSums o_p1_seenShared (1 : Int32) v_p1_people v_p1_lawNumber v_p1_made v_p1_seen (va_cpy a_p1_purses a_purses (Int32.toNatClampNeg (0 : Int32)) (Int32.toNatClampNeg (0 : Int32)) (Int32.toNatClampNeg (8 : Int32))) (va_cpy a_p1_firsts a_firsts (Int32.toNatClampNeg (0 : Int32)) (Int32.toNatClampNeg (0 : Int32)) (Int32.toNatClampNeg (32 : Int32))) (va_cpy a_p1_seconds a_seconds (Int32.toNatClampNeg (0 : Int32)) (Int32.toNatClampNeg (0 : Int32)) (Int32.toNatClampNeg (32 : Int32))) (va_cpy a_p1_firstsHad a_firstsHad (Int32.toNatClampNeg (0 : Int32)) (Int32.toNatClampNeg (0 : Int32)) (Int32.toNatClampNeg (32 : Int32))) (va_cpy a_p1_secondsHad a_secondsHad (Int32.toNatClampNeg (0 : Int32)) (Int32.toNatClampNeg (0 : Int32)) (Int32.toNatClampNeg (32 : Int32))) (va_cpy a_p1_seenSums a_seenSums (Int32.toNatClampNeg (0 : Int32)) (Int32.toNatClampNeg (0 : Int32)) (Int32.toNatClampNeg (8 : Int32))) a_seenShared v_p1_filled v_p1_people v_p1_lawNumber v_p1_made v_p1_seen a_p1_purses a_p1_firsts a_p1_seconds a_p1_firstsHad a_p1_secondsHad a_p1_seenSums a_p1_seenShared) H := hP
  have hD : va_D A (cw_X1_become cI cZ o o_purses o_firsts o_seconds o_firstsHad o_secondsHad o_seenSums o_seenShared o_p1 o_p1_purses o_p1_firsts o_p1_seconds o_p1_firstsHad o_p1_secondsHad o_p1_seenSums o_p1_seenShared (1 : Int32) v_p1_people v_p1_lawNumber v_p1_made v_p1_seen (va_cpy a_p1_purses a_purses (Int32.toNatClampNeg (0 : Int32)) (Int32.toNatClampNeg (0 : Int32)) (Int32.toNatClampNeg (8 : Int32))) (va_cpy a_p1_firsts a_firsts (Int32.toNatClampNeg (0 : Int32)) (Int32.toNatClampNeg (0 : Int32)) (Int32.toNatClampNeg (32 : Int32))) (va_cpy a_p1_seconds a_seconds (Int32.toNatClampNeg (0 : Int32)) (Int32.toNatClampNeg (0 : Int32)) (Int32.toNatClampNeg (32 : Int32))) (va_cpy a_p1_firstsHad a_firstsHad (Int32.toNatClampNeg (0 : Int32)) (Int32.toNatClampNeg (0 : Int32)) (Int32.toNatClampNeg (32 : Int32))) (va_cpy a_p1_secondsHad a_secondsHad (Int32.toNatClampNeg (0 : Int32)) (Int32.toNatClampNeg (0 : Int32)) (Int32.toNatClampNeg (32 : Int32))) (va_cpy a_p1_seenSums a_seenSums (Int32.toNatClampNeg (0 : Int32)) (Int32.toNatClampNeg (0 : Int32)) (Int32.toNatClampNeg (8 : Int32))) a_seenShared v_p1_filled v_p1_people v_p1_lawNumber v_p1_made v_p1_seen a_p1_purses a_p1_firsts a_p1_seconds a_p1_firstsHad a_p1_secondsHad a_p1_seenSums a_p1_seenShared) := hD
  refine lv_aload_n hx hb dX1_become_127 rfl (lv_at hl 1 rfl) ?_
  refine va_get (D := D) (ci := 1) (v := .ref o_p1_seenShared) (C := RX1) (T := TX1) (N := 12) hx hb hts inw_X1_become_X1 hown hK.1 hP 8 rfl rfl 11 (by decide) (hts (.fieldLink RX1 30 "PursesShare$Holding" "seenShared" "[I") (by decide +kernel)) (fun _ h9 => h9) rfl dX1_become_128 ?_
  refine lv_iconst (v := 0) hx hb dX1_become_131 (by decide) ?_
  refine lv_aload_n hx hb dX1_become_132 rfl (lv_at hl 0 rfl) ?_
  refine va_get (D := D) (ci := 1) (v := .ref o_seenShared) (C := RX1) (T := TX1) (N := 12) hx hb hts inw_X1_become_X1 hown hK.1 hP 0 rfl rfl 11 (by decide) (hts (.fieldLink RX1 30 "PursesShare$Holding" "seenShared" "[I") (by decide +kernel)) (fun _ h9 => h9) rfl dX1_become_133 ?_
  refine lv_iconst (v := 0) hx hb dX1_become_136 (by decide) ?_
  refine lv_bipush (v := 8) hx hb dX1_become_137 (by decide) ?_
  refine va_copyi hx hb (hml.trans hl.1.symm) hown (hts (.methodLink RX1 45 arraycopyName) (by decide +kernel)) (hts (.native arraycopyName) (by decide +kernel)) (hts (.static arraycopyName) (by decide +kernel)) (hts (.initialized "java/lang/System") (by decide +kernel)) hK.1 hP hD hS 15 7 0 0 (ty := .int) rfl rfl rfl rfl rfl (by decide) (by decide) (by decide) (by decide) (by decide) (fun _ _ => rfl) (Nat.le_of_ble_eq_true rfl) (Nat.le_of_ble_eq_true rfl) dX1_become_139 (fun H locs hP hD hS => ?_)
  have hP : va_P D vwCl (cw_X1_become cI cZ o o_purses o_firsts o_seconds o_firstsHad o_secondsHad o_seenSums o_seenShared o_p1 o_p1_purses o_p1_firsts o_p1_seconds o_p1_firstsHad o_p1_secondsHad o_p1_seenSums o_p1_seenShared (1 : Int32) v_p1_people v_p1_lawNumber v_p1_made v_p1_seen (va_cpy a_p1_purses a_purses (Int32.toNatClampNeg (0 : Int32)) (Int32.toNatClampNeg (0 : Int32)) (Int32.toNatClampNeg (8 : Int32))) (va_cpy a_p1_firsts a_firsts (Int32.toNatClampNeg (0 : Int32)) (Int32.toNatClampNeg (0 : Int32)) (Int32.toNatClampNeg (32 : Int32))) (va_cpy a_p1_seconds a_seconds (Int32.toNatClampNeg (0 : Int32)) (Int32.toNatClampNeg (0 : Int32)) (Int32.toNatClampNeg (32 : Int32))) (va_cpy a_p1_firstsHad a_firstsHad (Int32.toNatClampNeg (0 : Int32)) (Int32.toNatClampNeg (0 : Int32)) (Int32.toNatClampNeg (32 : Int32))) (va_cpy a_p1_secondsHad a_secondsHad (Int32.toNatClampNeg (0 : Int32)) (Int32.toNatClampNeg (0 : Int32)) (Int32.toNatClampNeg (32 : Int32))) (va_cpy a_p1_seenSums a_seenSums (Int32.toNatClampNeg (0 : Int32)) (Int32.toNatClampNeg (0 : Int32)) (Int32.toNatClampNeg (8 : Int32))) (va_cpy a_p1_seenShared a_seenShared (Int32.toNatClampNeg (0 : Int32)) (Int32.toNatClampNeg (0 : Int32)) (Int32.toNatClampNeg (8 : Int32))) v_p1_filled v_p1_people v_p1_lawNumber v_p1_made v_p1_seen a_p1_purses a_p1_firsts a_p1_seconds a_p1_firstsHad a_p1_secondsHad a_p1_seenSums a_p1_seenShared) H := hP
  have hD : va_D A (cw_X1_become cI cZ o o_purses o_firsts o_seconds o_firstsHad o_secondsHad o_seenSums o_seenShared o_p1 o_p1_purses o_p1_firsts o_p1_seconds o_p1_firstsHad o_p1_secondsHad o_p1_seenSums o_p1_seenShared (1 : Int32) v_p1_people v_p1_lawNumber v_p1_made v_p1_seen (va_cpy a_p1_purses a_purses (Int32.toNatClampNeg (0 : Int32)) (Int32.toNatClampNeg (0 : Int32)) (Int32.toNatClampNeg (8 : Int32))) (va_cpy a_p1_firsts a_firsts (Int32.toNatClampNeg (0 : Int32)) (Int32.toNatClampNeg (0 : Int32)) (Int32.toNatClampNeg (32 : Int32))) (va_cpy a_p1_seconds a_seconds (Int32.toNatClampNeg (0 : Int32)) (Int32.toNatClampNeg (0 : Int32)) (Int32.toNatClampNeg (32 : Int32))) (va_cpy a_p1_firstsHad a_firstsHad (Int32.toNatClampNeg (0 : Int32)) (Int32.toNatClampNeg (0 : Int32)) (Int32.toNatClampNeg (32 : Int32))) (va_cpy a_p1_secondsHad a_secondsHad (Int32.toNatClampNeg (0 : Int32)) (Int32.toNatClampNeg (0 : Int32)) (Int32.toNatClampNeg (32 : Int32))) (va_cpy a_p1_seenSums a_seenSums (Int32.toNatClampNeg (0 : Int32)) (Int32.toNatClampNeg (0 : Int32)) (Int32.toNatClampNeg (8 : Int32))) (va_cpy a_p1_seenShared a_seenShared (Int32.toNatClampNeg (0 : Int32)) (Int32.toNatClampNeg (0 : Int32)) (Int32.toNatClampNeg (8 : Int32))) v_p1_filled v_p1_people v_p1_lawNumber v_p1_made v_p1_seen a_p1_purses a_p1_firsts a_p1_seconds a_p1_firstsHad a_p1_secondsHad a_p1_seenSums a_p1_seenShared) := hD
  exact ret_v12 hx hb hr hlocks hQ hS (1 : Int32) v_p1_people v_p1_lawNumber v_p1_made v_p1_seen (va_cpy a_p1_purses a_purses (Int32.toNatClampNeg (0 : Int32)) (Int32.toNatClampNeg (0 : Int32)) (Int32.toNatClampNeg (8 : Int32))) (va_cpy a_p1_firsts a_firsts (Int32.toNatClampNeg (0 : Int32)) (Int32.toNatClampNeg (0 : Int32)) (Int32.toNatClampNeg (32 : Int32))) (va_cpy a_p1_seconds a_seconds (Int32.toNatClampNeg (0 : Int32)) (Int32.toNatClampNeg (0 : Int32)) (Int32.toNatClampNeg (32 : Int32))) (va_cpy a_p1_firstsHad a_firstsHad (Int32.toNatClampNeg (0 : Int32)) (Int32.toNatClampNeg (0 : Int32)) (Int32.toNatClampNeg (32 : Int32))) (va_cpy a_p1_secondsHad a_secondsHad (Int32.toNatClampNeg (0 : Int32)) (Int32.toNatClampNeg (0 : Int32)) (Int32.toNatClampNeg (32 : Int32))) (va_cpy a_p1_seenSums a_seenSums (Int32.toNatClampNeg (0 : Int32)) (Int32.toNatClampNeg (0 : Int32)) (Int32.toNatClampNeg (8 : Int32))) (va_cpy a_p1_seenShared a_seenShared (Int32.toNatClampNeg (0 : Int32)) (Int32.toNatClampNeg (0 : Int32)) (Int32.toNatClampNeg (8 : Int32))) hP h dX1_become_142
abbrev rm_X1_addMeeting : Room := { frames := 4, cells := 0, slots := 0, locals := 134 }
abbrev cw_X1_addMeeting (cI cZ : ClassId) (o o_purses o_firsts o_seconds o_firstsHad o_secondsHad o_seenSums o_seenShared : Nat) (v_filled : Int32) (v_people : Int32) (v_lawNumber : Int32) (v_made : Int32) (v_seen : Int32) (a_purses : Nat → Int32) (a_firsts : Nat → Int32) (a_seconds : Nat → Int32) (a_firstsHad : Nat → Int32) (a_secondsHad : Nat → Int32) : va_W := [(o, .inr (1, [.int v_filled, .int v_people, .int v_lawNumber, .ref o_purses, .int v_made, .ref o_firsts, .ref o_seconds, .ref o_firstsHad, .ref o_secondsHad, .int v_seen, .ref o_seenSums, .ref o_seenShared])), (o_purses, .inl (cI, 8, .inl a_purses)), (o_firsts, .inl (cI, 32, .inl a_firsts)), (o_seconds, .inl (cI, 32, .inl a_seconds)), (o_firstsHad, .inl (cI, 32, .inl a_firstsHad)), (o_secondsHad, .inl (cI, 32, .inl a_secondsHad))]
theorem inw_X1_addMeeting_X1 : ∀ w ∈ u_ws RX1 TX1 12, w ∈ wsX1_addMeeting := by decide +kernel
def wp_X1_addMeeting (n1 : Int32) (n2 : Int32) (v_lawNumber : Int32) (v_made : Int32) (a_purses : Nat → Int32) (a_firsts : Nat → Int32) (a_seconds : Nat → Int32) (a_firstsHad : Nat → Int32) (a_secondsHad : Nat → Int32) (Post : (Int32) → (Nat → Int32) → (Nat → Int32) → (Nat → Int32) → (Nat → Int32) → (Nat → Int32) → Prop) : Prop := ((v_made < (32 : Int32) → (vp_in v_made 32 ∧ (vp_in v_made 32 ∧ (vp_in n1 8 ∧ (vp_in v_made 32 ∧ (vp_in n2 8 ∧ (vp_in v_made 32 ∧ (wp_X8_makeMeeting v_lawNumber n1 n2 a_purses (fun (r80 : Int32) (a_purses_80 : Nat → Int32) => (Post (v_made + (1 : Int32)) a_purses_80 (upd a_firsts (Int32.toNatClampNeg v_made) n1) (upd a_seconds (Int32.toNatClampNeg v_made) n2) (upd a_firstsHad (Int32.toNatClampNeg v_made) (a_purses (Int32.toNatClampNeg n1))) (upd a_secondsHad (Int32.toNatClampNeg v_made) (a_purses (Int32.toNatClampNeg n2))))))))))))) ∧ (¬ v_made < (32 : Int32) → (Post v_made a_purses a_firsts a_seconds a_firstsHad a_secondsHad)))
set_option maxHeartbeats 4000000 in
set_option maxRecDepth 100000 in
theorem c_X1_addMeeting (l : Launch) (D : va_G) (cI cZ : ClassId) (o o_purses o_firsts o_seconds o_firstsHad o_secondsHad o_seenSums o_seenShared : Nat) (sz : Nat) (n1 : Int32) (n2 : Int32) (v_filled : Int32) (v_people : Int32) (v_lawNumber : Int32) (v_made : Int32) (v_seen : Int32) (a_purses : Nat → Int32) (a_firsts : Nat → Int32) (a_seconds : Nat → Int32) (a_firstsHad : Nat → Int32) (a_secondsHad : Nat → Int32) (Post : (Int32) → (Nat → Int32) → (Nat → Int32) → (Nat → Int32) → (Nat → Int32) → (Nat → Int32) → Prop) (h : wp_X1_addMeeting n1 n2 v_lawNumber v_made a_purses a_firsts a_seconds a_firstsHad a_secondsHad Post) : Met l yX1_addMeeting wsX1_addMeeting rm_X1_addMeeting (cPc D cI cZ [.ref o, .int n1, .int n2] (cw_X1_addMeeting cI cZ o o_purses o_firsts o_seconds o_firstsHad o_secondsHad o_seenSums o_seenShared v_filled v_people v_lawNumber v_made v_seen a_purses a_firsts a_seconds a_firstsHad a_secondsHad) sz) (cQv6 D Post (fun m_v_made m_a_purses m_a_firsts m_a_seconds m_a_firstsHad m_a_secondsHad => (cw_X1_addMeeting cI cZ o o_purses o_firsts o_seconds o_firstsHad o_secondsHad o_seenSums o_seenShared v_filled v_people v_lawNumber m_v_made v_seen m_a_purses m_a_firsts m_a_seconds m_a_firstsHad m_a_secondsHad)) (va_A (cw_X1_addMeeting cI cZ o o_purses o_firsts o_seconds o_firstsHad o_secondsHad o_seenSums o_seenShared v_filled v_people v_lawNumber v_made v_seen a_purses a_firsts a_seconds a_firstsHad a_secondsHad) sz)) 0 0 (va_A (cw_X1_addMeeting cI cZ o o_purses o_firsts o_seconds o_firstsHad o_secondsHad o_seenSums o_seenShared v_filled v_people v_lawNumber v_made v_seen a_purses a_firsts a_seconds a_firstsHad a_secondsHad) sz) := by
  refine ent (cc := cX1_addMeeting) (maxL := 3) (ret := none) (Qc := fun A => cQv6 D Post (fun m_v_made m_a_purses m_a_firsts m_a_seconds m_a_firstsHad m_a_secondsHad => (cw_X1_addMeeting cI cZ o o_purses o_firsts o_seconds o_firstsHad o_secondsHad o_seenSums o_seenShared v_filled v_people v_lawNumber m_v_made v_seen m_a_purses m_a_firsts m_a_seconds m_a_firstsHad m_a_secondsHad)) A) (by decide) rfl (Nat.le_of_ble_eq_true rfl) ?_
  intro p e s m args below meth c A ls Q hQ hsz hx hb hml hr hts hown hlocks hnm hK hP hD hA hS hl
  have hl : lv_has ls 3 [(0, .ref o), (1, .int n1), (2, .int n2)] := hl
  unfold wp_X1_addMeeting at h
  refine lv_aload_n hx hb dX1_addMeeting_0 rfl (lv_at hl 0 rfl) ?_
  refine va_get (D := D) (ci := 1) (v := .int v_made) (C := RX1) (T := TX1) (N := 12) hx hb hts inw_X1_addMeeting_X1 hown hK.1 hP 0 rfl rfl 4 (by decide) (hts (.fieldLink RX1 51 "PursesShare$Holding" "made" "I") (by decide +kernel)) (fun _ h9 => h9) rfl dX1_addMeeting_1 ?_
  refine lv_bipush (v := 32) hx hb dX1_addMeeting_4 (by decide) ?_
  refine lv_icmp_lt (tgt := 10) hx hb dX1_addMeeting_6 (by decide) (fun c6 => ?_) (fun c6 => ?_)
  · have h := h.1 c6
    refine lv_aload_n hx hb dX1_addMeeting_10 rfl (lv_at hl 0 rfl) ?_
    refine va_get (D := D) (ci := 1) (v := .ref o_firsts) (C := RX1) (T := TX1) (N := 12) hx hb hts inw_X1_addMeeting_X1 hown hK.1 hP 0 rfl rfl 5 (by decide) (hts (.fieldLink RX1 15 "PursesShare$Holding" "firsts" "[I") (by decide +kernel)) (fun _ h9 => h9) rfl dX1_addMeeting_11 ?_
    refine lv_aload_n hx hb dX1_addMeeting_14 rfl (lv_at hl 0 rfl) ?_
    refine va_get (D := D) (ci := 1) (v := .int v_made) (C := RX1) (T := TX1) (N := 12) hx hb hts inw_X1_addMeeting_X1 hown hK.1 hP 0 rfl rfl 4 (by decide) (hts (.fieldLink RX1 51 "PursesShare$Holding" "made" "I") (by decide +kernel)) (fun _ h9 => h9) rfl dX1_addMeeting_15 ?_
    refine lv_iload_n hx hb dX1_addMeeting_18 rfl (lv_at hl 1 rfl) ?_
    have h0 := h.1
    have h := h.2
    refine va_iast hx hb hK.1 hP hD hS 2 0 rfl rfl h0 dX1_addMeeting_19 (fun H locs hP hD hS => ?_)
    have hP : va_P D vwCl (cw_X1_addMeeting cI cZ o o_purses o_firsts o_seconds o_firstsHad o_secondsHad o_seenSums o_seenShared v_filled v_people v_lawNumber v_made v_seen a_purses (upd a_firsts (Int32.toNatClampNeg v_made) n1) a_seconds a_firstsHad a_secondsHad) H := hP
    have hD : va_D A (cw_X1_addMeeting cI cZ o o_purses o_firsts o_seconds o_firstsHad o_secondsHad o_seenSums o_seenShared v_filled v_people v_lawNumber v_made v_seen a_purses (upd a_firsts (Int32.toNatClampNeg v_made) n1) a_seconds a_firstsHad a_secondsHad) := hD
    refine lv_aload_n hx hb dX1_addMeeting_20 rfl (lv_at hl 0 rfl) ?_
    refine va_get (D := D) (ci := 1) (v := .ref o_seconds) (C := RX1) (T := TX1) (N := 12) hx hb hts inw_X1_addMeeting_X1 hown hK.1 hP 0 rfl rfl 6 (by decide) (hts (.fieldLink RX1 18 "PursesShare$Holding" "seconds" "[I") (by decide +kernel)) (fun _ h9 => h9) rfl dX1_addMeeting_21 ?_
    refine lv_aload_n hx hb dX1_addMeeting_24 rfl (lv_at hl 0 rfl) ?_
    refine va_get (D := D) (ci := 1) (v := .int v_made) (C := RX1) (T := TX1) (N := 12) hx hb hts inw_X1_addMeeting_X1 hown hK.1 hP 0 rfl rfl 4 (by decide) (hts (.fieldLink RX1 51 "PursesShare$Holding" "made" "I") (by decide +kernel)) (fun _ h9 => h9) rfl dX1_addMeeting_25 ?_
    refine lv_iload_n hx hb dX1_addMeeting_28 rfl (lv_at hl 2 rfl) ?_
    have h0 := h.1
    have h := h.2
    refine va_iast hx hb hK.1 hP hD hS 3 0 rfl rfl h0 dX1_addMeeting_29 (fun H locs hP hD hS => ?_)
    have hP : va_P D vwCl (cw_X1_addMeeting cI cZ o o_purses o_firsts o_seconds o_firstsHad o_secondsHad o_seenSums o_seenShared v_filled v_people v_lawNumber v_made v_seen a_purses (upd a_firsts (Int32.toNatClampNeg v_made) n1) (upd a_seconds (Int32.toNatClampNeg v_made) n2) a_firstsHad a_secondsHad) H := hP
    have hD : va_D A (cw_X1_addMeeting cI cZ o o_purses o_firsts o_seconds o_firstsHad o_secondsHad o_seenSums o_seenShared v_filled v_people v_lawNumber v_made v_seen a_purses (upd a_firsts (Int32.toNatClampNeg v_made) n1) (upd a_seconds (Int32.toNatClampNeg v_made) n2) a_firstsHad a_secondsHad) := hD
    refine lv_aload_n hx hb dX1_addMeeting_30 rfl (lv_at hl 0 rfl) ?_
    refine va_get (D := D) (ci := 1) (v := .ref o_firstsHad) (C := RX1) (T := TX1) (N := 12) hx hb hts inw_X1_addMeeting_X1 hown hK.1 hP 0 rfl rfl 7 (by decide) (hts (.fieldLink RX1 21 "PursesShare$Holding" "firstsHad" "[I") (by decide +kernel)) (fun _ h9 => h9) rfl dX1_addMeeting_31 ?_
    refine lv_aload_n hx hb dX1_addMeeting_34 rfl (lv_at hl 0 rfl) ?_
    refine va_get (D := D) (ci := 1) (v := .int v_made) (C := RX1) (T := TX1) (N := 12) hx hb hts inw_X1_addMeeting_X1 hown hK.1 hP 0 rfl rfl 4 (by decide) (hts (.fieldLink RX1 51 "PursesShare$Holding" "made" "I") (by decide +kernel)) (fun _ h9 => h9) rfl dX1_addMeeting_35 ?_
    refine lv_aload_n hx hb dX1_addMeeting_38 rfl (lv_at hl 0 rfl) ?_
    refine va_get (D := D) (ci := 1) (v := .ref o_purses) (C := RX1) (T := TX1) (N := 12) hx hb hts inw_X1_addMeeting_X1 hown hK.1 hP 0 rfl rfl 3 (by decide) (hts (.fieldLink RX1 9 "PursesShare$Holding" "purses" "[I") (by decide +kernel)) (fun _ h9 => h9) rfl dX1_addMeeting_39 ?_
    refine lv_iload_n hx hb dX1_addMeeting_42 rfl (lv_at hl 1 rfl) ?_
    have h0 := h.1
    have h := h.2
    refine va_iald hx hb hK.1 hP 1 0 rfl rfl h0 dX1_addMeeting_43 ?_
    have h0 := h.1
    have h := h.2
    refine va_iast hx hb hK.1 hP hD hS 4 0 rfl rfl h0 dX1_addMeeting_44 (fun H locs hP hD hS => ?_)
    have hP : va_P D vwCl (cw_X1_addMeeting cI cZ o o_purses o_firsts o_seconds o_firstsHad o_secondsHad o_seenSums o_seenShared v_filled v_people v_lawNumber v_made v_seen a_purses (upd a_firsts (Int32.toNatClampNeg v_made) n1) (upd a_seconds (Int32.toNatClampNeg v_made) n2) (upd a_firstsHad (Int32.toNatClampNeg v_made) (a_purses (Int32.toNatClampNeg n1))) a_secondsHad) H := hP
    have hD : va_D A (cw_X1_addMeeting cI cZ o o_purses o_firsts o_seconds o_firstsHad o_secondsHad o_seenSums o_seenShared v_filled v_people v_lawNumber v_made v_seen a_purses (upd a_firsts (Int32.toNatClampNeg v_made) n1) (upd a_seconds (Int32.toNatClampNeg v_made) n2) (upd a_firstsHad (Int32.toNatClampNeg v_made) (a_purses (Int32.toNatClampNeg n1))) a_secondsHad) := hD
    refine lv_aload_n hx hb dX1_addMeeting_45 rfl (lv_at hl 0 rfl) ?_
    refine va_get (D := D) (ci := 1) (v := .ref o_secondsHad) (C := RX1) (T := TX1) (N := 12) hx hb hts inw_X1_addMeeting_X1 hown hK.1 hP 0 rfl rfl 8 (by decide) (hts (.fieldLink RX1 24 "PursesShare$Holding" "secondsHad" "[I") (by decide +kernel)) (fun _ h9 => h9) rfl dX1_addMeeting_46 ?_
    refine lv_aload_n hx hb dX1_addMeeting_49 rfl (lv_at hl 0 rfl) ?_
    refine va_get (D := D) (ci := 1) (v := .int v_made) (C := RX1) (T := TX1) (N := 12) hx hb hts inw_X1_addMeeting_X1 hown hK.1 hP 0 rfl rfl 4 (by decide) (hts (.fieldLink RX1 51 "PursesShare$Holding" "made" "I") (by decide +kernel)) (fun _ h9 => h9) rfl dX1_addMeeting_50 ?_
    refine lv_aload_n hx hb dX1_addMeeting_53 rfl (lv_at hl 0 rfl) ?_
    refine va_get (D := D) (ci := 1) (v := .ref o_purses) (C := RX1) (T := TX1) (N := 12) hx hb hts inw_X1_addMeeting_X1 hown hK.1 hP 0 rfl rfl 3 (by decide) (hts (.fieldLink RX1 9 "PursesShare$Holding" "purses" "[I") (by decide +kernel)) (fun _ h9 => h9) rfl dX1_addMeeting_54 ?_
    refine lv_iload_n hx hb dX1_addMeeting_57 rfl (lv_at hl 2 rfl) ?_
    have h0 := h.1
    have h := h.2
    refine va_iald hx hb hK.1 hP 1 0 rfl rfl h0 dX1_addMeeting_58 ?_
    have h0 := h.1
    have h := h.2
    refine va_iast hx hb hK.1 hP hD hS 5 0 rfl rfl h0 dX1_addMeeting_59 (fun H locs hP hD hS => ?_)
    have hP : va_P D vwCl (cw_X1_addMeeting cI cZ o o_purses o_firsts o_seconds o_firstsHad o_secondsHad o_seenSums o_seenShared v_filled v_people v_lawNumber v_made v_seen a_purses (upd a_firsts (Int32.toNatClampNeg v_made) n1) (upd a_seconds (Int32.toNatClampNeg v_made) n2) (upd a_firstsHad (Int32.toNatClampNeg v_made) (a_purses (Int32.toNatClampNeg n1))) (upd a_secondsHad (Int32.toNatClampNeg v_made) (a_purses (Int32.toNatClampNeg n2)))) H := hP
    have hD : va_D A (cw_X1_addMeeting cI cZ o o_purses o_firsts o_seconds o_firstsHad o_secondsHad o_seenSums o_seenShared v_filled v_people v_lawNumber v_made v_seen a_purses (upd a_firsts (Int32.toNatClampNeg v_made) n1) (upd a_seconds (Int32.toNatClampNeg v_made) n2) (upd a_firstsHad (Int32.toNatClampNeg v_made) (a_purses (Int32.toNatClampNeg n1))) (upd a_secondsHad (Int32.toNatClampNeg v_made) (a_purses (Int32.toNatClampNeg n2)))) := hD
    refine lv_aload_n hx hb dX1_addMeeting_60 rfl (lv_at hl 0 rfl) ?_
    refine lv_dup hx hb dX1_addMeeting_61 rfl ?_
    refine va_get (D := D) (ci := 1) (v := .int v_made) (C := RX1) (T := TX1) (N := 12) hx hb hts inw_X1_addMeeting_X1 hown hK.1 hP 0 rfl rfl 4 (by decide) (hts (.fieldLink RX1 51 "PursesShare$Holding" "made" "I") (by decide +kernel)) (fun _ h9 => h9) rfl dX1_addMeeting_62 ?_
    refine lv_iconst (v := 1) hx hb dX1_addMeeting_65 (by decide) ?_
    refine lv_iadd hx hb dX1_addMeeting_66 ?_
    refine va_put (D := D) (ci := 1) (v := .int (v_made + (1 : Int32))) (ty := .int) (C := RX1) (T := TX1) (N := 12) hx hb hts inw_X1_addMeeting_X1 tyX1 tyX1_ok nmX1 hown hK.1 hP hD hS 0 rfl rfl 4 (by decide) (hts (.fieldLink RX1 51 "PursesShare$Holding" "made" "I") (by decide +kernel)) (fun _ h9 => h9) rfl (by decide +kernel) rfl rfl (Nat.le_of_ble_eq_true rfl) dX1_addMeeting_67 (fun H locs hP hD hS => ?_)
    have hP : va_P D vwCl (cw_X1_addMeeting cI cZ o o_purses o_firsts o_seconds o_firstsHad o_secondsHad o_seenSums o_seenShared v_filled v_people v_lawNumber (v_made + (1 : Int32)) v_seen a_purses (upd a_firsts (Int32.toNatClampNeg v_made) n1) (upd a_seconds (Int32.toNatClampNeg v_made) n2) (upd a_firstsHad (Int32.toNatClampNeg v_made) (a_purses (Int32.toNatClampNeg n1))) (upd a_secondsHad (Int32.toNatClampNeg v_made) (a_purses (Int32.toNatClampNeg n2)))) H := hP
    have hD : va_D A (cw_X1_addMeeting cI cZ o o_purses o_firsts o_seconds o_firstsHad o_secondsHad o_seenSums o_seenShared v_filled v_people v_lawNumber (v_made + (1 : Int32)) v_seen a_purses (upd a_firsts (Int32.toNatClampNeg v_made) n1) (upd a_seconds (Int32.toNatClampNeg v_made) n2) (upd a_firstsHad (Int32.toNatClampNeg v_made) (a_purses (Int32.toNatClampNeg n1))) (upd a_secondsHad (Int32.toNatClampNeg v_made) (a_purses (Int32.toNatClampNeg n2)))) := hD
    refine lv_aload_n hx hb dX1_addMeeting_70 rfl (lv_at hl 0 rfl) ?_
    refine va_get (D := D) (ci := 1) (v := .ref o_purses) (C := RX1) (T := TX1) (N := 12) hx hb hts inw_X1_addMeeting_X1 hown hK.1 hP 0 rfl rfl 3 (by decide) (hts (.fieldLink RX1 9 "PursesShare$Holding" "purses" "[I") (by decide +kernel)) (fun _ h9 => h9) rfl dX1_addMeeting_71 ?_
    refine lv_aload_n hx hb dX1_addMeeting_74 rfl (lv_at hl 0 rfl) ?_
    refine va_get (D := D) (ci := 1) (v := .int v_lawNumber) (C := RX1) (T := TX1) (N := 12) hx hb hts inw_X1_addMeeting_X1 hown hK.1 hP 0 rfl rfl 2 (by decide) (hts (.fieldLink RX1 43 "PursesShare$Holding" "lawNumber" "I") (by decide +kernel)) (fun _ h9 => h9) rfl dX1_addMeeting_75 ?_
    refine lv_iload_n hx hb dX1_addMeeting_78 rfl (lv_at hl 1 rfl) ?_
    refine lv_iload_n hx hb dX1_addMeeting_79 rfl (lv_at hl 2 rfl) ?_
    refine call_i1 (va_runSN (As := [.ref o_purses, .int v_lawNumber, .int n1, .int n2]) (rest := []) ⟨hx, hb, hml, hown, hts⟩ (c_X8_makeMeeting l D cI cZ o_purses (Array.size H) v_lawNumber n1 n2 a_purses _ h) ⟨va_cnB (own := RX1) 4 hts gX1_addMeeting_X8_makeMeeting_n61 rfl rfl rfl (nM_13 hK) (hts (.initialized RX8) (by decide +kernel)) (by decide +kernel) ⟨Nat.le_of_ble_eq_true rfl, Nat.le_of_ble_eq_true rfl⟩, hts (.static yX8_makeMeeting) (by decide +kernel), trivial⟩ (preS_of hP hD hK [1] rfl rfl) rfl rfl hl.1 rfl (lv_room (Nat.le_of_ble_eq_true rfl)) dX1_addMeeting_80 ⟨Nat.zero_le _, Nat.zero_le _⟩) hP hD hS hA [1] rfl (fun a_purses_80 => (cw_X1_addMeeting cI cZ o o_purses o_firsts o_seconds o_firstsHad o_secondsHad o_seenSums o_seenShared v_filled v_people v_lawNumber (v_made + (1 : Int32)) v_seen a_purses_80 (upd a_firsts (Int32.toNatClampNeg v_made) n1) (upd a_seconds (Int32.toNatClampNeg v_made) n2) (upd a_firstsHad (Int32.toNatClampNeg v_made) (a_purses (Int32.toNatClampNeg n1))) (upd a_secondsHad (Int32.toNatClampNeg v_made) (a_purses (Int32.toNatClampNeg n2))))) (fun _ => rfl) (fun _ => rfl) (fun r80 a_purses_80 H locs h hP hD hS => ?_)
    refine lv_pop hx hb dX1_addMeeting_83 rfl ?_
    exact ret_v6 hx hb hr hlocks hQ hS (v_made + (1 : Int32)) a_purses_80 (upd a_firsts (Int32.toNatClampNeg v_made) n1) (upd a_seconds (Int32.toNatClampNeg v_made) n2) (upd a_firstsHad (Int32.toNatClampNeg v_made) (a_purses (Int32.toNatClampNeg n1))) (upd a_secondsHad (Int32.toNatClampNeg v_made) (a_purses (Int32.toNatClampNeg n2))) hP h dX1_addMeeting_84
  · have h := h.2 c6
    exact ret_v6 hx hb hr hlocks hQ hS v_made a_purses a_firsts a_seconds a_firstsHad a_secondsHad hP h dX1_addMeeting_9
abbrev rm_X1_takeBack : Room := { frames := 0, cells := 0, slots := 0, locals := 0 }
abbrev cw_X1_takeBack (cI cZ : ClassId) (o o_purses o_firsts o_seconds o_firstsHad o_secondsHad o_seenSums o_seenShared : Nat) (v_filled : Int32) (v_people : Int32) (v_lawNumber : Int32) (v_made : Int32) (v_seen : Int32) (a_purses : Nat → Int32) (a_firsts : Nat → Int32) (a_seconds : Nat → Int32) (a_firstsHad : Nat → Int32) (a_secondsHad : Nat → Int32) : va_W := [(o, .inr (1, [.int v_filled, .int v_people, .int v_lawNumber, .ref o_purses, .int v_made, .ref o_firsts, .ref o_seconds, .ref o_firstsHad, .ref o_secondsHad, .int v_seen, .ref o_seenSums, .ref o_seenShared])), (o_purses, .inl (cI, 8, .inl a_purses)), (o_firsts, .inl (cI, 32, .inl a_firsts)), (o_seconds, .inl (cI, 32, .inl a_seconds)), (o_firstsHad, .inl (cI, 32, .inl a_firstsHad)), (o_secondsHad, .inl (cI, 32, .inl a_secondsHad))]
theorem inw_X1_takeBack_X1 : ∀ w ∈ u_ws RX1 TX1 12, w ∈ wsX1_takeBack := by decide +kernel
def wp_X1_takeBack (v_made : Int32) (a_purses : Nat → Int32) (a_firsts : Nat → Int32) (a_seconds : Nat → Int32) (a_firstsHad : Nat → Int32) (a_secondsHad : Nat → Int32) (Post : (Int32) → (Nat → Int32) → Prop) : Prop := (((1 : Int32) ≤ v_made → (vp_in (v_made - (1 : Int32)) 32 ∧ (vp_in (v_made - (1 : Int32)) 32 ∧ (vp_in (a_firsts (Int32.toNatClampNeg (v_made - (1 : Int32)))) 8 ∧ (vp_in (v_made - (1 : Int32)) 32 ∧ (vp_in (v_made - (1 : Int32)) 32 ∧ (vp_in (a_seconds (Int32.toNatClampNeg (v_made - (1 : Int32)))) 8 ∧ (Post (v_made - (1 : Int32)) (upd (upd a_purses (Int32.toNatClampNeg (a_firsts (Int32.toNatClampNeg (v_made - (1 : Int32))))) (a_firstsHad (Int32.toNatClampNeg (v_made - (1 : Int32))))) (Int32.toNatClampNeg (a_seconds (Int32.toNatClampNeg (v_made - (1 : Int32))))) (a_secondsHad (Int32.toNatClampNeg (v_made - (1 : Int32))))))))))))) ∧ (¬ (1 : Int32) ≤ v_made → (Post v_made a_purses)))
set_option maxHeartbeats 4000000 in
set_option maxRecDepth 100000 in
theorem c_X1_takeBack (l : Launch) (D : va_G) (cI cZ : ClassId) (o o_purses o_firsts o_seconds o_firstsHad o_secondsHad o_seenSums o_seenShared : Nat) (sz : Nat) (v_filled : Int32) (v_people : Int32) (v_lawNumber : Int32) (v_made : Int32) (v_seen : Int32) (a_purses : Nat → Int32) (a_firsts : Nat → Int32) (a_seconds : Nat → Int32) (a_firstsHad : Nat → Int32) (a_secondsHad : Nat → Int32) (Post : (Int32) → (Nat → Int32) → Prop) (h : wp_X1_takeBack v_made a_purses a_firsts a_seconds a_firstsHad a_secondsHad Post) : Met l yX1_takeBack wsX1_takeBack rm_X1_takeBack (cPc D cI cZ [.ref o] (cw_X1_takeBack cI cZ o o_purses o_firsts o_seconds o_firstsHad o_secondsHad o_seenSums o_seenShared v_filled v_people v_lawNumber v_made v_seen a_purses a_firsts a_seconds a_firstsHad a_secondsHad) sz) (cQv2 D Post (fun m_v_made m_a_purses => (cw_X1_takeBack cI cZ o o_purses o_firsts o_seconds o_firstsHad o_secondsHad o_seenSums o_seenShared v_filled v_people v_lawNumber m_v_made v_seen m_a_purses a_firsts a_seconds a_firstsHad a_secondsHad)) (va_A (cw_X1_takeBack cI cZ o o_purses o_firsts o_seconds o_firstsHad o_secondsHad o_seenSums o_seenShared v_filled v_people v_lawNumber v_made v_seen a_purses a_firsts a_seconds a_firstsHad a_secondsHad) sz)) 0 0 (va_A (cw_X1_takeBack cI cZ o o_purses o_firsts o_seconds o_firstsHad o_secondsHad o_seenSums o_seenShared v_filled v_people v_lawNumber v_made v_seen a_purses a_firsts a_seconds a_firstsHad a_secondsHad) sz) := by
  refine ent (cc := cX1_takeBack) (maxL := 1) (ret := none) (Qc := fun A => cQv2 D Post (fun m_v_made m_a_purses => (cw_X1_takeBack cI cZ o o_purses o_firsts o_seconds o_firstsHad o_secondsHad o_seenSums o_seenShared v_filled v_people v_lawNumber m_v_made v_seen m_a_purses a_firsts a_seconds a_firstsHad a_secondsHad)) A) (by decide) rfl (Nat.le_of_ble_eq_true rfl) ?_
  intro p e s m args below meth c A ls Q hQ hsz hx hb hml hr hts hown hlocks hnm hK hP hD hA hS hl
  have hl : lv_has ls 1 [(0, .ref o)] := hl
  unfold wp_X1_takeBack at h
  refine lv_aload_n hx hb dX1_takeBack_0 rfl (lv_at hl 0 rfl) ?_
  refine va_get (D := D) (ci := 1) (v := .int v_made) (C := RX1) (T := TX1) (N := 12) hx hb hts inw_X1_takeBack_X1 hown hK.1 hP 0 rfl rfl 4 (by decide) (hts (.fieldLink RX1 51 "PursesShare$Holding" "made" "I") (by decide +kernel)) (fun _ h9 => h9) rfl dX1_takeBack_1 ?_
  refine lv_iconst (v := 1) hx hb dX1_takeBack_4 (by decide) ?_
  refine lv_icmp_ge (tgt := 9) hx hb dX1_takeBack_5 (by decide) (fun c5 => ?_) (fun c5 => ?_)
  · have h := h.1 c5
    refine lv_aload_n hx hb dX1_takeBack_9 rfl (lv_at hl 0 rfl) ?_
    refine lv_dup hx hb dX1_takeBack_10 rfl ?_
    refine va_get (D := D) (ci := 1) (v := .int v_made) (C := RX1) (T := TX1) (N := 12) hx hb hts inw_X1_takeBack_X1 hown hK.1 hP 0 rfl rfl 4 (by decide) (hts (.fieldLink RX1 51 "PursesShare$Holding" "made" "I") (by decide +kernel)) (fun _ h9 => h9) rfl dX1_takeBack_11 ?_
    refine lv_iconst (v := 1) hx hb dX1_takeBack_14 (by decide) ?_
    refine lv_isub hx hb dX1_takeBack_15 ?_
    refine va_put (D := D) (ci := 1) (v := .int (v_made - (1 : Int32))) (ty := .int) (C := RX1) (T := TX1) (N := 12) hx hb hts inw_X1_takeBack_X1 tyX1 tyX1_ok nmX1 hown hK.1 hP hD hS 0 rfl rfl 4 (by decide) (hts (.fieldLink RX1 51 "PursesShare$Holding" "made" "I") (by decide +kernel)) (fun _ h9 => h9) rfl (by decide +kernel) rfl rfl (Nat.le_of_ble_eq_true rfl) dX1_takeBack_16 (fun H locs hP hD hS => ?_)
    have hP : va_P D vwCl (cw_X1_takeBack cI cZ o o_purses o_firsts o_seconds o_firstsHad o_secondsHad o_seenSums o_seenShared v_filled v_people v_lawNumber (v_made - (1 : Int32)) v_seen a_purses a_firsts a_seconds a_firstsHad a_secondsHad) H := hP
    have hD : va_D A (cw_X1_takeBack cI cZ o o_purses o_firsts o_seconds o_firstsHad o_secondsHad o_seenSums o_seenShared v_filled v_people v_lawNumber (v_made - (1 : Int32)) v_seen a_purses a_firsts a_seconds a_firstsHad a_secondsHad) := hD
    refine lv_aload_n hx hb dX1_takeBack_19 rfl (lv_at hl 0 rfl) ?_
    refine va_get (D := D) (ci := 1) (v := .ref o_purses) (C := RX1) (T := TX1) (N := 12) hx hb hts inw_X1_takeBack_X1 hown hK.1 hP 0 rfl rfl 3 (by decide) (hts (.fieldLink RX1 9 "PursesShare$Holding" "purses" "[I") (by decide +kernel)) (fun _ h9 => h9) rfl dX1_takeBack_20 ?_
    refine lv_aload_n hx hb dX1_takeBack_23 rfl (lv_at hl 0 rfl) ?_
    refine va_get (D := D) (ci := 1) (v := .ref o_firsts) (C := RX1) (T := TX1) (N := 12) hx hb hts inw_X1_takeBack_X1 hown hK.1 hP 0 rfl rfl 5 (by decide) (hts (.fieldLink RX1 15 "PursesShare$Holding" "firsts" "[I") (by decide +kernel)) (fun _ h9 => h9) rfl dX1_takeBack_24 ?_
    refine lv_aload_n hx hb dX1_takeBack_27 rfl (lv_at hl 0 rfl) ?_
    refine va_get (D := D) (ci := 1) (v := .int (v_made - (1 : Int32))) (C := RX1) (T := TX1) (N := 12) hx hb hts inw_X1_takeBack_X1 hown hK.1 hP 0 rfl rfl 4 (by decide) (hts (.fieldLink RX1 51 "PursesShare$Holding" "made" "I") (by decide +kernel)) (fun _ h9 => h9) rfl dX1_takeBack_28 ?_
    have h0 := h.1
    have h := h.2
    refine va_iald hx hb hK.1 hP 2 0 rfl rfl h0 dX1_takeBack_31 ?_
    refine lv_aload_n hx hb dX1_takeBack_32 rfl (lv_at hl 0 rfl) ?_
    refine va_get (D := D) (ci := 1) (v := .ref o_firstsHad) (C := RX1) (T := TX1) (N := 12) hx hb hts inw_X1_takeBack_X1 hown hK.1 hP 0 rfl rfl 7 (by decide) (hts (.fieldLink RX1 21 "PursesShare$Holding" "firstsHad" "[I") (by decide +kernel)) (fun _ h9 => h9) rfl dX1_takeBack_33 ?_
    refine lv_aload_n hx hb dX1_takeBack_36 rfl (lv_at hl 0 rfl) ?_
    refine va_get (D := D) (ci := 1) (v := .int (v_made - (1 : Int32))) (C := RX1) (T := TX1) (N := 12) hx hb hts inw_X1_takeBack_X1 hown hK.1 hP 0 rfl rfl 4 (by decide) (hts (.fieldLink RX1 51 "PursesShare$Holding" "made" "I") (by decide +kernel)) (fun _ h9 => h9) rfl dX1_takeBack_37 ?_
    have h0 := h.1
    have h := h.2
    refine va_iald hx hb hK.1 hP 4 0 rfl rfl h0 dX1_takeBack_40 ?_
    have h0 := h.1
    have h := h.2
    refine va_iast hx hb hK.1 hP hD hS 1 0 rfl rfl h0 dX1_takeBack_41 (fun H locs hP hD hS => ?_)
    have hP : va_P D vwCl (cw_X1_takeBack cI cZ o o_purses o_firsts o_seconds o_firstsHad o_secondsHad o_seenSums o_seenShared v_filled v_people v_lawNumber (v_made - (1 : Int32)) v_seen (upd a_purses (Int32.toNatClampNeg (a_firsts (Int32.toNatClampNeg (v_made - (1 : Int32))))) (a_firstsHad (Int32.toNatClampNeg (v_made - (1 : Int32))))) a_firsts a_seconds a_firstsHad a_secondsHad) H := hP
    have hD : va_D A (cw_X1_takeBack cI cZ o o_purses o_firsts o_seconds o_firstsHad o_secondsHad o_seenSums o_seenShared v_filled v_people v_lawNumber (v_made - (1 : Int32)) v_seen (upd a_purses (Int32.toNatClampNeg (a_firsts (Int32.toNatClampNeg (v_made - (1 : Int32))))) (a_firstsHad (Int32.toNatClampNeg (v_made - (1 : Int32))))) a_firsts a_seconds a_firstsHad a_secondsHad) := hD
    refine lv_aload_n hx hb dX1_takeBack_42 rfl (lv_at hl 0 rfl) ?_
    refine va_get (D := D) (ci := 1) (v := .ref o_purses) (C := RX1) (T := TX1) (N := 12) hx hb hts inw_X1_takeBack_X1 hown hK.1 hP 0 rfl rfl 3 (by decide) (hts (.fieldLink RX1 9 "PursesShare$Holding" "purses" "[I") (by decide +kernel)) (fun _ h9 => h9) rfl dX1_takeBack_43 ?_
    refine lv_aload_n hx hb dX1_takeBack_46 rfl (lv_at hl 0 rfl) ?_
    refine va_get (D := D) (ci := 1) (v := .ref o_seconds) (C := RX1) (T := TX1) (N := 12) hx hb hts inw_X1_takeBack_X1 hown hK.1 hP 0 rfl rfl 6 (by decide) (hts (.fieldLink RX1 18 "PursesShare$Holding" "seconds" "[I") (by decide +kernel)) (fun _ h9 => h9) rfl dX1_takeBack_47 ?_
    refine lv_aload_n hx hb dX1_takeBack_50 rfl (lv_at hl 0 rfl) ?_
    refine va_get (D := D) (ci := 1) (v := .int (v_made - (1 : Int32))) (C := RX1) (T := TX1) (N := 12) hx hb hts inw_X1_takeBack_X1 hown hK.1 hP 0 rfl rfl 4 (by decide) (hts (.fieldLink RX1 51 "PursesShare$Holding" "made" "I") (by decide +kernel)) (fun _ h9 => h9) rfl dX1_takeBack_51 ?_
    have h0 := h.1
    have h := h.2
    refine va_iald hx hb hK.1 hP 3 0 rfl rfl h0 dX1_takeBack_54 ?_
    refine lv_aload_n hx hb dX1_takeBack_55 rfl (lv_at hl 0 rfl) ?_
    refine va_get (D := D) (ci := 1) (v := .ref o_secondsHad) (C := RX1) (T := TX1) (N := 12) hx hb hts inw_X1_takeBack_X1 hown hK.1 hP 0 rfl rfl 8 (by decide) (hts (.fieldLink RX1 24 "PursesShare$Holding" "secondsHad" "[I") (by decide +kernel)) (fun _ h9 => h9) rfl dX1_takeBack_56 ?_
    refine lv_aload_n hx hb dX1_takeBack_59 rfl (lv_at hl 0 rfl) ?_
    refine va_get (D := D) (ci := 1) (v := .int (v_made - (1 : Int32))) (C := RX1) (T := TX1) (N := 12) hx hb hts inw_X1_takeBack_X1 hown hK.1 hP 0 rfl rfl 4 (by decide) (hts (.fieldLink RX1 51 "PursesShare$Holding" "made" "I") (by decide +kernel)) (fun _ h9 => h9) rfl dX1_takeBack_60 ?_
    have h0 := h.1
    have h := h.2
    refine va_iald hx hb hK.1 hP 5 0 rfl rfl h0 dX1_takeBack_63 ?_
    have h0 := h.1
    have h := h.2
    refine va_iast hx hb hK.1 hP hD hS 1 0 rfl rfl h0 dX1_takeBack_64 (fun H locs hP hD hS => ?_)
    have hP : va_P D vwCl (cw_X1_takeBack cI cZ o o_purses o_firsts o_seconds o_firstsHad o_secondsHad o_seenSums o_seenShared v_filled v_people v_lawNumber (v_made - (1 : Int32)) v_seen (upd (upd a_purses (Int32.toNatClampNeg (a_firsts (Int32.toNatClampNeg (v_made - (1 : Int32))))) (a_firstsHad (Int32.toNatClampNeg (v_made - (1 : Int32))))) (Int32.toNatClampNeg (a_seconds (Int32.toNatClampNeg (v_made - (1 : Int32))))) (a_secondsHad (Int32.toNatClampNeg (v_made - (1 : Int32))))) a_firsts a_seconds a_firstsHad a_secondsHad) H := hP
    have hD : va_D A (cw_X1_takeBack cI cZ o o_purses o_firsts o_seconds o_firstsHad o_secondsHad o_seenSums o_seenShared v_filled v_people v_lawNumber (v_made - (1 : Int32)) v_seen (upd (upd a_purses (Int32.toNatClampNeg (a_firsts (Int32.toNatClampNeg (v_made - (1 : Int32))))) (a_firstsHad (Int32.toNatClampNeg (v_made - (1 : Int32))))) (Int32.toNatClampNeg (a_seconds (Int32.toNatClampNeg (v_made - (1 : Int32))))) (a_secondsHad (Int32.toNatClampNeg (v_made - (1 : Int32))))) a_firsts a_seconds a_firstsHad a_secondsHad) := hD
    exact ret_v2 hx hb hr hlocks hQ hS (v_made - (1 : Int32)) (upd (upd a_purses (Int32.toNatClampNeg (a_firsts (Int32.toNatClampNeg (v_made - (1 : Int32))))) (a_firstsHad (Int32.toNatClampNeg (v_made - (1 : Int32))))) (Int32.toNatClampNeg (a_seconds (Int32.toNatClampNeg (v_made - (1 : Int32))))) (a_secondsHad (Int32.toNatClampNeg (v_made - (1 : Int32))))) hP h dX1_takeBack_65
  · have h := h.2 c5
    exact ret_v2 hx hb hr hlocks hQ hS v_made a_purses hP h dX1_takeBack_8
abbrev rm_X1_addSeen : Room := { frames := 0, cells := 0, slots := 0, locals := 0 }
abbrev cw_X1_addSeen (cI cZ : ClassId) (o o_purses o_firsts o_seconds o_firstsHad o_secondsHad o_seenSums o_seenShared : Nat) (v_filled : Int32) (v_people : Int32) (v_lawNumber : Int32) (v_made : Int32) (v_seen : Int32) (a_seenSums : Nat → Int32) (a_seenShared : Nat → Int32) : va_W := [(o, .inr (1, [.int v_filled, .int v_people, .int v_lawNumber, .ref o_purses, .int v_made, .ref o_firsts, .ref o_seconds, .ref o_firstsHad, .ref o_secondsHad, .int v_seen, .ref o_seenSums, .ref o_seenShared])), (o_seenSums, .inl (cI, 8, .inl a_seenSums)), (o_seenShared, .inl (cI, 8, .inl a_seenShared))]
theorem inw_X1_addSeen_X1 : ∀ w ∈ u_ws RX1 TX1 12, w ∈ wsX1_addSeen := by decide +kernel
def wp_X1_addSeen (n1 : Int32) (n2 : Int32) (v_seen : Int32) (a_seenSums : Nat → Int32) (a_seenShared : Nat → Int32) (Post : (Int32) → (Nat → Int32) → (Nat → Int32) → Prop) : Prop := ((v_seen < (8 : Int32) → (vp_in v_seen 8 ∧ (vp_in v_seen 8 ∧ (Post (v_seen + (1 : Int32)) (upd a_seenSums (Int32.toNatClampNeg v_seen) n1) (upd a_seenShared (Int32.toNatClampNeg v_seen) n2))))) ∧ (¬ v_seen < (8 : Int32) → (Post v_seen a_seenSums a_seenShared)))
set_option maxHeartbeats 4000000 in
set_option maxRecDepth 100000 in
theorem c_X1_addSeen (l : Launch) (D : va_G) (cI cZ : ClassId) (o o_purses o_firsts o_seconds o_firstsHad o_secondsHad o_seenSums o_seenShared : Nat) (sz : Nat) (n1 : Int32) (n2 : Int32) (v_filled : Int32) (v_people : Int32) (v_lawNumber : Int32) (v_made : Int32) (v_seen : Int32) (a_seenSums : Nat → Int32) (a_seenShared : Nat → Int32) (Post : (Int32) → (Nat → Int32) → (Nat → Int32) → Prop) (h : wp_X1_addSeen n1 n2 v_seen a_seenSums a_seenShared Post) : Met l yX1_addSeen wsX1_addSeen rm_X1_addSeen (cPc D cI cZ [.ref o, .int n1, .int n2] (cw_X1_addSeen cI cZ o o_purses o_firsts o_seconds o_firstsHad o_secondsHad o_seenSums o_seenShared v_filled v_people v_lawNumber v_made v_seen a_seenSums a_seenShared) sz) (cQv3 D Post (fun m_v_seen m_a_seenSums m_a_seenShared => (cw_X1_addSeen cI cZ o o_purses o_firsts o_seconds o_firstsHad o_secondsHad o_seenSums o_seenShared v_filled v_people v_lawNumber v_made m_v_seen m_a_seenSums m_a_seenShared)) (va_A (cw_X1_addSeen cI cZ o o_purses o_firsts o_seconds o_firstsHad o_secondsHad o_seenSums o_seenShared v_filled v_people v_lawNumber v_made v_seen a_seenSums a_seenShared) sz)) 0 0 (va_A (cw_X1_addSeen cI cZ o o_purses o_firsts o_seconds o_firstsHad o_secondsHad o_seenSums o_seenShared v_filled v_people v_lawNumber v_made v_seen a_seenSums a_seenShared) sz) := by
  refine ent (cc := cX1_addSeen) (maxL := 3) (ret := none) (Qc := fun A => cQv3 D Post (fun m_v_seen m_a_seenSums m_a_seenShared => (cw_X1_addSeen cI cZ o o_purses o_firsts o_seconds o_firstsHad o_secondsHad o_seenSums o_seenShared v_filled v_people v_lawNumber v_made m_v_seen m_a_seenSums m_a_seenShared)) A) (by decide) rfl (Nat.le_of_ble_eq_true rfl) ?_
  intro p e s m args below meth c A ls Q hQ hsz hx hb hml hr hts hown hlocks hnm hK hP hD hA hS hl
  have hl : lv_has ls 3 [(0, .ref o), (1, .int n1), (2, .int n2)] := hl
  unfold wp_X1_addSeen at h
  refine lv_aload_n hx hb dX1_addSeen_0 rfl (lv_at hl 0 rfl) ?_
  refine va_get (D := D) (ci := 1) (v := .int v_seen) (C := RX1) (T := TX1) (N := 12) hx hb hts inw_X1_addSeen_X1 hown hK.1 hP 0 rfl rfl 9 (by decide) (hts (.fieldLink RX1 54 "PursesShare$Holding" "seen" "I") (by decide +kernel)) (fun _ h9 => h9) rfl dX1_addSeen_1 ?_
  refine lv_bipush (v := 8) hx hb dX1_addSeen_4 (by decide) ?_
  refine lv_icmp_lt (tgt := 10) hx hb dX1_addSeen_6 (by decide) (fun c6 => ?_) (fun c6 => ?_)
  · have h := h.1 c6
    refine lv_aload_n hx hb dX1_addSeen_10 rfl (lv_at hl 0 rfl) ?_
    refine va_get (D := D) (ci := 1) (v := .ref o_seenSums) (C := RX1) (T := TX1) (N := 12) hx hb hts inw_X1_addSeen_X1 hown hK.1 hP 0 rfl rfl 10 (by decide) (hts (.fieldLink RX1 27 "PursesShare$Holding" "seenSums" "[I") (by decide +kernel)) (fun _ h9 => h9) rfl dX1_addSeen_11 ?_
    refine lv_aload_n hx hb dX1_addSeen_14 rfl (lv_at hl 0 rfl) ?_
    refine va_get (D := D) (ci := 1) (v := .int v_seen) (C := RX1) (T := TX1) (N := 12) hx hb hts inw_X1_addSeen_X1 hown hK.1 hP 0 rfl rfl 9 (by decide) (hts (.fieldLink RX1 54 "PursesShare$Holding" "seen" "I") (by decide +kernel)) (fun _ h9 => h9) rfl dX1_addSeen_15 ?_
    refine lv_iload_n hx hb dX1_addSeen_18 rfl (lv_at hl 1 rfl) ?_
    have h0 := h.1
    have h := h.2
    refine va_iast hx hb hK.1 hP hD hS 1 0 rfl rfl h0 dX1_addSeen_19 (fun H locs hP hD hS => ?_)
    have hP : va_P D vwCl (cw_X1_addSeen cI cZ o o_purses o_firsts o_seconds o_firstsHad o_secondsHad o_seenSums o_seenShared v_filled v_people v_lawNumber v_made v_seen (upd a_seenSums (Int32.toNatClampNeg v_seen) n1) a_seenShared) H := hP
    have hD : va_D A (cw_X1_addSeen cI cZ o o_purses o_firsts o_seconds o_firstsHad o_secondsHad o_seenSums o_seenShared v_filled v_people v_lawNumber v_made v_seen (upd a_seenSums (Int32.toNatClampNeg v_seen) n1) a_seenShared) := hD
    refine lv_aload_n hx hb dX1_addSeen_20 rfl (lv_at hl 0 rfl) ?_
    refine va_get (D := D) (ci := 1) (v := .ref o_seenShared) (C := RX1) (T := TX1) (N := 12) hx hb hts inw_X1_addSeen_X1 hown hK.1 hP 0 rfl rfl 11 (by decide) (hts (.fieldLink RX1 30 "PursesShare$Holding" "seenShared" "[I") (by decide +kernel)) (fun _ h9 => h9) rfl dX1_addSeen_21 ?_
    refine lv_aload_n hx hb dX1_addSeen_24 rfl (lv_at hl 0 rfl) ?_
    refine va_get (D := D) (ci := 1) (v := .int v_seen) (C := RX1) (T := TX1) (N := 12) hx hb hts inw_X1_addSeen_X1 hown hK.1 hP 0 rfl rfl 9 (by decide) (hts (.fieldLink RX1 54 "PursesShare$Holding" "seen" "I") (by decide +kernel)) (fun _ h9 => h9) rfl dX1_addSeen_25 ?_
    refine lv_iload_n hx hb dX1_addSeen_28 rfl (lv_at hl 2 rfl) ?_
    have h0 := h.1
    have h := h.2
    refine va_iast hx hb hK.1 hP hD hS 2 0 rfl rfl h0 dX1_addSeen_29 (fun H locs hP hD hS => ?_)
    have hP : va_P D vwCl (cw_X1_addSeen cI cZ o o_purses o_firsts o_seconds o_firstsHad o_secondsHad o_seenSums o_seenShared v_filled v_people v_lawNumber v_made v_seen (upd a_seenSums (Int32.toNatClampNeg v_seen) n1) (upd a_seenShared (Int32.toNatClampNeg v_seen) n2)) H := hP
    have hD : va_D A (cw_X1_addSeen cI cZ o o_purses o_firsts o_seconds o_firstsHad o_secondsHad o_seenSums o_seenShared v_filled v_people v_lawNumber v_made v_seen (upd a_seenSums (Int32.toNatClampNeg v_seen) n1) (upd a_seenShared (Int32.toNatClampNeg v_seen) n2)) := hD
    refine lv_aload_n hx hb dX1_addSeen_30 rfl (lv_at hl 0 rfl) ?_
    refine lv_dup hx hb dX1_addSeen_31 rfl ?_
    refine va_get (D := D) (ci := 1) (v := .int v_seen) (C := RX1) (T := TX1) (N := 12) hx hb hts inw_X1_addSeen_X1 hown hK.1 hP 0 rfl rfl 9 (by decide) (hts (.fieldLink RX1 54 "PursesShare$Holding" "seen" "I") (by decide +kernel)) (fun _ h9 => h9) rfl dX1_addSeen_32 ?_
    refine lv_iconst (v := 1) hx hb dX1_addSeen_35 (by decide) ?_
    refine lv_iadd hx hb dX1_addSeen_36 ?_
    refine va_put (D := D) (ci := 1) (v := .int (v_seen + (1 : Int32))) (ty := .int) (C := RX1) (T := TX1) (N := 12) hx hb hts inw_X1_addSeen_X1 tyX1 tyX1_ok nmX1 hown hK.1 hP hD hS 0 rfl rfl 9 (by decide) (hts (.fieldLink RX1 54 "PursesShare$Holding" "seen" "I") (by decide +kernel)) (fun _ h9 => h9) rfl (by decide +kernel) rfl rfl (Nat.le_of_ble_eq_true rfl) dX1_addSeen_37 (fun H locs hP hD hS => ?_)
    have hP : va_P D vwCl (cw_X1_addSeen cI cZ o o_purses o_firsts o_seconds o_firstsHad o_secondsHad o_seenSums o_seenShared v_filled v_people v_lawNumber v_made (v_seen + (1 : Int32)) (upd a_seenSums (Int32.toNatClampNeg v_seen) n1) (upd a_seenShared (Int32.toNatClampNeg v_seen) n2)) H := hP
    have hD : va_D A (cw_X1_addSeen cI cZ o o_purses o_firsts o_seconds o_firstsHad o_secondsHad o_seenSums o_seenShared v_filled v_people v_lawNumber v_made (v_seen + (1 : Int32)) (upd a_seenSums (Int32.toNatClampNeg v_seen) n1) (upd a_seenShared (Int32.toNatClampNeg v_seen) n2)) := hD
    exact ret_v3 hx hb hr hlocks hQ hS (v_seen + (1 : Int32)) (upd a_seenSums (Int32.toNatClampNeg v_seen) n1) (upd a_seenShared (Int32.toNatClampNeg v_seen) n2) hP h dX1_addSeen_40
  · have h := h.2 c6
    exact ret_v3 hx hb hr hlocks hQ hS v_seen a_seenSums a_seenShared hP h dX1_addSeen_9
abbrev rm_X1_sumOfPurses : Room := { frames := 0, cells := 0, slots := 0, locals := 0 }
abbrev cw_X1_sumOfPurses (cI cZ : ClassId) (o o_purses o_firsts o_seconds o_firstsHad o_secondsHad o_seenSums o_seenShared : Nat) (v_filled : Int32) (v_people : Int32) (v_lawNumber : Int32) (v_made : Int32) (v_seen : Int32) (a_purses : Nat → Int32) : va_W := [(o, .inr (1, [.int v_filled, .int v_people, .int v_lawNumber, .ref o_purses, .int v_made, .ref o_firsts, .ref o_seconds, .ref o_firstsHad, .ref o_secondsHad, .int v_seen, .ref o_seenSums, .ref o_seenShared])), (o_purses, .inl (cI, 8, .inl a_purses))]
theorem inw_X1_sumOfPurses_X1 : ∀ w ∈ u_ws RX1 TX1 12, w ∈ wsX1_sumOfPurses := by decide +kernel
def wp_X1_sumOfPurses (v_people : Int32) (a_purses : Nat → Int32) (Post : Int32 → Prop) : Prop := (∀ k4 : (Int32) → (Int32) → Prop, (∀ (x2_4 : Int32) (x1_4 : Int32), ((v_people ≤ x2_4 → (Post x1_4)) ∧ (¬ v_people ≤ x2_4 → (vp_in x2_4 8 ∧ (k4 (x2_4 + 1) (x1_4 + (a_purses (Int32.toNatClampNeg x2_4))))))) → k4 x2_4 x1_4) → k4 (0 : Int32) (0 : Int32))
set_option maxHeartbeats 4000000 in
set_option maxRecDepth 100000 in
theorem c_X1_sumOfPurses (l : Launch) (D : va_G) (cI cZ : ClassId) (o o_purses o_firsts o_seconds o_firstsHad o_secondsHad o_seenSums o_seenShared : Nat) (sz : Nat) (v_filled : Int32) (v_people : Int32) (v_lawNumber : Int32) (v_made : Int32) (v_seen : Int32) (a_purses : Nat → Int32) (Post : Int32 → Prop) (h : wp_X1_sumOfPurses v_people a_purses Post) : Met l yX1_sumOfPurses wsX1_sumOfPurses rm_X1_sumOfPurses (cPc D cI cZ [.ref o] (cw_X1_sumOfPurses cI cZ o o_purses o_firsts o_seconds o_firstsHad o_secondsHad o_seenSums o_seenShared v_filled v_people v_lawNumber v_made v_seen a_purses) sz) (cQi0 D Post ((cw_X1_sumOfPurses cI cZ o o_purses o_firsts o_seconds o_firstsHad o_secondsHad o_seenSums o_seenShared v_filled v_people v_lawNumber v_made v_seen a_purses)) (va_A (cw_X1_sumOfPurses cI cZ o o_purses o_firsts o_seconds o_firstsHad o_secondsHad o_seenSums o_seenShared v_filled v_people v_lawNumber v_made v_seen a_purses) sz)) 0 0 (va_A (cw_X1_sumOfPurses cI cZ o o_purses o_firsts o_seconds o_firstsHad o_secondsHad o_seenSums o_seenShared v_filled v_people v_lawNumber v_made v_seen a_purses) sz) := by
  refine ent (cc := cX1_sumOfPurses) (maxL := 3) (ret := (some .int)) (Qc := fun A => cQi0 D Post ((cw_X1_sumOfPurses cI cZ o o_purses o_firsts o_seconds o_firstsHad o_secondsHad o_seenSums o_seenShared v_filled v_people v_lawNumber v_made v_seen a_purses)) A) (by decide) rfl (Nat.le_of_ble_eq_true rfl) ?_
  intro p e s m args below meth c A ls Q hQ hsz hx hb hml hr hts hown hlocks hnm hK hP hD hA hS hl
  have hl : lv_has ls 3 [(0, .ref o)] := hl
  unfold wp_X1_sumOfPurses at h
  refine lv_iconst (v := 0) hx hb dX1_sumOfPurses_0 (by decide) ?_
  refine lv_istore_n (lv' := [(1, .int (0 : Int32)), (0, .ref o)]) hx hb dX1_sumOfPurses_1 rfl hl (by decide) rfl (fun ls hl => ?_)
  refine lv_iconst (v := 0) hx hb dX1_sumOfPurses_2 (by decide) ?_
  refine lv_istore_n (lv' := [(2, .int (0 : Int32)), (1, .int (0 : Int32)), (0, .ref o)]) hx hb dX1_sumOfPurses_3 rfl hl (by decide) rfl (fun ls hl => ?_)
  refine h (fun x2_4 x1_4 => ∀ (H : Heap) (locs : List Loc) (ls : Array Slot), lv_has ls 3 [(0, .ref o), (1, .int x1_4), (2, .int x2_4)] → va_P D vwCl (cw_X1_sumOfPurses cI cZ o o_purses o_firsts o_seconds o_firstsHad o_secondsHad o_seenSums o_seenShared v_filled v_people v_lawNumber v_made v_seen a_purses) H → va_D A (cw_X1_sumOfPurses cI cZ o o_purses o_firsts o_seconds o_firstsHad o_secondsHad o_seenSums o_seenShared v_filled v_people v_lawNumber v_made v_seen a_purses) → va_S A s.heap H locs → W p l e rm_X1_sumOfPurses s m args below meth c H locs 0 0 Q (F0 m 4 ls [])) ?_ s.heap [] ls (lv_sub hl [2, 1, 0] rfl) hP hD hS
  intro x2_4 x1_4 h H locs ls hl hP hD hS
  refine lv_iload_n hx hb dX1_sumOfPurses_4 rfl (lv_at hl 2 rfl) ?_
  refine lv_aload_n hx hb dX1_sumOfPurses_5 rfl (lv_at hl 0 rfl) ?_
  refine va_get (D := D) (ci := 1) (v := .int v_people) (C := RX1) (T := TX1) (N := 12) hx hb hts inw_X1_sumOfPurses_X1 hown hK.1 hP 0 rfl rfl 1 (by decide) (hts (.fieldLink RX1 33 "PursesShare$Holding" "people" "I") (by decide +kernel)) (fun _ h9 => h9) rfl dX1_sumOfPurses_6 ?_
  refine lv_icmp_ge (tgt := 27) hx hb dX1_sumOfPurses_9 (by decide) (fun c9 => ?_) (fun c9 => ?_)
  · have h := h.1 c9
    refine lv_iload_n hx hb dX1_sumOfPurses_27 rfl (lv_at hl 1 rfl) ?_
    exact ret_i0 hx hb hr hlocks hQ hS  hP h dX1_sumOfPurses_28
  · have h := h.2 c9
    refine lv_iload_n hx hb dX1_sumOfPurses_12 rfl (lv_at hl 1 rfl) ?_
    refine lv_aload_n hx hb dX1_sumOfPurses_13 rfl (lv_at hl 0 rfl) ?_
    refine va_get (D := D) (ci := 1) (v := .ref o_purses) (C := RX1) (T := TX1) (N := 12) hx hb hts inw_X1_sumOfPurses_X1 hown hK.1 hP 0 rfl rfl 3 (by decide) (hts (.fieldLink RX1 9 "PursesShare$Holding" "purses" "[I") (by decide +kernel)) (fun _ h9 => h9) rfl dX1_sumOfPurses_14 ?_
    refine lv_iload_n hx hb dX1_sumOfPurses_17 rfl (lv_at hl 2 rfl) ?_
    have h0 := h.1
    have h := h.2
    refine va_iald hx hb hK.1 hP 1 0 rfl rfl h0 dX1_sumOfPurses_18 ?_
    refine lv_iadd hx hb dX1_sumOfPurses_19 ?_
    refine lv_istore_n (lv' := [(1, .int (x1_4 + (a_purses (Int32.toNatClampNeg x2_4)))), (0, .ref o), (2, .int x2_4)]) hx hb dX1_sumOfPurses_20 rfl hl (by decide) rfl (fun ls hl => ?_)
    refine lv_iinc (v := (x2_4 + 1)) (lv' := [(2, .int (x2_4 + 1)), (1, .int (x1_4 + (a_purses (Int32.toNatClampNeg x2_4)))), (0, .ref o)]) hx hb dX1_sumOfPurses_21 hl (k := 2) rfl rfl (by decide) rfl (fun ls hl => ?_)
    refine lv_goto (tgt := 4) hx hb dX1_sumOfPurses_24 (by decide) ?_
    exact h H locs ls (lv_sub hl [2, 1, 0] rfl) hP hD hS
abbrev rm_X2_has : Room := { frames := 0, cells := 0, slots := 0, locals := 0 }
abbrev cw_X2_has (cI cZ : ClassId) (o o_firsts o_seconds : Nat) (v_size : Int32) : va_W := [(o, .inr (2, [.ref o_firsts, .ref o_seconds, .int v_size]))]
theorem inw_X2_has_X2 : ∀ w ∈ u_ws RX2 TX2 3, w ∈ wsX2_has := by decide +kernel
def wp_X2_has (n1 : Int32) (v_size : Int32) (Post : Int32 → Prop) : Prop := ((n1 < 0 → (Post (0 : Int32))) ∧ (¬ n1 < 0 → ((v_size ≤ n1 → (Post (0 : Int32))) ∧ (¬ v_size ≤ n1 → (Post (1 : Int32))))))
set_option maxHeartbeats 4000000 in
set_option maxRecDepth 100000 in
theorem c_X2_has (l : Launch) (D : va_G) (cI cZ : ClassId) (o o_firsts o_seconds : Nat) (sz : Nat) (n1 : Int32) (v_size : Int32) (Post : Int32 → Prop) (h : wp_X2_has n1 v_size Post) : Met l yX2_has wsX2_has rm_X2_has (cPc D cI cZ [.ref o, .int n1] (cw_X2_has cI cZ o o_firsts o_seconds v_size) sz) (cQi0 D Post ((cw_X2_has cI cZ o o_firsts o_seconds v_size)) (va_A (cw_X2_has cI cZ o o_firsts o_seconds v_size) sz)) 0 0 (va_A (cw_X2_has cI cZ o o_firsts o_seconds v_size) sz) := by
  refine ent (cc := cX2_has) (maxL := 2) (ret := (some .boolean)) (Qc := fun A => cQi0 D Post ((cw_X2_has cI cZ o o_firsts o_seconds v_size)) A) (by decide) rfl (Nat.le_of_ble_eq_true rfl) ?_
  intro p e s m args below meth c A ls Q hQ hsz hx hb hml hr hts hown hlocks hnm hK hP hD hA hS hl
  have hl : lv_has ls 2 [(0, .ref o), (1, .int n1)] := hl
  unfold wp_X2_has at h
  refine lv_iload_n hx hb dX2_has_0 rfl (lv_at hl 1 rfl) ?_
  refine lv_if_lt (tgt := 16) hx hb dX2_has_1 (by decide) (fun c1 => ?_) (fun c1 => ?_)
  · have h := h.1 c1
    refine lv_iconst (v := 0) hx hb dX2_has_16 (by decide) ?_
    exact ret_z0 hx hb hr hlocks hQ hS (by decide)  hP h dX2_has_17
  · have h := h.2 c1
    refine lv_iload_n hx hb dX2_has_4 rfl (lv_at hl 1 rfl) ?_
    refine lv_aload_n hx hb dX2_has_5 rfl (lv_at hl 0 rfl) ?_
    refine va_get (D := D) (ci := 2) (v := .int v_size) (C := RX2) (T := TX2) (N := 3) hx hb hts inw_X2_has_X2 hown hK.1 hP 0 rfl rfl 2 (by decide) (hts (.fieldLink RX2 18 "PursesShare$Meetings" "size" "I") (by decide +kernel)) (fun _ h9 => h9) rfl dX2_has_6 ?_
    refine lv_icmp_ge (tgt := 16) hx hb dX2_has_9 (by decide) (fun c9 => ?_) (fun c9 => ?_)
    · have h := h.1 c9
      refine lv_iconst (v := 0) hx hb dX2_has_16 (by decide) ?_
      exact ret_z0 hx hb hr hlocks hQ hS (by decide)  hP h dX2_has_17
    · have h := h.2 c9
      refine lv_iconst (v := 1) hx hb dX2_has_12 (by decide) ?_
      refine lv_goto (tgt := 17) hx hb dX2_has_13 (by decide) ?_
      exact ret_z0 hx hb hr hlocks hQ hS (by decide)  hP h dX2_has_17
abbrev rm_X2_add : Room := { frames := 0, cells := 0, slots := 0, locals := 0 }
abbrev cw_X2_add (cI cZ : ClassId) (o o_firsts o_seconds : Nat) (v_size : Int32) (a_firsts : Nat → Int32) (a_seconds : Nat → Int32) : va_W := [(o, .inr (2, [.ref o_firsts, .ref o_seconds, .int v_size])), (o_firsts, .inl (cI, 16, .inl a_firsts)), (o_seconds, .inl (cI, 16, .inl a_seconds))]
theorem inw_X2_add_X2 : ∀ w ∈ u_ws RX2 TX2 3, w ∈ wsX2_add := by decide +kernel
def wp_X2_add (n1 : Int32) (n2 : Int32) (v_size : Int32) (a_firsts : Nat → Int32) (a_seconds : Nat → Int32) (Post : (Int32) → (Nat → Int32) → (Nat → Int32) → Prop) : Prop := ((v_size < (16 : Int32) → (vp_in v_size 16 ∧ (vp_in v_size 16 ∧ (Post (v_size + (1 : Int32)) (upd a_firsts (Int32.toNatClampNeg v_size) n1) (upd a_seconds (Int32.toNatClampNeg v_size) n2))))) ∧ (¬ v_size < (16 : Int32) → (Post v_size a_firsts a_seconds)))
set_option maxHeartbeats 4000000 in
set_option maxRecDepth 100000 in
theorem c_X2_add (l : Launch) (D : va_G) (cI cZ : ClassId) (o o_firsts o_seconds : Nat) (sz : Nat) (n1 : Int32) (n2 : Int32) (v_size : Int32) (a_firsts : Nat → Int32) (a_seconds : Nat → Int32) (Post : (Int32) → (Nat → Int32) → (Nat → Int32) → Prop) (h : wp_X2_add n1 n2 v_size a_firsts a_seconds Post) : Met l yX2_add wsX2_add rm_X2_add (cPc D cI cZ [.ref o, .int n1, .int n2] (cw_X2_add cI cZ o o_firsts o_seconds v_size a_firsts a_seconds) sz) (cQv3 D Post (fun m_v_size m_a_firsts m_a_seconds => (cw_X2_add cI cZ o o_firsts o_seconds m_v_size m_a_firsts m_a_seconds)) (va_A (cw_X2_add cI cZ o o_firsts o_seconds v_size a_firsts a_seconds) sz)) 0 0 (va_A (cw_X2_add cI cZ o o_firsts o_seconds v_size a_firsts a_seconds) sz) := by
  refine ent (cc := cX2_add) (maxL := 3) (ret := none) (Qc := fun A => cQv3 D Post (fun m_v_size m_a_firsts m_a_seconds => (cw_X2_add cI cZ o o_firsts o_seconds m_v_size m_a_firsts m_a_seconds)) A) (by decide) rfl (Nat.le_of_ble_eq_true rfl) ?_
  intro p e s m args below meth c A ls Q hQ hsz hx hb hml hr hts hown hlocks hnm hK hP hD hA hS hl
  have hl : lv_has ls 3 [(0, .ref o), (1, .int n1), (2, .int n2)] := hl
  unfold wp_X2_add at h
  refine lv_aload_n hx hb dX2_add_0 rfl (lv_at hl 0 rfl) ?_
  refine va_get (D := D) (ci := 2) (v := .int v_size) (C := RX2) (T := TX2) (N := 3) hx hb hts inw_X2_add_X2 hown hK.1 hP 0 rfl rfl 2 (by decide) (hts (.fieldLink RX2 18 "PursesShare$Meetings" "size" "I") (by decide +kernel)) (fun _ h9 => h9) rfl dX2_add_1 ?_
  refine lv_bipush (v := 16) hx hb dX2_add_4 (by decide) ?_
  refine lv_icmp_lt (tgt := 10) hx hb dX2_add_6 (by decide) (fun c6 => ?_) (fun c6 => ?_)
  · have h := h.1 c6
    refine lv_aload_n hx hb dX2_add_10 rfl (lv_at hl 0 rfl) ?_
    refine va_get (D := D) (ci := 2) (v := .ref o_firsts) (C := RX2) (T := TX2) (N := 3) hx hb hts inw_X2_add_X2 hown hK.1 hP 0 rfl rfl 0 (by decide) (hts (.fieldLink RX2 9 "PursesShare$Meetings" "firsts" "[I") (by decide +kernel)) (fun _ h9 => h9) rfl dX2_add_11 ?_
    refine lv_aload_n hx hb dX2_add_14 rfl (lv_at hl 0 rfl) ?_
    refine va_get (D := D) (ci := 2) (v := .int v_size) (C := RX2) (T := TX2) (N := 3) hx hb hts inw_X2_add_X2 hown hK.1 hP 0 rfl rfl 2 (by decide) (hts (.fieldLink RX2 18 "PursesShare$Meetings" "size" "I") (by decide +kernel)) (fun _ h9 => h9) rfl dX2_add_15 ?_
    refine lv_iload_n hx hb dX2_add_18 rfl (lv_at hl 1 rfl) ?_
    have h0 := h.1
    have h := h.2
    refine va_iast hx hb hK.1 hP hD hS 1 0 rfl rfl h0 dX2_add_19 (fun H locs hP hD hS => ?_)
    have hP : va_P D vwCl (cw_X2_add cI cZ o o_firsts o_seconds v_size (upd a_firsts (Int32.toNatClampNeg v_size) n1) a_seconds) H := hP
    have hD : va_D A (cw_X2_add cI cZ o o_firsts o_seconds v_size (upd a_firsts (Int32.toNatClampNeg v_size) n1) a_seconds) := hD
    refine lv_aload_n hx hb dX2_add_20 rfl (lv_at hl 0 rfl) ?_
    refine va_get (D := D) (ci := 2) (v := .ref o_seconds) (C := RX2) (T := TX2) (N := 3) hx hb hts inw_X2_add_X2 hown hK.1 hP 0 rfl rfl 1 (by decide) (hts (.fieldLink RX2 15 "PursesShare$Meetings" "seconds" "[I") (by decide +kernel)) (fun _ h9 => h9) rfl dX2_add_21 ?_
    refine lv_aload_n hx hb dX2_add_24 rfl (lv_at hl 0 rfl) ?_
    refine va_get (D := D) (ci := 2) (v := .int v_size) (C := RX2) (T := TX2) (N := 3) hx hb hts inw_X2_add_X2 hown hK.1 hP 0 rfl rfl 2 (by decide) (hts (.fieldLink RX2 18 "PursesShare$Meetings" "size" "I") (by decide +kernel)) (fun _ h9 => h9) rfl dX2_add_25 ?_
    refine lv_iload_n hx hb dX2_add_28 rfl (lv_at hl 2 rfl) ?_
    have h0 := h.1
    have h := h.2
    refine va_iast hx hb hK.1 hP hD hS 2 0 rfl rfl h0 dX2_add_29 (fun H locs hP hD hS => ?_)
    have hP : va_P D vwCl (cw_X2_add cI cZ o o_firsts o_seconds v_size (upd a_firsts (Int32.toNatClampNeg v_size) n1) (upd a_seconds (Int32.toNatClampNeg v_size) n2)) H := hP
    have hD : va_D A (cw_X2_add cI cZ o o_firsts o_seconds v_size (upd a_firsts (Int32.toNatClampNeg v_size) n1) (upd a_seconds (Int32.toNatClampNeg v_size) n2)) := hD
    refine lv_aload_n hx hb dX2_add_30 rfl (lv_at hl 0 rfl) ?_
    refine lv_dup hx hb dX2_add_31 rfl ?_
    refine va_get (D := D) (ci := 2) (v := .int v_size) (C := RX2) (T := TX2) (N := 3) hx hb hts inw_X2_add_X2 hown hK.1 hP 0 rfl rfl 2 (by decide) (hts (.fieldLink RX2 18 "PursesShare$Meetings" "size" "I") (by decide +kernel)) (fun _ h9 => h9) rfl dX2_add_32 ?_
    refine lv_iconst (v := 1) hx hb dX2_add_35 (by decide) ?_
    refine lv_iadd hx hb dX2_add_36 ?_
    refine va_put (D := D) (ci := 2) (v := .int (v_size + (1 : Int32))) (ty := .int) (C := RX2) (T := TX2) (N := 3) hx hb hts inw_X2_add_X2 tyX2 tyX2_ok nmX2 hown hK.1 hP hD hS 0 rfl rfl 2 (by decide) (hts (.fieldLink RX2 18 "PursesShare$Meetings" "size" "I") (by decide +kernel)) (fun _ h9 => h9) rfl (by decide +kernel) rfl rfl (Nat.le_of_ble_eq_true rfl) dX2_add_37 (fun H locs hP hD hS => ?_)
    have hP : va_P D vwCl (cw_X2_add cI cZ o o_firsts o_seconds (v_size + (1 : Int32)) (upd a_firsts (Int32.toNatClampNeg v_size) n1) (upd a_seconds (Int32.toNatClampNeg v_size) n2)) H := hP
    have hD : va_D A (cw_X2_add cI cZ o o_firsts o_seconds (v_size + (1 : Int32)) (upd a_firsts (Int32.toNatClampNeg v_size) n1) (upd a_seconds (Int32.toNatClampNeg v_size) n2)) := hD
    exact ret_v3 hx hb hr hlocks hQ hS (v_size + (1 : Int32)) (upd a_firsts (Int32.toNatClampNeg v_size) n1) (upd a_seconds (Int32.toNatClampNeg v_size) n2) hP h dX2_add_40
  · have h := h.2 c6
    exact ret_v3 hx hb hr hlocks hQ hS v_size a_firsts a_seconds hP h dX2_add_9
abbrev rm_X2_become : Room := { frames := 1, cells := 0, slots := 0, locals := 60 }
abbrev cw_X2_become (cI cZ : ClassId) (o o_firsts o_seconds o_p1 o_p1_firsts o_p1_seconds : Nat) (v_size : Int32) (a_firsts : Nat → Int32) (a_seconds : Nat → Int32) (v_p1_size : Int32) (a_p1_firsts : Nat → Int32) (a_p1_seconds : Nat → Int32) : va_W := [(o, .inr (2, [.ref o_firsts, .ref o_seconds, .int v_size])), (o_firsts, .inl (cI, 16, .inl a_firsts)), (o_seconds, .inl (cI, 16, .inl a_seconds)), (o_p1, .inr (2, [.ref o_p1_firsts, .ref o_p1_seconds, .int v_p1_size])), (o_p1_firsts, .inl (cI, 16, .inl a_p1_firsts)), (o_p1_seconds, .inl (cI, 16, .inl a_p1_seconds))]
theorem inw_X2_become_X2 : ∀ w ∈ u_ws RX2 TX2 3, w ∈ wsX2_become := by decide +kernel
def wp_X2_become (v_size : Int32) (a_firsts : Nat → Int32) (a_seconds : Nat → Int32) (v_p1_size : Int32) (a_p1_firsts : Nat → Int32) (a_p1_seconds : Nat → Int32) (Post : (Int32) → (Nat → Int32) → (Nat → Int32) → Prop) : Prop := (Post v_p1_size (va_cpy a_p1_firsts a_firsts (Int32.toNatClampNeg (0 : Int32)) (Int32.toNatClampNeg (0 : Int32)) (Int32.toNatClampNeg (16 : Int32))) (va_cpy a_p1_seconds a_seconds (Int32.toNatClampNeg (0 : Int32)) (Int32.toNatClampNeg (0 : Int32)) (Int32.toNatClampNeg (16 : Int32))))
set_option maxHeartbeats 4000000 in
set_option maxRecDepth 100000 in
theorem c_X2_become (l : Launch) (D : va_G) (cI cZ : ClassId) (o o_firsts o_seconds o_p1 o_p1_firsts o_p1_seconds : Nat) (sz : Nat) (v_size : Int32) (a_firsts : Nat → Int32) (a_seconds : Nat → Int32) (v_p1_size : Int32) (a_p1_firsts : Nat → Int32) (a_p1_seconds : Nat → Int32) (Post : (Int32) → (Nat → Int32) → (Nat → Int32) → Prop) (h : wp_X2_become v_size a_firsts a_seconds v_p1_size a_p1_firsts a_p1_seconds Post) : Met l yX2_become wsX2_become rm_X2_become (cPc D cI cZ [.ref o, .ref o_p1] (cw_X2_become cI cZ o o_firsts o_seconds o_p1 o_p1_firsts o_p1_seconds v_size a_firsts a_seconds v_p1_size a_p1_firsts a_p1_seconds) sz) (cQv3 D Post (fun m_v_size m_a_firsts m_a_seconds => (cw_X2_become cI cZ o o_firsts o_seconds o_p1 o_p1_firsts o_p1_seconds m_v_size m_a_firsts m_a_seconds v_p1_size a_p1_firsts a_p1_seconds)) (va_A (cw_X2_become cI cZ o o_firsts o_seconds o_p1 o_p1_firsts o_p1_seconds v_size a_firsts a_seconds v_p1_size a_p1_firsts a_p1_seconds) sz)) 0 0 (va_A (cw_X2_become cI cZ o o_firsts o_seconds o_p1 o_p1_firsts o_p1_seconds v_size a_firsts a_seconds v_p1_size a_p1_firsts a_p1_seconds) sz) := by
  refine ent (cc := cX2_become) (maxL := 2) (ret := none) (Qc := fun A => cQv3 D Post (fun m_v_size m_a_firsts m_a_seconds => (cw_X2_become cI cZ o o_firsts o_seconds o_p1 o_p1_firsts o_p1_seconds m_v_size m_a_firsts m_a_seconds v_p1_size a_p1_firsts a_p1_seconds)) A) (by decide) rfl (Nat.le_of_ble_eq_true rfl) ?_
  intro p e s m args below meth c A ls Q hQ hsz hx hb hml hr hts hown hlocks hnm hK hP hD hA hS hl
  have hl : lv_has ls 2 [(0, .ref o), (1, .ref o_p1)] := hl
  unfold wp_X2_become at h
  refine lv_aload_n hx hb dX2_become_0 rfl (lv_at hl 1 rfl) ?_
  refine va_get (D := D) (ci := 2) (v := .ref o_p1_firsts) (C := RX2) (T := TX2) (N := 3) hx hb hts inw_X2_become_X2 hown hK.1 hP 3 rfl rfl 0 (by decide) (hts (.fieldLink RX2 9 "PursesShare$Meetings" "firsts" "[I") (by decide +kernel)) (fun _ h9 => h9) rfl dX2_become_1 ?_
  refine lv_iconst (v := 0) hx hb dX2_become_4 (by decide) ?_
  refine lv_aload_n hx hb dX2_become_5 rfl (lv_at hl 0 rfl) ?_
  refine va_get (D := D) (ci := 2) (v := .ref o_firsts) (C := RX2) (T := TX2) (N := 3) hx hb hts inw_X2_become_X2 hown hK.1 hP 0 rfl rfl 0 (by decide) (hts (.fieldLink RX2 9 "PursesShare$Meetings" "firsts" "[I") (by decide +kernel)) (fun _ h9 => h9) rfl dX2_become_6 ?_
  refine lv_iconst (v := 0) hx hb dX2_become_9 (by decide) ?_
  refine lv_bipush (v := 16) hx hb dX2_become_10 (by decide) ?_
  refine va_copyi hx hb (hml.trans hl.1.symm) hown (hts (.methodLink RX2 22 arraycopyName) (by decide +kernel)) (hts (.native arraycopyName) (by decide +kernel)) (hts (.static arraycopyName) (by decide +kernel)) (hts (.initialized "java/lang/System") (by decide +kernel)) hK.1 hP hD hS 4 1 0 0 (ty := .int) rfl rfl rfl rfl rfl (by decide) (by decide) (by decide) (by decide) (by decide) (fun _ _ => rfl) (Nat.le_of_ble_eq_true rfl) (Nat.le_of_ble_eq_true rfl) dX2_become_12 (fun H locs hP hD hS => ?_)
  have hP : va_P D vwCl (cw_X2_become cI cZ o o_firsts o_seconds o_p1 o_p1_firsts o_p1_seconds v_size (va_cpy a_p1_firsts a_firsts (Int32.toNatClampNeg (0 : Int32)) (Int32.toNatClampNeg (0 : Int32)) (Int32.toNatClampNeg (16 : Int32))) a_seconds v_p1_size a_p1_firsts a_p1_seconds) H := hP
  have hD : va_D A (cw_X2_become cI cZ o o_firsts o_seconds o_p1 o_p1_firsts o_p1_seconds v_size (va_cpy a_p1_firsts a_firsts (Int32.toNatClampNeg (0 : Int32)) (Int32.toNatClampNeg (0 : Int32)) (Int32.toNatClampNeg (16 : Int32))) a_seconds v_p1_size a_p1_firsts a_p1_seconds) := hD
  refine lv_aload_n hx hb dX2_become_15 rfl (lv_at hl 1 rfl) ?_
  refine va_get (D := D) (ci := 2) (v := .ref o_p1_seconds) (C := RX2) (T := TX2) (N := 3) hx hb hts inw_X2_become_X2 hown hK.1 hP 3 rfl rfl 1 (by decide) (hts (.fieldLink RX2 15 "PursesShare$Meetings" "seconds" "[I") (by decide +kernel)) (fun _ h9 => h9) rfl dX2_become_16 ?_
  refine lv_iconst (v := 0) hx hb dX2_become_19 (by decide) ?_
  refine lv_aload_n hx hb dX2_become_20 rfl (lv_at hl 0 rfl) ?_
  refine va_get (D := D) (ci := 2) (v := .ref o_seconds) (C := RX2) (T := TX2) (N := 3) hx hb hts inw_X2_become_X2 hown hK.1 hP 0 rfl rfl 1 (by decide) (hts (.fieldLink RX2 15 "PursesShare$Meetings" "seconds" "[I") (by decide +kernel)) (fun _ h9 => h9) rfl dX2_become_21 ?_
  refine lv_iconst (v := 0) hx hb dX2_become_24 (by decide) ?_
  refine lv_bipush (v := 16) hx hb dX2_become_25 (by decide) ?_
  refine va_copyi hx hb (hml.trans hl.1.symm) hown (hts (.methodLink RX2 22 arraycopyName) (by decide +kernel)) (hts (.native arraycopyName) (by decide +kernel)) (hts (.static arraycopyName) (by decide +kernel)) (hts (.initialized "java/lang/System") (by decide +kernel)) hK.1 hP hD hS 5 2 0 0 (ty := .int) rfl rfl rfl rfl rfl (by decide) (by decide) (by decide) (by decide) (by decide) (fun _ _ => rfl) (Nat.le_of_ble_eq_true rfl) (Nat.le_of_ble_eq_true rfl) dX2_become_27 (fun H locs hP hD hS => ?_)
  have hP : va_P D vwCl (cw_X2_become cI cZ o o_firsts o_seconds o_p1 o_p1_firsts o_p1_seconds v_size (va_cpy a_p1_firsts a_firsts (Int32.toNatClampNeg (0 : Int32)) (Int32.toNatClampNeg (0 : Int32)) (Int32.toNatClampNeg (16 : Int32))) (va_cpy a_p1_seconds a_seconds (Int32.toNatClampNeg (0 : Int32)) (Int32.toNatClampNeg (0 : Int32)) (Int32.toNatClampNeg (16 : Int32))) v_p1_size a_p1_firsts a_p1_seconds) H := hP
  have hD : va_D A (cw_X2_become cI cZ o o_firsts o_seconds o_p1 o_p1_firsts o_p1_seconds v_size (va_cpy a_p1_firsts a_firsts (Int32.toNatClampNeg (0 : Int32)) (Int32.toNatClampNeg (0 : Int32)) (Int32.toNatClampNeg (16 : Int32))) (va_cpy a_p1_seconds a_seconds (Int32.toNatClampNeg (0 : Int32)) (Int32.toNatClampNeg (0 : Int32)) (Int32.toNatClampNeg (16 : Int32))) v_p1_size a_p1_firsts a_p1_seconds) := hD
  refine lv_aload_n hx hb dX2_become_30 rfl (lv_at hl 0 rfl) ?_
  refine lv_aload_n hx hb dX2_become_31 rfl (lv_at hl 1 rfl) ?_
  refine va_get (D := D) (ci := 2) (v := .int v_p1_size) (C := RX2) (T := TX2) (N := 3) hx hb hts inw_X2_become_X2 hown hK.1 hP 3 rfl rfl 2 (by decide) (hts (.fieldLink RX2 18 "PursesShare$Meetings" "size" "I") (by decide +kernel)) (fun _ h9 => h9) rfl dX2_become_32 ?_
  refine va_put (D := D) (ci := 2) (v := .int v_p1_size) (ty := .int) (C := RX2) (T := TX2) (N := 3) hx hb hts inw_X2_become_X2 tyX2 tyX2_ok nmX2 hown hK.1 hP hD hS 0 rfl rfl 2 (by decide) (hts (.fieldLink RX2 18 "PursesShare$Meetings" "size" "I") (by decide +kernel)) (fun _ h9 => h9) rfl (by decide +kernel) rfl rfl (Nat.le_of_ble_eq_true rfl) dX2_become_35 (fun H locs hP hD hS => ?_)
  have hP : va_P D vwCl (cw_X2_become cI cZ o o_firsts o_seconds o_p1 o_p1_firsts o_p1_seconds v_p1_size (va_cpy a_p1_firsts a_firsts (Int32.toNatClampNeg (0 : Int32)) (Int32.toNatClampNeg (0 : Int32)) (Int32.toNatClampNeg (16 : Int32))) (va_cpy a_p1_seconds a_seconds (Int32.toNatClampNeg (0 : Int32)) (Int32.toNatClampNeg (0 : Int32)) (Int32.toNatClampNeg (16 : Int32))) v_p1_size a_p1_firsts a_p1_seconds) H := hP
  have hD : va_D A (cw_X2_become cI cZ o o_firsts o_seconds o_p1 o_p1_firsts o_p1_seconds v_p1_size (va_cpy a_p1_firsts a_firsts (Int32.toNatClampNeg (0 : Int32)) (Int32.toNatClampNeg (0 : Int32)) (Int32.toNatClampNeg (16 : Int32))) (va_cpy a_p1_seconds a_seconds (Int32.toNatClampNeg (0 : Int32)) (Int32.toNatClampNeg (0 : Int32)) (Int32.toNatClampNeg (16 : Int32))) v_p1_size a_p1_firsts a_p1_seconds) := hD
  exact ret_v3 hx hb hr hlocks hQ hS v_p1_size (va_cpy a_p1_firsts a_firsts (Int32.toNatClampNeg (0 : Int32)) (Int32.toNatClampNeg (0 : Int32)) (Int32.toNatClampNeg (16 : Int32))) (va_cpy a_p1_seconds a_seconds (Int32.toNatClampNeg (0 : Int32)) (Int32.toNatClampNeg (0 : Int32)) (Int32.toNatClampNeg (16 : Int32))) hP h dX2_become_38
abbrev rm_X3_noteIfBetter : Room := { frames := 1, cells := 0, slots := 0, locals := 60 }
abbrev cw_X3_noteIfBetter (cI cZ : ClassId) (o o_purses o_used o_order o_best : Nat) (v_bestHeld : Int32) (v_person : Int32) (v_lawNumber : Int32) (v_size : Int32) (a_purses : Nat → Int32) (a_order : Nat → Int32) (a_best : Nat → Int32) : va_W := [(o, .inr (3, [.ref o_purses, .ref o_used, .ref o_order, .ref o_best, .int v_bestHeld, .int v_person, .int v_lawNumber, .int v_size])), (o_purses, .inl (cI, 8, .inl a_purses)), (o_order, .inl (cI, 6, .inl a_order)), (o_best, .inl (cI, 6, .inl a_best))]
theorem inw_X3_noteIfBetter_X3 : ∀ w ∈ u_ws RX3 TX3 8, w ∈ wsX3_noteIfBetter := by decide +kernel
def wp_X3_noteIfBetter (v_bestHeld : Int32) (v_person : Int32) (a_purses : Nat → Int32) (a_order : Nat → Int32) (a_best : Nat → Int32) (Post : (Int32) → (Nat → Int32) → Prop) : Prop := (vp_in v_person 8 ∧ ((v_bestHeld < (a_purses (Int32.toNatClampNeg v_person)) → (vp_in v_person 8 ∧ (Post (a_purses (Int32.toNatClampNeg v_person)) (va_cpy a_order a_best (Int32.toNatClampNeg (0 : Int32)) (Int32.toNatClampNeg (0 : Int32)) (Int32.toNatClampNeg (6 : Int32)))))) ∧ (¬ v_bestHeld < (a_purses (Int32.toNatClampNeg v_person)) → (Post v_bestHeld a_best))))
set_option maxHeartbeats 4000000 in
set_option maxRecDepth 100000 in
theorem c_X3_noteIfBetter (l : Launch) (D : va_G) (cI cZ : ClassId) (o o_purses o_used o_order o_best : Nat) (sz : Nat) (v_bestHeld : Int32) (v_person : Int32) (v_lawNumber : Int32) (v_size : Int32) (a_purses : Nat → Int32) (a_order : Nat → Int32) (a_best : Nat → Int32) (Post : (Int32) → (Nat → Int32) → Prop) (h : wp_X3_noteIfBetter v_bestHeld v_person a_purses a_order a_best Post) : Met l yX3_noteIfBetter wsX3_noteIfBetter rm_X3_noteIfBetter (cPc D cI cZ [.ref o] (cw_X3_noteIfBetter cI cZ o o_purses o_used o_order o_best v_bestHeld v_person v_lawNumber v_size a_purses a_order a_best) sz) (cQv2 D Post (fun m_v_bestHeld m_a_best => (cw_X3_noteIfBetter cI cZ o o_purses o_used o_order o_best m_v_bestHeld v_person v_lawNumber v_size a_purses a_order m_a_best)) (va_A (cw_X3_noteIfBetter cI cZ o o_purses o_used o_order o_best v_bestHeld v_person v_lawNumber v_size a_purses a_order a_best) sz)) 0 0 (va_A (cw_X3_noteIfBetter cI cZ o o_purses o_used o_order o_best v_bestHeld v_person v_lawNumber v_size a_purses a_order a_best) sz) := by
  refine ent (cc := cX3_noteIfBetter) (maxL := 1) (ret := none) (Qc := fun A => cQv2 D Post (fun m_v_bestHeld m_a_best => (cw_X3_noteIfBetter cI cZ o o_purses o_used o_order o_best m_v_bestHeld v_person v_lawNumber v_size a_purses a_order m_a_best)) A) (by decide) rfl (Nat.le_of_ble_eq_true rfl) ?_
  intro p e s m args below meth c A ls Q hQ hsz hx hb hml hr hts hown hlocks hnm hK hP hD hA hS hl
  have hl : lv_has ls 1 [(0, .ref o)] := hl
  unfold wp_X3_noteIfBetter at h
  refine lv_aload_n hx hb dX3_noteIfBetter_0 rfl (lv_at hl 0 rfl) ?_
  refine va_get (D := D) (ci := 3) (v := .ref o_purses) (C := RX3) (T := TX3) (N := 8) hx hb hts inw_X3_noteIfBetter_X3 hown hK.1 hP 0 rfl rfl 0 (by decide) (hts (.fieldLink RX3 9 "PursesShare$OrderSearch" "purses" "[I") (by decide +kernel)) (fun _ h9 => h9) rfl dX3_noteIfBetter_1 ?_
  refine lv_aload_n hx hb dX3_noteIfBetter_4 rfl (lv_at hl 0 rfl) ?_
  refine va_get (D := D) (ci := 3) (v := .int v_person) (C := RX3) (T := TX3) (N := 8) hx hb hts inw_X3_noteIfBetter_X3 hown hK.1 hP 0 rfl rfl 5 (by decide) (hts (.fieldLink RX3 34 "PursesShare$OrderSearch" "person" "I") (by decide +kernel)) (fun _ h9 => h9) rfl dX3_noteIfBetter_5 ?_
  have h0 := h.1
  have h := h.2
  refine va_iald hx hb hK.1 hP 1 0 rfl rfl h0 dX3_noteIfBetter_8 ?_
  refine lv_aload_n hx hb dX3_noteIfBetter_9 rfl (lv_at hl 0 rfl) ?_
  refine va_get (D := D) (ci := 3) (v := .int v_bestHeld) (C := RX3) (T := TX3) (N := 8) hx hb hts inw_X3_noteIfBetter_X3 hown hK.1 hP 0 rfl rfl 4 (by decide) (hts (.fieldLink RX3 54 "PursesShare$OrderSearch" "bestHeld" "I") (by decide +kernel)) (fun _ h9 => h9) rfl dX3_noteIfBetter_10 ?_
  refine lv_icmp_gt (tgt := 17) hx hb dX3_noteIfBetter_13 (by decide) (fun c13 => ?_) (fun c13 => ?_)
  · have h := h.1 c13
    refine lv_aload_n hx hb dX3_noteIfBetter_17 rfl (lv_at hl 0 rfl) ?_
    refine lv_aload_n hx hb dX3_noteIfBetter_18 rfl (lv_at hl 0 rfl) ?_
    refine va_get (D := D) (ci := 3) (v := .ref o_purses) (C := RX3) (T := TX3) (N := 8) hx hb hts inw_X3_noteIfBetter_X3 hown hK.1 hP 0 rfl rfl 0 (by decide) (hts (.fieldLink RX3 9 "PursesShare$OrderSearch" "purses" "[I") (by decide +kernel)) (fun _ h9 => h9) rfl dX3_noteIfBetter_19 ?_
    refine lv_aload_n hx hb dX3_noteIfBetter_22 rfl (lv_at hl 0 rfl) ?_
    refine va_get (D := D) (ci := 3) (v := .int v_person) (C := RX3) (T := TX3) (N := 8) hx hb hts inw_X3_noteIfBetter_X3 hown hK.1 hP 0 rfl rfl 5 (by decide) (hts (.fieldLink RX3 34 "PursesShare$OrderSearch" "person" "I") (by decide +kernel)) (fun _ h9 => h9) rfl dX3_noteIfBetter_23 ?_
    have h0 := h.1
    have h := h.2
    refine va_iald hx hb hK.1 hP 1 0 rfl rfl h0 dX3_noteIfBetter_26 ?_
    refine va_put (D := D) (ci := 3) (v := .int (a_purses (Int32.toNatClampNeg v_person))) (ty := .int) (C := RX3) (T := TX3) (N := 8) hx hb hts inw_X3_noteIfBetter_X3 tyX3 tyX3_ok nmX3 hown hK.1 hP hD hS 0 rfl rfl 4 (by decide) (hts (.fieldLink RX3 54 "PursesShare$OrderSearch" "bestHeld" "I") (by decide +kernel)) (fun _ h9 => h9) rfl (by decide +kernel) rfl rfl (Nat.le_of_ble_eq_true rfl) dX3_noteIfBetter_27 (fun H locs hP hD hS => ?_)
    have hP : va_P D vwCl (cw_X3_noteIfBetter cI cZ o o_purses o_used o_order o_best (a_purses (Int32.toNatClampNeg v_person)) v_person v_lawNumber v_size a_purses a_order a_best) H := hP
    have hD : va_D A (cw_X3_noteIfBetter cI cZ o o_purses o_used o_order o_best (a_purses (Int32.toNatClampNeg v_person)) v_person v_lawNumber v_size a_purses a_order a_best) := hD
    refine lv_aload_n hx hb dX3_noteIfBetter_30 rfl (lv_at hl 0 rfl) ?_
    refine va_get (D := D) (ci := 3) (v := .ref o_order) (C := RX3) (T := TX3) (N := 8) hx hb hts inw_X3_noteIfBetter_X3 hown hK.1 hP 0 rfl rfl 2 (by decide) (hts (.fieldLink RX3 19 "PursesShare$OrderSearch" "order" "[I") (by decide +kernel)) (fun _ h9 => h9) rfl dX3_noteIfBetter_31 ?_
    refine lv_iconst (v := 0) hx hb dX3_noteIfBetter_34 (by decide) ?_
    refine lv_aload_n hx hb dX3_noteIfBetter_35 rfl (lv_at hl 0 rfl) ?_
    refine va_get (D := D) (ci := 3) (v := .ref o_best) (C := RX3) (T := TX3) (N := 8) hx hb hts inw_X3_noteIfBetter_X3 hown hK.1 hP 0 rfl rfl 3 (by decide) (hts (.fieldLink RX3 22 "PursesShare$OrderSearch" "best" "[I") (by decide +kernel)) (fun _ h9 => h9) rfl dX3_noteIfBetter_36 ?_
    refine lv_iconst (v := 0) hx hb dX3_noteIfBetter_39 (by decide) ?_
    refine lv_bipush (v := 6) hx hb dX3_noteIfBetter_40 (by decide) ?_
    refine va_copyi hx hb (hml.trans hl.1.symm) hown (hts (.methodLink RX3 28 arraycopyName) (by decide +kernel)) (hts (.native arraycopyName) (by decide +kernel)) (hts (.static arraycopyName) (by decide +kernel)) (hts (.initialized "java/lang/System") (by decide +kernel)) hK.1 hP hD hS 2 3 0 0 (ty := .int) rfl rfl rfl rfl rfl (by decide) (by decide) (by decide) (by decide) (by decide) (fun _ _ => rfl) (Nat.le_of_ble_eq_true rfl) (Nat.le_of_ble_eq_true rfl) dX3_noteIfBetter_42 (fun H locs hP hD hS => ?_)
    have hP : va_P D vwCl (cw_X3_noteIfBetter cI cZ o o_purses o_used o_order o_best (a_purses (Int32.toNatClampNeg v_person)) v_person v_lawNumber v_size a_purses a_order (va_cpy a_order a_best (Int32.toNatClampNeg (0 : Int32)) (Int32.toNatClampNeg (0 : Int32)) (Int32.toNatClampNeg (6 : Int32)))) H := hP
    have hD : va_D A (cw_X3_noteIfBetter cI cZ o o_purses o_used o_order o_best (a_purses (Int32.toNatClampNeg v_person)) v_person v_lawNumber v_size a_purses a_order (va_cpy a_order a_best (Int32.toNatClampNeg (0 : Int32)) (Int32.toNatClampNeg (0 : Int32)) (Int32.toNatClampNeg (6 : Int32)))) := hD
    exact ret_v2 hx hb hr hlocks hQ hS (a_purses (Int32.toNatClampNeg v_person)) (va_cpy a_order a_best (Int32.toNatClampNeg (0 : Int32)) (Int32.toNatClampNeg (0 : Int32)) (Int32.toNatClampNeg (6 : Int32))) hP h dX3_noteIfBetter_45
  · have h := h.2 c13
    exact ret_v2 hx hb hr hlocks hQ hS v_bestHeld a_best hP h dX3_noteIfBetter_16
abbrev rm_X3_goOn (d : Nat) : Room := { frames := 2 * d + 4, cells := 0, slots := 0, locals := 50 * d + 134 }
abbrev cw_X3_goOn (cI cZ : ClassId) (o o_purses o_used o_order o_best o_p2 o_p2_firsts o_p2_seconds : Nat) (v_bestHeld : Int32) (v_person : Int32) (v_lawNumber : Int32) (v_size : Int32) (a_purses : Nat → Int32) (a_used : Nat → Int32) (a_order : Nat → Int32) (a_best : Nat → Int32) (v_p2_size : Int32) (a_p2_firsts : Nat → Int32) (a_p2_seconds : Nat → Int32) : va_W := [(o, .inr (3, [.ref o_purses, .ref o_used, .ref o_order, .ref o_best, .int v_bestHeld, .int v_person, .int v_lawNumber, .int v_size])), (o_purses, .inl (cI, 8, .inl a_purses)), (o_used, .inl (cZ, 6, .inl a_used)), (o_order, .inl (cI, 6, .inl a_order)), (o_best, .inl (cI, 6, .inl a_best)), (o_p2, .inr (2, [.ref o_p2_firsts, .ref o_p2_seconds, .int v_p2_size])), (o_p2_firsts, .inl (cI, 16, .inl a_p2_firsts)), (o_p2_seconds, .inl (cI, 16, .inl a_p2_seconds))]
abbrev rm_X3_tryNext (d : Nat) : Room := { frames := 2 * d + 5, cells := 0, slots := 0, locals := 50 * d + 157 }
abbrev cw_X3_tryNext (cI cZ : ClassId) (o o_purses o_used o_order o_best o_p3 o_p3_firsts o_p3_seconds : Nat) (v_bestHeld : Int32) (v_person : Int32) (v_lawNumber : Int32) (v_size : Int32) (a_purses : Nat → Int32) (a_used : Nat → Int32) (a_order : Nat → Int32) (a_best : Nat → Int32) (v_p3_size : Int32) (a_p3_firsts : Nat → Int32) (a_p3_seconds : Nat → Int32) : va_W := [(o, .inr (3, [.ref o_purses, .ref o_used, .ref o_order, .ref o_best, .int v_bestHeld, .int v_person, .int v_lawNumber, .int v_size])), (o_purses, .inl (cI, 8, .inl a_purses)), (o_used, .inl (cZ, 6, .inl a_used)), (o_order, .inl (cI, 6, .inl a_order)), (o_best, .inl (cI, 6, .inl a_best)), (o_p3, .inr (2, [.ref o_p3_firsts, .ref o_p3_seconds, .int v_p3_size])), (o_p3_firsts, .inl (cI, 16, .inl a_p3_firsts)), (o_p3_seconds, .inl (cI, 16, .inl a_p3_seconds))]
theorem inw_X3_tryNext_X2 : ∀ w ∈ u_ws RX2 TX2 3, w ∈ wsX3_tryNext := by decide +kernel
theorem inw_X3_tryNext_X3 : ∀ w ∈ u_ws RX3 TX3 8, w ∈ wsX3_tryNext := by decide +kernel
def wp_X3_tryNext (rec : Int32 → (Int32) → (Int32) → (Int32) → (Int32) → (Nat → Int32) → (Nat → Int32) → (Nat → Int32) → (Nat → Int32) → (Nat → Int32) → (Nat → Int32) → ((Int32) → (Nat → Int32) → (Nat → Int32) → (Nat → Int32) → (Nat → Int32) → Prop) → Prop) (n1 : Int32) (n2 : Int32) (v_bestHeld : Int32) (v_person : Int32) (v_lawNumber : Int32) (v_size : Int32) (a_purses : Nat → Int32) (a_used : Nat → Int32) (a_order : Nat → Int32) (a_best : Nat → Int32) (a_p3_firsts : Nat → Int32) (a_p3_seconds : Nat → Int32) (Post : (Int32) → (Nat → Int32) → (Nat → Int32) → (Nat → Int32) → (Nat → Int32) → Prop) : Prop := (vp_in n1 16 ∧ (vp_in n1 16 ∧ (vp_in (a_p3_firsts (Int32.toNatClampNeg n1)) 8 ∧ (vp_in (a_p3_seconds (Int32.toNatClampNeg n1)) 8 ∧ (vp_in n1 6 ∧ (vp_in n2 6 ∧ (wp_X8_makeMeeting v_lawNumber (a_p3_firsts (Int32.toNatClampNeg n1)) (a_p3_seconds (Int32.toNatClampNeg n1)) a_purses (fun (r60 : Int32) (a_purses_60 : Nat → Int32) => (rec (n2 + (1 : Int32)) v_bestHeld v_person v_lawNumber v_size a_purses_60 (upd a_used (Int32.toNatClampNeg n1) (1 : Int32)) (upd a_order (Int32.toNatClampNeg n2) n1) a_best a_p3_firsts a_p3_seconds (fun (v_bestHeld_69 : Int32) (a_purses_69 : Nat → Int32) (a_used_69 : Nat → Int32) (a_order_69 : Nat → Int32) (a_best_69 : Nat → Int32) => (vp_in (a_p3_firsts (Int32.toNatClampNeg n1)) 8 ∧ (vp_in (a_p3_seconds (Int32.toNatClampNeg n1)) 8 ∧ (vp_in n1 6 ∧ (Post v_bestHeld_69 (upd (upd a_purses_69 (Int32.toNatClampNeg (a_p3_firsts (Int32.toNatClampNeg n1))) (a_purses (Int32.toNatClampNeg (a_p3_firsts (Int32.toNatClampNeg n1))))) (Int32.toNatClampNeg (a_p3_seconds (Int32.toNatClampNeg n1))) (a_purses (Int32.toNatClampNeg (a_p3_seconds (Int32.toNatClampNeg n1))))) (upd a_used_69 (Int32.toNatClampNeg n1) (0 : Int32)) a_order_69 a_best_69))))))))))))))
set_option maxHeartbeats 4000000 in
set_option maxRecDepth 100000 in
theorem c_X3_tryNext (l : Launch) (d : Nat) {rec : Int32 → (Int32) → (Int32) → (Int32) → (Int32) → (Nat → Int32) → (Nat → Int32) → (Nat → Int32) → (Nat → Int32) → (Nat → Int32) → (Nat → Int32) → ((Int32) → (Nat → Int32) → (Nat → Int32) → (Nat → Int32) → (Nat → Int32) → Prop) → Prop} (hrec : ∀ (D : va_G) (cI cZ : ClassId) (o o_purses o_used o_order o_best o_p2 o_p2_firsts o_p2_seconds : Nat) (sz : Nat) (n1 : Int32) (v_bestHeld : Int32) (v_person : Int32) (v_lawNumber : Int32) (v_size : Int32) (a_purses : Nat → Int32) (a_used : Nat → Int32) (a_order : Nat → Int32) (a_best : Nat → Int32) (v_p2_size : Int32) (a_p2_firsts : Nat → Int32) (a_p2_seconds : Nat → Int32) (Post : (Int32) → (Nat → Int32) → (Nat → Int32) → (Nat → Int32) → (Nat → Int32) → Prop), rec n1 v_bestHeld v_person v_lawNumber v_size a_purses a_used a_order a_best a_p2_firsts a_p2_seconds Post → Met l yX3_goOn wsX3_goOn (rm_X3_goOn d) (cPc D cI cZ [.ref o, .int n1, .ref o_p2] (cw_X3_goOn cI cZ o o_purses o_used o_order o_best o_p2 o_p2_firsts o_p2_seconds v_bestHeld v_person v_lawNumber v_size a_purses a_used a_order a_best v_p2_size a_p2_firsts a_p2_seconds) sz) (cQv5 D Post (fun m_v_bestHeld m_a_purses m_a_used m_a_order m_a_best => (cw_X3_goOn cI cZ o o_purses o_used o_order o_best o_p2 o_p2_firsts o_p2_seconds m_v_bestHeld v_person v_lawNumber v_size m_a_purses m_a_used m_a_order m_a_best v_p2_size a_p2_firsts a_p2_seconds)) (va_A (cw_X3_goOn cI cZ o o_purses o_used o_order o_best o_p2 o_p2_firsts o_p2_seconds v_bestHeld v_person v_lawNumber v_size a_purses a_used a_order a_best v_p2_size a_p2_firsts a_p2_seconds) sz)) 0 0 (va_A (cw_X3_goOn cI cZ o o_purses o_used o_order o_best o_p2 o_p2_firsts o_p2_seconds v_bestHeld v_person v_lawNumber v_size a_purses a_used a_order a_best v_p2_size a_p2_firsts a_p2_seconds) sz)) (D : va_G) (cI cZ : ClassId) (o o_purses o_used o_order o_best o_p3 o_p3_firsts o_p3_seconds : Nat) (sz : Nat) (n1 : Int32) (n2 : Int32) (v_bestHeld : Int32) (v_person : Int32) (v_lawNumber : Int32) (v_size : Int32) (a_purses : Nat → Int32) (a_used : Nat → Int32) (a_order : Nat → Int32) (a_best : Nat → Int32) (v_p3_size : Int32) (a_p3_firsts : Nat → Int32) (a_p3_seconds : Nat → Int32) (Post : (Int32) → (Nat → Int32) → (Nat → Int32) → (Nat → Int32) → (Nat → Int32) → Prop) (h : wp_X3_tryNext rec n1 n2 v_bestHeld v_person v_lawNumber v_size a_purses a_used a_order a_best a_p3_firsts a_p3_seconds Post) : Met l yX3_tryNext wsX3_tryNext (rm_X3_tryNext d) (cPc D cI cZ [.ref o, .int n1, .int n2, .ref o_p3] (cw_X3_tryNext cI cZ o o_purses o_used o_order o_best o_p3 o_p3_firsts o_p3_seconds v_bestHeld v_person v_lawNumber v_size a_purses a_used a_order a_best v_p3_size a_p3_firsts a_p3_seconds) sz) (cQv5 D Post (fun m_v_bestHeld m_a_purses m_a_used m_a_order m_a_best => (cw_X3_tryNext cI cZ o o_purses o_used o_order o_best o_p3 o_p3_firsts o_p3_seconds m_v_bestHeld v_person v_lawNumber v_size m_a_purses m_a_used m_a_order m_a_best v_p3_size a_p3_firsts a_p3_seconds)) (va_A (cw_X3_tryNext cI cZ o o_purses o_used o_order o_best o_p3 o_p3_firsts o_p3_seconds v_bestHeld v_person v_lawNumber v_size a_purses a_used a_order a_best v_p3_size a_p3_firsts a_p3_seconds) sz)) 0 0 (va_A (cw_X3_tryNext cI cZ o o_purses o_used o_order o_best o_p3 o_p3_firsts o_p3_seconds v_bestHeld v_person v_lawNumber v_size a_purses a_used a_order a_best v_p3_size a_p3_firsts a_p3_seconds) sz) := by
  refine ent (cc := cX3_tryNext) (maxL := 8) (ret := none) (Qc := fun A => cQv5 D Post (fun m_v_bestHeld m_a_purses m_a_used m_a_order m_a_best => (cw_X3_tryNext cI cZ o o_purses o_used o_order o_best o_p3 o_p3_firsts o_p3_seconds m_v_bestHeld v_person v_lawNumber v_size m_a_purses m_a_used m_a_order m_a_best v_p3_size a_p3_firsts a_p3_seconds)) A) (by decide) rfl (Nat.le_of_ble_eq_true rfl) ?_
  intro p e s m args below meth c A ls Q hQ hsz hx hb hml hr hts hown hlocks hnm hK hP hD hA hS hl
  have hl : lv_has ls 8 [(0, .ref o), (1, .int n1), (2, .int n2), (3, .ref o_p3)] := hl
  unfold wp_X3_tryNext at h
  refine lv_aload_n hx hb dX3_tryNext_0 rfl (lv_at hl 3 rfl) ?_
  refine va_getN (D := D) (ci := 2) (v := .ref o_p3_firsts) (C := RX2) (T := TX2) (N := 3) hx hb hts inw_X3_tryNext_X2 hown hK.1 hP 5 rfl rfl 0 (by decide) (nF_0 hK) (fun _ h9 => h9) rfl dX3_tryNext_1 ?_
  refine lv_iload_n hx hb dX3_tryNext_4 rfl (lv_at hl 1 rfl) ?_
  have h0 := h.1
  have h := h.2
  refine va_iald hx hb hK.1 hP 6 0 rfl rfl h0 dX3_tryNext_5 ?_
  refine lv_istore (lv' := [(4, .int (a_p3_firsts (Int32.toNatClampNeg n1))), (0, .ref o), (1, .int n1), (2, .int n2), (3, .ref o_p3)]) hx hb dX3_tryNext_6 hl (by decide) rfl (fun ls hl => ?_)
  refine lv_aload_n hx hb dX3_tryNext_8 rfl (lv_at hl 4 rfl) ?_
  refine va_getN (D := D) (ci := 2) (v := .ref o_p3_seconds) (C := RX2) (T := TX2) (N := 3) hx hb hts inw_X3_tryNext_X2 hown hK.1 hP 5 rfl rfl 1 (by decide) (nF_2 hK) (fun _ h9 => h9) rfl dX3_tryNext_9 ?_
  refine lv_iload_n hx hb dX3_tryNext_12 rfl (lv_at hl 2 rfl) ?_
  have h0 := h.1
  have h := h.2
  refine va_iald hx hb hK.1 hP 7 0 rfl rfl h0 dX3_tryNext_13 ?_
  refine lv_istore (lv' := [(5, .int (a_p3_seconds (Int32.toNatClampNeg n1))), (4, .int (a_p3_firsts (Int32.toNatClampNeg n1))), (0, .ref o), (1, .int n1), (2, .int n2), (3, .ref o_p3)]) hx hb dX3_tryNext_14 hl (by decide) rfl (fun ls hl => ?_)
  refine lv_aload_n hx hb dX3_tryNext_16 rfl (lv_at hl 2 rfl) ?_
  refine va_get (D := D) (ci := 3) (v := .ref o_purses) (C := RX3) (T := TX3) (N := 8) hx hb hts inw_X3_tryNext_X3 hown hK.1 hP 0 rfl rfl 0 (by decide) (hts (.fieldLink RX3 9 "PursesShare$OrderSearch" "purses" "[I") (by decide +kernel)) (fun _ h9 => h9) rfl dX3_tryNext_17 ?_
  refine lv_iload hx hb dX3_tryNext_20 (lv_at hl 1 rfl) ?_
  have h0 := h.1
  have h := h.2
  refine va_iald hx hb hK.1 hP 1 0 rfl rfl h0 dX3_tryNext_22 ?_
  refine lv_istore (lv' := [(6, .int (a_purses (Int32.toNatClampNeg (a_p3_firsts (Int32.toNatClampNeg n1))))), (5, .int (a_p3_seconds (Int32.toNatClampNeg n1))), (4, .int (a_p3_firsts (Int32.toNatClampNeg n1))), (0, .ref o), (1, .int n1), (2, .int n2), (3, .ref o_p3)]) hx hb dX3_tryNext_23 hl (by decide) rfl (fun ls hl => ?_)
  refine lv_aload_n hx hb dX3_tryNext_25 rfl (lv_at hl 3 rfl) ?_
  refine va_get (D := D) (ci := 3) (v := .ref o_purses) (C := RX3) (T := TX3) (N := 8) hx hb hts inw_X3_tryNext_X3 hown hK.1 hP 0 rfl rfl 0 (by decide) (hts (.fieldLink RX3 9 "PursesShare$OrderSearch" "purses" "[I") (by decide +kernel)) (fun _ h9 => h9) rfl dX3_tryNext_26 ?_
  refine lv_iload hx hb dX3_tryNext_29 (lv_at hl 1 rfl) ?_
  have h0 := h.1
  have h := h.2
  refine va_iald hx hb hK.1 hP 1 0 rfl rfl h0 dX3_tryNext_31 ?_
  refine lv_istore (lv' := [(7, .int (a_purses (Int32.toNatClampNeg (a_p3_seconds (Int32.toNatClampNeg n1))))), (6, .int (a_purses (Int32.toNatClampNeg (a_p3_firsts (Int32.toNatClampNeg n1))))), (5, .int (a_p3_seconds (Int32.toNatClampNeg n1))), (4, .int (a_p3_firsts (Int32.toNatClampNeg n1))), (0, .ref o), (1, .int n1), (2, .int n2), (3, .ref o_p3)]) hx hb dX3_tryNext_32 hl (by decide) rfl (fun ls hl => ?_)
  refine lv_aload_n hx hb dX3_tryNext_34 rfl (lv_at hl 4 rfl) ?_
  refine va_get (D := D) (ci := 3) (v := .ref o_used) (C := RX3) (T := TX3) (N := 8) hx hb hts inw_X3_tryNext_X3 hown hK.1 hP 0 rfl rfl 1 (by decide) (hts (.fieldLink RX3 15 "PursesShare$OrderSearch" "used" "[Z") (by decide +kernel)) (fun _ h9 => h9) rfl dX3_tryNext_35 ?_
  refine lv_iload_n hx hb dX3_tryNext_38 rfl (lv_at hl 5 rfl) ?_
  refine lv_iconst (v := 1) hx hb dX3_tryNext_39 (by decide) ?_
  have h0 := h.1
  have h := h.2
  refine va_zast hx hb hK.1 hP hD hS 2 1 rfl rfl h0 dX3_tryNext_40 (fun H locs hP hD hS => ?_)
  have hP : va_P D vwCl (cw_X3_tryNext cI cZ o o_purses o_used o_order o_best o_p3 o_p3_firsts o_p3_seconds v_bestHeld v_person v_lawNumber v_size a_purses (upd a_used (Int32.toNatClampNeg n1) (1 : Int32)) a_order a_best v_p3_size a_p3_firsts a_p3_seconds) H := hP
  have hD : va_D A (cw_X3_tryNext cI cZ o o_purses o_used o_order o_best o_p3 o_p3_firsts o_p3_seconds v_bestHeld v_person v_lawNumber v_size a_purses (upd a_used (Int32.toNatClampNeg n1) (1 : Int32)) a_order a_best v_p3_size a_p3_firsts a_p3_seconds) := hD
  refine lv_aload_n hx hb dX3_tryNext_41 rfl (lv_at hl 4 rfl) ?_
  refine va_get (D := D) (ci := 3) (v := .ref o_order) (C := RX3) (T := TX3) (N := 8) hx hb hts inw_X3_tryNext_X3 hown hK.1 hP 0 rfl rfl 2 (by decide) (hts (.fieldLink RX3 19 "PursesShare$OrderSearch" "order" "[I") (by decide +kernel)) (fun _ h9 => h9) rfl dX3_tryNext_42 ?_
  refine lv_iload_n hx hb dX3_tryNext_45 rfl (lv_at hl 6 rfl) ?_
  refine lv_iload_n hx hb dX3_tryNext_46 rfl (lv_at hl 5 rfl) ?_
  have h0 := h.1
  have h := h.2
  refine va_iast hx hb hK.1 hP hD hS 3 0 rfl rfl h0 dX3_tryNext_47 (fun H locs hP hD hS => ?_)
  have hP : va_P D vwCl (cw_X3_tryNext cI cZ o o_purses o_used o_order o_best o_p3 o_p3_firsts o_p3_seconds v_bestHeld v_person v_lawNumber v_size a_purses (upd a_used (Int32.toNatClampNeg n1) (1 : Int32)) (upd a_order (Int32.toNatClampNeg n2) n1) a_best v_p3_size a_p3_firsts a_p3_seconds) H := hP
  have hD : va_D A (cw_X3_tryNext cI cZ o o_purses o_used o_order o_best o_p3 o_p3_firsts o_p3_seconds v_bestHeld v_person v_lawNumber v_size a_purses (upd a_used (Int32.toNatClampNeg n1) (1 : Int32)) (upd a_order (Int32.toNatClampNeg n2) n1) a_best v_p3_size a_p3_firsts a_p3_seconds) := hD
  refine lv_aload_n hx hb dX3_tryNext_48 rfl (lv_at hl 4 rfl) ?_
  refine va_get (D := D) (ci := 3) (v := .ref o_purses) (C := RX3) (T := TX3) (N := 8) hx hb hts inw_X3_tryNext_X3 hown hK.1 hP 0 rfl rfl 0 (by decide) (hts (.fieldLink RX3 9 "PursesShare$OrderSearch" "purses" "[I") (by decide +kernel)) (fun _ h9 => h9) rfl dX3_tryNext_49 ?_
  refine lv_aload_n hx hb dX3_tryNext_52 rfl (lv_at hl 4 rfl) ?_
  refine va_get (D := D) (ci := 3) (v := .int v_lawNumber) (C := RX3) (T := TX3) (N := 8) hx hb hts inw_X3_tryNext_X3 hown hK.1 hP 0 rfl rfl 6 (by decide) (hts (.fieldLink RX3 41 "PursesShare$OrderSearch" "lawNumber" "I") (by decide +kernel)) (fun _ h9 => h9) rfl dX3_tryNext_53 ?_
  refine lv_iload hx hb dX3_tryNext_56 (lv_at hl 3 rfl) ?_
  refine lv_iload hx hb dX3_tryNext_58 (lv_at hl 2 rfl) ?_
  refine call_i1 (va_runSN (As := [.ref o_purses, .int v_lawNumber, .int (a_p3_firsts (Int32.toNatClampNeg n1)), .int (a_p3_seconds (Int32.toNatClampNeg n1))]) (rest := []) ⟨hx, hb, hml, hown, hts⟩ (c_X8_makeMeeting l D cI cZ o_purses (Array.size H) v_lawNumber (a_p3_firsts (Int32.toNatClampNeg n1)) (a_p3_seconds (Int32.toNatClampNeg n1)) a_purses _ h) ⟨va_cnB (own := RX3) 4 hts gX3_tryNext_X8_makeMeeting_n74 rfl rfl rfl (nM_27 hK) (hts (.initialized RX8) (by decide +kernel)) (by decide +kernel) ⟨(by dsimp only [rm_X3_tryNext, rm_X8_makeMeeting]; omega), (by dsimp only [rm_X3_tryNext, rm_X8_makeMeeting]; omega)⟩, hts (.static yX8_makeMeeting) (by decide +kernel), trivial⟩ (preS_of hP hD hK [1] rfl rfl) rfl rfl hl.1 rfl (lv_room (Nat.le_of_ble_eq_true rfl)) dX3_tryNext_60 ⟨Nat.zero_le _, Nat.zero_le _⟩) hP hD hS hA [1] rfl (fun a_purses_60 => (cw_X3_tryNext cI cZ o o_purses o_used o_order o_best o_p3 o_p3_firsts o_p3_seconds v_bestHeld v_person v_lawNumber v_size a_purses_60 (upd a_used (Int32.toNatClampNeg n1) (1 : Int32)) (upd a_order (Int32.toNatClampNeg n2) n1) a_best v_p3_size a_p3_firsts a_p3_seconds)) (fun _ => rfl) (fun _ => rfl) (fun r60 a_purses_60 H locs h hP hD hS => ?_)
  refine lv_pop hx hb dX3_tryNext_63 rfl ?_
  refine lv_aload_n hx hb dX3_tryNext_64 rfl (lv_at hl 4 rfl) ?_
  refine lv_iload_n hx hb dX3_tryNext_65 rfl (lv_at hl 6 rfl) ?_
  refine lv_iconst (v := 1) hx hb dX3_tryNext_66 (by decide) ?_
  refine lv_iadd hx hb dX3_tryNext_67 ?_
  refine lv_aload_n hx hb dX3_tryNext_68 rfl (lv_at hl 7 rfl) ?_
  refine call_v5 (va_runV (As := [.int (n2 + (1 : Int32)), .ref o_p3]) (rest := []) ⟨hx, hb, hml, hown, hts⟩ (hrec D cI cZ o o_purses o_used o_order o_best o_p3 o_p3_firsts o_p3_seconds (Array.size H) (n2 + (1 : Int32)) v_bestHeld v_person v_lawNumber v_size a_purses_60 (upd a_used (Int32.toNatClampNeg n1) (1 : Int32)) (upd a_order (Int32.toNatClampNeg n2) n1) a_best v_p3_size a_p3_firsts a_p3_seconds _ h) (cwV 2 hts gX3_tryNext_X3_goOn rfl rfl rfl (by decide +kernel) ⟨(by dsimp only [rm_X3_goOn, rm_X3_tryNext]; omega), (by dsimp only [rm_X3_goOn, rm_X3_tryNext]; omega)⟩) (preV_of hP hD hK [0, 1, 2, 3, 4, 5, 6, 7] rfl rfl 0 3 rfl rfl rfl) rfl rfl hl.1 rfl (lv_room (Nat.le_of_ble_eq_true rfl)) dX3_tryNext_69 ⟨Nat.zero_le _, Nat.zero_le _⟩) hP hD hS hA [0, 1, 2, 3, 4, 5, 6, 7] rfl (fun v_bestHeld_69 a_purses_69 a_used_69 a_order_69 a_best_69 => (cw_X3_tryNext cI cZ o o_purses o_used o_order o_best o_p3 o_p3_firsts o_p3_seconds v_bestHeld_69 v_person v_lawNumber v_size a_purses_69 a_used_69 a_order_69 a_best_69 v_p3_size a_p3_firsts a_p3_seconds)) (fun _ _ _ _ _ => rfl) (fun _ _ _ _ _ => rfl) (fun v_bestHeld_69 a_purses_69 a_used_69 a_order_69 a_best_69 H locs h hP hD hS => ?_)
  refine lv_aload_n hx hb dX3_tryNext_72 rfl (lv_at hl 4 rfl) ?_
  refine va_get (D := D) (ci := 3) (v := .ref o_purses) (C := RX3) (T := TX3) (N := 8) hx hb hts inw_X3_tryNext_X3 hown hK.1 hP 0 rfl rfl 0 (by decide) (hts (.fieldLink RX3 9 "PursesShare$OrderSearch" "purses" "[I") (by decide +kernel)) (fun _ h9 => h9) rfl dX3_tryNext_73 ?_
  refine lv_iload hx hb dX3_tryNext_76 (lv_at hl 3 rfl) ?_
  refine lv_iload hx hb dX3_tryNext_78 (lv_at hl 1 rfl) ?_
  have h0 := h.1
  have h := h.2
  refine va_iast hx hb hK.1 hP hD hS 1 0 rfl rfl h0 dX3_tryNext_80 (fun H locs hP hD hS => ?_)
  have hP : va_P D vwCl (cw_X3_tryNext cI cZ o o_purses o_used o_order o_best o_p3 o_p3_firsts o_p3_seconds v_bestHeld_69 v_person v_lawNumber v_size (upd a_purses_69 (Int32.toNatClampNeg (a_p3_firsts (Int32.toNatClampNeg n1))) (a_purses (Int32.toNatClampNeg (a_p3_firsts (Int32.toNatClampNeg n1))))) a_used_69 a_order_69 a_best_69 v_p3_size a_p3_firsts a_p3_seconds) H := hP
  have hD : va_D A (cw_X3_tryNext cI cZ o o_purses o_used o_order o_best o_p3 o_p3_firsts o_p3_seconds v_bestHeld_69 v_person v_lawNumber v_size (upd a_purses_69 (Int32.toNatClampNeg (a_p3_firsts (Int32.toNatClampNeg n1))) (a_purses (Int32.toNatClampNeg (a_p3_firsts (Int32.toNatClampNeg n1))))) a_used_69 a_order_69 a_best_69 v_p3_size a_p3_firsts a_p3_seconds) := hD
  refine lv_aload_n hx hb dX3_tryNext_81 rfl (lv_at hl 4 rfl) ?_
  refine va_get (D := D) (ci := 3) (v := .ref o_purses) (C := RX3) (T := TX3) (N := 8) hx hb hts inw_X3_tryNext_X3 hown hK.1 hP 0 rfl rfl 0 (by decide) (hts (.fieldLink RX3 9 "PursesShare$OrderSearch" "purses" "[I") (by decide +kernel)) (fun _ h9 => h9) rfl dX3_tryNext_82 ?_
  refine lv_iload hx hb dX3_tryNext_85 (lv_at hl 2 rfl) ?_
  refine lv_iload hx hb dX3_tryNext_87 (lv_at hl 0 rfl) ?_
  have h0 := h.1
  have h := h.2
  refine va_iast hx hb hK.1 hP hD hS 1 0 rfl rfl h0 dX3_tryNext_89 (fun H locs hP hD hS => ?_)
  have hP : va_P D vwCl (cw_X3_tryNext cI cZ o o_purses o_used o_order o_best o_p3 o_p3_firsts o_p3_seconds v_bestHeld_69 v_person v_lawNumber v_size (upd (upd a_purses_69 (Int32.toNatClampNeg (a_p3_firsts (Int32.toNatClampNeg n1))) (a_purses (Int32.toNatClampNeg (a_p3_firsts (Int32.toNatClampNeg n1))))) (Int32.toNatClampNeg (a_p3_seconds (Int32.toNatClampNeg n1))) (a_purses (Int32.toNatClampNeg (a_p3_seconds (Int32.toNatClampNeg n1))))) a_used_69 a_order_69 a_best_69 v_p3_size a_p3_firsts a_p3_seconds) H := hP
  have hD : va_D A (cw_X3_tryNext cI cZ o o_purses o_used o_order o_best o_p3 o_p3_firsts o_p3_seconds v_bestHeld_69 v_person v_lawNumber v_size (upd (upd a_purses_69 (Int32.toNatClampNeg (a_p3_firsts (Int32.toNatClampNeg n1))) (a_purses (Int32.toNatClampNeg (a_p3_firsts (Int32.toNatClampNeg n1))))) (Int32.toNatClampNeg (a_p3_seconds (Int32.toNatClampNeg n1))) (a_purses (Int32.toNatClampNeg (a_p3_seconds (Int32.toNatClampNeg n1))))) a_used_69 a_order_69 a_best_69 v_p3_size a_p3_firsts a_p3_seconds) := hD
  refine lv_aload_n hx hb dX3_tryNext_90 rfl (lv_at hl 4 rfl) ?_
  refine va_get (D := D) (ci := 3) (v := .ref o_used) (C := RX3) (T := TX3) (N := 8) hx hb hts inw_X3_tryNext_X3 hown hK.1 hP 0 rfl rfl 1 (by decide) (hts (.fieldLink RX3 15 "PursesShare$OrderSearch" "used" "[Z") (by decide +kernel)) (fun _ h9 => h9) rfl dX3_tryNext_91 ?_
  refine lv_iload_n hx hb dX3_tryNext_94 rfl (lv_at hl 5 rfl) ?_
  refine lv_iconst (v := 0) hx hb dX3_tryNext_95 (by decide) ?_
  have h0 := h.1
  have h := h.2
  refine va_zast hx hb hK.1 hP hD hS 2 1 rfl rfl h0 dX3_tryNext_96 (fun H locs hP hD hS => ?_)
  have hP : va_P D vwCl (cw_X3_tryNext cI cZ o o_purses o_used o_order o_best o_p3 o_p3_firsts o_p3_seconds v_bestHeld_69 v_person v_lawNumber v_size (upd (upd a_purses_69 (Int32.toNatClampNeg (a_p3_firsts (Int32.toNatClampNeg n1))) (a_purses (Int32.toNatClampNeg (a_p3_firsts (Int32.toNatClampNeg n1))))) (Int32.toNatClampNeg (a_p3_seconds (Int32.toNatClampNeg n1))) (a_purses (Int32.toNatClampNeg (a_p3_seconds (Int32.toNatClampNeg n1))))) (upd a_used_69 (Int32.toNatClampNeg n1) (0 : Int32)) a_order_69 a_best_69 v_p3_size a_p3_firsts a_p3_seconds) H := hP
  have hD : va_D A (cw_X3_tryNext cI cZ o o_purses o_used o_order o_best o_p3 o_p3_firsts o_p3_seconds v_bestHeld_69 v_person v_lawNumber v_size (upd (upd a_purses_69 (Int32.toNatClampNeg (a_p3_firsts (Int32.toNatClampNeg n1))) (a_purses (Int32.toNatClampNeg (a_p3_firsts (Int32.toNatClampNeg n1))))) (Int32.toNatClampNeg (a_p3_seconds (Int32.toNatClampNeg n1))) (a_purses (Int32.toNatClampNeg (a_p3_seconds (Int32.toNatClampNeg n1))))) (upd a_used_69 (Int32.toNatClampNeg n1) (0 : Int32)) a_order_69 a_best_69 v_p3_size a_p3_firsts a_p3_seconds) := hD
  exact ret_v5 hx hb hr hlocks hQ hS v_bestHeld_69 (upd (upd a_purses_69 (Int32.toNatClampNeg (a_p3_firsts (Int32.toNatClampNeg n1))) (a_purses (Int32.toNatClampNeg (a_p3_firsts (Int32.toNatClampNeg n1))))) (Int32.toNatClampNeg (a_p3_seconds (Int32.toNatClampNeg n1))) (a_purses (Int32.toNatClampNeg (a_p3_seconds (Int32.toNatClampNeg n1))))) (upd a_used_69 (Int32.toNatClampNeg n1) (0 : Int32)) a_order_69 a_best_69 hP h dX3_tryNext_97
theorem inw_X3_goOn_X3 : ∀ w ∈ u_ws RX3 TX3 8, w ∈ wsX3_goOn := by decide +kernel
def wp_X3_goOn : Nat → Int32 → (Int32) → (Int32) → (Int32) → (Int32) → (Nat → Int32) → (Nat → Int32) → (Nat → Int32) → (Nat → Int32) → (Nat → Int32) → (Nat → Int32) → ((Int32) → (Nat → Int32) → (Nat → Int32) → (Nat → Int32) → (Nat → Int32) → Prop) → Prop
  | 0, _, _, _, _, _, _, _, _, _, _, _, _ => False
  | d + 1, n1, v_bestHeld, v_person, v_lawNumber, v_size, a_purses, a_used, a_order, a_best, a_p2_firsts, a_p2_seconds, Post => ((n1 < v_size → (∀ k15 : (Int32) → (Int32) → (Nat → Int32) → (Nat → Int32) → (Nat → Int32) → (Nat → Int32) → Prop, (∀ (x3_15 : Int32) (v_bestHeld_15 : Int32) (a_purses_15 : Nat → Int32) (a_used_15 : Nat → Int32) (a_order_15 : Nat → Int32) (a_best_15 : Nat → Int32), ((v_size ≤ x3_15 → (Post v_bestHeld_15 a_purses_15 a_used_15 a_order_15 a_best_15)) ∧ (¬ v_size ≤ x3_15 → (vp_in x3_15 6 ∧ ((¬ (a_used_15 (Int32.toNatClampNeg x3_15)) = 0 → (k15 (x3_15 + 1) v_bestHeld_15 a_purses_15 a_used_15 a_order_15 a_best_15)) ∧ ((a_used_15 (Int32.toNatClampNeg x3_15)) = 0 → (wp_X3_tryNext (wp_X3_goOn d) x3_15 n1 v_bestHeld_15 v_person v_lawNumber v_size a_purses_15 a_used_15 a_order_15 a_best_15 a_p2_firsts a_p2_seconds (fun (v_bestHeld_36 : Int32) (a_purses_36 : Nat → Int32) (a_used_36 : Nat → Int32) (a_order_36 : Nat → Int32) (a_best_36 : Nat → Int32) => (k15 (x3_15 + 1) v_bestHeld_36 a_purses_36 a_used_36 a_order_36 a_best_36)))))))) → k15 x3_15 v_bestHeld_15 a_purses_15 a_used_15 a_order_15 a_best_15) → k15 (0 : Int32) v_bestHeld a_purses a_used a_order a_best)) ∧ (¬ n1 < v_size → (wp_X3_noteIfBetter v_bestHeld v_person a_purses a_order a_best (fun (v_bestHeld_9 : Int32) (a_best_9 : Nat → Int32) => (Post v_bestHeld_9 a_purses a_used a_order a_best_9)))))
set_option maxHeartbeats 4000000 in
set_option maxRecDepth 100000 in
theorem c_X3_goOn (l : Launch) : ∀ (d : Nat) (D : va_G) (cI cZ : ClassId) (o o_purses o_used o_order o_best o_p2 o_p2_firsts o_p2_seconds : Nat) (sz : Nat) (n1 : Int32) (v_bestHeld : Int32) (v_person : Int32) (v_lawNumber : Int32) (v_size : Int32) (a_purses : Nat → Int32) (a_used : Nat → Int32) (a_order : Nat → Int32) (a_best : Nat → Int32) (v_p2_size : Int32) (a_p2_firsts : Nat → Int32) (a_p2_seconds : Nat → Int32) (Post : (Int32) → (Nat → Int32) → (Nat → Int32) → (Nat → Int32) → (Nat → Int32) → Prop), wp_X3_goOn d n1 v_bestHeld v_person v_lawNumber v_size a_purses a_used a_order a_best a_p2_firsts a_p2_seconds Post → Met l yX3_goOn wsX3_goOn (rm_X3_goOn d) (cPc D cI cZ [.ref o, .int n1, .ref o_p2] (cw_X3_goOn cI cZ o o_purses o_used o_order o_best o_p2 o_p2_firsts o_p2_seconds v_bestHeld v_person v_lawNumber v_size a_purses a_used a_order a_best v_p2_size a_p2_firsts a_p2_seconds) sz) (cQv5 D Post (fun m_v_bestHeld m_a_purses m_a_used m_a_order m_a_best => (cw_X3_goOn cI cZ o o_purses o_used o_order o_best o_p2 o_p2_firsts o_p2_seconds m_v_bestHeld v_person v_lawNumber v_size m_a_purses m_a_used m_a_order m_a_best v_p2_size a_p2_firsts a_p2_seconds)) (va_A (cw_X3_goOn cI cZ o o_purses o_used o_order o_best o_p2 o_p2_firsts o_p2_seconds v_bestHeld v_person v_lawNumber v_size a_purses a_used a_order a_best v_p2_size a_p2_firsts a_p2_seconds) sz)) 0 0 (va_A (cw_X3_goOn cI cZ o o_purses o_used o_order o_best o_p2 o_p2_firsts o_p2_seconds v_bestHeld v_person v_lawNumber v_size a_purses a_used a_order a_best v_p2_size a_p2_firsts a_p2_seconds) sz) := by
  intro d
  induction d with
  | zero =>
    intro D cI cZ o o_purses o_used o_order o_best o_p2 o_p2_firsts o_p2_seconds sz n1 v_bestHeld v_person v_lawNumber v_size a_purses a_used a_order a_best v_p2_size a_p2_firsts a_p2_seconds Post h
    exact False.elim h
  | succ d ih =>
    intro D cI cZ o o_purses o_used o_order o_best o_p2 o_p2_firsts o_p2_seconds sz n1 v_bestHeld v_person v_lawNumber v_size a_purses a_used a_order a_best v_p2_size a_p2_firsts a_p2_seconds Post h
    refine ent (cc := cX3_goOn) (maxL := 4) (ret := none) (Qc := fun A => cQv5 D Post (fun m_v_bestHeld m_a_purses m_a_used m_a_order m_a_best => (cw_X3_goOn cI cZ o o_purses o_used o_order o_best o_p2 o_p2_firsts o_p2_seconds m_v_bestHeld v_person v_lawNumber v_size m_a_purses m_a_used m_a_order m_a_best v_p2_size a_p2_firsts a_p2_seconds)) A) (by decide) rfl (Nat.le_of_ble_eq_true rfl) ?_
    intro p e s m args below meth c A ls Q hQ hsz hx hb hml hr hts hown hlocks hnm hK hP hD hA hS hl
    have hl : lv_has ls 4 [(0, .ref o), (1, .int n1), (2, .ref o_p2)] := hl
    rw [wp_X3_goOn.eq_2] at h
    refine lv_iload_n hx hb dX3_goOn_0 rfl (lv_at hl 1 rfl) ?_
    refine lv_aload_n hx hb dX3_goOn_1 rfl (lv_at hl 0 rfl) ?_
    refine va_get (D := D) (ci := 3) (v := .int v_size) (C := RX3) (T := TX3) (N := 8) hx hb hts inw_X3_goOn_X3 hown hK.1 hP 0 rfl rfl 7 (by decide) (hts (.fieldLink RX3 53 "PursesShare$OrderSearch" "size" "I") (by decide +kernel)) (fun _ h9 => h9) rfl dX3_goOn_2 ?_
    refine lv_icmp_lt (tgt := 13) hx hb dX3_goOn_5 (by decide) (fun c5 => ?_) (fun c5 => ?_)
    · have h := h.1 c5
      refine lv_iconst (v := 0) hx hb dX3_goOn_13 (by decide) ?_
      refine lv_istore_n (lv' := [(3, .int (0 : Int32)), (0, .ref o), (1, .int n1), (2, .ref o_p2)]) hx hb dX3_goOn_14 rfl hl (by decide) rfl (fun ls hl => ?_)
      refine h (fun x3_15 v_bestHeld_15 a_purses_15 a_used_15 a_order_15 a_best_15 => ∀ (H : Heap) (locs : List Loc) (ls : Array Slot), lv_has ls 4 [(0, .ref o), (1, .int n1), (2, .ref o_p2), (3, .int x3_15)] → va_P D vwCl (cw_X3_goOn cI cZ o o_purses o_used o_order o_best o_p2 o_p2_firsts o_p2_seconds v_bestHeld_15 v_person v_lawNumber v_size a_purses_15 a_used_15 a_order_15 a_best_15 v_p2_size a_p2_firsts a_p2_seconds) H → va_D A (cw_X3_goOn cI cZ o o_purses o_used o_order o_best o_p2 o_p2_firsts o_p2_seconds v_bestHeld_15 v_person v_lawNumber v_size a_purses_15 a_used_15 a_order_15 a_best_15 v_p2_size a_p2_firsts a_p2_seconds) → va_S A s.heap H locs → W p l e (rm_X3_goOn (d + 1)) s m args below meth c H locs 0 0 Q (F0 m 15 ls [])) ?_ s.heap [] ls (lv_sub hl [1, 2, 3, 0] rfl) hP hD hS
      intro x3_15 v_bestHeld_15 a_purses_15 a_used_15 a_order_15 a_best_15 h H locs ls hl hP hD hS
      refine lv_iload_n hx hb dX3_goOn_15 rfl (lv_at hl 3 rfl) ?_
      refine lv_aload_n hx hb dX3_goOn_16 rfl (lv_at hl 0 rfl) ?_
      refine va_get (D := D) (ci := 3) (v := .int v_size) (C := RX3) (T := TX3) (N := 8) hx hb hts inw_X3_goOn_X3 hown hK.1 hP 0 rfl rfl 7 (by decide) (hts (.fieldLink RX3 53 "PursesShare$OrderSearch" "size" "I") (by decide +kernel)) (fun _ h9 => h9) rfl dX3_goOn_17 ?_
      refine lv_icmp_ge (tgt := 45) hx hb dX3_goOn_20 (by decide) (fun c20 => ?_) (fun c20 => ?_)
      · have h := h.1 c20
        exact ret_v5 hx hb hr hlocks hQ hS v_bestHeld_15 a_purses_15 a_used_15 a_order_15 a_best_15 hP h dX3_goOn_45
      · have h := h.2 c20
        refine lv_aload_n hx hb dX3_goOn_23 rfl (lv_at hl 0 rfl) ?_
        refine va_get (D := D) (ci := 3) (v := .ref o_used) (C := RX3) (T := TX3) (N := 8) hx hb hts inw_X3_goOn_X3 hown hK.1 hP 0 rfl rfl 1 (by decide) (hts (.fieldLink RX3 15 "PursesShare$OrderSearch" "used" "[Z") (by decide +kernel)) (fun _ h9 => h9) rfl dX3_goOn_24 ?_
        refine lv_iload_n hx hb dX3_goOn_27 rfl (lv_at hl 3 rfl) ?_
        have h0 := h.1
        have h := h.2
        refine va_zald hx hb hK.1 hP 2 1 rfl rfl h0 dX3_goOn_28 ?_
        refine lv_if_ne (tgt := 39) hx hb dX3_goOn_29 (by decide) (fun c29 => ?_) (fun c29 => ?_)
        · have h := h.1 c29
          refine lv_iinc (v := (x3_15 + 1)) (lv' := [(3, .int (x3_15 + 1)), (0, .ref o), (1, .int n1), (2, .ref o_p2)]) hx hb dX3_goOn_39 hl (k := 3) rfl rfl (by decide) rfl (fun ls hl => ?_)
          refine lv_goto (tgt := 15) hx hb dX3_goOn_42 (by decide) ?_
          exact h H locs ls (lv_sub hl [1, 2, 3, 0] rfl) hP hD hS
        · have h := h.2 c29
          refine lv_aload_n hx hb dX3_goOn_32 rfl (lv_at hl 0 rfl) ?_
          refine lv_iload_n hx hb dX3_goOn_33 rfl (lv_at hl 3 rfl) ?_
          refine lv_iload_n hx hb dX3_goOn_34 rfl (lv_at hl 1 rfl) ?_
          refine lv_aload_n hx hb dX3_goOn_35 rfl (lv_at hl 2 rfl) ?_
          refine call_v5 (va_runV (As := [.int x3_15, .int n1, .ref o_p2]) (rest := []) ⟨hx, hb, hml, hown, hts⟩ (c_X3_tryNext l d ih D cI cZ o o_purses o_used o_order o_best o_p2 o_p2_firsts o_p2_seconds (Array.size H) x3_15 n1 v_bestHeld_15 v_person v_lawNumber v_size a_purses_15 a_used_15 a_order_15 a_best_15 v_p2_size a_p2_firsts a_p2_seconds _ h) (cwV 3 hts gX3_goOn_X3_tryNext rfl rfl rfl (by decide +kernel) ⟨(by dsimp only [rm_X3_goOn, rm_X3_tryNext]; omega), (by dsimp only [rm_X3_goOn, rm_X3_tryNext]; omega)⟩) (preV_of hP hD hK [0, 1, 2, 3, 4, 5, 6, 7] rfl rfl 0 3 rfl rfl rfl) rfl rfl hl.1 rfl (lv_room (Nat.le_of_ble_eq_true rfl)) dX3_goOn_36 ⟨Nat.zero_le _, Nat.zero_le _⟩) hP hD hS hA [0, 1, 2, 3, 4, 5, 6, 7] rfl (fun v_bestHeld_36 a_purses_36 a_used_36 a_order_36 a_best_36 => (cw_X3_goOn cI cZ o o_purses o_used o_order o_best o_p2 o_p2_firsts o_p2_seconds v_bestHeld_36 v_person v_lawNumber v_size a_purses_36 a_used_36 a_order_36 a_best_36 v_p2_size a_p2_firsts a_p2_seconds)) (fun _ _ _ _ _ => rfl) (fun _ _ _ _ _ => rfl) (fun v_bestHeld_36 a_purses_36 a_used_36 a_order_36 a_best_36 H locs h hP hD hS => ?_)
          refine lv_iinc (v := (x3_15 + 1)) (lv' := [(3, .int (x3_15 + 1)), (0, .ref o), (1, .int n1), (2, .ref o_p2)]) hx hb dX3_goOn_39 hl (k := 3) rfl rfl (by decide) rfl (fun ls hl => ?_)
          refine lv_goto (tgt := 15) hx hb dX3_goOn_42 (by decide) ?_
          exact h H locs ls (lv_sub hl [1, 2, 3, 0] rfl) hP hD hS
    · have h := h.2 c5
      refine lv_aload_n hx hb dX3_goOn_8 rfl (lv_at hl 0 rfl) ?_
      refine call_v2 (va_runV (As := []) (rest := []) ⟨hx, hb, hml, hown, hts⟩ (c_X3_noteIfBetter l D cI cZ o o_purses o_used o_order o_best (Array.size s.heap) v_bestHeld v_person v_lawNumber v_size a_purses a_order a_best _ h) (cwV 0 hts gX3_goOn_X3_noteIfBetter rfl rfl rfl (by decide +kernel) ⟨(by dsimp only [rm_X3_goOn, rm_X3_noteIfBetter]; omega), (by dsimp only [rm_X3_goOn, rm_X3_noteIfBetter]; omega)⟩) (preV_of hP hD hK [0, 1, 3, 4] rfl rfl 0 3 rfl rfl rfl) rfl rfl hl.1 rfl (lv_room (Nat.le_of_ble_eq_true rfl)) dX3_goOn_9 ⟨Nat.zero_le _, Nat.zero_le _⟩) hP hD hS hA [0, 1, 3, 4] rfl (fun v_bestHeld_9 a_best_9 => (cw_X3_goOn cI cZ o o_purses o_used o_order o_best o_p2 o_p2_firsts o_p2_seconds v_bestHeld_9 v_person v_lawNumber v_size a_purses a_used a_order a_best_9 v_p2_size a_p2_firsts a_p2_seconds)) (fun _ _ => rfl) (fun _ _ => rfl) (fun v_bestHeld_9 a_best_9 H locs h hP hD hS => ?_)
      exact ret_v5 hx hb hr hlocks hQ hS v_bestHeld_9 a_purses a_used a_order a_best_9 hP h dX3_goOn_12
abbrev rm_X3_find : Room := { frames := 21, cells := 0, slots := 0, locals := 557 }
abbrev cw_X3_find (cI cZ : ClassId) (o o_purses o_used o_order o_best o_p1 o_p1_purses o_p1_firsts o_p1_seconds o_p1_firstsHad o_p1_secondsHad o_p1_seenSums o_p1_seenShared o_p2 o_p2_firsts o_p2_seconds : Nat) (v_bestHeld : Int32) (v_person : Int32) (v_lawNumber : Int32) (v_size : Int32) (a_purses : Nat → Int32) (a_used : Nat → Int32) (a_order : Nat → Int32) (a_best : Nat → Int32) (v_p1_filled : Int32) (v_p1_people : Int32) (v_p1_lawNumber : Int32) (v_p1_made : Int32) (v_p1_seen : Int32) (a_p1_purses : Nat → Int32) (v_p2_size : Int32) (a_p2_firsts : Nat → Int32) (a_p2_seconds : Nat → Int32) : va_W := [(o, .inr (3, [.ref o_purses, .ref o_used, .ref o_order, .ref o_best, .int v_bestHeld, .int v_person, .int v_lawNumber, .int v_size])), (o_purses, .inl (cI, 8, .inl a_purses)), (o_used, .inl (cZ, 6, .inl a_used)), (o_order, .inl (cI, 6, .inl a_order)), (o_best, .inl (cI, 6, .inl a_best)), (o_p1, .inr (1, [.int v_p1_filled, .int v_p1_people, .int v_p1_lawNumber, .ref o_p1_purses, .int v_p1_made, .ref o_p1_firsts, .ref o_p1_seconds, .ref o_p1_firstsHad, .ref o_p1_secondsHad, .int v_p1_seen, .ref o_p1_seenSums, .ref o_p1_seenShared])), (o_p1_purses, .inl (cI, 8, .inl a_p1_purses)), (o_p2, .inr (2, [.ref o_p2_firsts, .ref o_p2_seconds, .int v_p2_size])), (o_p2_firsts, .inl (cI, 16, .inl a_p2_firsts)), (o_p2_seconds, .inl (cI, 16, .inl a_p2_seconds))]
theorem inw_X3_find_X1 : ∀ w ∈ u_ws RX1 TX1 12, w ∈ wsX3_find := by decide +kernel
theorem inw_X3_find_X2 : ∀ w ∈ u_ws RX2 TX2 3, w ∈ wsX3_find := by decide +kernel
theorem inw_X3_find_X3 : ∀ w ∈ u_ws RX3 TX3 8, w ∈ wsX3_find := by decide +kernel
def wp_X3_find (n3 : Int32) (v_bestHeld : Int32) (v_person : Int32) (v_lawNumber : Int32) (v_size : Int32) (a_purses : Nat → Int32) (a_used : Nat → Int32) (a_order : Nat → Int32) (a_best : Nat → Int32) (v_p1_lawNumber : Int32) (a_p1_purses : Nat → Int32) (v_p2_size : Int32) (a_p2_firsts : Nat → Int32) (a_p2_seconds : Nat → Int32) (Post : (Int32) → (Int32) → (Int32) → (Int32) → (Nat → Int32) → (Nat → Int32) → (Nat → Int32) → (Nat → Int32) → Prop) : Prop := (∀ r35 : Int32, r35 = (if (6 : Int32) < v_p2_size then (6 : Int32) else v_p2_size) → (wp_X3_goOn 7 (0 : Int32) (-1 : Int32) n3 v_p1_lawNumber r35 (va_cpy a_p1_purses a_purses (Int32.toNatClampNeg (0 : Int32)) (Int32.toNatClampNeg (0 : Int32)) (Int32.toNatClampNeg (8 : Int32))) a_used a_order a_best a_p2_firsts a_p2_seconds (fun (v_bestHeld_49 : Int32) (a_purses_49 : Nat → Int32) (a_used_49 : Nat → Int32) (a_order_49 : Nat → Int32) (a_best_49 : Nat → Int32) => (Post v_bestHeld_49 n3 v_p1_lawNumber r35 a_purses_49 a_used_49 a_order_49 a_best_49))))
set_option maxHeartbeats 4000000 in
set_option maxRecDepth 100000 in
theorem c_X3_find (l : Launch) (D : va_G) (cI cZ : ClassId) (o o_purses o_used o_order o_best o_p1 o_p1_purses o_p1_firsts o_p1_seconds o_p1_firstsHad o_p1_secondsHad o_p1_seenSums o_p1_seenShared o_p2 o_p2_firsts o_p2_seconds : Nat) (sz : Nat) (n3 : Int32) (v_bestHeld : Int32) (v_person : Int32) (v_lawNumber : Int32) (v_size : Int32) (a_purses : Nat → Int32) (a_used : Nat → Int32) (a_order : Nat → Int32) (a_best : Nat → Int32) (v_p1_filled : Int32) (v_p1_people : Int32) (v_p1_lawNumber : Int32) (v_p1_made : Int32) (v_p1_seen : Int32) (a_p1_purses : Nat → Int32) (v_p2_size : Int32) (a_p2_firsts : Nat → Int32) (a_p2_seconds : Nat → Int32) (Post : (Int32) → (Int32) → (Int32) → (Int32) → (Nat → Int32) → (Nat → Int32) → (Nat → Int32) → (Nat → Int32) → Prop) (h : wp_X3_find n3 v_bestHeld v_person v_lawNumber v_size a_purses a_used a_order a_best v_p1_lawNumber a_p1_purses v_p2_size a_p2_firsts a_p2_seconds Post) : Met l yX3_find wsX3_find rm_X3_find (cPc D cI cZ [.ref o, .ref o_p1, .ref o_p2, .int n3] (cw_X3_find cI cZ o o_purses o_used o_order o_best o_p1 o_p1_purses o_p1_firsts o_p1_seconds o_p1_firstsHad o_p1_secondsHad o_p1_seenSums o_p1_seenShared o_p2 o_p2_firsts o_p2_seconds v_bestHeld v_person v_lawNumber v_size a_purses a_used a_order a_best v_p1_filled v_p1_people v_p1_lawNumber v_p1_made v_p1_seen a_p1_purses v_p2_size a_p2_firsts a_p2_seconds) sz) (cQv8 D Post (fun m_v_bestHeld m_v_person m_v_lawNumber m_v_size m_a_purses m_a_used m_a_order m_a_best => (cw_X3_find cI cZ o o_purses o_used o_order o_best o_p1 o_p1_purses o_p1_firsts o_p1_seconds o_p1_firstsHad o_p1_secondsHad o_p1_seenSums o_p1_seenShared o_p2 o_p2_firsts o_p2_seconds m_v_bestHeld m_v_person m_v_lawNumber m_v_size m_a_purses m_a_used m_a_order m_a_best v_p1_filled v_p1_people v_p1_lawNumber v_p1_made v_p1_seen a_p1_purses v_p2_size a_p2_firsts a_p2_seconds)) (va_A (cw_X3_find cI cZ o o_purses o_used o_order o_best o_p1 o_p1_purses o_p1_firsts o_p1_seconds o_p1_firstsHad o_p1_secondsHad o_p1_seenSums o_p1_seenShared o_p2 o_p2_firsts o_p2_seconds v_bestHeld v_person v_lawNumber v_size a_purses a_used a_order a_best v_p1_filled v_p1_people v_p1_lawNumber v_p1_made v_p1_seen a_p1_purses v_p2_size a_p2_firsts a_p2_seconds) sz)) 0 0 (va_A (cw_X3_find cI cZ o o_purses o_used o_order o_best o_p1 o_p1_purses o_p1_firsts o_p1_seconds o_p1_firstsHad o_p1_secondsHad o_p1_seenSums o_p1_seenShared o_p2 o_p2_firsts o_p2_seconds v_bestHeld v_person v_lawNumber v_size a_purses a_used a_order a_best v_p1_filled v_p1_people v_p1_lawNumber v_p1_made v_p1_seen a_p1_purses v_p2_size a_p2_firsts a_p2_seconds) sz) := by
  refine ent (cc := cX3_find) (maxL := 4) (ret := none) (Qc := fun A => cQv8 D Post (fun m_v_bestHeld m_v_person m_v_lawNumber m_v_size m_a_purses m_a_used m_a_order m_a_best => (cw_X3_find cI cZ o o_purses o_used o_order o_best o_p1 o_p1_purses o_p1_firsts o_p1_seconds o_p1_firstsHad o_p1_secondsHad o_p1_seenSums o_p1_seenShared o_p2 o_p2_firsts o_p2_seconds m_v_bestHeld m_v_person m_v_lawNumber m_v_size m_a_purses m_a_used m_a_order m_a_best v_p1_filled v_p1_people v_p1_lawNumber v_p1_made v_p1_seen a_p1_purses v_p2_size a_p2_firsts a_p2_seconds)) A) (by decide) rfl (Nat.le_of_ble_eq_true rfl) ?_
  intro p e s m args below meth c A ls Q hQ hsz hx hb hml hr hts hown hlocks hnm hK hP hD hA hS hl
  have hl : lv_has ls 4 [(0, .ref o), (1, .ref o_p1), (2, .ref o_p2), (3, .int n3)] := hl
  unfold wp_X3_find at h
  refine lv_aload_n hx hb dX3_find_0 rfl (lv_at hl 1 rfl) ?_
  refine va_getN (D := D) (ci := 1) (v := .ref o_p1_purses) (C := RX1) (T := TX1) (N := 12) hx hb hts inw_X3_find_X1 hown hK.1 hP 5 rfl rfl 3 (by decide) (nF_20 hK) (fun _ h9 => h9) rfl dX3_find_1 ?_
  refine lv_iconst (v := 0) hx hb dX3_find_4 (by decide) ?_
  refine lv_aload_n hx hb dX3_find_5 rfl (lv_at hl 0 rfl) ?_
  refine va_get (D := D) (ci := 3) (v := .ref o_purses) (C := RX3) (T := TX3) (N := 8) hx hb hts inw_X3_find_X3 hown hK.1 hP 0 rfl rfl 0 (by decide) (hts (.fieldLink RX3 9 "PursesShare$OrderSearch" "purses" "[I") (by decide +kernel)) (fun _ h9 => h9) rfl dX3_find_6 ?_
  refine lv_iconst (v := 0) hx hb dX3_find_9 (by decide) ?_
  refine lv_bipush (v := 8) hx hb dX3_find_10 (by decide) ?_
  refine va_copyi hx hb (hml.trans hl.1.symm) hown (hts (.methodLink RX3 28 arraycopyName) (by decide +kernel)) (hts (.native arraycopyName) (by decide +kernel)) (hts (.static arraycopyName) (by decide +kernel)) (hts (.initialized "java/lang/System") (by decide +kernel)) hK.1 hP hD hS 6 1 0 0 (ty := .int) rfl rfl rfl rfl rfl (by decide) (by decide) (by decide) (by decide) (by decide) (fun _ _ => rfl) (Nat.le_of_ble_eq_true rfl) (Nat.le_of_ble_eq_true rfl) dX3_find_12 (fun H locs hP hD hS => ?_)
  have hP : va_P D vwCl (cw_X3_find cI cZ o o_purses o_used o_order o_best o_p1 o_p1_purses o_p1_firsts o_p1_seconds o_p1_firstsHad o_p1_secondsHad o_p1_seenSums o_p1_seenShared o_p2 o_p2_firsts o_p2_seconds v_bestHeld v_person v_lawNumber v_size (va_cpy a_p1_purses a_purses (Int32.toNatClampNeg (0 : Int32)) (Int32.toNatClampNeg (0 : Int32)) (Int32.toNatClampNeg (8 : Int32))) a_used a_order a_best v_p1_filled v_p1_people v_p1_lawNumber v_p1_made v_p1_seen a_p1_purses v_p2_size a_p2_firsts a_p2_seconds) H := hP
  have hD : va_D A (cw_X3_find cI cZ o o_purses o_used o_order o_best o_p1 o_p1_purses o_p1_firsts o_p1_seconds o_p1_firstsHad o_p1_secondsHad o_p1_seenSums o_p1_seenShared o_p2 o_p2_firsts o_p2_seconds v_bestHeld v_person v_lawNumber v_size (va_cpy a_p1_purses a_purses (Int32.toNatClampNeg (0 : Int32)) (Int32.toNatClampNeg (0 : Int32)) (Int32.toNatClampNeg (8 : Int32))) a_used a_order a_best v_p1_filled v_p1_people v_p1_lawNumber v_p1_made v_p1_seen a_p1_purses v_p2_size a_p2_firsts a_p2_seconds) := hD
  refine lv_aload_n hx hb dX3_find_15 rfl (lv_at hl 0 rfl) ?_
  refine lv_iload_n hx hb dX3_find_16 rfl (lv_at hl 3 rfl) ?_
  refine va_put (D := D) (ci := 3) (v := .int n3) (ty := .int) (C := RX3) (T := TX3) (N := 8) hx hb hts inw_X3_find_X3 tyX3 tyX3_ok nmX3 hown hK.1 hP hD hS 0 rfl rfl 5 (by decide) (hts (.fieldLink RX3 34 "PursesShare$OrderSearch" "person" "I") (by decide +kernel)) (fun _ h9 => h9) rfl (by decide +kernel) rfl rfl (Nat.le_of_ble_eq_true rfl) dX3_find_17 (fun H locs hP hD hS => ?_)
  have hP : va_P D vwCl (cw_X3_find cI cZ o o_purses o_used o_order o_best o_p1 o_p1_purses o_p1_firsts o_p1_seconds o_p1_firstsHad o_p1_secondsHad o_p1_seenSums o_p1_seenShared o_p2 o_p2_firsts o_p2_seconds v_bestHeld n3 v_lawNumber v_size (va_cpy a_p1_purses a_purses (Int32.toNatClampNeg (0 : Int32)) (Int32.toNatClampNeg (0 : Int32)) (Int32.toNatClampNeg (8 : Int32))) a_used a_order a_best v_p1_filled v_p1_people v_p1_lawNumber v_p1_made v_p1_seen a_p1_purses v_p2_size a_p2_firsts a_p2_seconds) H := hP
  have hD : va_D A (cw_X3_find cI cZ o o_purses o_used o_order o_best o_p1 o_p1_purses o_p1_firsts o_p1_seconds o_p1_firstsHad o_p1_secondsHad o_p1_seenSums o_p1_seenShared o_p2 o_p2_firsts o_p2_seconds v_bestHeld n3 v_lawNumber v_size (va_cpy a_p1_purses a_purses (Int32.toNatClampNeg (0 : Int32)) (Int32.toNatClampNeg (0 : Int32)) (Int32.toNatClampNeg (8 : Int32))) a_used a_order a_best v_p1_filled v_p1_people v_p1_lawNumber v_p1_made v_p1_seen a_p1_purses v_p2_size a_p2_firsts a_p2_seconds) := hD
  refine lv_aload_n hx hb dX3_find_20 rfl (lv_at hl 0 rfl) ?_
  refine lv_aload_n hx hb dX3_find_21 rfl (lv_at hl 1 rfl) ?_
  refine va_getN (D := D) (ci := 1) (v := .int v_p1_lawNumber) (C := RX1) (T := TX1) (N := 12) hx hb hts inw_X3_find_X1 hown hK.1 hP 5 rfl rfl 2 (by decide) (nF_16 hK) (fun _ h9 => h9) rfl dX3_find_22 ?_
  refine va_put (D := D) (ci := 3) (v := .int v_p1_lawNumber) (ty := .int) (C := RX3) (T := TX3) (N := 8) hx hb hts inw_X3_find_X3 tyX3 tyX3_ok nmX3 hown hK.1 hP hD hS 0 rfl rfl 6 (by decide) (hts (.fieldLink RX3 41 "PursesShare$OrderSearch" "lawNumber" "I") (by decide +kernel)) (fun _ h9 => h9) rfl (by decide +kernel) rfl rfl (Nat.le_of_ble_eq_true rfl) dX3_find_25 (fun H locs hP hD hS => ?_)
  have hP : va_P D vwCl (cw_X3_find cI cZ o o_purses o_used o_order o_best o_p1 o_p1_purses o_p1_firsts o_p1_seconds o_p1_firstsHad o_p1_secondsHad o_p1_seenSums o_p1_seenShared o_p2 o_p2_firsts o_p2_seconds v_bestHeld n3 v_p1_lawNumber v_size (va_cpy a_p1_purses a_purses (Int32.toNatClampNeg (0 : Int32)) (Int32.toNatClampNeg (0 : Int32)) (Int32.toNatClampNeg (8 : Int32))) a_used a_order a_best v_p1_filled v_p1_people v_p1_lawNumber v_p1_made v_p1_seen a_p1_purses v_p2_size a_p2_firsts a_p2_seconds) H := hP
  have hD : va_D A (cw_X3_find cI cZ o o_purses o_used o_order o_best o_p1 o_p1_purses o_p1_firsts o_p1_seconds o_p1_firstsHad o_p1_secondsHad o_p1_seenSums o_p1_seenShared o_p2 o_p2_firsts o_p2_seconds v_bestHeld n3 v_p1_lawNumber v_size (va_cpy a_p1_purses a_purses (Int32.toNatClampNeg (0 : Int32)) (Int32.toNatClampNeg (0 : Int32)) (Int32.toNatClampNeg (8 : Int32))) a_used a_order a_best v_p1_filled v_p1_people v_p1_lawNumber v_p1_made v_p1_seen a_p1_purses v_p2_size a_p2_firsts a_p2_seconds) := hD
  refine lv_aload_n hx hb dX3_find_28 rfl (lv_at hl 0 rfl) ?_
  refine lv_aload_n hx hb dX3_find_29 rfl (lv_at hl 2 rfl) ?_
  refine va_getN (D := D) (ci := 2) (v := .int v_p2_size) (C := RX2) (T := TX2) (N := 3) hx hb hts inw_X3_find_X2 hown hK.1 hP 7 rfl rfl 2 (by decide) (nF_4 hK) (fun _ h9 => h9) rfl dX3_find_30 ?_
  refine lv_bipush (v := 6) hx hb dX3_find_33 (by decide) ?_
  refine va_mmin hx hb (hml.trans hl.1.symm) hown (hts (.methodLink RX3 47 Lib.Math.min.name) (by decide +kernel)) (hts (.static Lib.Math.min.name) (by decide +kernel)) (hts (.initialized "java/lang/Math") (by decide +kernel)) (hts (.code Lib.Math.min.name Lib.Math.min.code 2 (some .int)) (by decide +kernel)) (Nat.le_of_ble_eq_true rfl) (Nat.le_of_ble_eq_true rfl) (Nat.zero_le _) (Nat.zero_le _) dX3_find_35 ?_
  refine lv_topi (fun r35 e35 => ?_)
  have h := h r35 e35
  refine va_put (D := D) (ci := 3) (v := .int r35) (ty := .int) (C := RX3) (T := TX3) (N := 8) hx hb hts inw_X3_find_X3 tyX3 tyX3_ok nmX3 hown hK.1 hP hD hS 0 rfl rfl 7 (by decide) (hts (.fieldLink RX3 53 "PursesShare$OrderSearch" "size" "I") (by decide +kernel)) (fun _ h9 => h9) rfl (by decide +kernel) rfl rfl (Nat.le_of_ble_eq_true rfl) dX3_find_38 (fun H locs hP hD hS => ?_)
  have hP : va_P D vwCl (cw_X3_find cI cZ o o_purses o_used o_order o_best o_p1 o_p1_purses o_p1_firsts o_p1_seconds o_p1_firstsHad o_p1_secondsHad o_p1_seenSums o_p1_seenShared o_p2 o_p2_firsts o_p2_seconds v_bestHeld n3 v_p1_lawNumber r35 (va_cpy a_p1_purses a_purses (Int32.toNatClampNeg (0 : Int32)) (Int32.toNatClampNeg (0 : Int32)) (Int32.toNatClampNeg (8 : Int32))) a_used a_order a_best v_p1_filled v_p1_people v_p1_lawNumber v_p1_made v_p1_seen a_p1_purses v_p2_size a_p2_firsts a_p2_seconds) H := hP
  have hD : va_D A (cw_X3_find cI cZ o o_purses o_used o_order o_best o_p1 o_p1_purses o_p1_firsts o_p1_seconds o_p1_firstsHad o_p1_secondsHad o_p1_seenSums o_p1_seenShared o_p2 o_p2_firsts o_p2_seconds v_bestHeld n3 v_p1_lawNumber r35 (va_cpy a_p1_purses a_purses (Int32.toNatClampNeg (0 : Int32)) (Int32.toNatClampNeg (0 : Int32)) (Int32.toNatClampNeg (8 : Int32))) a_used a_order a_best v_p1_filled v_p1_people v_p1_lawNumber v_p1_made v_p1_seen a_p1_purses v_p2_size a_p2_firsts a_p2_seconds) := hD
  refine lv_aload_n hx hb dX3_find_41 rfl (lv_at hl 0 rfl) ?_
  refine lv_iconst (v := -1) hx hb dX3_find_42 (by decide) ?_
  refine va_put (D := D) (ci := 3) (v := .int (-1 : Int32)) (ty := .int) (C := RX3) (T := TX3) (N := 8) hx hb hts inw_X3_find_X3 tyX3 tyX3_ok nmX3 hown hK.1 hP hD hS 0 rfl rfl 4 (by decide) (hts (.fieldLink RX3 54 "PursesShare$OrderSearch" "bestHeld" "I") (by decide +kernel)) (fun _ h9 => h9) rfl (by decide +kernel) rfl rfl (Nat.le_of_ble_eq_true rfl) dX3_find_43 (fun H locs hP hD hS => ?_)
  have hP : va_P D vwCl (cw_X3_find cI cZ o o_purses o_used o_order o_best o_p1 o_p1_purses o_p1_firsts o_p1_seconds o_p1_firstsHad o_p1_secondsHad o_p1_seenSums o_p1_seenShared o_p2 o_p2_firsts o_p2_seconds (-1 : Int32) n3 v_p1_lawNumber r35 (va_cpy a_p1_purses a_purses (Int32.toNatClampNeg (0 : Int32)) (Int32.toNatClampNeg (0 : Int32)) (Int32.toNatClampNeg (8 : Int32))) a_used a_order a_best v_p1_filled v_p1_people v_p1_lawNumber v_p1_made v_p1_seen a_p1_purses v_p2_size a_p2_firsts a_p2_seconds) H := hP
  have hD : va_D A (cw_X3_find cI cZ o o_purses o_used o_order o_best o_p1 o_p1_purses o_p1_firsts o_p1_seconds o_p1_firstsHad o_p1_secondsHad o_p1_seenSums o_p1_seenShared o_p2 o_p2_firsts o_p2_seconds (-1 : Int32) n3 v_p1_lawNumber r35 (va_cpy a_p1_purses a_purses (Int32.toNatClampNeg (0 : Int32)) (Int32.toNatClampNeg (0 : Int32)) (Int32.toNatClampNeg (8 : Int32))) a_used a_order a_best v_p1_filled v_p1_people v_p1_lawNumber v_p1_made v_p1_seen a_p1_purses v_p2_size a_p2_firsts a_p2_seconds) := hD
  refine lv_aload_n hx hb dX3_find_46 rfl (lv_at hl 0 rfl) ?_
  refine lv_iconst (v := 0) hx hb dX3_find_47 (by decide) ?_
  refine lv_aload_n hx hb dX3_find_48 rfl (lv_at hl 2 rfl) ?_
  refine call_v5 (va_runV (As := [.int (0 : Int32), .ref o_p2]) (rest := []) ⟨hx, hb, hml, hown, hts⟩ (c_X3_goOn l 7 D cI cZ o o_purses o_used o_order o_best o_p2 o_p2_firsts o_p2_seconds (Array.size H) (0 : Int32) (-1 : Int32) n3 v_p1_lawNumber r35 (va_cpy a_p1_purses a_purses (Int32.toNatClampNeg (0 : Int32)) (Int32.toNatClampNeg (0 : Int32)) (Int32.toNatClampNeg (8 : Int32))) a_used a_order a_best v_p2_size a_p2_firsts a_p2_seconds _ h) (cwV 2 hts gX3_find_X3_goOn rfl rfl rfl (by decide +kernel) ⟨Nat.le_of_ble_eq_true rfl, Nat.le_of_ble_eq_true rfl⟩) (preV_of hP hD hK [0, 1, 2, 3, 4, 7, 8, 9] rfl rfl 0 3 rfl rfl rfl) rfl rfl hl.1 rfl (lv_room (Nat.le_of_ble_eq_true rfl)) dX3_find_49 ⟨Nat.zero_le _, Nat.zero_le _⟩) hP hD hS hA [0, 1, 2, 3, 4, 7, 8, 9] rfl (fun v_bestHeld_49 a_purses_49 a_used_49 a_order_49 a_best_49 => (cw_X3_find cI cZ o o_purses o_used o_order o_best o_p1 o_p1_purses o_p1_firsts o_p1_seconds o_p1_firstsHad o_p1_secondsHad o_p1_seenSums o_p1_seenShared o_p2 o_p2_firsts o_p2_seconds v_bestHeld_49 n3 v_p1_lawNumber r35 a_purses_49 a_used_49 a_order_49 a_best_49 v_p1_filled v_p1_people v_p1_lawNumber v_p1_made v_p1_seen a_p1_purses v_p2_size a_p2_firsts a_p2_seconds)) (fun _ _ _ _ _ => rfl) (fun _ _ _ _ _ => rfl) (fun v_bestHeld_49 a_purses_49 a_used_49 a_order_49 a_best_49 H locs h hP hD hS => ?_)
  exact ret_v8 hx hb hr hlocks hQ hS v_bestHeld_49 n3 v_p1_lawNumber r35 a_purses_49 a_used_49 a_order_49 a_best_49 hP h dX3_find_52
abbrev rm_J7_fill_53178 : Room := { frames := 0, cells := 0, slots := 0, locals := 0 }
abbrev cw_J7_fill_53178 (cI cZ : ClassId) (o_p1 : Nat) (a_p1 : Nat → Int32) : va_W := [(o_p1, .inl (cI, 256, .inl a_p1))]
def wp_J7_fill_53178 (n2 : Int32) (a_p1 : Nat → Int32) (Post : (Nat → Int32) → Prop) : Prop := (∀ k5 : (Int32) → (Nat → Int32) → Prop, (∀ (x2_5 : Int32) (a_p1_5 : Nat → Int32), (((256 : Int32) ≤ x2_5 → (Post a_p1_5)) ∧ (¬ (256 : Int32) ≤ x2_5 → (vp_in x2_5 256 ∧ (k5 (x2_5 + 1) (upd a_p1_5 (Int32.toNatClampNeg x2_5) n2))))) → k5 x2_5 a_p1_5) → k5 (0 : Int32) a_p1)
set_option maxHeartbeats 4000000 in
set_option maxRecDepth 100000 in
theorem c_J7_fill_53178 (l : Launch) (D : va_G) (cI cZ : ClassId) (o_p1 : Nat) (sz : Nat) (n2 : Int32) (a_p1 : Nat → Int32) (Post : (Nat → Int32) → Prop) (h : wp_J7_fill_53178 n2 a_p1 Post) : Met l yJ7_fill_53178 wsJ7_fill_53178 rm_J7_fill_53178 (cPc D cI cZ [.ref o_p1, .int n2] (cw_J7_fill_53178 cI cZ o_p1 a_p1) sz) (cQv1 D Post (fun m_a_p1 => (cw_J7_fill_53178 cI cZ o_p1 m_a_p1)) (va_A (cw_J7_fill_53178 cI cZ o_p1 a_p1) sz)) 0 0 (va_A (cw_J7_fill_53178 cI cZ o_p1 a_p1) sz) := by
  refine ent (cc := cJ7_fill_53178) (maxL := 4) (ret := none) (Qc := fun A => cQv1 D Post (fun m_a_p1 => (cw_J7_fill_53178 cI cZ o_p1 m_a_p1)) A) (by decide) rfl (Nat.le_of_ble_eq_true rfl) ?_
  intro p e s m args below meth c A ls Q hQ hsz hx hb hml hr hts hown hlocks hnm hK hP hD hA hS hl
  have hl : lv_has ls 4 [(0, .ref o_p1), (1, .int n2)] := hl
  unfold wp_J7_fill_53178 at h
  refine lv_iconst (v := 0) hx hb dJ7_fill_53178_0 (by decide) ?_
  refine lv_istore_n (lv' := [(2, .int (0 : Int32)), (0, .ref o_p1), (1, .int n2)]) hx hb dJ7_fill_53178_1 rfl hl (by decide) rfl (fun ls hl => ?_)
  refine lv_aload_n hx hb dJ7_fill_53178_2 rfl (lv_at hl 1 rfl) ?_
  refine va_alen (v := 256) hx hb hK.1 hP 0 0 rfl rfl rfl dJ7_fill_53178_3 ?_
  refine lv_istore_n (lv' := [(3, .int (256 : Int32)), (2, .int (0 : Int32)), (0, .ref o_p1), (1, .int n2)]) hx hb dJ7_fill_53178_4 rfl hl (by decide) rfl (fun ls hl => ?_)
  refine h (fun x2_5 a_p1_5 => ∀ (H : Heap) (locs : List Loc) (ls : Array Slot), lv_has ls 4 [(0, .ref o_p1), (1, .int n2), (2, .int x2_5), (3, .int (256 : Int32))] → va_P D vwCl (cw_J7_fill_53178 cI cZ o_p1 a_p1_5) H → va_D A (cw_J7_fill_53178 cI cZ o_p1 a_p1_5) → va_S A s.heap H locs → W p l e rm_J7_fill_53178 s m args below meth c H locs 0 0 Q (F0 m 5 ls [])) ?_ s.heap [] ls (lv_sub hl [2, 3, 1, 0] rfl) hP hD hS
  intro x2_5 a_p1_5 h H locs ls hl hP hD hS
  refine lv_iload_n hx hb dJ7_fill_53178_5 rfl (lv_at hl 2 rfl) ?_
  refine lv_iload_n hx hb dJ7_fill_53178_6 rfl (lv_at hl 3 rfl) ?_
  refine lv_icmp_ge (tgt := 20) hx hb dJ7_fill_53178_7 (by decide) (fun c7 => ?_) (fun c7 => ?_)
  · have h := h.1 c7
    exact ret_v1 hx hb hr hlocks hQ hS a_p1_5 hP h dJ7_fill_53178_20
  · have h := h.2 c7
    refine lv_aload_n hx hb dJ7_fill_53178_10 rfl (lv_at hl 0 rfl) ?_
    refine lv_iload_n hx hb dJ7_fill_53178_11 rfl (lv_at hl 2 rfl) ?_
    refine lv_iload_n hx hb dJ7_fill_53178_12 rfl (lv_at hl 1 rfl) ?_
    have h0 := h.1
    have h := h.2
    refine va_iast hx hb hK.1 hP hD hS 0 0 rfl rfl h0 dJ7_fill_53178_13 (fun H locs hP hD hS => ?_)
    have hP : va_P D vwCl (cw_J7_fill_53178 cI cZ o_p1 (upd a_p1_5 (Int32.toNatClampNeg x2_5) n2)) H := hP
    have hD : va_D A (cw_J7_fill_53178 cI cZ o_p1 (upd a_p1_5 (Int32.toNatClampNeg x2_5) n2)) := hD
    refine lv_iinc (v := (x2_5 + 1)) (lv' := [(2, .int (x2_5 + 1)), (0, .ref o_p1), (1, .int n2), (3, .int (256 : Int32))]) hx hb dJ7_fill_53178_14 hl (k := 2) rfl rfl (by decide) rfl (fun ls hl => ?_)
    refine lv_goto (tgt := 5) hx hb dJ7_fill_53178_17 (by decide) ?_
    exact h H locs ls (lv_sub hl [1, 2, 0, 3] rfl) hP hD hS
abbrev rm_X8_heldAfterOne : Room := { frames := 3, cells := 0, slots := 0, locals := 108 }
abbrev cw_X8_heldAfterOne (cI cZ : ClassId)  : va_W := []
def wp_X8_heldAfterOne (n1 : Int32) (n2 : Int32) (n3 : Int32) (Post : Int32 → Prop) : Prop := (wp_X8_sharedBy n2 n3 (fun (r5 : Int32) => (wp_X8_heldAfter n1 n2 n3 r5 (1 : Int32) (fun (r9 : Int32) => (Post r9)))))
set_option maxHeartbeats 4000000 in
set_option maxRecDepth 100000 in
theorem c_X8_heldAfterOne (l : Launch) (D : va_G) (cI cZ : ClassId) (sz : Nat) (n1 : Int32) (n2 : Int32) (n3 : Int32) (Post : Int32 → Prop) (h : wp_X8_heldAfterOne n1 n2 n3 Post) : Met l yX8_heldAfterOne wsX8_heldAfterOne rm_X8_heldAfterOne (cPc D cI cZ [.int n1, .int n2, .int n3] (cw_X8_heldAfterOne cI cZ) sz) (cQi0 D Post ((cw_X8_heldAfterOne cI cZ)) (va_A (cw_X8_heldAfterOne cI cZ) sz)) 0 0 (va_A (cw_X8_heldAfterOne cI cZ) sz) := by
  refine ent (cc := cX8_heldAfterOne) (maxL := 3) (ret := (some .int)) (Qc := fun A => cQi0 D Post ((cw_X8_heldAfterOne cI cZ)) A) (by decide) rfl (Nat.le_of_ble_eq_true rfl) ?_
  intro p e s m args below meth c A ls Q hQ hsz hx hb hml hr hts hown hlocks hnm hK hP hD hA hS hl
  have hl : lv_has ls 3 [(0, .int n1), (1, .int n2), (2, .int n3)] := hl
  unfold wp_X8_heldAfterOne at h
  refine lv_iload_n hx hb dX8_heldAfterOne_0 rfl (lv_at hl 0 rfl) ?_
  refine lv_iload_n hx hb dX8_heldAfterOne_1 rfl (lv_at hl 1 rfl) ?_
  refine lv_iload_n hx hb dX8_heldAfterOne_2 rfl (lv_at hl 2 rfl) ?_
  refine lv_iload_n hx hb dX8_heldAfterOne_3 rfl (lv_at hl 1 rfl) ?_
  refine lv_iload_n hx hb dX8_heldAfterOne_4 rfl (lv_at hl 2 rfl) ?_
  refine call_i0 (va_runS (As := [.int n2, .int n3]) (rest := [.int n3, .int n2, .int n1]) ⟨hx, hb, hml, hown, hts⟩ (c_X8_sharedBy l D cI cZ (Array.size s.heap) n2 n3 _ h) (va_cwS 2 hts gX8_heldAfterOne_X8_sharedBy rfl rfl rfl (by decide +kernel) ⟨Nat.le_of_ble_eq_true rfl, Nat.le_of_ble_eq_true rfl⟩) (preS_of hP hD hK [] rfl rfl) rfl rfl hl.1 rfl (lv_room (Nat.le_of_ble_eq_true rfl)) dX8_heldAfterOne_5 ⟨Nat.zero_le _, Nat.zero_le _⟩) hP hD hS hA [] rfl ((cw_X8_heldAfterOne cI cZ)) (rfl) (rfl) (fun r5 H locs h hP hD hS => ?_)
  refine lv_iconst (v := 1) hx hb dX8_heldAfterOne_8 (by decide) ?_
  refine call_i0 (va_runS (As := [.int n1, .int n2, .int n3, .int r5, .int (1 : Int32)]) (rest := []) ⟨hx, hb, hml, hown, hts⟩ (c_X8_heldAfter l D cI cZ (Array.size H) n1 n2 n3 r5 (1 : Int32) _ h) (va_cwS 5 hts gX8_heldAfterOne_X8_heldAfter rfl rfl rfl (by decide +kernel) ⟨Nat.le_of_ble_eq_true rfl, Nat.le_of_ble_eq_true rfl⟩) (preS_of hP hD hK [] rfl rfl) rfl rfl hl.1 rfl (lv_room (Nat.le_of_ble_eq_true rfl)) dX8_heldAfterOne_9 ⟨Nat.zero_le _, Nat.zero_le _⟩) hP hD hS hA [] rfl ((cw_X8_heldAfterOne cI cZ)) (rfl) (rfl) (fun r9 H locs h hP hD hS => ?_)
  exact ret_i0 hx hb hr hlocks hQ hS  hP h dX8_heldAfterOne_12
abbrev rm_X4_goOn (d : Nat) : Room := { frames := 2 * d + 4, cells := 0, slots := 0, locals := 51 * d + 130 }
abbrev cw_X4_goOn (cI cZ : ClassId) (o o_lastHeld o_row o_best o_p4 o_p4_purses o_p4_firsts o_p4_seconds o_p4_firstsHad o_p4_secondsHad o_p4_seenSums o_p4_seenShared : Nat) (v_fewest : Int32) (v_people : Int32) (v_goal : Int32) (a_lastHeld : Nat → Int32) (a_row : Nat → Int32) (a_best : Nat → Int32) (v_p4_filled : Int32) (v_p4_people : Int32) (v_p4_lawNumber : Int32) (v_p4_made : Int32) (v_p4_seen : Int32) (a_p4_purses : Nat → Int32) : va_W := [(o, .inr (4, [.ref o_lastHeld, .ref o_row, .ref o_best, .int v_fewest, .int v_people, .int v_goal])), (o_lastHeld, .inl (cI, 256, .inl a_lastHeld)), (o_row, .inl (cI, 8, .inl a_row)), (o_best, .inl (cI, 8, .inl a_best)), (o_p4, .inr (1, [.int v_p4_filled, .int v_p4_people, .int v_p4_lawNumber, .ref o_p4_purses, .int v_p4_made, .ref o_p4_firsts, .ref o_p4_seconds, .ref o_p4_firstsHad, .ref o_p4_secondsHad, .int v_p4_seen, .ref o_p4_seenSums, .ref o_p4_seenShared])), (o_p4_purses, .inl (cI, 8, .inl a_p4_purses))]
abbrev rm_X4_trySending (d : Nat) : Room := { frames := 2 * d + 5, cells := 0, slots := 0, locals := 51 * d + 155 }
abbrev cw_X4_trySending (cI cZ : ClassId) (o o_lastHeld o_row o_best o_p5 o_p5_purses o_p5_firsts o_p5_seconds o_p5_firstsHad o_p5_secondsHad o_p5_seenSums o_p5_seenShared : Nat) (v_fewest : Int32) (v_people : Int32) (v_goal : Int32) (a_lastHeld : Nat → Int32) (a_row : Nat → Int32) (a_best : Nat → Int32) (v_p5_filled : Int32) (v_p5_people : Int32) (v_p5_lawNumber : Int32) (v_p5_made : Int32) (v_p5_seen : Int32) (a_p5_purses : Nat → Int32) : va_W := [(o, .inr (4, [.ref o_lastHeld, .ref o_row, .ref o_best, .int v_fewest, .int v_people, .int v_goal])), (o_lastHeld, .inl (cI, 256, .inl a_lastHeld)), (o_row, .inl (cI, 8, .inl a_row)), (o_best, .inl (cI, 8, .inl a_best)), (o_p5, .inr (1, [.int v_p5_filled, .int v_p5_people, .int v_p5_lawNumber, .ref o_p5_purses, .int v_p5_made, .ref o_p5_firsts, .ref o_p5_seconds, .ref o_p5_firstsHad, .ref o_p5_secondsHad, .int v_p5_seen, .ref o_p5_seenSums, .ref o_p5_seenShared])), (o_p5_purses, .inl (cI, 8, .inl a_p5_purses))]
theorem inw_X4_trySending_X1 : ∀ w ∈ u_ws RX1 TX1 12, w ∈ wsX4_trySending := by decide +kernel
theorem inw_X4_trySending_X4 : ∀ w ∈ u_ws RX4 TX4 6, w ∈ wsX4_trySending := by decide +kernel
def wp_X4_trySending (rec : Int32 → Int32 → Int32 → (Int32) → (Int32) → (Int32) → (Nat → Int32) → (Nat → Int32) → (Nat → Int32) → (Int32) → (Nat → Int32) → ((Int32) → (Nat → Int32) → (Nat → Int32) → (Nat → Int32) → Prop) → Prop) (n1 : Int32) (n2 : Int32) (n3 : Int32) (n4 : Int32) (v_fewest : Int32) (v_people : Int32) (v_goal : Int32) (a_lastHeld : Nat → Int32) (a_row : Nat → Int32) (a_best : Nat → Int32) (v_p5_lawNumber : Int32) (a_p5_purses : Nat → Int32) (Post : (Int32) → (Nat → Int32) → (Nat → Int32) → (Nat → Int32) → Prop) : Prop := (vp_in n1 8 ∧ (wp_X8_heldAfterOne v_p5_lawNumber n4 (a_p5_purses (Int32.toNatClampNeg n1)) (fun (r14 : Int32) => (vp_in n3 256 ∧ ((¬ (a_lastHeld (Int32.toNatClampNeg n3)) = r14 → (vp_in n3 256 ∧ (vp_in n2 8 ∧ (rec (n2 + (1 : Int32)) n3 r14 v_fewest v_people v_goal (upd a_lastHeld (Int32.toNatClampNeg n3) r14) (upd a_row (Int32.toNatClampNeg n2) n1) a_best v_p5_lawNumber a_p5_purses (fun (v_fewest_55 : Int32) (a_lastHeld_55 : Nat → Int32) (a_row_55 : Nat → Int32) (a_best_55 : Nat → Int32) => (Post v_fewest_55 a_lastHeld_55 a_row_55 a_best_55)))))) ∧ ((a_lastHeld (Int32.toNatClampNeg n3)) = r14 → (Post v_fewest a_lastHeld a_row a_best)))))))
set_option maxHeartbeats 4000000 in
set_option maxRecDepth 100000 in
theorem c_X4_trySending (l : Launch) (d : Nat) {rec : Int32 → Int32 → Int32 → (Int32) → (Int32) → (Int32) → (Nat → Int32) → (Nat → Int32) → (Nat → Int32) → (Int32) → (Nat → Int32) → ((Int32) → (Nat → Int32) → (Nat → Int32) → (Nat → Int32) → Prop) → Prop} (hrec : ∀ (D : va_G) (cI cZ : ClassId) (o o_lastHeld o_row o_best o_p4 o_p4_purses o_p4_firsts o_p4_seconds o_p4_firstsHad o_p4_secondsHad o_p4_seenSums o_p4_seenShared : Nat) (sz : Nat) (n1 : Int32) (n2 : Int32) (n3 : Int32) (v_fewest : Int32) (v_people : Int32) (v_goal : Int32) (a_lastHeld : Nat → Int32) (a_row : Nat → Int32) (a_best : Nat → Int32) (v_p4_filled : Int32) (v_p4_people : Int32) (v_p4_lawNumber : Int32) (v_p4_made : Int32) (v_p4_seen : Int32) (a_p4_purses : Nat → Int32) (Post : (Int32) → (Nat → Int32) → (Nat → Int32) → (Nat → Int32) → Prop), rec n1 n2 n3 v_fewest v_people v_goal a_lastHeld a_row a_best v_p4_lawNumber a_p4_purses Post → Met l yX4_goOn wsX4_goOn (rm_X4_goOn d) (cPc D cI cZ [.ref o, .int n1, .int n2, .int n3, .ref o_p4] (cw_X4_goOn cI cZ o o_lastHeld o_row o_best o_p4 o_p4_purses o_p4_firsts o_p4_seconds o_p4_firstsHad o_p4_secondsHad o_p4_seenSums o_p4_seenShared v_fewest v_people v_goal a_lastHeld a_row a_best v_p4_filled v_p4_people v_p4_lawNumber v_p4_made v_p4_seen a_p4_purses) sz) (cQv4 D Post (fun m_v_fewest m_a_lastHeld m_a_row m_a_best => (cw_X4_goOn cI cZ o o_lastHeld o_row o_best o_p4 o_p4_purses o_p4_firsts o_p4_seconds o_p4_firstsHad o_p4_secondsHad o_p4_seenSums o_p4_seenShared m_v_fewest v_people v_goal m_a_lastHeld m_a_row m_a_best v_p4_filled v_p4_people v_p4_lawNumber v_p4_made v_p4_seen a_p4_purses)) (va_A (cw_X4_goOn cI cZ o o_lastHeld o_row o_best o_p4 o_p4_purses o_p4_firsts o_p4_seconds o_p4_firstsHad o_p4_secondsHad o_p4_seenSums o_p4_seenShared v_fewest v_people v_goal a_lastHeld a_row a_best v_p4_filled v_p4_people v_p4_lawNumber v_p4_made v_p4_seen a_p4_purses) sz)) 0 0 (va_A (cw_X4_goOn cI cZ o o_lastHeld o_row o_best o_p4 o_p4_purses o_p4_firsts o_p4_seconds o_p4_firstsHad o_p4_secondsHad o_p4_seenSums o_p4_seenShared v_fewest v_people v_goal a_lastHeld a_row a_best v_p4_filled v_p4_people v_p4_lawNumber v_p4_made v_p4_seen a_p4_purses) sz)) (D : va_G) (cI cZ : ClassId) (o o_lastHeld o_row o_best o_p5 o_p5_purses o_p5_firsts o_p5_seconds o_p5_firstsHad o_p5_secondsHad o_p5_seenSums o_p5_seenShared : Nat) (sz : Nat) (n1 : Int32) (n2 : Int32) (n3 : Int32) (n4 : Int32) (v_fewest : Int32) (v_people : Int32) (v_goal : Int32) (a_lastHeld : Nat → Int32) (a_row : Nat → Int32) (a_best : Nat → Int32) (v_p5_filled : Int32) (v_p5_people : Int32) (v_p5_lawNumber : Int32) (v_p5_made : Int32) (v_p5_seen : Int32) (a_p5_purses : Nat → Int32) (Post : (Int32) → (Nat → Int32) → (Nat → Int32) → (Nat → Int32) → Prop) (h : wp_X4_trySending rec n1 n2 n3 n4 v_fewest v_people v_goal a_lastHeld a_row a_best v_p5_lawNumber a_p5_purses Post) : Met l yX4_trySending wsX4_trySending (rm_X4_trySending d) (cPc D cI cZ [.ref o, .int n1, .int n2, .int n3, .int n4, .ref o_p5] (cw_X4_trySending cI cZ o o_lastHeld o_row o_best o_p5 o_p5_purses o_p5_firsts o_p5_seconds o_p5_firstsHad o_p5_secondsHad o_p5_seenSums o_p5_seenShared v_fewest v_people v_goal a_lastHeld a_row a_best v_p5_filled v_p5_people v_p5_lawNumber v_p5_made v_p5_seen a_p5_purses) sz) (cQv4 D Post (fun m_v_fewest m_a_lastHeld m_a_row m_a_best => (cw_X4_trySending cI cZ o o_lastHeld o_row o_best o_p5 o_p5_purses o_p5_firsts o_p5_seconds o_p5_firstsHad o_p5_secondsHad o_p5_seenSums o_p5_seenShared m_v_fewest v_people v_goal m_a_lastHeld m_a_row m_a_best v_p5_filled v_p5_people v_p5_lawNumber v_p5_made v_p5_seen a_p5_purses)) (va_A (cw_X4_trySending cI cZ o o_lastHeld o_row o_best o_p5 o_p5_purses o_p5_firsts o_p5_seconds o_p5_firstsHad o_p5_secondsHad o_p5_seenSums o_p5_seenShared v_fewest v_people v_goal a_lastHeld a_row a_best v_p5_filled v_p5_people v_p5_lawNumber v_p5_made v_p5_seen a_p5_purses) sz)) 0 0 (va_A (cw_X4_trySending cI cZ o o_lastHeld o_row o_best o_p5 o_p5_purses o_p5_firsts o_p5_seconds o_p5_firstsHad o_p5_secondsHad o_p5_seenSums o_p5_seenShared v_fewest v_people v_goal a_lastHeld a_row a_best v_p5_filled v_p5_people v_p5_lawNumber v_p5_made v_p5_seen a_p5_purses) sz) := by
  refine ent (cc := cX4_trySending) (maxL := 7) (ret := none) (Qc := fun A => cQv4 D Post (fun m_v_fewest m_a_lastHeld m_a_row m_a_best => (cw_X4_trySending cI cZ o o_lastHeld o_row o_best o_p5 o_p5_purses o_p5_firsts o_p5_seconds o_p5_firstsHad o_p5_secondsHad o_p5_seenSums o_p5_seenShared m_v_fewest v_people v_goal m_a_lastHeld m_a_row m_a_best v_p5_filled v_p5_people v_p5_lawNumber v_p5_made v_p5_seen a_p5_purses)) A) (by decide) rfl (Nat.le_of_ble_eq_true rfl) ?_
  intro p e s m args below meth c A ls Q hQ hsz hx hb hml hr hts hown hlocks hnm hK hP hD hA hS hl
  have hl : lv_has ls 7 [(0, .ref o), (1, .int n1), (2, .int n2), (3, .int n3), (4, .int n4), (5, .ref o_p5)] := hl
  unfold wp_X4_trySending at h
  refine lv_aload hx hb dX4_trySending_0 (lv_at hl 5 rfl) ?_
  refine va_getN (D := D) (ci := 1) (v := .int v_p5_lawNumber) (C := RX1) (T := TX1) (N := 12) hx hb hts inw_X4_trySending_X1 hown hK.1 hP 4 rfl rfl 2 (by decide) (nF_18 hK) (fun _ h9 => h9) rfl dX4_trySending_2 ?_
  refine lv_iload hx hb dX4_trySending_5 (lv_at hl 4 rfl) ?_
  refine lv_aload hx hb dX4_trySending_7 (lv_at hl 5 rfl) ?_
  refine va_getN (D := D) (ci := 1) (v := .ref o_p5_purses) (C := RX1) (T := TX1) (N := 12) hx hb hts inw_X4_trySending_X1 hown hK.1 hP 4 rfl rfl 3 (by decide) (nF_22 hK) (fun _ h9 => h9) rfl dX4_trySending_9 ?_
  refine lv_iload_n hx hb dX4_trySending_12 rfl (lv_at hl 1 rfl) ?_
  have h0 := h.1
  have h := h.2
  refine va_iald hx hb hK.1 hP 5 0 rfl rfl h0 dX4_trySending_13 ?_
  refine call_i0 (va_runSN (As := [.int v_p5_lawNumber, .int n4, .int (a_p5_purses (Int32.toNatClampNeg n1))]) (rest := []) ⟨hx, hb, hml, hown, hts⟩ (c_X8_heldAfterOne l D cI cZ (Array.size s.heap) v_p5_lawNumber n4 (a_p5_purses (Int32.toNatClampNeg n1)) _ h) ⟨va_cnB (own := RX4) 3 hts gX4_trySending_X8_heldAfterOne_n60 rfl rfl rfl (nM_33 hK) (hts (.initialized RX8) (by decide +kernel)) (by decide +kernel) ⟨(by dsimp only [rm_X4_trySending, rm_X8_heldAfterOne]; omega), (by dsimp only [rm_X4_trySending, rm_X8_heldAfterOne]; omega)⟩, hts (.static yX8_heldAfterOne) (by decide +kernel), trivial⟩ (preS_of hP hD hK [] rfl rfl) rfl rfl hl.1 rfl (lv_room (Nat.le_of_ble_eq_true rfl)) dX4_trySending_14 ⟨Nat.zero_le _, Nat.zero_le _⟩) hP hD hS hA [] rfl ((cw_X4_trySending cI cZ o o_lastHeld o_row o_best o_p5 o_p5_purses o_p5_firsts o_p5_seconds o_p5_firstsHad o_p5_secondsHad o_p5_seenSums o_p5_seenShared v_fewest v_people v_goal a_lastHeld a_row a_best v_p5_filled v_p5_people v_p5_lawNumber v_p5_made v_p5_seen a_p5_purses)) (rfl) (rfl) (fun r14 H locs h hP hD hS => ?_)
  refine lv_istore (lv' := [(6, .int r14), (0, .ref o), (1, .int n1), (2, .int n2), (3, .int n3), (4, .int n4), (5, .ref o_p5)]) hx hb dX4_trySending_17 hl (by decide) rfl (fun ls hl => ?_)
  refine lv_aload_n hx hb dX4_trySending_19 rfl (lv_at hl 1 rfl) ?_
  refine va_get (D := D) (ci := 4) (v := .ref o_lastHeld) (C := RX4) (T := TX4) (N := 6) hx hb hts inw_X4_trySending_X4 hown hK.1 hP 0 rfl rfl 0 (by decide) (hts (.fieldLink RX4 9 "PursesShare$RuinSearch" "lastHeld" "[I") (by decide +kernel)) (fun _ h9 => h9) rfl dX4_trySending_20 ?_
  refine lv_iload_n hx hb dX4_trySending_23 rfl (lv_at hl 4 rfl) ?_
  have h0 := h.1
  have h := h.2
  refine va_iald hx hb hK.1 hP 1 0 rfl rfl h0 dX4_trySending_24 ?_
  refine lv_iload hx hb dX4_trySending_25 (lv_at hl 0 rfl) ?_
  refine lv_icmp_ne (tgt := 31) hx hb dX4_trySending_27 (by decide) (fun c27 => ?_) (fun c27 => ?_)
  · have h := h.1 c27
    refine lv_aload_n hx hb dX4_trySending_31 rfl (lv_at hl 1 rfl) ?_
    refine va_get (D := D) (ci := 4) (v := .ref o_lastHeld) (C := RX4) (T := TX4) (N := 6) hx hb hts inw_X4_trySending_X4 hown hK.1 hP 0 rfl rfl 0 (by decide) (hts (.fieldLink RX4 9 "PursesShare$RuinSearch" "lastHeld" "[I") (by decide +kernel)) (fun _ h9 => h9) rfl dX4_trySending_32 ?_
    refine lv_iload_n hx hb dX4_trySending_35 rfl (lv_at hl 4 rfl) ?_
    refine lv_iload hx hb dX4_trySending_36 (lv_at hl 0 rfl) ?_
    have h0 := h.1
    have h := h.2
    refine va_iast hx hb hK.1 hP hD hS 1 0 rfl rfl h0 dX4_trySending_38 (fun H locs hP hD hS => ?_)
    have hP : va_P D vwCl (cw_X4_trySending cI cZ o o_lastHeld o_row o_best o_p5 o_p5_purses o_p5_firsts o_p5_seconds o_p5_firstsHad o_p5_secondsHad o_p5_seenSums o_p5_seenShared v_fewest v_people v_goal (upd a_lastHeld (Int32.toNatClampNeg n3) r14) a_row a_best v_p5_filled v_p5_people v_p5_lawNumber v_p5_made v_p5_seen a_p5_purses) H := hP
    have hD : va_D A (cw_X4_trySending cI cZ o o_lastHeld o_row o_best o_p5 o_p5_purses o_p5_firsts o_p5_seconds o_p5_firstsHad o_p5_secondsHad o_p5_seenSums o_p5_seenShared v_fewest v_people v_goal (upd a_lastHeld (Int32.toNatClampNeg n3) r14) a_row a_best v_p5_filled v_p5_people v_p5_lawNumber v_p5_made v_p5_seen a_p5_purses) := hD
    refine lv_aload_n hx hb dX4_trySending_39 rfl (lv_at hl 1 rfl) ?_
    refine va_get (D := D) (ci := 4) (v := .ref o_row) (C := RX4) (T := TX4) (N := 6) hx hb hts inw_X4_trySending_X4 hown hK.1 hP 0 rfl rfl 1 (by decide) (hts (.fieldLink RX4 15 "PursesShare$RuinSearch" "row" "[I") (by decide +kernel)) (fun _ h9 => h9) rfl dX4_trySending_40 ?_
    refine lv_iload_n hx hb dX4_trySending_43 rfl (lv_at hl 3 rfl) ?_
    refine lv_iload_n hx hb dX4_trySending_44 rfl (lv_at hl 2 rfl) ?_
    have h0 := h.1
    have h := h.2
    refine va_iast hx hb hK.1 hP hD hS 2 0 rfl rfl h0 dX4_trySending_45 (fun H locs hP hD hS => ?_)
    have hP : va_P D vwCl (cw_X4_trySending cI cZ o o_lastHeld o_row o_best o_p5 o_p5_purses o_p5_firsts o_p5_seconds o_p5_firstsHad o_p5_secondsHad o_p5_seenSums o_p5_seenShared v_fewest v_people v_goal (upd a_lastHeld (Int32.toNatClampNeg n3) r14) (upd a_row (Int32.toNatClampNeg n2) n1) a_best v_p5_filled v_p5_people v_p5_lawNumber v_p5_made v_p5_seen a_p5_purses) H := hP
    have hD : va_D A (cw_X4_trySending cI cZ o o_lastHeld o_row o_best o_p5 o_p5_purses o_p5_firsts o_p5_seconds o_p5_firstsHad o_p5_secondsHad o_p5_seenSums o_p5_seenShared v_fewest v_people v_goal (upd a_lastHeld (Int32.toNatClampNeg n3) r14) (upd a_row (Int32.toNatClampNeg n2) n1) a_best v_p5_filled v_p5_people v_p5_lawNumber v_p5_made v_p5_seen a_p5_purses) := hD
    refine lv_aload_n hx hb dX4_trySending_46 rfl (lv_at hl 1 rfl) ?_
    refine lv_iload_n hx hb dX4_trySending_47 rfl (lv_at hl 3 rfl) ?_
    refine lv_iconst (v := 1) hx hb dX4_trySending_48 (by decide) ?_
    refine lv_iadd hx hb dX4_trySending_49 ?_
    refine lv_iload_n hx hb dX4_trySending_50 rfl (lv_at hl 4 rfl) ?_
    refine lv_iload hx hb dX4_trySending_51 (lv_at hl 0 rfl) ?_
    refine lv_aload hx hb dX4_trySending_53 (lv_at hl 6 rfl) ?_
    refine call_v4 (va_runV (As := [.int (n2 + (1 : Int32)), .int n3, .int r14, .ref o_p5]) (rest := []) ⟨hx, hb, hml, hown, hts⟩ (hrec D cI cZ o o_lastHeld o_row o_best o_p5 o_p5_purses o_p5_firsts o_p5_seconds o_p5_firstsHad o_p5_secondsHad o_p5_seenSums o_p5_seenShared (Array.size H) (n2 + (1 : Int32)) n3 r14 v_fewest v_people v_goal (upd a_lastHeld (Int32.toNatClampNeg n3) r14) (upd a_row (Int32.toNatClampNeg n2) n1) a_best v_p5_filled v_p5_people v_p5_lawNumber v_p5_made v_p5_seen a_p5_purses _ h) (cwV 4 hts gX4_trySending_X4_goOn rfl rfl rfl (by decide +kernel) ⟨(by dsimp only [rm_X4_goOn, rm_X4_trySending]; omega), (by dsimp only [rm_X4_goOn, rm_X4_trySending]; omega)⟩) (preV_of hP hD hK [0, 1, 2, 3, 4, 5] rfl rfl 0 4 rfl rfl rfl) rfl rfl hl.1 rfl (lv_room (Nat.le_of_ble_eq_true rfl)) dX4_trySending_55 ⟨Nat.zero_le _, Nat.zero_le _⟩) hP hD hS hA [0, 1, 2, 3, 4, 5] rfl (fun v_fewest_55 a_lastHeld_55 a_row_55 a_best_55 => (cw_X4_trySending cI cZ o o_lastHeld o_row o_best o_p5 o_p5_purses o_p5_firsts o_p5_seconds o_p5_firstsHad o_p5_secondsHad o_p5_seenSums o_p5_seenShared v_fewest_55 v_people v_goal a_lastHeld_55 a_row_55 a_best_55 v_p5_filled v_p5_people v_p5_lawNumber v_p5_made v_p5_seen a_p5_purses)) (fun _ _ _ _ => rfl) (fun _ _ _ _ => rfl) (fun v_fewest_55 a_lastHeld_55 a_row_55 a_best_55 H locs h hP hD hS => ?_)
    exact ret_v4 hx hb hr hlocks hQ hS v_fewest_55 a_lastHeld_55 a_row_55 a_best_55 hP h dX4_trySending_58
  · have h := h.2 c27
    exact ret_v4 hx hb hr hlocks hQ hS v_fewest a_lastHeld a_row a_best hP h dX4_trySending_30
theorem inw_X4_goOn_X4 : ∀ w ∈ u_ws RX4 TX4 6, w ∈ wsX4_goOn := by decide +kernel
def wp_X4_goOn : Nat → Int32 → Int32 → Int32 → (Int32) → (Int32) → (Int32) → (Nat → Int32) → (Nat → Int32) → (Nat → Int32) → (Int32) → (Nat → Int32) → ((Int32) → (Nat → Int32) → (Nat → Int32) → (Nat → Int32) → Prop) → Prop
  | 0, _, _, _, _, _, _, _, _, _, _, _, _ => False
  | d + 1, n1, n2, n3, v_fewest, v_people, v_goal, a_lastHeld, a_row, a_best, v_p4_lawNumber, a_p4_purses, Post => ((v_goal < n3 → (∀ k32 : (Int32) → (Int32) → (Nat → Int32) → (Nat → Int32) → (Nat → Int32) → Prop, (∀ (x5_32 : Int32) (v_fewest_32 : Int32) (a_lastHeld_32 : Nat → Int32) (a_row_32 : Nat → Int32) (a_best_32 : Nat → Int32), ((v_people ≤ x5_32 → (Post v_fewest_32 a_lastHeld_32 a_row_32 a_best_32)) ∧ (¬ v_people ≤ x5_32 → ((v_fewest_32 ≤ (n1 + (1 : Int32)) → (Post v_fewest_32 a_lastHeld_32 a_row_32 a_best_32)) ∧ (¬ v_fewest_32 ≤ (n1 + (1 : Int32)) → ((¬ ((n2 >>> (x5_32 &&& 31)) &&& (1 : Int32)) = 0 → (k32 (x5_32 + 1) v_fewest_32 a_lastHeld_32 a_row_32 a_best_32)) ∧ (((n2 >>> (x5_32 &&& 31)) &&& (1 : Int32)) = 0 → (wp_X4_trySending (wp_X4_goOn d) x5_32 n1 (n2 ||| ((1 : Int32) <<< (x5_32 &&& 31))) n3 v_fewest_32 v_people v_goal a_lastHeld_32 a_row_32 a_best_32 v_p4_lawNumber a_p4_purses (fun (v_fewest_73 : Int32) (a_lastHeld_73 : Nat → Int32) (a_row_73 : Nat → Int32) (a_best_73 : Nat → Int32) => (k32 (x5_32 + 1) v_fewest_73 a_lastHeld_73 a_row_73 a_best_73))))))))) → k32 x5_32 v_fewest_32 a_lastHeld_32 a_row_32 a_best_32) → k32 (0 : Int32) v_fewest a_lastHeld a_row a_best)) ∧ (¬ v_goal < n3 → (Post n1 a_lastHeld a_row (va_cpy a_row a_best (Int32.toNatClampNeg (0 : Int32)) (Int32.toNatClampNeg (0 : Int32)) (Int32.toNatClampNeg (8 : Int32))))))
set_option maxHeartbeats 4000000 in
set_option maxRecDepth 100000 in
theorem c_X4_goOn (l : Launch) : ∀ (d : Nat) (D : va_G) (cI cZ : ClassId) (o o_lastHeld o_row o_best o_p4 o_p4_purses o_p4_firsts o_p4_seconds o_p4_firstsHad o_p4_secondsHad o_p4_seenSums o_p4_seenShared : Nat) (sz : Nat) (n1 : Int32) (n2 : Int32) (n3 : Int32) (v_fewest : Int32) (v_people : Int32) (v_goal : Int32) (a_lastHeld : Nat → Int32) (a_row : Nat → Int32) (a_best : Nat → Int32) (v_p4_filled : Int32) (v_p4_people : Int32) (v_p4_lawNumber : Int32) (v_p4_made : Int32) (v_p4_seen : Int32) (a_p4_purses : Nat → Int32) (Post : (Int32) → (Nat → Int32) → (Nat → Int32) → (Nat → Int32) → Prop), wp_X4_goOn d n1 n2 n3 v_fewest v_people v_goal a_lastHeld a_row a_best v_p4_lawNumber a_p4_purses Post → Met l yX4_goOn wsX4_goOn (rm_X4_goOn d) (cPc D cI cZ [.ref o, .int n1, .int n2, .int n3, .ref o_p4] (cw_X4_goOn cI cZ o o_lastHeld o_row o_best o_p4 o_p4_purses o_p4_firsts o_p4_seconds o_p4_firstsHad o_p4_secondsHad o_p4_seenSums o_p4_seenShared v_fewest v_people v_goal a_lastHeld a_row a_best v_p4_filled v_p4_people v_p4_lawNumber v_p4_made v_p4_seen a_p4_purses) sz) (cQv4 D Post (fun m_v_fewest m_a_lastHeld m_a_row m_a_best => (cw_X4_goOn cI cZ o o_lastHeld o_row o_best o_p4 o_p4_purses o_p4_firsts o_p4_seconds o_p4_firstsHad o_p4_secondsHad o_p4_seenSums o_p4_seenShared m_v_fewest v_people v_goal m_a_lastHeld m_a_row m_a_best v_p4_filled v_p4_people v_p4_lawNumber v_p4_made v_p4_seen a_p4_purses)) (va_A (cw_X4_goOn cI cZ o o_lastHeld o_row o_best o_p4 o_p4_purses o_p4_firsts o_p4_seconds o_p4_firstsHad o_p4_secondsHad o_p4_seenSums o_p4_seenShared v_fewest v_people v_goal a_lastHeld a_row a_best v_p4_filled v_p4_people v_p4_lawNumber v_p4_made v_p4_seen a_p4_purses) sz)) 0 0 (va_A (cw_X4_goOn cI cZ o o_lastHeld o_row o_best o_p4 o_p4_purses o_p4_firsts o_p4_seconds o_p4_firstsHad o_p4_secondsHad o_p4_seenSums o_p4_seenShared v_fewest v_people v_goal a_lastHeld a_row a_best v_p4_filled v_p4_people v_p4_lawNumber v_p4_made v_p4_seen a_p4_purses) sz) := by
  intro d
  induction d with
  | zero =>
    intro D cI cZ o o_lastHeld o_row o_best o_p4 o_p4_purses o_p4_firsts o_p4_seconds o_p4_firstsHad o_p4_secondsHad o_p4_seenSums o_p4_seenShared sz n1 n2 n3 v_fewest v_people v_goal a_lastHeld a_row a_best v_p4_filled v_p4_people v_p4_lawNumber v_p4_made v_p4_seen a_p4_purses Post h
    exact False.elim h
  | succ d ih =>
    intro D cI cZ o o_lastHeld o_row o_best o_p4 o_p4_purses o_p4_firsts o_p4_seconds o_p4_firstsHad o_p4_secondsHad o_p4_seenSums o_p4_seenShared sz n1 n2 n3 v_fewest v_people v_goal a_lastHeld a_row a_best v_p4_filled v_p4_people v_p4_lawNumber v_p4_made v_p4_seen a_p4_purses Post h
    refine ent (cc := cX4_goOn) (maxL := 6) (ret := none) (Qc := fun A => cQv4 D Post (fun m_v_fewest m_a_lastHeld m_a_row m_a_best => (cw_X4_goOn cI cZ o o_lastHeld o_row o_best o_p4 o_p4_purses o_p4_firsts o_p4_seconds o_p4_firstsHad o_p4_secondsHad o_p4_seenSums o_p4_seenShared m_v_fewest v_people v_goal m_a_lastHeld m_a_row m_a_best v_p4_filled v_p4_people v_p4_lawNumber v_p4_made v_p4_seen a_p4_purses)) A) (by decide) rfl (Nat.le_of_ble_eq_true rfl) ?_
    intro p e s m args below meth c A ls Q hQ hsz hx hb hml hr hts hown hlocks hnm hK hP hD hA hS hl
    have hl : lv_has ls 6 [(0, .ref o), (1, .int n1), (2, .int n2), (3, .int n3), (4, .ref o_p4)] := hl
    rw [wp_X4_goOn.eq_2] at h
    refine lv_iload_n hx hb dX4_goOn_0 rfl (lv_at hl 3 rfl) ?_
    refine lv_aload_n hx hb dX4_goOn_1 rfl (lv_at hl 0 rfl) ?_
    refine va_get (D := D) (ci := 4) (v := .int v_goal) (C := RX4) (T := TX4) (N := 6) hx hb hts inw_X4_goOn_X4 hown hK.1 hP 0 rfl rfl 5 (by decide) (hts (.fieldLink RX4 28 "PursesShare$RuinSearch" "goal" "I") (by decide +kernel)) (fun _ h9 => h9) rfl dX4_goOn_2 ?_
    refine lv_icmp_gt (tgt := 29) hx hb dX4_goOn_5 (by decide) (fun c5 => ?_) (fun c5 => ?_)
    · have h := h.1 c5
      refine lv_iconst (v := 0) hx hb dX4_goOn_29 (by decide) ?_
      refine lv_istore (lv' := [(5, .int (0 : Int32)), (0, .ref o), (1, .int n1), (2, .int n2), (3, .int n3), (4, .ref o_p4)]) hx hb dX4_goOn_30 hl (by decide) rfl (fun ls hl => ?_)
      refine h (fun x5_32 v_fewest_32 a_lastHeld_32 a_row_32 a_best_32 => ∀ (H : Heap) (locs : List Loc) (ls : Array Slot), lv_has ls 6 [(0, .ref o), (1, .int n1), (2, .int n2), (3, .int n3), (4, .ref o_p4), (5, .int x5_32)] → va_P D vwCl (cw_X4_goOn cI cZ o o_lastHeld o_row o_best o_p4 o_p4_purses o_p4_firsts o_p4_seconds o_p4_firstsHad o_p4_secondsHad o_p4_seenSums o_p4_seenShared v_fewest_32 v_people v_goal a_lastHeld_32 a_row_32 a_best_32 v_p4_filled v_p4_people v_p4_lawNumber v_p4_made v_p4_seen a_p4_purses) H → va_D A (cw_X4_goOn cI cZ o o_lastHeld o_row o_best o_p4 o_p4_purses o_p4_firsts o_p4_seconds o_p4_firstsHad o_p4_secondsHad o_p4_seenSums o_p4_seenShared v_fewest_32 v_people v_goal a_lastHeld_32 a_row_32 a_best_32 v_p4_filled v_p4_people v_p4_lawNumber v_p4_made v_p4_seen a_p4_purses) → va_S A s.heap H locs → W p l e (rm_X4_goOn (d + 1)) s m args below meth c H locs 0 0 Q (F0 m 32 ls [])) ?_ s.heap [] ls (lv_sub hl [1, 2, 3, 4, 5, 0] rfl) hP hD hS
      intro x5_32 v_fewest_32 a_lastHeld_32 a_row_32 a_best_32 h H locs ls hl hP hD hS
      refine lv_iload hx hb dX4_goOn_32 (lv_at hl 5 rfl) ?_
      refine lv_aload_n hx hb dX4_goOn_34 rfl (lv_at hl 0 rfl) ?_
      refine va_get (D := D) (ci := 4) (v := .int v_people) (C := RX4) (T := TX4) (N := 6) hx hb hts inw_X4_goOn_X4 hown hK.1 hP 0 rfl rfl 4 (by decide) (hts (.fieldLink RX4 27 "PursesShare$RuinSearch" "people" "I") (by decide +kernel)) (fun _ h9 => h9) rfl dX4_goOn_35 ?_
      refine lv_icmp_ge (tgt := 82) hx hb dX4_goOn_38 (by decide) (fun c38 => ?_) (fun c38 => ?_)
      · have h := h.1 c38
        exact ret_v4 hx hb hr hlocks hQ hS v_fewest_32 a_lastHeld_32 a_row_32 a_best_32 hP h dX4_goOn_82
      · have h := h.2 c38
        refine lv_iload_n hx hb dX4_goOn_41 rfl (lv_at hl 1 rfl) ?_
        refine lv_iconst (v := 1) hx hb dX4_goOn_42 (by decide) ?_
        refine lv_iadd hx hb dX4_goOn_43 ?_
        refine lv_aload_n hx hb dX4_goOn_44 rfl (lv_at hl 0 rfl) ?_
        refine va_get (D := D) (ci := 4) (v := .int v_fewest_32) (C := RX4) (T := TX4) (N := 6) hx hb hts inw_X4_goOn_X4 hown hK.1 hP 0 rfl rfl 3 (by decide) (hts (.fieldLink RX4 31 "PursesShare$RuinSearch" "fewest" "I") (by decide +kernel)) (fun _ h9 => h9) rfl dX4_goOn_45 ?_
        refine lv_icmp_ge (tgt := 82) hx hb dX4_goOn_48 (by decide) (fun c48 => ?_) (fun c48 => ?_)
        · have h := h.1 c48
          exact ret_v4 hx hb hr hlocks hQ hS v_fewest_32 a_lastHeld_32 a_row_32 a_best_32 hP h dX4_goOn_82
        · have h := h.2 c48
          refine lv_iload_n hx hb dX4_goOn_51 rfl (lv_at hl 2 rfl) ?_
          refine lv_iload hx hb dX4_goOn_52 (lv_at hl 5 rfl) ?_
          refine lv_ishr hx hb dX4_goOn_54 ?_
          refine lv_iconst (v := 1) hx hb dX4_goOn_55 (by decide) ?_
          refine lv_iand hx hb dX4_goOn_56 ?_
          refine lv_if_ne (tgt := 76) hx hb dX4_goOn_57 (by decide) (fun c57 => ?_) (fun c57 => ?_)
          · have h := h.1 c57
            refine lv_iinc (v := (x5_32 + 1)) (lv' := [(5, .int (x5_32 + 1)), (0, .ref o), (1, .int n1), (2, .int n2), (3, .int n3), (4, .ref o_p4)]) hx hb dX4_goOn_76 hl (k := 5) rfl rfl (by decide) rfl (fun ls hl => ?_)
            refine lv_goto (tgt := 32) hx hb dX4_goOn_79 (by decide) ?_
            exact h H locs ls (lv_sub hl [1, 2, 3, 4, 5, 0] rfl) hP hD hS
          · have h := h.2 c57
            refine lv_aload_n hx hb dX4_goOn_60 rfl (lv_at hl 0 rfl) ?_
            refine lv_iload hx hb dX4_goOn_61 (lv_at hl 5 rfl) ?_
            refine lv_iload_n hx hb dX4_goOn_63 rfl (lv_at hl 1 rfl) ?_
            refine lv_iload_n hx hb dX4_goOn_64 rfl (lv_at hl 2 rfl) ?_
            refine lv_iconst (v := 1) hx hb dX4_goOn_65 (by decide) ?_
            refine lv_iload hx hb dX4_goOn_66 (lv_at hl 5 rfl) ?_
            refine lv_ishl hx hb dX4_goOn_68 ?_
            refine lv_ior hx hb dX4_goOn_69 ?_
            refine lv_iload_n hx hb dX4_goOn_70 rfl (lv_at hl 3 rfl) ?_
            refine lv_aload hx hb dX4_goOn_71 (lv_at hl 4 rfl) ?_
            refine call_v4 (va_runV (As := [.int x5_32, .int n1, .int (n2 ||| ((1 : Int32) <<< (x5_32 &&& 31))), .int n3, .ref o_p4]) (rest := []) ⟨hx, hb, hml, hown, hts⟩ (c_X4_trySending l d ih D cI cZ o o_lastHeld o_row o_best o_p4 o_p4_purses o_p4_firsts o_p4_seconds o_p4_firstsHad o_p4_secondsHad o_p4_seenSums o_p4_seenShared (Array.size H) x5_32 n1 (n2 ||| ((1 : Int32) <<< (x5_32 &&& 31))) n3 v_fewest_32 v_people v_goal a_lastHeld_32 a_row_32 a_best_32 v_p4_filled v_p4_people v_p4_lawNumber v_p4_made v_p4_seen a_p4_purses _ h) (cwV 5 hts gX4_goOn_X4_trySending rfl rfl rfl (by decide +kernel) ⟨(by dsimp only [rm_X4_goOn, rm_X4_trySending]; omega), (by dsimp only [rm_X4_goOn, rm_X4_trySending]; omega)⟩) (preV_of hP hD hK [0, 1, 2, 3, 4, 5] rfl rfl 0 4 rfl rfl rfl) rfl rfl hl.1 rfl (lv_room (Nat.le_of_ble_eq_true rfl)) dX4_goOn_73 ⟨Nat.zero_le _, Nat.zero_le _⟩) hP hD hS hA [0, 1, 2, 3, 4, 5] rfl (fun v_fewest_73 a_lastHeld_73 a_row_73 a_best_73 => (cw_X4_goOn cI cZ o o_lastHeld o_row o_best o_p4 o_p4_purses o_p4_firsts o_p4_seconds o_p4_firstsHad o_p4_secondsHad o_p4_seenSums o_p4_seenShared v_fewest_73 v_people v_goal a_lastHeld_73 a_row_73 a_best_73 v_p4_filled v_p4_people v_p4_lawNumber v_p4_made v_p4_seen a_p4_purses)) (fun _ _ _ _ => rfl) (fun _ _ _ _ => rfl) (fun v_fewest_73 a_lastHeld_73 a_row_73 a_best_73 H locs h hP hD hS => ?_)
            refine lv_iinc (v := (x5_32 + 1)) (lv' := [(5, .int (x5_32 + 1)), (0, .ref o), (1, .int n1), (2, .int n2), (3, .int n3), (4, .ref o_p4)]) hx hb dX4_goOn_76 hl (k := 5) rfl rfl (by decide) rfl (fun ls hl => ?_)
            refine lv_goto (tgt := 32) hx hb dX4_goOn_79 (by decide) ?_
            exact h H locs ls (lv_sub hl [1, 2, 3, 4, 5, 0] rfl) hP hD hS
    · have h := h.2 c5
      refine lv_aload_n hx hb dX4_goOn_8 rfl (lv_at hl 0 rfl) ?_
      refine lv_iload_n hx hb dX4_goOn_9 rfl (lv_at hl 1 rfl) ?_
      refine va_put (D := D) (ci := 4) (v := .int n1) (ty := .int) (C := RX4) (T := TX4) (N := 6) hx hb hts inw_X4_goOn_X4 tyX4 tyX4_ok nmX4 hown hK.1 hP hD hS 0 rfl rfl 3 (by decide) (hts (.fieldLink RX4 31 "PursesShare$RuinSearch" "fewest" "I") (by decide +kernel)) (fun _ h9 => h9) rfl (by decide +kernel) rfl rfl (Nat.le_of_ble_eq_true rfl) dX4_goOn_10 (fun H locs hP hD hS => ?_)
      have hP : va_P D vwCl (cw_X4_goOn cI cZ o o_lastHeld o_row o_best o_p4 o_p4_purses o_p4_firsts o_p4_seconds o_p4_firstsHad o_p4_secondsHad o_p4_seenSums o_p4_seenShared n1 v_people v_goal a_lastHeld a_row a_best v_p4_filled v_p4_people v_p4_lawNumber v_p4_made v_p4_seen a_p4_purses) H := hP
      have hD : va_D A (cw_X4_goOn cI cZ o o_lastHeld o_row o_best o_p4 o_p4_purses o_p4_firsts o_p4_seconds o_p4_firstsHad o_p4_secondsHad o_p4_seenSums o_p4_seenShared n1 v_people v_goal a_lastHeld a_row a_best v_p4_filled v_p4_people v_p4_lawNumber v_p4_made v_p4_seen a_p4_purses) := hD
      refine lv_aload_n hx hb dX4_goOn_13 rfl (lv_at hl 0 rfl) ?_
      refine va_get (D := D) (ci := 4) (v := .ref o_row) (C := RX4) (T := TX4) (N := 6) hx hb hts inw_X4_goOn_X4 hown hK.1 hP 0 rfl rfl 1 (by decide) (hts (.fieldLink RX4 15 "PursesShare$RuinSearch" "row" "[I") (by decide +kernel)) (fun _ h9 => h9) rfl dX4_goOn_14 ?_
      refine lv_iconst (v := 0) hx hb dX4_goOn_17 (by decide) ?_
      refine lv_aload_n hx hb dX4_goOn_18 rfl (lv_at hl 0 rfl) ?_
      refine va_get (D := D) (ci := 4) (v := .ref o_best) (C := RX4) (T := TX4) (N := 6) hx hb hts inw_X4_goOn_X4 hown hK.1 hP 0 rfl rfl 2 (by decide) (hts (.fieldLink RX4 18 "PursesShare$RuinSearch" "best" "[I") (by decide +kernel)) (fun _ h9 => h9) rfl dX4_goOn_19 ?_
      refine lv_iconst (v := 0) hx hb dX4_goOn_22 (by decide) ?_
      refine lv_bipush (v := 8) hx hb dX4_goOn_23 (by decide) ?_
      refine va_copyi hx hb (hml.trans hl.1.symm) hown (hts (.methodLink RX4 47 arraycopyName) (by decide +kernel)) (hts (.native arraycopyName) (by decide +kernel)) (hts (.static arraycopyName) (by decide +kernel)) (hts (.initialized "java/lang/System") (by decide +kernel)) hK.1 hP hD hS 2 3 0 0 (ty := .int) rfl rfl rfl rfl rfl (by decide) (by decide) (by decide) (by decide) (by decide) (fun _ _ => rfl) (by dsimp only [rm_X4_goOn]; omega) (Nat.le_trans (m := 60) (Nat.le_of_ble_eq_true rfl) (by dsimp only [rm_X4_goOn]; omega)) dX4_goOn_25 (fun H locs hP hD hS => ?_)
      have hP : va_P D vwCl (cw_X4_goOn cI cZ o o_lastHeld o_row o_best o_p4 o_p4_purses o_p4_firsts o_p4_seconds o_p4_firstsHad o_p4_secondsHad o_p4_seenSums o_p4_seenShared n1 v_people v_goal a_lastHeld a_row (va_cpy a_row a_best (Int32.toNatClampNeg (0 : Int32)) (Int32.toNatClampNeg (0 : Int32)) (Int32.toNatClampNeg (8 : Int32))) v_p4_filled v_p4_people v_p4_lawNumber v_p4_made v_p4_seen a_p4_purses) H := hP
      have hD : va_D A (cw_X4_goOn cI cZ o o_lastHeld o_row o_best o_p4 o_p4_purses o_p4_firsts o_p4_seconds o_p4_firstsHad o_p4_secondsHad o_p4_seenSums o_p4_seenShared n1 v_people v_goal a_lastHeld a_row (va_cpy a_row a_best (Int32.toNatClampNeg (0 : Int32)) (Int32.toNatClampNeg (0 : Int32)) (Int32.toNatClampNeg (8 : Int32))) v_p4_filled v_p4_people v_p4_lawNumber v_p4_made v_p4_seen a_p4_purses) := hD
      exact ret_v4 hx hb hr hlocks hQ hS n1 a_lastHeld a_row (va_cpy a_row a_best (Int32.toNatClampNeg (0 : Int32)) (Int32.toNatClampNeg (0 : Int32)) (Int32.toNatClampNeg (8 : Int32))) hP h dX4_goOn_28
abbrev rm_X4_find : Room := { frames := 25, cells := 0, slots := 0, locals := 665 }
abbrev cw_X4_find (cI cZ : ClassId) (o o_lastHeld o_row o_best o_p1 o_p1_purses o_p1_firsts o_p1_seconds o_p1_firstsHad o_p1_secondsHad o_p1_seenSums o_p1_seenShared : Nat) (v_fewest : Int32) (v_people : Int32) (v_goal : Int32) (a_lastHeld : Nat → Int32) (a_row : Nat → Int32) (a_best : Nat → Int32) (v_p1_filled : Int32) (v_p1_people : Int32) (v_p1_lawNumber : Int32) (v_p1_made : Int32) (v_p1_seen : Int32) (a_p1_purses : Nat → Int32) : va_W := [(o, .inr (4, [.ref o_lastHeld, .ref o_row, .ref o_best, .int v_fewest, .int v_people, .int v_goal])), (o_lastHeld, .inl (cI, 256, .inl a_lastHeld)), (o_row, .inl (cI, 8, .inl a_row)), (o_best, .inl (cI, 8, .inl a_best)), (o_p1, .inr (1, [.int v_p1_filled, .int v_p1_people, .int v_p1_lawNumber, .ref o_p1_purses, .int v_p1_made, .ref o_p1_firsts, .ref o_p1_seconds, .ref o_p1_firstsHad, .ref o_p1_secondsHad, .int v_p1_seen, .ref o_p1_seenSums, .ref o_p1_seenShared])), (o_p1_purses, .inl (cI, 8, .inl a_p1_purses))]
theorem inw_X4_find_X1 : ∀ w ∈ u_ws RX1 TX1 12, w ∈ wsX4_find := by decide +kernel
theorem inw_X4_find_X4 : ∀ w ∈ u_ws RX4 TX4 6, w ∈ wsX4_find := by decide +kernel
def wp_X4_find (n2 : Int32) (n3 : Int32) (v_fewest : Int32) (v_people : Int32) (v_goal : Int32) (a_lastHeld : Nat → Int32) (a_row : Nat → Int32) (a_best : Nat → Int32) (v_p1_people : Int32) (v_p1_lawNumber : Int32) (a_p1_purses : Nat → Int32) (Post : (Int32) → (Int32) → (Int32) → (Nat → Int32) → (Nat → Int32) → (Nat → Int32) → Prop) : Prop := (wp_J7_fill_53178 (-1 : Int32) a_lastHeld (fun (a_lastHeld_26 : Nat → Int32) => (vp_in n2 8 ∧ (wp_X4_goOn 9 (0 : Int32) ((1 : Int32) <<< (n2 &&& 31)) (a_p1_purses (Int32.toNatClampNeg n2)) v_p1_people v_p1_people n3 a_lastHeld_26 a_row a_best v_p1_lawNumber a_p1_purses (fun (v_fewest_41 : Int32) (a_lastHeld_41 : Nat → Int32) (a_row_41 : Nat → Int32) (a_best_41 : Nat → Int32) => (Post v_fewest_41 v_p1_people n3 a_lastHeld_41 a_row_41 a_best_41))))))
set_option maxHeartbeats 4000000 in
set_option maxRecDepth 100000 in
theorem c_X4_find (l : Launch) (D : va_G) (cI cZ : ClassId) (o o_lastHeld o_row o_best o_p1 o_p1_purses o_p1_firsts o_p1_seconds o_p1_firstsHad o_p1_secondsHad o_p1_seenSums o_p1_seenShared : Nat) (sz : Nat) (n2 : Int32) (n3 : Int32) (v_fewest : Int32) (v_people : Int32) (v_goal : Int32) (a_lastHeld : Nat → Int32) (a_row : Nat → Int32) (a_best : Nat → Int32) (v_p1_filled : Int32) (v_p1_people : Int32) (v_p1_lawNumber : Int32) (v_p1_made : Int32) (v_p1_seen : Int32) (a_p1_purses : Nat → Int32) (Post : (Int32) → (Int32) → (Int32) → (Nat → Int32) → (Nat → Int32) → (Nat → Int32) → Prop) (h : wp_X4_find n2 n3 v_fewest v_people v_goal a_lastHeld a_row a_best v_p1_people v_p1_lawNumber a_p1_purses Post) : Met l yX4_find wsX4_find rm_X4_find (cPc D cI cZ [.ref o, .ref o_p1, .int n2, .int n3] (cw_X4_find cI cZ o o_lastHeld o_row o_best o_p1 o_p1_purses o_p1_firsts o_p1_seconds o_p1_firstsHad o_p1_secondsHad o_p1_seenSums o_p1_seenShared v_fewest v_people v_goal a_lastHeld a_row a_best v_p1_filled v_p1_people v_p1_lawNumber v_p1_made v_p1_seen a_p1_purses) sz) (cQv6 D Post (fun m_v_fewest m_v_people m_v_goal m_a_lastHeld m_a_row m_a_best => (cw_X4_find cI cZ o o_lastHeld o_row o_best o_p1 o_p1_purses o_p1_firsts o_p1_seconds o_p1_firstsHad o_p1_secondsHad o_p1_seenSums o_p1_seenShared m_v_fewest m_v_people m_v_goal m_a_lastHeld m_a_row m_a_best v_p1_filled v_p1_people v_p1_lawNumber v_p1_made v_p1_seen a_p1_purses)) (va_A (cw_X4_find cI cZ o o_lastHeld o_row o_best o_p1 o_p1_purses o_p1_firsts o_p1_seconds o_p1_firstsHad o_p1_secondsHad o_p1_seenSums o_p1_seenShared v_fewest v_people v_goal a_lastHeld a_row a_best v_p1_filled v_p1_people v_p1_lawNumber v_p1_made v_p1_seen a_p1_purses) sz)) 0 0 (va_A (cw_X4_find cI cZ o o_lastHeld o_row o_best o_p1 o_p1_purses o_p1_firsts o_p1_seconds o_p1_firstsHad o_p1_secondsHad o_p1_seenSums o_p1_seenShared v_fewest v_people v_goal a_lastHeld a_row a_best v_p1_filled v_p1_people v_p1_lawNumber v_p1_made v_p1_seen a_p1_purses) sz) := by
  refine ent (cc := cX4_find) (maxL := 4) (ret := none) (Qc := fun A => cQv6 D Post (fun m_v_fewest m_v_people m_v_goal m_a_lastHeld m_a_row m_a_best => (cw_X4_find cI cZ o o_lastHeld o_row o_best o_p1 o_p1_purses o_p1_firsts o_p1_seconds o_p1_firstsHad o_p1_secondsHad o_p1_seenSums o_p1_seenShared m_v_fewest m_v_people m_v_goal m_a_lastHeld m_a_row m_a_best v_p1_filled v_p1_people v_p1_lawNumber v_p1_made v_p1_seen a_p1_purses)) A) (by decide) rfl (Nat.le_of_ble_eq_true rfl) ?_
  intro p e s m args below meth c A ls Q hQ hsz hx hb hml hr hts hown hlocks hnm hK hP hD hA hS hl
  have hl : lv_has ls 4 [(0, .ref o), (1, .ref o_p1), (2, .int n2), (3, .int n3)] := hl
  unfold wp_X4_find at h
  refine lv_aload_n hx hb dX4_find_0 rfl (lv_at hl 0 rfl) ?_
  refine lv_aload_n hx hb dX4_find_1 rfl (lv_at hl 1 rfl) ?_
  refine va_getN (D := D) (ci := 1) (v := .int v_p1_people) (C := RX1) (T := TX1) (N := 12) hx hb hts inw_X4_find_X1 hown hK.1 hP 4 rfl rfl 1 (by decide) (nF_14 hK) (fun _ h9 => h9) rfl dX4_find_2 ?_
  refine va_put (D := D) (ci := 4) (v := .int v_p1_people) (ty := .int) (C := RX4) (T := TX4) (N := 6) hx hb hts inw_X4_find_X4 tyX4 tyX4_ok nmX4 hown hK.1 hP hD hS 0 rfl rfl 4 (by decide) (hts (.fieldLink RX4 27 "PursesShare$RuinSearch" "people" "I") (by decide +kernel)) (fun _ h9 => h9) rfl (by decide +kernel) rfl rfl (Nat.le_of_ble_eq_true rfl) dX4_find_5 (fun H locs hP hD hS => ?_)
  have hP : va_P D vwCl (cw_X4_find cI cZ o o_lastHeld o_row o_best o_p1 o_p1_purses o_p1_firsts o_p1_seconds o_p1_firstsHad o_p1_secondsHad o_p1_seenSums o_p1_seenShared v_fewest v_p1_people v_goal a_lastHeld a_row a_best v_p1_filled v_p1_people v_p1_lawNumber v_p1_made v_p1_seen a_p1_purses) H := hP
  have hD : va_D A (cw_X4_find cI cZ o o_lastHeld o_row o_best o_p1 o_p1_purses o_p1_firsts o_p1_seconds o_p1_firstsHad o_p1_secondsHad o_p1_seenSums o_p1_seenShared v_fewest v_p1_people v_goal a_lastHeld a_row a_best v_p1_filled v_p1_people v_p1_lawNumber v_p1_made v_p1_seen a_p1_purses) := hD
  refine lv_aload_n hx hb dX4_find_8 rfl (lv_at hl 0 rfl) ?_
  refine lv_iload_n hx hb dX4_find_9 rfl (lv_at hl 3 rfl) ?_
  refine va_put (D := D) (ci := 4) (v := .int n3) (ty := .int) (C := RX4) (T := TX4) (N := 6) hx hb hts inw_X4_find_X4 tyX4 tyX4_ok nmX4 hown hK.1 hP hD hS 0 rfl rfl 5 (by decide) (hts (.fieldLink RX4 28 "PursesShare$RuinSearch" "goal" "I") (by decide +kernel)) (fun _ h9 => h9) rfl (by decide +kernel) rfl rfl (Nat.le_of_ble_eq_true rfl) dX4_find_10 (fun H locs hP hD hS => ?_)
  have hP : va_P D vwCl (cw_X4_find cI cZ o o_lastHeld o_row o_best o_p1 o_p1_purses o_p1_firsts o_p1_seconds o_p1_firstsHad o_p1_secondsHad o_p1_seenSums o_p1_seenShared v_fewest v_p1_people n3 a_lastHeld a_row a_best v_p1_filled v_p1_people v_p1_lawNumber v_p1_made v_p1_seen a_p1_purses) H := hP
  have hD : va_D A (cw_X4_find cI cZ o o_lastHeld o_row o_best o_p1 o_p1_purses o_p1_firsts o_p1_seconds o_p1_firstsHad o_p1_secondsHad o_p1_seenSums o_p1_seenShared v_fewest v_p1_people n3 a_lastHeld a_row a_best v_p1_filled v_p1_people v_p1_lawNumber v_p1_made v_p1_seen a_p1_purses) := hD
  refine lv_aload_n hx hb dX4_find_13 rfl (lv_at hl 0 rfl) ?_
  refine lv_aload_n hx hb dX4_find_14 rfl (lv_at hl 0 rfl) ?_
  refine va_get (D := D) (ci := 4) (v := .int v_p1_people) (C := RX4) (T := TX4) (N := 6) hx hb hts inw_X4_find_X4 hown hK.1 hP 0 rfl rfl 4 (by decide) (hts (.fieldLink RX4 27 "PursesShare$RuinSearch" "people" "I") (by decide +kernel)) (fun _ h9 => h9) rfl dX4_find_15 ?_
  refine va_put (D := D) (ci := 4) (v := .int v_p1_people) (ty := .int) (C := RX4) (T := TX4) (N := 6) hx hb hts inw_X4_find_X4 tyX4 tyX4_ok nmX4 hown hK.1 hP hD hS 0 rfl rfl 3 (by decide) (hts (.fieldLink RX4 31 "PursesShare$RuinSearch" "fewest" "I") (by decide +kernel)) (fun _ h9 => h9) rfl (by decide +kernel) rfl rfl (Nat.le_of_ble_eq_true rfl) dX4_find_18 (fun H locs hP hD hS => ?_)
  have hP : va_P D vwCl (cw_X4_find cI cZ o o_lastHeld o_row o_best o_p1 o_p1_purses o_p1_firsts o_p1_seconds o_p1_firstsHad o_p1_secondsHad o_p1_seenSums o_p1_seenShared v_p1_people v_p1_people n3 a_lastHeld a_row a_best v_p1_filled v_p1_people v_p1_lawNumber v_p1_made v_p1_seen a_p1_purses) H := hP
  have hD : va_D A (cw_X4_find cI cZ o o_lastHeld o_row o_best o_p1 o_p1_purses o_p1_firsts o_p1_seconds o_p1_firstsHad o_p1_secondsHad o_p1_seenSums o_p1_seenShared v_p1_people v_p1_people n3 a_lastHeld a_row a_best v_p1_filled v_p1_people v_p1_lawNumber v_p1_made v_p1_seen a_p1_purses) := hD
  refine lv_aload_n hx hb dX4_find_21 rfl (lv_at hl 0 rfl) ?_
  refine va_get (D := D) (ci := 4) (v := .ref o_lastHeld) (C := RX4) (T := TX4) (N := 6) hx hb hts inw_X4_find_X4 hown hK.1 hP 0 rfl rfl 0 (by decide) (hts (.fieldLink RX4 9 "PursesShare$RuinSearch" "lastHeld" "[I") (by decide +kernel)) (fun _ h9 => h9) rfl dX4_find_22 ?_
  refine lv_iconst (v := -1) hx hb dX4_find_25 (by decide) ?_
  refine call_v1 (va_runS (As := [.ref o_lastHeld, .int (-1 : Int32)]) (rest := []) ⟨hx, hb, hml, hown, hts⟩ (c_J7_fill_53178 l D cI cZ o_lastHeld (Array.size H) (-1 : Int32) a_lastHeld _ h) (va_cwS 2 hts gX4_find_J7_fill_53178 rfl rfl rfl (by decide +kernel) ⟨Nat.le_of_ble_eq_true rfl, Nat.le_of_ble_eq_true rfl⟩) (preS_of hP hD hK [1] rfl rfl) rfl rfl hl.1 rfl (lv_room (Nat.le_of_ble_eq_true rfl)) dX4_find_26 ⟨Nat.zero_le _, Nat.zero_le _⟩) hP hD hS hA [1] rfl (fun a_lastHeld_26 => (cw_X4_find cI cZ o o_lastHeld o_row o_best o_p1 o_p1_purses o_p1_firsts o_p1_seconds o_p1_firstsHad o_p1_secondsHad o_p1_seenSums o_p1_seenShared v_p1_people v_p1_people n3 a_lastHeld_26 a_row a_best v_p1_filled v_p1_people v_p1_lawNumber v_p1_made v_p1_seen a_p1_purses)) (fun _ => rfl) (fun _ => rfl) (fun a_lastHeld_26 H locs h hP hD hS => ?_)
  refine lv_aload_n hx hb dX4_find_29 rfl (lv_at hl 0 rfl) ?_
  refine lv_iconst (v := 0) hx hb dX4_find_30 (by decide) ?_
  refine lv_iconst (v := 1) hx hb dX4_find_31 (by decide) ?_
  refine lv_iload_n hx hb dX4_find_32 rfl (lv_at hl 2 rfl) ?_
  refine lv_ishl hx hb dX4_find_33 ?_
  refine lv_aload_n hx hb dX4_find_34 rfl (lv_at hl 1 rfl) ?_
  refine va_getN (D := D) (ci := 1) (v := .ref o_p1_purses) (C := RX1) (T := TX1) (N := 12) hx hb hts inw_X4_find_X1 hown hK.1 hP 4 rfl rfl 3 (by decide) (nF_22 hK) (fun _ h9 => h9) rfl dX4_find_35 ?_
  refine lv_iload_n hx hb dX4_find_38 rfl (lv_at hl 2 rfl) ?_
  have h0 := h.1
  have h := h.2
  refine va_iald hx hb hK.1 hP 5 0 rfl rfl h0 dX4_find_39 ?_
  refine lv_aload_n hx hb dX4_find_40 rfl (lv_at hl 1 rfl) ?_
  refine call_v4 (va_runV (As := [.int (0 : Int32), .int ((1 : Int32) <<< (n2 &&& 31)), .int (a_p1_purses (Int32.toNatClampNeg n2)), .ref o_p1]) (rest := []) ⟨hx, hb, hml, hown, hts⟩ (c_X4_goOn l 9 D cI cZ o o_lastHeld o_row o_best o_p1 o_p1_purses o_p1_firsts o_p1_seconds o_p1_firstsHad o_p1_secondsHad o_p1_seenSums o_p1_seenShared (Array.size H) (0 : Int32) ((1 : Int32) <<< (n2 &&& 31)) (a_p1_purses (Int32.toNatClampNeg n2)) v_p1_people v_p1_people n3 a_lastHeld_26 a_row a_best v_p1_filled v_p1_people v_p1_lawNumber v_p1_made v_p1_seen a_p1_purses _ h) (cwV 4 hts gX4_find_X4_goOn rfl rfl rfl (by decide +kernel) ⟨Nat.le_of_ble_eq_true rfl, Nat.le_of_ble_eq_true rfl⟩) (preV_of hP hD hK [0, 1, 2, 3, 4, 5] rfl rfl 0 4 rfl rfl rfl) rfl rfl hl.1 rfl (lv_room (Nat.le_of_ble_eq_true rfl)) dX4_find_41 ⟨Nat.zero_le _, Nat.zero_le _⟩) hP hD hS hA [0, 1, 2, 3, 4, 5] rfl (fun v_fewest_41 a_lastHeld_41 a_row_41 a_best_41 => (cw_X4_find cI cZ o o_lastHeld o_row o_best o_p1 o_p1_purses o_p1_firsts o_p1_seconds o_p1_firstsHad o_p1_secondsHad o_p1_seenSums o_p1_seenShared v_fewest_41 v_p1_people n3 a_lastHeld_41 a_row_41 a_best_41 v_p1_filled v_p1_people v_p1_lawNumber v_p1_made v_p1_seen a_p1_purses)) (fun _ _ _ _ => rfl) (fun _ _ _ _ => rfl) (fun v_fewest_41 a_lastHeld_41 a_row_41 a_best_41 H locs h hP hD hS => ?_)
  exact ret_v6 hx hb hr hlocks hQ hS v_fewest_41 v_p1_people n3 a_lastHeld_41 a_row_41 a_best_41 hP h dX4_find_44
abbrev rm_X4_isFound : Room := { frames := 0, cells := 0, slots := 0, locals := 0 }
abbrev cw_X4_isFound (cI cZ : ClassId) (o o_lastHeld o_row o_best : Nat) (v_fewest : Int32) (v_people : Int32) (v_goal : Int32) : va_W := [(o, .inr (4, [.ref o_lastHeld, .ref o_row, .ref o_best, .int v_fewest, .int v_people, .int v_goal]))]
theorem inw_X4_isFound_X4 : ∀ w ∈ u_ws RX4 TX4 6, w ∈ wsX4_isFound := by decide +kernel
def wp_X4_isFound (v_fewest : Int32) (v_people : Int32) (Post : Int32 → Prop) : Prop := ((v_people ≤ v_fewest → (Post (0 : Int32))) ∧ (¬ v_people ≤ v_fewest → (Post (1 : Int32))))
set_option maxHeartbeats 4000000 in
set_option maxRecDepth 100000 in
theorem c_X4_isFound (l : Launch) (D : va_G) (cI cZ : ClassId) (o o_lastHeld o_row o_best : Nat) (sz : Nat) (v_fewest : Int32) (v_people : Int32) (v_goal : Int32) (Post : Int32 → Prop) (h : wp_X4_isFound v_fewest v_people Post) : Met l yX4_isFound wsX4_isFound rm_X4_isFound (cPc D cI cZ [.ref o] (cw_X4_isFound cI cZ o o_lastHeld o_row o_best v_fewest v_people v_goal) sz) (cQi0 D Post ((cw_X4_isFound cI cZ o o_lastHeld o_row o_best v_fewest v_people v_goal)) (va_A (cw_X4_isFound cI cZ o o_lastHeld o_row o_best v_fewest v_people v_goal) sz)) 0 0 (va_A (cw_X4_isFound cI cZ o o_lastHeld o_row o_best v_fewest v_people v_goal) sz) := by
  refine ent (cc := cX4_isFound) (maxL := 1) (ret := (some .boolean)) (Qc := fun A => cQi0 D Post ((cw_X4_isFound cI cZ o o_lastHeld o_row o_best v_fewest v_people v_goal)) A) (by decide) rfl (Nat.le_of_ble_eq_true rfl) ?_
  intro p e s m args below meth c A ls Q hQ hsz hx hb hml hr hts hown hlocks hnm hK hP hD hA hS hl
  have hl : lv_has ls 1 [(0, .ref o)] := hl
  unfold wp_X4_isFound at h
  refine lv_aload_n hx hb dX4_isFound_0 rfl (lv_at hl 0 rfl) ?_
  refine va_get (D := D) (ci := 4) (v := .int v_fewest) (C := RX4) (T := TX4) (N := 6) hx hb hts inw_X4_isFound_X4 hown hK.1 hP 0 rfl rfl 3 (by decide) (hts (.fieldLink RX4 31 "PursesShare$RuinSearch" "fewest" "I") (by decide +kernel)) (fun _ h9 => h9) rfl dX4_isFound_1 ?_
  refine lv_aload_n hx hb dX4_isFound_4 rfl (lv_at hl 0 rfl) ?_
  refine va_get (D := D) (ci := 4) (v := .int v_people) (C := RX4) (T := TX4) (N := 6) hx hb hts inw_X4_isFound_X4 hown hK.1 hP 0 rfl rfl 4 (by decide) (hts (.fieldLink RX4 27 "PursesShare$RuinSearch" "people" "I") (by decide +kernel)) (fun _ h9 => h9) rfl dX4_isFound_5 ?_
  refine lv_icmp_ge (tgt := 15) hx hb dX4_isFound_8 (by decide) (fun c8 => ?_) (fun c8 => ?_)
  · have h := h.1 c8
    refine lv_iconst (v := 0) hx hb dX4_isFound_15 (by decide) ?_
    exact ret_z0 hx hb hr hlocks hQ hS (by decide)  hP h dX4_isFound_16
  · have h := h.2 c8
    refine lv_iconst (v := 1) hx hb dX4_isFound_11 (by decide) ?_
    refine lv_goto (tgt := 16) hx hb dX4_isFound_12 (by decide) ?_
    exact ret_z0 hx hb hr hlocks hQ hS (by decide)  hP h dX4_isFound_16
