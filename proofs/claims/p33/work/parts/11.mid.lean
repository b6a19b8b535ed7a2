abbrev rm_X5_countSharedNothing : Room := { frames := 0, cells := 0, slots := 0, locals := 0 }
abbrev cw_X5_countSharedNothing (cI cZ : ClassId) (o_p1 o_p1_purses o_p1_firsts o_p1_seconds o_p1_firstsHad o_p1_secondsHad o_p1_seenSums o_p1_seenShared : Nat) (v_p1_filled : Int32) (v_p1_people : Int32) (v_p1_lawNumber : Int32) (v_p1_made : Int32) (v_p1_seen : Int32) (a_p1_seenShared : Nat → Int32) : va_W := [(o_p1, .inr (1, [.int v_p1_filled, .int v_p1_people, .int v_p1_lawNumber, .ref o_p1_purses, .int v_p1_made, .ref o_p1_firsts, .ref o_p1_seconds, .ref o_p1_firstsHad, .ref o_p1_secondsHad, .int v_p1_seen, .ref o_p1_seenSums, .ref o_p1_seenShared])), (o_p1_seenShared, .inl (cI, 8, .inl a_p1_seenShared))]
theorem inw_X5_countSharedNothing_X1 : ∀ w ∈ u_ws RX1 TX1 12, w ∈ wsX5_countSharedNothing := by decide +kernel
def wp_X5_countSharedNothing (v_p1_seen : Int32) (a_p1_seenShared : Nat → Int32) (Post : Int32 → Prop) : Prop := (∀ k4 : (Int32) → (Int32) → Prop, (∀ (x2_4 : Int32) (x1_4 : Int32), ((v_p1_seen ≤ x2_4 → (Post x1_4)) ∧ (¬ v_p1_seen ≤ x2_4 → (vp_in x2_4 8 ∧ ((¬ (a_p1_seenShared (Int32.toNatClampNeg x2_4)) = 0 → (k4 (x2_4 + 1) x1_4)) ∧ ((a_p1_seenShared (Int32.toNatClampNeg x2_4)) = 0 → (k4 (x2_4 + 1) (x1_4 + 1))))))) → k4 x2_4 x1_4) → k4 (0 : Int32) (0 : Int32))
set_option maxHeartbeats 4000000 in
set_option maxRecDepth 100000 in
theorem c_X5_countSharedNothing (l : Launch) (D : va_G) (cI cZ : ClassId) (o_p1 o_p1_purses o_p1_firsts o_p1_seconds o_p1_firstsHad o_p1_secondsHad o_p1_seenSums o_p1_seenShared : Nat) (sz : Nat) (v_p1_filled : Int32) (v_p1_people : Int32) (v_p1_lawNumber : Int32) (v_p1_made : Int32) (v_p1_seen : Int32) (a_p1_seenShared : Nat → Int32) (Post : Int32 → Prop) (h : wp_X5_countSharedNothing v_p1_seen a_p1_seenShared Post) : Met l yX5_countSharedNothing wsX5_countSharedNothing rm_X5_countSharedNothing (cPc D cI cZ [.ref o_p1] (cw_X5_countSharedNothing cI cZ o_p1 o_p1_purses o_p1_firsts o_p1_seconds o_p1_firstsHad o_p1_secondsHad o_p1_seenSums o_p1_seenShared v_p1_filled v_p1_people v_p1_lawNumber v_p1_made v_p1_seen a_p1_seenShared) sz) (cQi0 D Post ((cw_X5_countSharedNothing cI cZ o_p1 o_p1_purses o_p1_firsts o_p1_seconds o_p1_firstsHad o_p1_secondsHad o_p1_seenSums o_p1_seenShared v_p1_filled v_p1_people v_p1_lawNumber v_p1_made v_p1_seen a_p1_seenShared)) (va_A (cw_X5_countSharedNothing cI cZ o_p1 o_p1_purses o_p1_firsts o_p1_seconds o_p1_firstsHad o_p1_secondsHad o_p1_seenSums o_p1_seenShared v_p1_filled v_p1_people v_p1_lawNumber v_p1_made v_p1_seen a_p1_seenShared) sz)) 0 0 (va_A (cw_X5_countSharedNothing cI cZ o_p1 o_p1_purses o_p1_firsts o_p1_seconds o_p1_firstsHad o_p1_secondsHad o_p1_seenSums o_p1_seenShared v_p1_filled v_p1_people v_p1_lawNumber v_p1_made v_p1_seen a_p1_seenShared) sz) := by
  refine ent (cc := cX5_countSharedNothing) (maxL := 3) (ret := (some .int)) (Qc := fun A => cQi0 D Post ((cw_X5_countSharedNothing cI cZ o_p1 o_p1_purses o_p1_firsts o_p1_seconds o_p1_firstsHad o_p1_secondsHad o_p1_seenSums o_p1_seenShared v_p1_filled v_p1_people v_p1_lawNumber v_p1_made v_p1_seen a_p1_seenShared)) A) (by decide) rfl (Nat.le_of_ble_eq_true rfl) ?_
  intro p e s m args below meth c A ls Q hQ hsz hx hb hml hr hts hown hlocks hnm hK hP hD hA hS hl
  have hl : lv_has ls 3 [(0, .ref o_p1)] := hl
  unfold wp_X5_countSharedNothing at h
  refine lv_iconst (v := 0) hx hb dX5_countSharedNothing_0 (by decide) ?_
  refine lv_istore_n (lv' := [(1, .int (0 : Int32)), (0, .ref o_p1)]) hx hb dX5_countSharedNothing_1 rfl hl (by decide) rfl (fun ls hl => ?_)
  refine lv_iconst (v := 0) hx hb dX5_countSharedNothing_2 (by decide) ?_
  refine lv_istore_n (lv' := [(2, .int (0 : Int32)), (1, .int (0 : Int32)), (0, .ref o_p1)]) hx hb dX5_countSharedNothing_3 rfl hl (by decide) rfl (fun ls hl => ?_)
  refine h (fun x2_4 x1_4 => ∀ (H : Heap) (locs : List Loc) (ls : Array Slot), lv_has ls 3 [(0, .ref o_p1), (1, .int x1_4), (2, .int x2_4)] → va_P D vwCl (cw_X5_countSharedNothing cI cZ o_p1 o_p1_purses o_p1_firsts o_p1_seconds o_p1_firstsHad o_p1_secondsHad o_p1_seenSums o_p1_seenShared v_p1_filled v_p1_people v_p1_lawNumber v_p1_made v_p1_seen a_p1_seenShared) H → va_D A (cw_X5_countSharedNothing cI cZ o_p1 o_p1_purses o_p1_firsts o_p1_seconds o_p1_firstsHad o_p1_secondsHad o_p1_seenSums o_p1_seenShared v_p1_filled v_p1_people v_p1_lawNumber v_p1_made v_p1_seen a_p1_seenShared) → va_S A s.heap H locs → W p l e rm_X5_countSharedNothing s m args below meth c H locs 0 0 Q (F0 m 4 ls [])) ?_ s.heap [] ls (lv_sub hl [2, 1, 0] rfl) hP hD hS
  intro x2_4 x1_4 h H locs ls hl hP hD hS
  refine lv_iload_n hx hb dX5_countSharedNothing_4 rfl (lv_at hl 2 rfl) ?_
  refine lv_aload_n hx hb dX5_countSharedNothing_5 rfl (lv_at hl 0 rfl) ?_
  refine va_getN (D := D) (ci := 1) (v := .int v_p1_seen) (C := RX1) (T := TX1) (N := 12) hx hb hts inw_X5_countSharedNothing_X1 hown hK.1 hP 0 rfl rfl 9 (by decide) (nF_25 hK) (fun _ h9 => h9) rfl dX5_countSharedNothing_6 ?_
  refine lv_icmp_ge (tgt := 30) hx hb dX5_countSharedNothing_9 (by decide) (fun c9 => ?_) (fun c9 => ?_)
  · have h := h.1 c9
    refine lv_iload_n hx hb dX5_countSharedNothing_30 rfl (lv_at hl 1 rfl) ?_
    exact ret_i0 hx hb hr hlocks hQ hS  hP h dX5_countSharedNothing_31
  · have h := h.2 c9
    refine lv_aload_n hx hb dX5_countSharedNothing_12 rfl (lv_at hl 0 rfl) ?_
    refine va_getN (D := D) (ci := 1) (v := .ref o_p1_seenShared) (C := RX1) (T := TX1) (N := 12) hx hb hts inw_X5_countSharedNothing_X1 hown hK.1 hP 0 rfl rfl 11 (by decide) (nF_28 hK) (fun _ h9 => h9) rfl dX5_countSharedNothing_13 ?_
    refine lv_iload_n hx hb dX5_countSharedNothing_16 rfl (lv_at hl 2 rfl) ?_
    have h0 := h.1
    have h := h.2
    refine va_iald hx hb hK.1 hP 1 0 rfl rfl h0 dX5_countSharedNothing_17 ?_
    refine lv_if_ne (tgt := 24) hx hb dX5_countSharedNothing_18 (by decide) (fun c18 => ?_) (fun c18 => ?_)
    · have h := h.1 c18
      refine lv_iinc (v := (x2_4 + 1)) (lv' := [(2, .int (x2_4 + 1)), (0, .ref o_p1), (1, .int x1_4)]) hx hb dX5_countSharedNothing_24 hl (k := 2) rfl rfl (by decide) rfl (fun ls hl => ?_)
      refine lv_goto (tgt := 4) hx hb dX5_countSharedNothing_27 (by decide) ?_
      exact h H locs ls (lv_sub hl [1, 2, 0] rfl) hP hD hS
    · have h := h.2 c18
      refine lv_iinc (v := (x1_4 + 1)) (lv' := [(1, .int (x1_4 + 1)), (0, .ref o_p1), (2, .int x2_4)]) hx hb dX5_countSharedNothing_21 hl (k := 1) rfl rfl (by decide) rfl (fun ls hl => ?_)
      refine lv_iinc (v := (x2_4 + 1)) (lv' := [(2, .int (x2_4 + 1)), (1, .int (x1_4 + 1)), (0, .ref o_p1)]) hx hb dX5_countSharedNothing_24 hl (k := 2) rfl rfl (by decide) rfl (fun ls hl => ?_)
      refine lv_goto (tgt := 4) hx hb dX5_countSharedNothing_27 (by decide) ?_
      exact h H locs ls (lv_sub hl [2, 1, 0] rfl) hP hD hS
abbrev rm_X5_addPrime : Room := { frames := 0, cells := 0, slots := 0, locals := 0 }
abbrev cw_X5_addPrime (cI cZ : ClassId) (o o_primes o_some : Nat) (v_found : Int32) (v_unit : Int32) (v_howMany : Int32) (v_least : Int32) (v_greatest : Int32) (a_primes : Nat → Int32) : va_W := [(o, .inr (5, [.ref o_primes, .ref o_some, .int v_found, .int v_unit, .int v_howMany, .int v_least, .int v_greatest])), (o_primes, .inl (cI, 48, .inl a_primes))]
theorem inw_X5_addPrime_X5 : ∀ w ∈ u_ws RX5 TX5 7, w ∈ wsX5_addPrime := by decide +kernel
def wp_X5_addPrime (n1 : Int32) (v_found : Int32) (a_primes : Nat → Int32) (Post : (Int32) → (Nat → Int32) → Prop) : Prop := (∀ k2 : (Int32) → Prop, (∀ (x2_2 : Int32), ((v_found ≤ x2_2 → (((48 : Int32) ≤ v_found → (Post v_found a_primes)) ∧ (¬ (48 : Int32) ≤ v_found → (vp_in v_found 48 ∧ (Post (v_found + (1 : Int32)) (upd a_primes (Int32.toNatClampNeg v_found) n1)))))) ∧ (¬ v_found ≤ x2_2 → (vp_in x2_2 48 ∧ ((¬ (a_primes (Int32.toNatClampNeg x2_2)) = n1 → (k2 (x2_2 + 1))) ∧ ((a_primes (Int32.toNatClampNeg x2_2)) = n1 → (Post v_found a_primes)))))) → k2 x2_2) → k2 (0 : Int32))
set_option maxHeartbeats 4000000 in
set_option maxRecDepth 100000 in
theorem c_X5_addPrime (l : Launch) (D : va_G) (cI cZ : ClassId) (o o_primes o_some : Nat) (sz : Nat) (n1 : Int32) (v_found : Int32) (v_unit : Int32) (v_howMany : Int32) (v_least : Int32) (v_greatest : Int32) (a_primes : Nat → Int32) (Post : (Int32) → (Nat → Int32) → Prop) (h : wp_X5_addPrime n1 v_found a_primes Post) : Met l yX5_addPrime wsX5_addPrime rm_X5_addPrime (cPc D cI cZ [.ref o, .int n1] (cw_X5_addPrime cI cZ o o_primes o_some v_found v_unit v_howMany v_least v_greatest a_primes) sz) (cQv2 D Post (fun m_v_found m_a_primes => (cw_X5_addPrime cI cZ o o_primes o_some m_v_found v_unit v_howMany v_least v_greatest m_a_primes)) (va_A (cw_X5_addPrime cI cZ o o_primes o_some v_found v_unit v_howMany v_least v_greatest a_primes) sz)) 0 0 (va_A (cw_X5_addPrime cI cZ o o_primes o_some v_found v_unit v_howMany v_least v_greatest a_primes) sz) := by
  refine ent (cc := cX5_addPrime) (maxL := 3) (ret := none) (Qc := fun A => cQv2 D Post (fun m_v_found m_a_primes => (cw_X5_addPrime cI cZ o o_primes o_some m_v_found v_unit v_howMany v_least v_greatest m_a_primes)) A) (by decide) rfl (Nat.le_of_ble_eq_true rfl) ?_
  intro p e s m args below meth c A ls Q hQ hsz hx hb hml hr hts hown hlocks hnm hK hP hD hA hS hl
  have hl : lv_has ls 3 [(0, .ref o), (1, .int n1)] := hl
  unfold wp_X5_addPrime at h
  refine lv_iconst (v := 0) hx hb dX5_addPrime_0 (by decide) ?_
  refine lv_istore_n (lv' := [(2, .int (0 : Int32)), (0, .ref o), (1, .int n1)]) hx hb dX5_addPrime_1 rfl hl (by decide) rfl (fun ls hl => ?_)
  refine h (fun x2_2 => ∀ (H : Heap) (locs : List Loc) (ls : Array Slot), lv_has ls 3 [(0, .ref o), (1, .int n1), (2, .int x2_2)] → va_P D vwCl (cw_X5_addPrime cI cZ o o_primes o_some v_found v_unit v_howMany v_least v_greatest a_primes) H → va_D A (cw_X5_addPrime cI cZ o o_primes o_some v_found v_unit v_howMany v_least v_greatest a_primes) → va_S A s.heap H locs → W p l e rm_X5_addPrime s m args below meth c H locs 0 0 Q (F0 m 2 ls [])) ?_ s.heap [] ls (lv_sub hl [1, 2, 0] rfl) hP hD hS
  intro x2_2 h H locs ls hl hP hD hS
  refine lv_iload_n hx hb dX5_addPrime_2 rfl (lv_at hl 2 rfl) ?_
  refine lv_aload_n hx hb dX5_addPrime_3 rfl (lv_at hl 0 rfl) ?_
  refine va_get (D := D) (ci := 5) (v := .int v_found) (C := RX5) (T := TX5) (N := 7) hx hb hts inw_X5_addPrime_X5 hown hK.1 hP 0 rfl rfl 2 (by decide) (hts (.fieldLink RX5 65 "PursesShare$SeenSearch" "found" "I") (by decide +kernel)) (fun _ h9 => h9) rfl dX5_addPrime_4 ?_
  refine lv_icmp_ge (tgt := 27) hx hb dX5_addPrime_7 (by decide) (fun c7 => ?_) (fun c7 => ?_)
  · have h := h.1 c7
    refine lv_aload_n hx hb dX5_addPrime_27 rfl (lv_at hl 0 rfl) ?_
    refine va_get (D := D) (ci := 5) (v := .int v_found) (C := RX5) (T := TX5) (N := 7) hx hb hts inw_X5_addPrime_X5 hown hK.1 hP 0 rfl rfl 2 (by decide) (hts (.fieldLink RX5 65 "PursesShare$SeenSearch" "found" "I") (by decide +kernel)) (fun _ h9 => h9) rfl dX5_addPrime_28 ?_
    refine lv_aload_n hx hb dX5_addPrime_31 rfl (lv_at hl 0 rfl) ?_
    refine va_get (D := D) (ci := 5) (v := .ref o_primes) (C := RX5) (T := TX5) (N := 7) hx hb hts inw_X5_addPrime_X5 hown hK.1 hP 0 rfl rfl 0 (by decide) (hts (.fieldLink RX5 9 "PursesShare$SeenSearch" "primes" "[I") (by decide +kernel)) (fun _ h9 => h9) rfl dX5_addPrime_32 ?_
    refine va_alen (v := 48) hx hb hK.1 hP 1 0 rfl rfl rfl dX5_addPrime_35 ?_
    refine lv_icmp_ge (tgt := 56) hx hb dX5_addPrime_36 (by decide) (fun c36 => ?_) (fun c36 => ?_)
    · have h := h.1 c36
      exact ret_v2 hx hb hr hlocks hQ hS v_found a_primes hP h dX5_addPrime_56
    · have h := h.2 c36
      refine lv_aload_n hx hb dX5_addPrime_39 rfl (lv_at hl 0 rfl) ?_
      refine va_get (D := D) (ci := 5) (v := .ref o_primes) (C := RX5) (T := TX5) (N := 7) hx hb hts inw_X5_addPrime_X5 hown hK.1 hP 0 rfl rfl 0 (by decide) (hts (.fieldLink RX5 9 "PursesShare$SeenSearch" "primes" "[I") (by decide +kernel)) (fun _ h9 => h9) rfl dX5_addPrime_40 ?_
      refine lv_aload_n hx hb dX5_addPrime_43 rfl (lv_at hl 0 rfl) ?_
      refine lv_dup hx hb dX5_addPrime_44 rfl ?_
      refine va_get (D := D) (ci := 5) (v := .int v_found) (C := RX5) (T := TX5) (N := 7) hx hb hts inw_X5_addPrime_X5 hown hK.1 hP 0 rfl rfl 2 (by decide) (hts (.fieldLink RX5 65 "PursesShare$SeenSearch" "found" "I") (by decide +kernel)) (fun _ h9 => h9) rfl dX5_addPrime_45 ?_
      refine lv_dup_x1 hx hb dX5_addPrime_48 rfl rfl ?_
      refine lv_iconst (v := 1) hx hb dX5_addPrime_49 (by decide) ?_
      refine lv_iadd hx hb dX5_addPrime_50 ?_
      refine va_put (D := D) (ci := 5) (v := .int (v_found + (1 : Int32))) (ty := .int) (C := RX5) (T := TX5) (N := 7) hx hb hts inw_X5_addPrime_X5 tyX5 tyX5_ok nmX5 hown hK.1 hP hD hS 0 rfl rfl 2 (by decide) (hts (.fieldLink RX5 65 "PursesShare$SeenSearch" "found" "I") (by decide +kernel)) (fun _ h9 => h9) rfl (by decide +kernel) rfl rfl (Nat.le_of_ble_eq_true rfl) dX5_addPrime_51 (fun H locs hP hD hS => ?_)
      have hP : va_P D vwCl (cw_X5_addPrime cI cZ o o_primes o_some (v_found + (1 : Int32)) v_unit v_howMany v_least v_greatest a_primes) H := hP
      have hD : va_D A (cw_X5_addPrime cI cZ o o_primes o_some (v_found + (1 : Int32)) v_unit v_howMany v_least v_greatest a_primes) := hD
      refine lv_iload_n hx hb dX5_addPrime_54 rfl (lv_at hl 1 rfl) ?_
      have h0 := h.1
      have h := h.2
      refine va_iast hx hb hK.1 hP hD hS 1 0 rfl rfl h0 dX5_addPrime_55 (fun H locs hP hD hS => ?_)
      have hP : va_P D vwCl (cw_X5_addPrime cI cZ o o_primes o_some (v_found + (1 : Int32)) v_unit v_howMany v_least v_greatest (upd a_primes (Int32.toNatClampNeg v_found) n1)) H := hP
      have hD : va_D A (cw_X5_addPrime cI cZ o o_primes o_some (v_found + (1 : Int32)) v_unit v_howMany v_least v_greatest (upd a_primes (Int32.toNatClampNeg v_found) n1)) := hD
      exact ret_v2 hx hb hr hlocks hQ hS (v_found + (1 : Int32)) (upd a_primes (Int32.toNatClampNeg v_found) n1) hP h dX5_addPrime_56
  · have h := h.2 c7
    refine lv_aload_n hx hb dX5_addPrime_10 rfl (lv_at hl 0 rfl) ?_
    refine va_get (D := D) (ci := 5) (v := .ref o_primes) (C := RX5) (T := TX5) (N := 7) hx hb hts inw_X5_addPrime_X5 hown hK.1 hP 0 rfl rfl 0 (by decide) (hts (.fieldLink RX5 9 "PursesShare$SeenSearch" "primes" "[I") (by decide +kernel)) (fun _ h9 => h9) rfl dX5_addPrime_11 ?_
    refine lv_iload_n hx hb dX5_addPrime_14 rfl (lv_at hl 2 rfl) ?_
    have h0 := h.1
    have h := h.2
    refine va_iald hx hb hK.1 hP 1 0 rfl rfl h0 dX5_addPrime_15 ?_
    refine lv_iload_n hx hb dX5_addPrime_16 rfl (lv_at hl 1 rfl) ?_
    refine lv_icmp_ne (tgt := 21) hx hb dX5_addPrime_17 (by decide) (fun c17 => ?_) (fun c17 => ?_)
    · have h := h.1 c17
      refine lv_iinc (v := (x2_2 + 1)) (lv' := [(2, .int (x2_2 + 1)), (0, .ref o), (1, .int n1)]) hx hb dX5_addPrime_21 hl (k := 2) rfl rfl (by decide) rfl (fun ls hl => ?_)
      refine lv_goto (tgt := 2) hx hb dX5_addPrime_24 (by decide) ?_
      exact h H locs ls (lv_sub hl [1, 2, 0] rfl) hP hD hS
    · have h := h.2 c17
      exact ret_v2 hx hb hr hlocks hQ hS v_found a_primes hP h dX5_addPrime_20
abbrev rm_X8_takeApart : Room := { frames := 0, cells := 0, slots := 0, locals := 0 }
abbrev cw_X8_takeApart (cI cZ : ClassId) (o_p2 : Nat) (a_p2 : Nat → Int32) : va_W := [(o_p2, .inl (cI, 6, .inl a_p2))]
def wp_X8_takeApart (n1 : Int32) (a_p2 : Nat → Int32) (Post : Int32 → (Nat → Int32) → Prop) : Prop := (∀ k7 : (Int32) → (Int32) → (Int32) → (Int32) → (Nat → Int32) → Prop, (∀ (x4_7 : Int32) (x3_7 : Int32) (x2_7 : Int32) (x0_7 : Int32) (a_p2_7 : Nat → Int32), ((x3_7 < (x4_7 * x4_7) → ((x3_7 ≤ (1 : Int32) → (Post x2_7 a_p2_7)) ∧ (¬ x3_7 ≤ (1 : Int32) → (((6 : Int32) ≤ x2_7 → (Post x2_7 a_p2_7)) ∧ (¬ (6 : Int32) ≤ x2_7 → (vp_in x2_7 6 ∧ (Post (x2_7 + 1) (upd a_p2_7 (Int32.toNatClampNeg x2_7) x3_7)))))))) ∧ (¬ x3_7 < (x4_7 * x4_7) → (¬ x4_7 = 0 ∧ (((x3_7 - x3_7 / x4_7 * x4_7) = 0 → (((6 : Int32) ≤ x2_7 → (∀ k43 : (Int32) → (Int32) → Prop, (∀ (x5_43 : Int32) (x3_43 : Int32), (((1000000 : Int32) ≤ x5_43 → (k7 (x4_7 + 1) x3_43 x2_7 x0_7 a_p2_7)) ∧ (¬ (1000000 : Int32) ≤ x5_43 → ((x3_43 ≤ (1 : Int32) → (k7 (x4_7 + 1) x3_43 x2_7 x0_7 a_p2_7)) ∧ (¬ x3_43 ≤ (1 : Int32) → (¬ x4_7 = 0 ∧ ((¬ (x3_43 - x3_43 / x4_7 * x4_7) = 0 → (k7 (x4_7 + 1) x3_43 x2_7 x0_7 a_p2_7)) ∧ ((x3_43 - x3_43 / x4_7 * x4_7) = 0 → (¬ x4_7 = 0 ∧ (k43 (x5_43 + 1) (x3_43 / x4_7)))))))))) → k43 x5_43 x3_43) → k43 (0 : Int32) x3_7)) ∧ (¬ (6 : Int32) ≤ x2_7 → (vp_in x2_7 6 ∧ (∀ k43 : (Int32) → (Int32) → Prop, (∀ (x5_43 : Int32) (x3_43 : Int32), (((1000000 : Int32) ≤ x5_43 → (k7 (x4_7 + 1) x3_43 (x2_7 + 1) x0_7 (upd a_p2_7 (Int32.toNatClampNeg x2_7) x4_7))) ∧ (¬ (1000000 : Int32) ≤ x5_43 → ((x3_43 ≤ (1 : Int32) → (k7 (x4_7 + 1) x3_43 (x2_7 + 1) x0_7 (upd a_p2_7 (Int32.toNatClampNeg x2_7) x4_7))) ∧ (¬ x3_43 ≤ (1 : Int32) → (¬ x4_7 = 0 ∧ ((¬ (x3_43 - x3_43 / x4_7 * x4_7) = 0 → (k7 (x4_7 + 1) x3_43 (x2_7 + 1) x0_7 (upd a_p2_7 (Int32.toNatClampNeg x2_7) x4_7))) ∧ ((x3_43 - x3_43 / x4_7 * x4_7) = 0 → (¬ x4_7 = 0 ∧ (k43 (x5_43 + 1) (x3_43 / x4_7)))))))))) → k43 x5_43 x3_43) → k43 (0 : Int32) x3_7))))) ∧ (¬ (x3_7 - x3_7 / x4_7 * x4_7) = 0 → (k7 (x4_7 + 1) x3_7 x2_7 x0_7 a_p2_7)))))) → k7 x4_7 x3_7 x2_7 x0_7 a_p2_7) → k7 (2 : Int32) n1 (0 : Int32) n1 a_p2)
set_option maxHeartbeats 4000000 in
set_option maxRecDepth 100000 in
theorem c_X8_takeApart (l : Launch) (D : va_G) (cI cZ : ClassId) (o_p2 : Nat) (sz : Nat) (n1 : Int32) (a_p2 : Nat → Int32) (Post : Int32 → (Nat → Int32) → Prop) (h : wp_X8_takeApart n1 a_p2 Post) : Met l yX8_takeApart wsX8_takeApart rm_X8_takeApart (cPc D cI cZ [.int n1, .ref o_p2] (cw_X8_takeApart cI cZ o_p2 a_p2) sz) (cQi1 D Post (fun m_a_p2 => (cw_X8_takeApart cI cZ o_p2 m_a_p2)) (va_A (cw_X8_takeApart cI cZ o_p2 a_p2) sz)) 0 0 (va_A (cw_X8_takeApart cI cZ o_p2 a_p2) sz) := by
  refine ent (cc := cX8_takeApart) (maxL := 6) (ret := (some .int)) (Qc := fun A => cQi1 D Post (fun m_a_p2 => (cw_X8_takeApart cI cZ o_p2 m_a_p2)) A) (by decide) rfl (Nat.le_of_ble_eq_true rfl) ?_
  intro p e s m args below meth c A ls Q hQ hsz hx hb hml hr hts hown hlocks hnm hK hP hD hA hS hl
  have hl : lv_has ls 6 [(0, .int n1), (1, .ref o_p2)] := hl
  unfold wp_X8_takeApart at h
  refine lv_iconst (v := 0) hx hb dX8_takeApart_0 (by decide) ?_
  refine lv_istore_n (lv' := [(2, .int (0 : Int32)), (0, .int n1), (1, .ref o_p2)]) hx hb dX8_takeApart_1 rfl hl (by decide) rfl (fun ls hl => ?_)
  refine lv_iload_n hx hb dX8_takeApart_2 rfl (lv_at hl 1 rfl) ?_
  refine lv_istore_n (lv' := [(3, .int n1), (2, .int (0 : Int32)), (0, .int n1), (1, .ref o_p2)]) hx hb dX8_takeApart_3 rfl hl (by decide) rfl (fun ls hl => ?_)
  refine lv_iconst (v := 2) hx hb dX8_takeApart_4 (by decide) ?_
  refine lv_istore (lv' := [(4, .int (2 : Int32)), (3, .int n1), (2, .int (0 : Int32)), (0, .int n1), (1, .ref o_p2)]) hx hb dX8_takeApart_5 hl (by decide) rfl (fun ls hl => ?_)
  refine h (fun x4_7 x3_7 x2_7 x0_7 a_p2_7 => ∀ (H : Heap) (locs : List Loc) (ls : Array Slot), lv_has ls 6 [(0, .int x0_7), (1, .ref o_p2), (2, .int x2_7), (3, .int x3_7), (4, .int x4_7)] → va_P D vwCl (cw_X8_takeApart cI cZ o_p2 a_p2_7) H → va_D A (cw_X8_takeApart cI cZ o_p2 a_p2_7) → va_S A s.heap H locs → W p l e rm_X8_takeApart s m args below meth c H locs 0 0 Q (F0 m 7 ls [])) ?_ s.heap [] ls (lv_sub hl [3, 4, 2, 1, 0] rfl) hP hD hS
  intro x4_7 x3_7 x2_7 x0_7 a_p2_7 h H locs ls hl hP hD hS
  refine lv_iload hx hb dX8_takeApart_7 (lv_at hl 4 rfl) ?_
  refine lv_iload hx hb dX8_takeApart_9 (lv_at hl 4 rfl) ?_
  refine lv_imul hx hb dX8_takeApart_11 ?_
  refine lv_iload_n hx hb dX8_takeApart_12 rfl (lv_at hl 3 rfl) ?_
  refine lv_icmp_gt (tgt := 79) hx hb dX8_takeApart_13 (by decide) (fun c13 => ?_) (fun c13 => ?_)
  · have h := h.1 c13
    refine lv_iload_n hx hb dX8_takeApart_79 rfl (lv_at hl 3 rfl) ?_
    refine lv_iconst (v := 1) hx hb dX8_takeApart_80 (by decide) ?_
    refine lv_icmp_le (tgt := 97) hx hb dX8_takeApart_81 (by decide) (fun c81 => ?_) (fun c81 => ?_)
    · have h := h.1 c81
      refine lv_iload_n hx hb dX8_takeApart_97 rfl (lv_at hl 2 rfl) ?_
      exact ret_i1 hx hb hr hlocks hQ hS a_p2_7 hP h dX8_takeApart_98
    · have h := h.2 c81
      refine lv_iload_n hx hb dX8_takeApart_84 rfl (lv_at hl 2 rfl) ?_
      refine lv_aload_n hx hb dX8_takeApart_85 rfl (lv_at hl 1 rfl) ?_
      refine va_alen (v := 6) hx hb hK.1 hP 0 0 rfl rfl rfl dX8_takeApart_86 ?_
      refine lv_icmp_ge (tgt := 97) hx hb dX8_takeApart_87 (by decide) (fun c87 => ?_) (fun c87 => ?_)
      · have h := h.1 c87
        refine lv_iload_n hx hb dX8_takeApart_97 rfl (lv_at hl 2 rfl) ?_
        exact ret_i1 hx hb hr hlocks hQ hS a_p2_7 hP h dX8_takeApart_98
      · have h := h.2 c87
        refine lv_aload_n hx hb dX8_takeApart_90 rfl (lv_at hl 1 rfl) ?_
        refine lv_iload_n hx hb dX8_takeApart_91 rfl (lv_at hl 2 rfl) ?_
        refine lv_iinc (v := (x2_7 + 1)) (lv' := [(2, .int (x2_7 + 1)), (0, .int x0_7), (1, .ref o_p2), (3, .int x3_7), (4, .int x4_7)]) hx hb dX8_takeApart_92 hl (k := 2) rfl rfl (by decide) rfl (fun ls hl => ?_)
        refine lv_iload_n hx hb dX8_takeApart_95 rfl (lv_at hl 3 rfl) ?_
        have h0 := h.1
        have h := h.2
        refine va_iast hx hb hK.1 hP hD hS 0 0 rfl rfl h0 dX8_takeApart_96 (fun H locs hP hD hS => ?_)
        have hP : va_P D vwCl (cw_X8_takeApart cI cZ o_p2 (upd a_p2_7 (Int32.toNatClampNeg x2_7) x3_7)) H := hP
        have hD : va_D A (cw_X8_takeApart cI cZ o_p2 (upd a_p2_7 (Int32.toNatClampNeg x2_7) x3_7)) := hD
        refine lv_iload_n hx hb dX8_takeApart_97 rfl (lv_at hl 0 rfl) ?_
        exact ret_i1 hx hb hr hlocks hQ hS (upd a_p2_7 (Int32.toNatClampNeg x2_7) x3_7) hP h dX8_takeApart_98
  · have h := h.2 c13
    refine lv_iload_n hx hb dX8_takeApart_16 rfl (lv_at hl 3 rfl) ?_
    refine lv_iload hx hb dX8_takeApart_17 (lv_at hl 4 rfl) ?_
    have h0 := h.1
    have h := h.2
    refine lv_irem hx hb dX8_takeApart_19 h0 ?_
    refine lv_if_eq (tgt := 26) hx hb dX8_takeApart_20 (by decide) (fun c20 => ?_) (fun c20 => ?_)
    · have h := h.1 c20
      refine lv_iload_n hx hb dX8_takeApart_26 rfl (lv_at hl 2 rfl) ?_
      refine lv_aload_n hx hb dX8_takeApart_27 rfl (lv_at hl 1 rfl) ?_
      refine va_alen (v := 6) hx hb hK.1 hP 0 0 rfl rfl rfl dX8_takeApart_28 ?_
      refine lv_icmp_ge (tgt := 40) hx hb dX8_takeApart_29 (by decide) (fun c29 => ?_) (fun c29 => ?_)
      · have h := h.1 c29
        refine lv_iconst (v := 0) hx hb dX8_takeApart_40 (by decide) ?_
        refine lv_istore (lv' := [(5, .int (0 : Int32)), (0, .int x0_7), (1, .ref o_p2), (2, .int x2_7), (3, .int x3_7), (4, .int x4_7)]) hx hb dX8_takeApart_41 hl (by decide) rfl (fun ls hl => ?_)
        refine h (fun x5_43 x3_43 => ∀ (H : Heap) (locs : List Loc) (ls : Array Slot), lv_has ls 6 [(0, .int x0_7), (1, .ref o_p2), (2, .int x2_7), (3, .int x3_43), (4, .int x4_7), (5, .int x5_43)] → va_P D vwCl (cw_X8_takeApart cI cZ o_p2 a_p2_7) H → va_D A (cw_X8_takeApart cI cZ o_p2 a_p2_7) → va_S A s.heap H locs → W p l e rm_X8_takeApart s m args below meth c H locs 0 0 Q (F0 m 43 ls [])) ?_ H locs ls (lv_sub hl [1, 2, 3, 4, 5, 0] rfl) hP hD hS
        intro x5_43 x3_43 h H locs ls hl hP hD hS
        refine lv_iload hx hb dX8_takeApart_43 (lv_at hl 5 rfl) ?_
        refine lv_ldc (own := RX8) (index := 231) (v := 1000000) hx hb hown (hts (.constant RX8 231 (1000000)) (by decide +kernel)) dX8_takeApart_45 ?_
        refine lv_icmp_ge (tgt := 73) hx hb dX8_takeApart_47 (by decide) (fun c47 => ?_) (fun c47 => ?_)
        · have h := h.1 c47
          refine lv_iinc (v := (x4_7 + 1)) (lv' := [(4, .int (x4_7 + 1)), (0, .int x0_7), (1, .ref o_p2), (2, .int x2_7), (3, .int x3_43), (5, .int x5_43)]) hx hb dX8_takeApart_73 hl (k := 4) rfl rfl (by decide) rfl (fun ls hl => ?_)
          refine lv_goto (tgt := 7) hx hb dX8_takeApart_76 (by decide) ?_
          exact h H locs ls (lv_sub hl [1, 2, 3, 4, 0] rfl) hP hD hS
        · have h := h.2 c47
          refine lv_iload_n hx hb dX8_takeApart_50 rfl (lv_at hl 3 rfl) ?_
          refine lv_iconst (v := 1) hx hb dX8_takeApart_51 (by decide) ?_
          refine lv_icmp_le (tgt := 73) hx hb dX8_takeApart_52 (by decide) (fun c52 => ?_) (fun c52 => ?_)
          · have h := h.1 c52
            refine lv_iinc (v := (x4_7 + 1)) (lv' := [(4, .int (x4_7 + 1)), (0, .int x0_7), (1, .ref o_p2), (2, .int x2_7), (3, .int x3_43), (5, .int x5_43)]) hx hb dX8_takeApart_73 hl (k := 4) rfl rfl (by decide) rfl (fun ls hl => ?_)
            refine lv_goto (tgt := 7) hx hb dX8_takeApart_76 (by decide) ?_
            exact h H locs ls (lv_sub hl [1, 2, 3, 4, 0] rfl) hP hD hS
          · have h := h.2 c52
            refine lv_iload_n hx hb dX8_takeApart_55 rfl (lv_at hl 3 rfl) ?_
            refine lv_iload hx hb dX8_takeApart_56 (lv_at hl 4 rfl) ?_
            have h0 := h.1
            have h := h.2
            refine lv_irem hx hb dX8_takeApart_58 h0 ?_
            refine lv_if_ne (tgt := 73) hx hb dX8_takeApart_59 (by decide) (fun c59 => ?_) (fun c59 => ?_)
            · have h := h.1 c59
              refine lv_iinc (v := (x4_7 + 1)) (lv' := [(4, .int (x4_7 + 1)), (0, .int x0_7), (1, .ref o_p2), (2, .int x2_7), (3, .int x3_43), (5, .int x5_43)]) hx hb dX8_takeApart_73 hl (k := 4) rfl rfl (by decide) rfl (fun ls hl => ?_)
              refine lv_goto (tgt := 7) hx hb dX8_takeApart_76 (by decide) ?_
              exact h H locs ls (lv_sub hl [1, 2, 3, 4, 0] rfl) hP hD hS
            · have h := h.2 c59
              refine lv_iload_n hx hb dX8_takeApart_62 rfl (lv_at hl 3 rfl) ?_
              refine lv_iload hx hb dX8_takeApart_63 (lv_at hl 4 rfl) ?_
              have h0 := h.1
              have h := h.2
              refine lv_idiv hx hb dX8_takeApart_65 h0 ?_
              refine lv_istore_n (lv' := [(3, .int (x3_43 / x4_7)), (0, .int x0_7), (1, .ref o_p2), (2, .int x2_7), (4, .int x4_7), (5, .int x5_43)]) hx hb dX8_takeApart_66 rfl hl (by decide) rfl (fun ls hl => ?_)
              refine lv_iinc (v := (x5_43 + 1)) (lv' := [(5, .int (x5_43 + 1)), (3, .int (x3_43 / x4_7)), (0, .int x0_7), (1, .ref o_p2), (2, .int x2_7), (4, .int x4_7)]) hx hb dX8_takeApart_67 hl (k := 5) rfl rfl (by decide) rfl (fun ls hl => ?_)
              refine lv_goto (tgt := 43) hx hb dX8_takeApart_70 (by decide) ?_
              exact h H locs ls (lv_sub hl [2, 3, 4, 1, 5, 0] rfl) hP hD hS
      · have h := h.2 c29
        refine lv_aload_n hx hb dX8_takeApart_32 rfl (lv_at hl 1 rfl) ?_
        refine lv_iload_n hx hb dX8_takeApart_33 rfl (lv_at hl 2 rfl) ?_
        refine lv_iinc (v := (x2_7 + 1)) (lv' := [(2, .int (x2_7 + 1)), (0, .int x0_7), (1, .ref o_p2), (3, .int x3_7), (4, .int x4_7)]) hx hb dX8_takeApart_34 hl (k := 2) rfl rfl (by decide) rfl (fun ls hl => ?_)
        refine lv_iload hx hb dX8_takeApart_37 (lv_at hl 4 rfl) ?_
        have h0 := h.1
        have h := h.2
        refine va_iast hx hb hK.1 hP hD hS 0 0 rfl rfl h0 dX8_takeApart_39 (fun H locs hP hD hS => ?_)
        have hP : va_P D vwCl (cw_X8_takeApart cI cZ o_p2 (upd a_p2_7 (Int32.toNatClampNeg x2_7) x4_7)) H := hP
        have hD : va_D A (cw_X8_takeApart cI cZ o_p2 (upd a_p2_7 (Int32.toNatClampNeg x2_7) x4_7)) := hD
        refine lv_iconst (v := 0) hx hb dX8_takeApart_40 (by decide) ?_
        refine lv_istore (lv' := [(5, .int (0 : Int32)), (2, .int (x2_7 + 1)), (0, .int x0_7), (1, .ref o_p2), (3, .int x3_7), (4, .int x4_7)]) hx hb dX8_takeApart_41 hl (by decide) rfl (fun ls hl => ?_)
        refine h (fun x5_43 x3_43 => ∀ (H : Heap) (locs : List Loc) (ls : Array Slot), lv_has ls 6 [(0, .int x0_7), (1, .ref o_p2), (2, .int (x2_7 + 1)), (3, .int x3_43), (4, .int x4_7), (5, .int x5_43)] → va_P D vwCl (cw_X8_takeApart cI cZ o_p2 (upd a_p2_7 (Int32.toNatClampNeg x2_7) x4_7)) H → va_D A (cw_X8_takeApart cI cZ o_p2 (upd a_p2_7 (Int32.toNatClampNeg x2_7) x4_7)) → va_S A s.heap H locs → W p l e rm_X8_takeApart s m args below meth c H locs 0 0 Q (F0 m 43 ls [])) ?_ H locs ls (lv_sub hl [2, 3, 1, 4, 5, 0] rfl) hP hD hS
        intro x5_43 x3_43 h H locs ls hl hP hD hS
        refine lv_iload hx hb dX8_takeApart_43 (lv_at hl 5 rfl) ?_
        refine lv_ldc (own := RX8) (index := 231) (v := 1000000) hx hb hown (hts (.constant RX8 231 (1000000)) (by decide +kernel)) dX8_takeApart_45 ?_
        refine lv_icmp_ge (tgt := 73) hx hb dX8_takeApart_47 (by decide) (fun c47 => ?_) (fun c47 => ?_)
        · have h := h.1 c47
          refine lv_iinc (v := (x4_7 + 1)) (lv' := [(4, .int (x4_7 + 1)), (0, .int x0_7), (1, .ref o_p2), (2, .int (x2_7 + 1)), (3, .int x3_43), (5, .int x5_43)]) hx hb dX8_takeApart_73 hl (k := 4) rfl rfl (by decide) rfl (fun ls hl => ?_)
          refine lv_goto (tgt := 7) hx hb dX8_takeApart_76 (by decide) ?_
          exact h H locs ls (lv_sub hl [1, 2, 3, 4, 0] rfl) hP hD hS
        · have h := h.2 c47
          refine lv_iload_n hx hb dX8_takeApart_50 rfl (lv_at hl 3 rfl) ?_
          refine lv_iconst (v := 1) hx hb dX8_takeApart_51 (by decide) ?_
          refine lv_icmp_le (tgt := 73) hx hb dX8_takeApart_52 (by decide) (fun c52 => ?_) (fun c52 => ?_)
          · have h := h.1 c52
            refine lv_iinc (v := (x4_7 + 1)) (lv' := [(4, .int (x4_7 + 1)), (0, .int x0_7), (1, .ref o_p2), (2, .int (x2_7 + 1)), (3, .int x3_43), (5, .int x5_43)]) hx hb dX8_takeApart_73 hl (k := 4) rfl rfl (by decide) rfl (fun ls hl => ?_)
            refine lv_goto (tgt := 7) hx hb dX8_takeApart_76 (by decide) ?_
            exact h H locs ls (lv_sub hl [1, 2, 3, 4, 0] rfl) hP hD hS
          · have h := h.2 c52
            refine lv_iload_n hx hb dX8_takeApart_55 rfl (lv_at hl 3 rfl) ?_
            refine lv_iload hx hb dX8_takeApart_56 (lv_at hl 4 rfl) ?_
            have h0 := h.1
            have h := h.2
            refine lv_irem hx hb dX8_takeApart_58 h0 ?_
            refine lv_if_ne (tgt := 73) hx hb dX8_takeApart_59 (by decide) (fun c59 => ?_) (fun c59 => ?_)
            · have h := h.1 c59
              refine lv_iinc (v := (x4_7 + 1)) (lv' := [(4, .int (x4_7 + 1)), (0, .int x0_7), (1, .ref o_p2), (2, .int (x2_7 + 1)), (3, .int x3_43), (5, .int x5_43)]) hx hb dX8_takeApart_73 hl (k := 4) rfl rfl (by decide) rfl (fun ls hl => ?_)
              refine lv_goto (tgt := 7) hx hb dX8_takeApart_76 (by decide) ?_
              exact h H locs ls (lv_sub hl [1, 2, 3, 4, 0] rfl) hP hD hS
            · have h := h.2 c59
              refine lv_iload_n hx hb dX8_takeApart_62 rfl (lv_at hl 3 rfl) ?_
              refine lv_iload hx hb dX8_takeApart_63 (lv_at hl 4 rfl) ?_
              have h0 := h.1
              have h := h.2
              refine lv_idiv hx hb dX8_takeApart_65 h0 ?_
              refine lv_istore_n (lv' := [(3, .int (x3_43 / x4_7)), (0, .int x0_7), (1, .ref o_p2), (2, .int (x2_7 + 1)), (4, .int x4_7), (5, .int x5_43)]) hx hb dX8_takeApart_66 rfl hl (by decide) rfl (fun ls hl => ?_)
              refine lv_iinc (v := (x5_43 + 1)) (lv' := [(5, .int (x5_43 + 1)), (3, .int (x3_43 / x4_7)), (0, .int x0_7), (1, .ref o_p2), (2, .int (x2_7 + 1)), (4, .int x4_7)]) hx hb dX8_takeApart_67 hl (k := 5) rfl rfl (by decide) rfl (fun ls hl => ?_)
              refine lv_goto (tgt := 43) hx hb dX8_takeApart_70 (by decide) ?_
              exact h H locs ls (lv_sub hl [2, 3, 4, 1, 5, 0] rfl) hP hD hS
    · have h := h.2 c20
      refine lv_goto (tgt := 73) hx hb dX8_takeApart_23 (by decide) ?_
      refine lv_iinc (v := (x4_7 + 1)) (lv' := [(4, .int (x4_7 + 1)), (0, .int x0_7), (1, .ref o_p2), (2, .int x2_7), (3, .int x3_7)]) hx hb dX8_takeApart_73 hl (k := 4) rfl rfl (by decide) rfl (fun ls hl => ?_)
      refine lv_goto (tgt := 7) hx hb dX8_takeApart_76 (by decide) ?_
      exact h H locs ls (lv_sub hl [1, 2, 3, 4, 0] rfl) hP hD hS
abbrev rm_X5_findPrimes : Room := { frames := 1, cells := 0, slots := 0, locals := 25 }
abbrev cw_X5_findPrimes (cI cZ : ClassId) (o o_primes o_some o_p1 o_p1_purses o_p1_firsts o_p1_seconds o_p1_firstsHad o_p1_secondsHad o_p1_seenSums o_p1_seenShared : Nat) (v_found : Int32) (v_unit : Int32) (v_howMany : Int32) (v_least : Int32) (v_greatest : Int32) (a_primes : Nat → Int32) (a_some : Nat → Int32) (v_p1_filled : Int32) (v_p1_people : Int32) (v_p1_lawNumber : Int32) (v_p1_made : Int32) (v_p1_seen : Int32) (a_p1_seenSums : Nat → Int32) (a_p1_seenShared : Nat → Int32) : va_W := [(o, .inr (5, [.ref o_primes, .ref o_some, .int v_found, .int v_unit, .int v_howMany, .int v_least, .int v_greatest])), (o_primes, .inl (cI, 48, .inl a_primes)), (o_some, .inl (cI, 6, .inl a_some)), (o_p1, .inr (1, [.int v_p1_filled, .int v_p1_people, .int v_p1_lawNumber, .ref o_p1_purses, .int v_p1_made, .ref o_p1_firsts, .ref o_p1_seconds, .ref o_p1_firstsHad, .ref o_p1_secondsHad, .int v_p1_seen, .ref o_p1_seenSums, .ref o_p1_seenShared])), (o_p1_seenSums, .inl (cI, 8, .inl a_p1_seenSums)), (o_p1_seenShared, .inl (cI, 8, .inl a_p1_seenShared))]
theorem inw_X5_findPrimes_X1 : ∀ w ∈ u_ws RX1 TX1 12, w ∈ wsX5_findPrimes := by decide +kernel
theorem inw_X5_findPrimes_X5 : ∀ w ∈ u_ws RX5 TX5 7, w ∈ wsX5_findPrimes := by decide +kernel
def wp_X5_findPrimes (v_found : Int32) (v_unit : Int32) (a_primes : Nat → Int32) (a_some : Nat → Int32) (v_p1_seen : Int32) (a_p1_seenSums : Nat → Int32) (a_p1_seenShared : Nat → Int32) (Post : Int32 → (Int32) → (Nat → Int32) → (Nat → Int32) → Prop) : Prop := (∀ k7 : (Int32) → (Int32) → (Nat → Int32) → (Nat → Int32) → Prop, (∀ (x2_7 : Int32) (v_found_7 : Int32) (a_primes_7 : Nat → Int32) (a_some_7 : Nat → Int32), ((v_p1_seen ≤ x2_7 → (Post (1 : Int32) v_found_7 a_primes_7 a_some_7)) ∧ (¬ v_p1_seen ≤ x2_7 → (vp_in x2_7 8 ∧ (((1 : Int32) ≤ (a_p1_seenShared (Int32.toNatClampNeg x2_7)) → (vp_in x2_7 8 ∧ (¬ (a_p1_seenShared (Int32.toNatClampNeg x2_7)) = 0 ∧ (wp_X8_takeApart ((a_p1_seenSums (Int32.toNatClampNeg x2_7)) / (a_p1_seenShared (Int32.toNatClampNeg x2_7))) a_some_7 (fun (r41 : Int32) (a_some_41 : Nat → Int32) => (∀ k49 : (Int32) → (Int32) → (Nat → Int32) → Prop, (∀ (x5_49 : Int32) (v_found_49 : Int32) (a_primes_49 : Nat → Int32), ((r41 ≤ x5_49 → (k7 (x2_7 + 1) v_found_49 a_primes_49 a_some_41)) ∧ (¬ r41 ≤ x5_49 → (vp_in x5_49 6 ∧ (((a_some_41 (Int32.toNatClampNeg x5_49)) < (2 : Int32) → (Post (0 : Int32) v_found_49 a_primes_49 a_some_41)) ∧ (¬ (a_some_41 (Int32.toNatClampNeg x5_49)) < (2 : Int32) → (¬ (a_p1_seenShared (Int32.toNatClampNeg x2_7)) = 0 ∧ (vp_in x5_49 6 ∧ (¬ (a_some_41 (Int32.toNatClampNeg x5_49)) = 0 ∧ ((¬ ((v_unit / (a_p1_seenShared (Int32.toNatClampNeg x2_7))) - (v_unit / (a_p1_seenShared (Int32.toNatClampNeg x2_7))) / (a_some_41 (Int32.toNatClampNeg x5_49)) * (a_some_41 (Int32.toNatClampNeg x5_49))) = 0 → (vp_in x5_49 6 ∧ (wp_X5_addPrime (a_some_41 (Int32.toNatClampNeg x5_49)) v_found_49 a_primes_49 (fun (v_found_94 : Int32) (a_primes_94 : Nat → Int32) => (k49 (x5_49 + 1) v_found_94 a_primes_94))))) ∧ (((v_unit / (a_p1_seenShared (Int32.toNatClampNeg x2_7))) - (v_unit / (a_p1_seenShared (Int32.toNatClampNeg x2_7))) / (a_some_41 (Int32.toNatClampNeg x5_49)) * (a_some_41 (Int32.toNatClampNeg x5_49))) = 0 → (Post (0 : Int32) v_found_49 a_primes_49 a_some_41))))))))))) → k49 x5_49 v_found_49 a_primes_49) → k49 (0 : Int32) v_found_7 a_primes_7)))))) ∧ (¬ (1 : Int32) ≤ (a_p1_seenShared (Int32.toNatClampNeg x2_7)) → (Post (0 : Int32) v_found_7 a_primes_7 a_some_7)))))) → k7 x2_7 v_found_7 a_primes_7 a_some_7) → k7 (0 : Int32) (0 : Int32) a_primes a_some)
set_option maxHeartbeats 4000000 in
set_option maxRecDepth 100000 in
theorem c_X5_findPrimes (l : Launch) (D : va_G) (cI cZ : ClassId) (o o_primes o_some o_p1 o_p1_purses o_p1_firsts o_p1_seconds o_p1_firstsHad o_p1_secondsHad o_p1_seenSums o_p1_seenShared : Nat) (sz : Nat) (v_found : Int32) (v_unit : Int32) (v_howMany : Int32) (v_least : Int32) (v_greatest : Int32) (a_primes : Nat → Int32) (a_some : Nat → Int32) (v_p1_filled : Int32) (v_p1_people : Int32) (v_p1_lawNumber : Int32) (v_p1_made : Int32) (v_p1_seen : Int32) (a_p1_seenSums : Nat → Int32) (a_p1_seenShared : Nat → Int32) (Post : Int32 → (Int32) → (Nat → Int32) → (Nat → Int32) → Prop) (h : wp_X5_findPrimes v_found v_unit a_primes a_some v_p1_seen a_p1_seenSums a_p1_seenShared Post) : Met l yX5_findPrimes wsX5_findPrimes rm_X5_findPrimes (cPc D cI cZ [.ref o, .ref o_p1] (cw_X5_findPrimes cI cZ o o_primes o_some o_p1 o_p1_purses o_p1_firsts o_p1_seconds o_p1_firstsHad o_p1_secondsHad o_p1_seenSums o_p1_seenShared v_found v_unit v_howMany v_least v_greatest a_primes a_some v_p1_filled v_p1_people v_p1_lawNumber v_p1_made v_p1_seen a_p1_seenSums a_p1_seenShared) sz) (cQi3 D Post (fun m_v_found m_a_primes m_a_some => (cw_X5_findPrimes cI cZ o o_primes o_some o_p1 o_p1_purses o_p1_firsts o_p1_seconds o_p1_firstsHad o_p1_secondsHad o_p1_seenSums o_p1_seenShared m_v_found v_unit v_howMany v_least v_greatest m_a_primes m_a_some v_p1_filled v_p1_people v_p1_lawNumber v_p1_made v_p1_seen a_p1_seenSums a_p1_seenShared)) (va_A (cw_X5_findPrimes cI cZ o o_primes o_some o_p1 o_p1_purses o_p1_firsts o_p1_seconds o_p1_firstsHad o_p1_secondsHad o_p1_seenSums o_p1_seenShared v_found v_unit v_howMany v_least v_greatest a_primes a_some v_p1_filled v_p1_people v_p1_lawNumber v_p1_made v_p1_seen a_p1_seenSums a_p1_seenShared) sz)) 0 0 (va_A (cw_X5_findPrimes cI cZ o o_primes o_some o_p1 o_p1_purses o_p1_firsts o_p1_seconds o_p1_firstsHad o_p1_secondsHad o_p1_seenSums o_p1_seenShared v_found v_unit v_howMany v_least v_greatest a_primes a_some v_p1_filled v_p1_people v_p1_lawNumber v_p1_made v_p1_seen a_p1_seenSums a_p1_seenShared) sz) := by
  refine ent (cc := cX5_findPrimes) (maxL := 6) (ret := (some .boolean)) (Qc := fun A => cQi3 D Post (fun m_v_found m_a_primes m_a_some => (cw_X5_findPrimes cI cZ o o_primes o_some o_p1 o_p1_purses o_p1_firsts o_p1_seconds o_p1_firstsHad o_p1_secondsHad o_p1_seenSums o_p1_seenShared m_v_found v_unit v_howMany v_least v_greatest m_a_primes m_a_some v_p1_filled v_p1_people v_p1_lawNumber v_p1_made v_p1_seen a_p1_seenSums a_p1_seenShared)) A) (by decide) rfl (Nat.le_of_ble_eq_true rfl) ?_
  intro p e s m args below meth c A ls Q hQ hsz hx hb hml hr hts hown hlocks hnm hK hP hD hA hS hl
  have hl : lv_has ls 6 [(0, .ref o), (1, .ref o_p1)] := hl
  unfold wp_X5_findPrimes at h
  refine lv_aload_n hx hb dX5_findPrimes_0 rfl (lv_at hl 0 rfl) ?_
  refine lv_iconst (v := 0) hx hb dX5_findPrimes_1 (by decide) ?_
  refine va_put (D := D) (ci := 5) (v := .int (0 : Int32)) (ty := .int) (C := RX5) (T := TX5) (N := 7) hx hb hts inw_X5_findPrimes_X5 tyX5 tyX5_ok nmX5 hown hK.1 hP hD hS 0 rfl rfl 2 (by decide) (hts (.fieldLink RX5 65 "PursesShare$SeenSearch" "found" "I") (by decide +kernel)) (fun _ h9 => h9) rfl (by decide +kernel) rfl rfl (Nat.le_of_ble_eq_true rfl) dX5_findPrimes_2 (fun H locs hP hD hS => ?_)
  have hP : va_P D vwCl (cw_X5_findPrimes cI cZ o o_primes o_some o_p1 o_p1_purses o_p1_firsts o_p1_seconds o_p1_firstsHad o_p1_secondsHad o_p1_seenSums o_p1_seenShared (0 : Int32) v_unit v_howMany v_least v_greatest a_primes a_some v_p1_filled v_p1_people v_p1_lawNumber v_p1_made v_p1_seen a_p1_seenSums a_p1_seenShared) H := hP
  have hD : va_D A (cw_X5_findPrimes cI cZ o o_primes o_some o_p1 o_p1_purses o_p1_firsts o_p1_seconds o_p1_firstsHad o_p1_secondsHad o_p1_seenSums o_p1_seenShared (0 : Int32) v_unit v_howMany v_least v_greatest a_primes a_some v_p1_filled v_p1_people v_p1_lawNumber v_p1_made v_p1_seen a_p1_seenSums a_p1_seenShared) := hD
  refine lv_iconst (v := 0) hx hb dX5_findPrimes_5 (by decide) ?_
  refine lv_istore_n (lv' := [(2, .int (0 : Int32)), (0, .ref o), (1, .ref o_p1)]) hx hb dX5_findPrimes_6 rfl hl (by decide) rfl (fun ls hl => ?_)
  refine h (fun x2_7 v_found_7 a_primes_7 a_some_7 => ∀ (H : Heap) (locs : List Loc) (ls : Array Slot), lv_has ls 6 [(0, .ref o), (1, .ref o_p1), (2, .int x2_7)] → va_P D vwCl (cw_X5_findPrimes cI cZ o o_primes o_some o_p1 o_p1_purses o_p1_firsts o_p1_seconds o_p1_firstsHad o_p1_secondsHad o_p1_seenSums o_p1_seenShared v_found_7 v_unit v_howMany v_least v_greatest a_primes_7 a_some_7 v_p1_filled v_p1_people v_p1_lawNumber v_p1_made v_p1_seen a_p1_seenSums a_p1_seenShared) H → va_D A (cw_X5_findPrimes cI cZ o o_primes o_some o_p1 o_p1_purses o_p1_firsts o_p1_seconds o_p1_firstsHad o_p1_secondsHad o_p1_seenSums o_p1_seenShared v_found_7 v_unit v_howMany v_least v_greatest a_primes_7 a_some_7 v_p1_filled v_p1_people v_p1_lawNumber v_p1_made v_p1_seen a_p1_seenSums a_p1_seenShared) → va_S A s.heap H locs → W p l e rm_X5_findPrimes s m args below meth c H locs 0 0 Q (F0 m 7 ls [])) ?_ H locs ls (lv_sub hl [1, 2, 0] rfl) hP hD hS
  intro x2_7 v_found_7 a_primes_7 a_some_7 h H locs ls hl hP hD hS
  refine lv_iload_n hx hb dX5_findPrimes_7 rfl (lv_at hl 2 rfl) ?_
  refine lv_aload_n hx hb dX5_findPrimes_8 rfl (lv_at hl 1 rfl) ?_
  refine va_getN (D := D) (ci := 1) (v := .int v_p1_seen) (C := RX1) (T := TX1) (N := 12) hx hb hts inw_X5_findPrimes_X1 hown hK.1 hP 3 rfl rfl 9 (by decide) (nF_25 hK) (fun _ h9 => h9) rfl dX5_findPrimes_9 ?_
  refine lv_icmp_ge (tgt := 109) hx hb dX5_findPrimes_12 (by decide) (fun c12 => ?_) (fun c12 => ?_)
  · have h := h.1 c12
    refine lv_iconst (v := 1) hx hb dX5_findPrimes_109 (by decide) ?_
    exact ret_z3 hx hb hr hlocks hQ hS (by decide) v_found_7 a_primes_7 a_some_7 hP h dX5_findPrimes_110
  · have h := h.2 c12
    refine lv_aload_n hx hb dX5_findPrimes_15 rfl (lv_at hl 1 rfl) ?_
    refine va_getN (D := D) (ci := 1) (v := .ref o_p1_seenShared) (C := RX1) (T := TX1) (N := 12) hx hb hts inw_X5_findPrimes_X1 hown hK.1 hP 3 rfl rfl 11 (by decide) (nF_28 hK) (fun _ h9 => h9) rfl dX5_findPrimes_16 ?_
    refine lv_iload_n hx hb dX5_findPrimes_19 rfl (lv_at hl 2 rfl) ?_
    have h0 := h.1
    have h := h.2
    refine va_iald hx hb hK.1 hP 5 0 rfl rfl h0 dX5_findPrimes_20 ?_
    refine lv_istore_n (lv' := [(3, .int (a_p1_seenShared (Int32.toNatClampNeg x2_7))), (0, .ref o), (1, .ref o_p1), (2, .int x2_7)]) hx hb dX5_findPrimes_21 rfl hl (by decide) rfl (fun ls hl => ?_)
    refine lv_iload_n hx hb dX5_findPrimes_22 rfl (lv_at hl 0 rfl) ?_
    refine lv_iconst (v := 1) hx hb dX5_findPrimes_23 (by decide) ?_
    refine lv_icmp_ge (tgt := 29) hx hb dX5_findPrimes_24 (by decide) (fun c24 => ?_) (fun c24 => ?_)
    · have h := h.1 c24
      refine lv_aload_n hx hb dX5_findPrimes_29 rfl (lv_at hl 2 rfl) ?_
      refine va_getN (D := D) (ci := 1) (v := .ref o_p1_seenSums) (C := RX1) (T := TX1) (N := 12) hx hb hts inw_X5_findPrimes_X1 hown hK.1 hP 3 rfl rfl 10 (by decide) (nF_27 hK) (fun _ h9 => h9) rfl dX5_findPrimes_30 ?_
      refine lv_iload_n hx hb dX5_findPrimes_33 rfl (lv_at hl 3 rfl) ?_
      have h0 := h.1
      have h := h.2
      refine va_iald hx hb hK.1 hP 4 0 rfl rfl h0 dX5_findPrimes_34 ?_
      refine lv_iload_n hx hb dX5_findPrimes_35 rfl (lv_at hl 0 rfl) ?_
      have h0 := h.1
      have h := h.2
      refine lv_idiv hx hb dX5_findPrimes_36 h0 ?_
      refine lv_aload_n hx hb dX5_findPrimes_37 rfl (lv_at hl 1 rfl) ?_
      refine va_get (D := D) (ci := 5) (v := .ref o_some) (C := RX5) (T := TX5) (N := 7) hx hb hts inw_X5_findPrimes_X5 hown hK.1 hP 0 rfl rfl 1 (by decide) (hts (.fieldLink RX5 15 "PursesShare$SeenSearch" "some" "[I") (by decide +kernel)) (fun _ h9 => h9) rfl dX5_findPrimes_38 ?_
      refine call_i1 (va_runSN (As := [.int ((a_p1_seenSums (Int32.toNatClampNeg x2_7)) / (a_p1_seenShared (Int32.toNatClampNeg x2_7))), .ref o_some]) (rest := []) ⟨hx, hb, hml, hown, hts⟩ (c_X8_takeApart l D cI cZ o_some (Array.size H) ((a_p1_seenSums (Int32.toNatClampNeg x2_7)) / (a_p1_seenShared (Int32.toNatClampNeg x2_7))) a_some_7 _ h) ⟨va_cnB (own := RX5) 2 hts gX5_findPrimes_X8_takeApart_n68 rfl rfl rfl (nM_31 hK) (hts (.initialized RX8) (by decide +kernel)) (by decide +kernel) ⟨Nat.le_of_ble_eq_true rfl, Nat.le_of_ble_eq_true rfl⟩, hts (.static yX8_takeApart) (by decide +kernel), trivial⟩ (preS_of hP hD hK [2] rfl rfl) rfl rfl hl.1 rfl (lv_room (Nat.le_of_ble_eq_true rfl)) dX5_findPrimes_41 ⟨Nat.zero_le _, Nat.zero_le _⟩) hP hD hS hA [2] rfl (fun a_some_41 => (cw_X5_findPrimes cI cZ o o_primes o_some o_p1 o_p1_purses o_p1_firsts o_p1_seconds o_p1_firstsHad o_p1_secondsHad o_p1_seenSums o_p1_seenShared v_found_7 v_unit v_howMany v_least v_greatest a_primes_7 a_some_41 v_p1_filled v_p1_people v_p1_lawNumber v_p1_made v_p1_seen a_p1_seenSums a_p1_seenShared)) (fun _ => rfl) (fun _ => rfl) (fun r41 a_some_41 H locs h hP hD hS => ?_)
      refine lv_istore (lv' := [(4, .int r41), (3, .int (a_p1_seenShared (Int32.toNatClampNeg x2_7))), (0, .ref o), (1, .ref o_p1), (2, .int x2_7)]) hx hb dX5_findPrimes_44 hl (by decide) rfl (fun ls hl => ?_)
      refine lv_iconst (v := 0) hx hb dX5_findPrimes_46 (by decide) ?_
      refine lv_istore (lv' := [(5, .int (0 : Int32)), (4, .int r41), (3, .int (a_p1_seenShared (Int32.toNatClampNeg x2_7))), (0, .ref o), (1, .ref o_p1), (2, .int x2_7)]) hx hb dX5_findPrimes_47 hl (by decide) rfl (fun ls hl => ?_)
      refine h (fun x5_49 v_found_49 a_primes_49 => ∀ (H : Heap) (locs : List Loc) (ls : Array Slot), lv_has ls 6 [(0, .ref o), (1, .ref o_p1), (2, .int x2_7), (3, .int (a_p1_seenShared (Int32.toNatClampNeg x2_7))), (4, .int r41), (5, .int x5_49)] → va_P D vwCl (cw_X5_findPrimes cI cZ o o_primes o_some o_p1 o_p1_purses o_p1_firsts o_p1_seconds o_p1_firstsHad o_p1_secondsHad o_p1_seenSums o_p1_seenShared v_found_49 v_unit v_howMany v_least v_greatest a_primes_49 a_some_41 v_p1_filled v_p1_people v_p1_lawNumber v_p1_made v_p1_seen a_p1_seenSums a_p1_seenShared) H → va_D A (cw_X5_findPrimes cI cZ o o_primes o_some o_p1 o_p1_purses o_p1_firsts o_p1_seconds o_p1_firstsHad o_p1_secondsHad o_p1_seenSums o_p1_seenShared v_found_49 v_unit v_howMany v_least v_greatest a_primes_49 a_some_41 v_p1_filled v_p1_people v_p1_lawNumber v_p1_made v_p1_seen a_p1_seenSums a_p1_seenShared) → va_S A s.heap H locs → W p l e rm_X5_findPrimes s m args below meth c H locs 0 0 Q (F0 m 49 ls [])) ?_ H locs ls (lv_sub hl [3, 4, 5, 2, 1, 0] rfl) hP hD hS
      intro x5_49 v_found_49 a_primes_49 h H locs ls hl hP hD hS
      refine lv_iload hx hb dX5_findPrimes_49 (lv_at hl 5 rfl) ?_
      refine lv_iload hx hb dX5_findPrimes_51 (lv_at hl 4 rfl) ?_
      refine lv_icmp_ge (tgt := 103) hx hb dX5_findPrimes_53 (by decide) (fun c53 => ?_) (fun c53 => ?_)
      · have h := h.1 c53
        refine lv_iinc (v := (x2_7 + 1)) (lv' := [(2, .int (x2_7 + 1)), (0, .ref o), (1, .ref o_p1), (3, .int (a_p1_seenShared (Int32.toNatClampNeg x2_7))), (4, .int r41), (5, .int x5_49)]) hx hb dX5_findPrimes_103 hl (k := 2) rfl rfl (by decide) rfl (fun ls hl => ?_)
        refine lv_goto (tgt := 7) hx hb dX5_findPrimes_106 (by decide) ?_
        exact h H locs ls (lv_sub hl [1, 2, 0] rfl) hP hD hS
      · have h := h.2 c53
        refine lv_aload_n hx hb dX5_findPrimes_56 rfl (lv_at hl 0 rfl) ?_
        refine va_get (D := D) (ci := 5) (v := .ref o_some) (C := RX5) (T := TX5) (N := 7) hx hb hts inw_X5_findPrimes_X5 hown hK.1 hP 0 rfl rfl 1 (by decide) (hts (.fieldLink RX5 15 "PursesShare$SeenSearch" "some" "[I") (by decide +kernel)) (fun _ h9 => h9) rfl dX5_findPrimes_57 ?_
        refine lv_iload hx hb dX5_findPrimes_60 (lv_at hl 5 rfl) ?_
        have h0 := h.1
        have h := h.2
        refine va_iald hx hb hK.1 hP 2 0 rfl rfl h0 dX5_findPrimes_62 ?_
        refine lv_iconst (v := 2) hx hb dX5_findPrimes_63 (by decide) ?_
        refine lv_icmp_lt (tgt := 84) hx hb dX5_findPrimes_64 (by decide) (fun c64 => ?_) (fun c64 => ?_)
        · have h := h.1 c64
          refine lv_iconst (v := 0) hx hb dX5_findPrimes_84 (by decide) ?_
          exact ret_z3 hx hb hr hlocks hQ hS (by decide) v_found_49 a_primes_49 a_some_41 hP h dX5_findPrimes_85
        · have h := h.2 c64
          refine lv_aload_n hx hb dX5_findPrimes_67 rfl (lv_at hl 0 rfl) ?_
          refine va_get (D := D) (ci := 5) (v := .int v_unit) (C := RX5) (T := TX5) (N := 7) hx hb hts inw_X5_findPrimes_X5 hown hK.1 hP 0 rfl rfl 3 (by decide) (hts (.fieldLink RX5 49 "PursesShare$SeenSearch" "unit" "I") (by decide +kernel)) (fun _ h9 => h9) rfl dX5_findPrimes_68 ?_
          refine lv_iload_n hx hb dX5_findPrimes_71 rfl (lv_at hl 3 rfl) ?_
          have h0 := h.1
          have h := h.2
          refine lv_idiv hx hb dX5_findPrimes_72 h0 ?_
          refine lv_aload_n hx hb dX5_findPrimes_73 rfl (lv_at hl 0 rfl) ?_
          refine va_get (D := D) (ci := 5) (v := .ref o_some) (C := RX5) (T := TX5) (N := 7) hx hb hts inw_X5_findPrimes_X5 hown hK.1 hP 0 rfl rfl 1 (by decide) (hts (.fieldLink RX5 15 "PursesShare$SeenSearch" "some" "[I") (by decide +kernel)) (fun _ h9 => h9) rfl dX5_findPrimes_74 ?_
          refine lv_iload hx hb dX5_findPrimes_77 (lv_at hl 5 rfl) ?_
          have h0 := h.1
          have h := h.2
          refine va_iald hx hb hK.1 hP 2 0 rfl rfl h0 dX5_findPrimes_79 ?_
          have h0 := h.1
          have h := h.2
          refine lv_irem hx hb dX5_findPrimes_80 h0 ?_
          refine lv_if_ne (tgt := 86) hx hb dX5_findPrimes_81 (by decide) (fun c81 => ?_) (fun c81 => ?_)
          · have h := h.1 c81
            refine lv_aload_n hx hb dX5_findPrimes_86 rfl (lv_at hl 0 rfl) ?_
            refine lv_aload_n hx hb dX5_findPrimes_87 rfl (lv_at hl 0 rfl) ?_
            refine va_get (D := D) (ci := 5) (v := .ref o_some) (C := RX5) (T := TX5) (N := 7) hx hb hts inw_X5_findPrimes_X5 hown hK.1 hP 0 rfl rfl 1 (by decide) (hts (.fieldLink RX5 15 "PursesShare$SeenSearch" "some" "[I") (by decide +kernel)) (fun _ h9 => h9) rfl dX5_findPrimes_88 ?_
            refine lv_iload hx hb dX5_findPrimes_91 (lv_at hl 5 rfl) ?_
            have h0 := h.1
            have h := h.2
            refine va_iald hx hb hK.1 hP 2 0 rfl rfl h0 dX5_findPrimes_93 ?_
            refine call_v2 (va_runV (As := [.int (a_some_41 (Int32.toNatClampNeg x5_49))]) (rest := []) ⟨hx, hb, hml, hown, hts⟩ (c_X5_addPrime l D cI cZ o o_primes o_some (Array.size H) (a_some_41 (Int32.toNatClampNeg x5_49)) v_found_49 v_unit v_howMany v_least v_greatest a_primes_49 _ h) (cwV 1 hts gX5_findPrimes_X5_addPrime rfl rfl rfl (by decide +kernel) ⟨Nat.le_of_ble_eq_true rfl, Nat.le_of_ble_eq_true rfl⟩) (preV_of hP hD hK [0, 1] rfl rfl 0 5 rfl rfl rfl) rfl rfl hl.1 rfl (lv_room (Nat.le_of_ble_eq_true rfl)) dX5_findPrimes_94 ⟨Nat.zero_le _, Nat.zero_le _⟩) hP hD hS hA [0, 1] rfl (fun v_found_94 a_primes_94 => (cw_X5_findPrimes cI cZ o o_primes o_some o_p1 o_p1_purses o_p1_firsts o_p1_seconds o_p1_firstsHad o_p1_secondsHad o_p1_seenSums o_p1_seenShared v_found_94 v_unit v_howMany v_least v_greatest a_primes_94 a_some_41 v_p1_filled v_p1_people v_p1_lawNumber v_p1_made v_p1_seen a_p1_seenSums a_p1_seenShared)) (fun _ _ => rfl) (fun _ _ => rfl) (fun v_found_94 a_primes_94 H locs h hP hD hS => ?_)
            refine lv_iinc (v := (x5_49 + 1)) (lv' := [(5, .int (x5_49 + 1)), (0, .ref o), (1, .ref o_p1), (2, .int x2_7), (3, .int (a_p1_seenShared (Int32.toNatClampNeg x2_7))), (4, .int r41)]) hx hb dX5_findPrimes_97 hl (k := 5) rfl rfl (by decide) rfl (fun ls hl => ?_)
            refine lv_goto (tgt := 49) hx hb dX5_findPrimes_100 (by decide) ?_
            exact h H locs ls (lv_sub hl [1, 2, 3, 4, 5, 0] rfl) hP hD hS
          · have h := h.2 c81
            refine lv_iconst (v := 0) hx hb dX5_findPrimes_84 (by decide) ?_
            exact ret_z3 hx hb hr hlocks hQ hS (by decide) v_found_49 a_primes_49 a_some_41 hP h dX5_findPrimes_85
    · have h := h.2 c24
      refine lv_iconst (v := 0) hx hb dX5_findPrimes_27 (by decide) ?_
      exact ret_z3 hx hb hr hlocks hQ hS (by decide) v_found_7 a_primes_7 a_some_7 hP h dX5_findPrimes_28
abbrev rm_X5_findUnit : Room := { frames := 1, cells := 0, slots := 0, locals := 25 }
abbrev cw_X5_findUnit (cI cZ : ClassId) (o o_primes o_some o_p1 o_p1_purses o_p1_firsts o_p1_seconds o_p1_firstsHad o_p1_secondsHad o_p1_seenSums o_p1_seenShared : Nat) (v_found : Int32) (v_unit : Int32) (v_howMany : Int32) (v_least : Int32) (v_greatest : Int32) (v_p1_filled : Int32) (v_p1_people : Int32) (v_p1_lawNumber : Int32) (v_p1_made : Int32) (v_p1_seen : Int32) (a_p1_seenSums : Nat → Int32) (a_p1_seenShared : Nat → Int32) : va_W := [(o, .inr (5, [.ref o_primes, .ref o_some, .int v_found, .int v_unit, .int v_howMany, .int v_least, .int v_greatest])), (o_p1, .inr (1, [.int v_p1_filled, .int v_p1_people, .int v_p1_lawNumber, .ref o_p1_purses, .int v_p1_made, .ref o_p1_firsts, .ref o_p1_seconds, .ref o_p1_firstsHad, .ref o_p1_secondsHad, .int v_p1_seen, .ref o_p1_seenSums, .ref o_p1_seenShared])), (o_p1_seenSums, .inl (cI, 8, .inl a_p1_seenSums)), (o_p1_seenShared, .inl (cI, 8, .inl a_p1_seenShared))]
theorem inw_X5_findUnit_X1 : ∀ w ∈ u_ws RX1 TX1 12, w ∈ wsX5_findUnit := by decide +kernel
theorem inw_X5_findUnit_X5 : ∀ w ∈ u_ws RX5 TX5 7, w ∈ wsX5_findUnit := by decide +kernel
def wp_X5_findUnit (n2 : Int32) (v_unit : Int32) (v_p1_seen : Int32) (a_p1_seenSums : Nat → Int32) (a_p1_seenShared : Nat → Int32) (Post : Int32 → (Int32) → Prop) : Prop := (∀ k7 : (Int32) → (Int32) → Prop, (∀ (x3_7 : Int32) (v_unit_7 : Int32), ((v_p1_seen ≤ x3_7 → ((v_unit_7 ≤ 0 → (Post (0 : Int32) v_unit_7)) ∧ (¬ v_unit_7 ≤ 0 → (Post (1 : Int32) v_unit_7)))) ∧ (¬ v_p1_seen ≤ x3_7 → (vp_in x3_7 8 ∧ (((a_p1_seenShared (Int32.toNatClampNeg x3_7)) < (1 : Int32) → (Post (0 : Int32) v_unit_7)) ∧ (¬ (a_p1_seenShared (Int32.toNatClampNeg x3_7)) < (1 : Int32) → (vp_in x3_7 8 ∧ (¬ (a_p1_seenShared (Int32.toNatClampNeg x3_7)) = 0 ∧ ((((a_p1_seenSums (Int32.toNatClampNeg x3_7)) - (a_p1_seenSums (Int32.toNatClampNeg x3_7)) / (a_p1_seenShared (Int32.toNatClampNeg x3_7)) * (a_p1_seenShared (Int32.toNatClampNeg x3_7))) = 0 → (wp_X8_greatestDivisor v_unit_7 (a_p1_seenShared (Int32.toNatClampNeg x3_7)) (fun (r49 : Int32) => (((1 : Int32) ≤ r49 → (¬ (Int32.toInt64 r49) = 0 ∧ (((lg_cmp (((Int32.toInt64 v_unit_7) / (Int32.toInt64 r49)) * (Int32.toInt64 (a_p1_seenShared (Int32.toNatClampNeg x3_7)))) (Int32.toInt64 n2)) ≤ 0 → (k7 (x3_7 + 1) (Int64.toInt32 (((Int32.toInt64 v_unit_7) / (Int32.toInt64 r49)) * (Int32.toInt64 (a_p1_seenShared (Int32.toNatClampNeg x3_7))))))) ∧ (¬ (lg_cmp (((Int32.toInt64 v_unit_7) / (Int32.toInt64 r49)) * (Int32.toInt64 (a_p1_seenShared (Int32.toNatClampNeg x3_7)))) (Int32.toInt64 n2)) ≤ 0 → (Post (0 : Int32) v_unit_7))))) ∧ (¬ (1 : Int32) ≤ r49 → (Post (0 : Int32) v_unit_7)))))) ∧ (¬ ((a_p1_seenSums (Int32.toNatClampNeg x3_7)) - (a_p1_seenSums (Int32.toNatClampNeg x3_7)) / (a_p1_seenShared (Int32.toNatClampNeg x3_7)) * (a_p1_seenShared (Int32.toNatClampNeg x3_7))) = 0 → (Post (0 : Int32) v_unit_7)))))))))) → k7 x3_7 v_unit_7) → k7 (0 : Int32) (1 : Int32))
set_option maxHeartbeats 4000000 in
set_option maxRecDepth 100000 in
theorem c_X5_findUnit (l : Launch) (D : va_G) (cI cZ : ClassId) (o o_primes o_some o_p1 o_p1_purses o_p1_firsts o_p1_seconds o_p1_firstsHad o_p1_secondsHad o_p1_seenSums o_p1_seenShared : Nat) (sz : Nat) (n2 : Int32) (v_found : Int32) (v_unit : Int32) (v_howMany : Int32) (v_least : Int32) (v_greatest : Int32) (v_p1_filled : Int32) (v_p1_people : Int32) (v_p1_lawNumber : Int32) (v_p1_made : Int32) (v_p1_seen : Int32) (a_p1_seenSums : Nat → Int32) (a_p1_seenShared : Nat → Int32) (Post : Int32 → (Int32) → Prop) (h : wp_X5_findUnit n2 v_unit v_p1_seen a_p1_seenSums a_p1_seenShared Post) : Met l yX5_findUnit wsX5_findUnit rm_X5_findUnit (cPc D cI cZ [.ref o, .ref o_p1, .int n2] (cw_X5_findUnit cI cZ o o_primes o_some o_p1 o_p1_purses o_p1_firsts o_p1_seconds o_p1_firstsHad o_p1_secondsHad o_p1_seenSums o_p1_seenShared v_found v_unit v_howMany v_least v_greatest v_p1_filled v_p1_people v_p1_lawNumber v_p1_made v_p1_seen a_p1_seenSums a_p1_seenShared) sz) (cQi1 D Post (fun m_v_unit => (cw_X5_findUnit cI cZ o o_primes o_some o_p1 o_p1_purses o_p1_firsts o_p1_seconds o_p1_firstsHad o_p1_secondsHad o_p1_seenSums o_p1_seenShared v_found m_v_unit v_howMany v_least v_greatest v_p1_filled v_p1_people v_p1_lawNumber v_p1_made v_p1_seen a_p1_seenSums a_p1_seenShared)) (va_A (cw_X5_findUnit cI cZ o o_primes o_some o_p1 o_p1_purses o_p1_firsts o_p1_seconds o_p1_firstsHad o_p1_secondsHad o_p1_seenSums o_p1_seenShared v_found v_unit v_howMany v_least v_greatest v_p1_filled v_p1_people v_p1_lawNumber v_p1_made v_p1_seen a_p1_seenSums a_p1_seenShared) sz)) 0 0 (va_A (cw_X5_findUnit cI cZ o o_primes o_some o_p1 o_p1_purses o_p1_firsts o_p1_seconds o_p1_firstsHad o_p1_secondsHad o_p1_seenSums o_p1_seenShared v_found v_unit v_howMany v_least v_greatest v_p1_filled v_p1_people v_p1_lawNumber v_p1_made v_p1_seen a_p1_seenSums a_p1_seenShared) sz) := by
  refine ent (cc := cX5_findUnit) (maxL := 8) (ret := (some .boolean)) (Qc := fun A => cQi1 D Post (fun m_v_unit => (cw_X5_findUnit cI cZ o o_primes o_some o_p1 o_p1_purses o_p1_firsts o_p1_seconds o_p1_firstsHad o_p1_secondsHad o_p1_seenSums o_p1_seenShared v_found m_v_unit v_howMany v_least v_greatest v_p1_filled v_p1_people v_p1_lawNumber v_p1_made v_p1_seen a_p1_seenSums a_p1_seenShared)) A) (by decide) rfl (Nat.le_of_ble_eq_true rfl) ?_
  intro p e s m args below meth c A ls Q hQ hsz hx hb hml hr hts hown hlocks hnm hK hP hD hA hS hl
  have hl : lv_has ls 8 [(0, .ref o), (1, .ref o_p1), (2, .int n2)] := hl
  unfold wp_X5_findUnit at h
  refine lv_aload_n hx hb dX5_findUnit_0 rfl (lv_at hl 0 rfl) ?_
  refine lv_iconst (v := 1) hx hb dX5_findUnit_1 (by decide) ?_
  refine va_put (D := D) (ci := 5) (v := .int (1 : Int32)) (ty := .int) (C := RX5) (T := TX5) (N := 7) hx hb hts inw_X5_findUnit_X5 tyX5 tyX5_ok nmX5 hown hK.1 hP hD hS 0 rfl rfl 3 (by decide) (hts (.fieldLink RX5 49 "PursesShare$SeenSearch" "unit" "I") (by decide +kernel)) (fun _ h9 => h9) rfl (by decide +kernel) rfl rfl (Nat.le_of_ble_eq_true rfl) dX5_findUnit_2 (fun H locs hP hD hS => ?_)
  have hP : va_P D vwCl (cw_X5_findUnit cI cZ o o_primes o_some o_p1 o_p1_purses o_p1_firsts o_p1_seconds o_p1_firstsHad o_p1_secondsHad o_p1_seenSums o_p1_seenShared v_found (1 : Int32) v_howMany v_least v_greatest v_p1_filled v_p1_people v_p1_lawNumber v_p1_made v_p1_seen a_p1_seenSums a_p1_seenShared) H := hP
  have hD : va_D A (cw_X5_findUnit cI cZ o o_primes o_some o_p1 o_p1_purses o_p1_firsts o_p1_seconds o_p1_firstsHad o_p1_secondsHad o_p1_seenSums o_p1_seenShared v_found (1 : Int32) v_howMany v_least v_greatest v_p1_filled v_p1_people v_p1_lawNumber v_p1_made v_p1_seen a_p1_seenSums a_p1_seenShared) := hD
  refine lv_iconst (v := 0) hx hb dX5_findUnit_5 (by decide) ?_
  refine lv_istore_n (lv' := [(3, .int (0 : Int32)), (0, .ref o), (1, .ref o_p1), (2, .int n2)]) hx hb dX5_findUnit_6 rfl hl (by decide) rfl (fun ls hl => ?_)
  refine h (fun x3_7 v_unit_7 => ∀ (H : Heap) (locs : List Loc) (ls : Array Slot), lv_has ls 8 [(0, .ref o), (1, .ref o_p1), (2, .int n2), (3, .int x3_7)] → va_P D vwCl (cw_X5_findUnit cI cZ o o_primes o_some o_p1 o_p1_purses o_p1_firsts o_p1_seconds o_p1_firstsHad o_p1_secondsHad o_p1_seenSums o_p1_seenShared v_found v_unit_7 v_howMany v_least v_greatest v_p1_filled v_p1_people v_p1_lawNumber v_p1_made v_p1_seen a_p1_seenSums a_p1_seenShared) H → va_D A (cw_X5_findUnit cI cZ o o_primes o_some o_p1 o_p1_purses o_p1_firsts o_p1_seconds o_p1_firstsHad o_p1_secondsHad o_p1_seenSums o_p1_seenShared v_found v_unit_7 v_howMany v_least v_greatest v_p1_filled v_p1_people v_p1_lawNumber v_p1_made v_p1_seen a_p1_seenSums a_p1_seenShared) → va_S A s.heap H locs → W p l e rm_X5_findUnit s m args below meth c H locs 0 0 Q (F0 m 7 ls [])) ?_ H locs ls (lv_sub hl [1, 2, 3, 0] rfl) hP hD hS
  intro x3_7 v_unit_7 h H locs ls hl hP hD hS
  refine lv_iload_n hx hb dX5_findUnit_7 rfl (lv_at hl 3 rfl) ?_
  refine lv_aload_n hx hb dX5_findUnit_8 rfl (lv_at hl 1 rfl) ?_
  refine va_getN (D := D) (ci := 1) (v := .int v_p1_seen) (C := RX1) (T := TX1) (N := 12) hx hb hts inw_X5_findUnit_X1 hown hK.1 hP 1 rfl rfl 9 (by decide) (nF_25 hK) (fun _ h9 => h9) rfl dX5_findUnit_9 ?_
  refine lv_icmp_ge (tgt := 100) hx hb dX5_findUnit_12 (by decide) (fun c12 => ?_) (fun c12 => ?_)
  · have h := h.1 c12
    refine lv_aload_n hx hb dX5_findUnit_100 rfl (lv_at hl 0 rfl) ?_
    refine va_get (D := D) (ci := 5) (v := .int v_unit_7) (C := RX5) (T := TX5) (N := 7) hx hb hts inw_X5_findUnit_X5 hown hK.1 hP 0 rfl rfl 3 (by decide) (hts (.fieldLink RX5 49 "PursesShare$SeenSearch" "unit" "I") (by decide +kernel)) (fun _ h9 => h9) rfl dX5_findUnit_101 ?_
    refine lv_if_le (tgt := 111) hx hb dX5_findUnit_104 (by decide) (fun c104 => ?_) (fun c104 => ?_)
    · have h := h.1 c104
      refine lv_iconst (v := 0) hx hb dX5_findUnit_111 (by decide) ?_
      exact ret_z1 hx hb hr hlocks hQ hS (by decide) v_unit_7 hP h dX5_findUnit_112
    · have h := h.2 c104
      refine lv_iconst (v := 1) hx hb dX5_findUnit_107 (by decide) ?_
      refine lv_goto (tgt := 112) hx hb dX5_findUnit_108 (by decide) ?_
      exact ret_z1 hx hb hr hlocks hQ hS (by decide) v_unit_7 hP h dX5_findUnit_112
  · have h := h.2 c12
    refine lv_aload_n hx hb dX5_findUnit_15 rfl (lv_at hl 1 rfl) ?_
    refine va_getN (D := D) (ci := 1) (v := .ref o_p1_seenShared) (C := RX1) (T := TX1) (N := 12) hx hb hts inw_X5_findUnit_X1 hown hK.1 hP 1 rfl rfl 11 (by decide) (nF_28 hK) (fun _ h9 => h9) rfl dX5_findUnit_16 ?_
    refine lv_iload_n hx hb dX5_findUnit_19 rfl (lv_at hl 3 rfl) ?_
    have h0 := h.1
    have h := h.2
    refine va_iald hx hb hK.1 hP 3 0 rfl rfl h0 dX5_findUnit_20 ?_
    refine lv_istore (lv' := [(4, .int (a_p1_seenShared (Int32.toNatClampNeg x3_7))), (0, .ref o), (1, .ref o_p1), (2, .int n2), (3, .int x3_7)]) hx hb dX5_findUnit_21 hl (by decide) rfl (fun ls hl => ?_)
    refine lv_iload hx hb dX5_findUnit_23 (lv_at hl 0 rfl) ?_
    refine lv_iconst (v := 1) hx hb dX5_findUnit_25 (by decide) ?_
    refine lv_icmp_lt (tgt := 41) hx hb dX5_findUnit_26 (by decide) (fun c26 => ?_) (fun c26 => ?_)
    · have h := h.1 c26
      refine lv_iconst (v := 0) hx hb dX5_findUnit_41 (by decide) ?_
      exact ret_z1 hx hb hr hlocks hQ hS (by decide) v_unit_7 hP h dX5_findUnit_42
    · have h := h.2 c26
      refine lv_aload_n hx hb dX5_findUnit_29 rfl (lv_at hl 2 rfl) ?_
      refine va_getN (D := D) (ci := 1) (v := .ref o_p1_seenSums) (C := RX1) (T := TX1) (N := 12) hx hb hts inw_X5_findUnit_X1 hown hK.1 hP 1 rfl rfl 10 (by decide) (nF_27 hK) (fun _ h9 => h9) rfl dX5_findUnit_30 ?_
      refine lv_iload_n hx hb dX5_findUnit_33 rfl (lv_at hl 4 rfl) ?_
      have h0 := h.1
      have h := h.2
      refine va_iald hx hb hK.1 hP 2 0 rfl rfl h0 dX5_findUnit_34 ?_
      refine lv_iload hx hb dX5_findUnit_35 (lv_at hl 0 rfl) ?_
      have h0 := h.1
      have h := h.2
      refine lv_irem hx hb dX5_findUnit_37 h0 ?_
      refine lv_if_eq (tgt := 43) hx hb dX5_findUnit_38 (by decide) (fun c38 => ?_) (fun c38 => ?_)
      · have h := h.1 c38
        refine lv_aload_n hx hb dX5_findUnit_43 rfl (lv_at hl 1 rfl) ?_
        refine va_get (D := D) (ci := 5) (v := .int v_unit_7) (C := RX5) (T := TX5) (N := 7) hx hb hts inw_X5_findUnit_X5 hown hK.1 hP 0 rfl rfl 3 (by decide) (hts (.fieldLink RX5 49 "PursesShare$SeenSearch" "unit" "I") (by decide +kernel)) (fun _ h9 => h9) rfl dX5_findUnit_44 ?_
        refine lv_iload hx hb dX5_findUnit_47 (lv_at hl 0 rfl) ?_
        refine call_i0 (va_runSN (As := [.int v_unit_7, .int (a_p1_seenShared (Int32.toNatClampNeg x3_7))]) (rest := []) ⟨hx, hb, hml, hown, hts⟩ (c_X8_greatestDivisor l D cI cZ (Array.size H) v_unit_7 (a_p1_seenShared (Int32.toNatClampNeg x3_7)) _ h) ⟨va_cnB (own := RX5) 2 hts gX5_findUnit_X8_greatestDivisor_n61 rfl rfl rfl (nM_30 hK) (hts (.initialized RX8) (by decide +kernel)) (by decide +kernel) ⟨Nat.le_of_ble_eq_true rfl, Nat.le_of_ble_eq_true rfl⟩, hts (.static yX8_greatestDivisor) (by decide +kernel), trivial⟩ (preS_of hP hD hK [] rfl rfl) rfl rfl hl.1 rfl (lv_room (Nat.le_of_ble_eq_true rfl)) dX5_findUnit_49 ⟨Nat.zero_le _, Nat.zero_le _⟩) hP hD hS hA [] rfl ((cw_X5_findUnit cI cZ o o_primes o_some o_p1 o_p1_purses o_p1_firsts o_p1_seconds o_p1_firstsHad o_p1_secondsHad o_p1_seenSums o_p1_seenShared v_found v_unit_7 v_howMany v_least v_greatest v_p1_filled v_p1_people v_p1_lawNumber v_p1_made v_p1_seen a_p1_seenSums a_p1_seenShared)) (rfl) (rfl) (fun r49 H locs h hP hD hS => ?_)
        refine lv_istore (lv' := [(5, .int r49), (4, .int (a_p1_seenShared (Int32.toNatClampNeg x3_7))), (0, .ref o), (1, .ref o_p1), (2, .int n2), (3, .int x3_7)]) hx hb dX5_findUnit_52 hl (by decide) rfl (fun ls hl => ?_)
        refine lv_iload hx hb dX5_findUnit_54 (lv_at hl 0 rfl) ?_
        refine lv_iconst (v := 1) hx hb dX5_findUnit_56 (by decide) ?_
        refine lv_icmp_ge (tgt := 62) hx hb dX5_findUnit_57 (by decide) (fun c57 => ?_) (fun c57 => ?_)
        · have h := h.1 c57
          refine lv_aload_n hx hb dX5_findUnit_62 rfl (lv_at hl 2 rfl) ?_
          refine va_get (D := D) (ci := 5) (v := .int v_unit_7) (C := RX5) (T := TX5) (N := 7) hx hb hts inw_X5_findUnit_X5 hown hK.1 hP 0 rfl rfl 3 (by decide) (hts (.fieldLink RX5 49 "PursesShare$SeenSearch" "unit" "I") (by decide +kernel)) (fun _ h9 => h9) rfl dX5_findUnit_63 ?_
          refine lv_i2l (v := (Int32.toInt64 v_unit_7)) hx hb dX5_findUnit_66 rfl ?_
          refine lv_iload hx hb dX5_findUnit_67 (lv_at hl 0 rfl) ?_
          refine lv_i2l (v := (Int32.toInt64 r49)) hx hb dX5_findUnit_69 rfl ?_
          have h0 := h.1
          have h := h.2
          refine lv_ldiv hx hb dX5_findUnit_70 h0 ?_
          refine lv_iload hx hb dX5_findUnit_71 (lv_at hl 1 rfl) ?_
          refine lv_i2l (v := (Int32.toInt64 (a_p1_seenShared (Int32.toNatClampNeg x3_7)))) hx hb dX5_findUnit_73 rfl ?_
          refine lv_lmul hx hb dX5_findUnit_74 ?_
          refine lv_lstore (lv' := [(6, .long (((Int32.toInt64 v_unit_7) / (Int32.toInt64 r49)) * (Int32.toInt64 (a_p1_seenShared (Int32.toNatClampNeg x3_7))))), (5, .int r49), (4, .int (a_p1_seenShared (Int32.toNatClampNeg x3_7))), (0, .ref o), (1, .ref o_p1), (2, .int n2), (3, .int x3_7)]) hx hb dX5_findUnit_75 hl (by decide) rfl (fun ls hl => ?_)
          refine lv_lload hx hb dX5_findUnit_77 (lv_at hl 0 rfl) ?_
          refine lv_iload_n hx hb dX5_findUnit_79 rfl (lv_at hl 5 rfl) ?_
          refine lv_i2l (v := (Int32.toInt64 n2)) hx hb dX5_findUnit_80 rfl ?_
          refine W.lcmp hx hb dX5_findUnit_81 ?_
          refine lv_if_le (tgt := 87) hx hb dX5_findUnit_82 (by decide) (fun c82 => ?_) (fun c82 => ?_)
          · have h := h.1 c82
            refine lv_aload_n hx hb dX5_findUnit_87 rfl (lv_at hl 3 rfl) ?_
            refine lv_lload hx hb dX5_findUnit_88 (lv_at hl 0 rfl) ?_
            refine lv_l2i (v := (Int64.toInt32 (((Int32.toInt64 v_unit_7) / (Int32.toInt64 r49)) * (Int32.toInt64 (a_p1_seenShared (Int32.toNatClampNeg x3_7)))))) hx hb dX5_findUnit_90 rfl ?_
            refine va_put (D := D) (ci := 5) (v := .int (Int64.toInt32 (((Int32.toInt64 v_unit_7) / (Int32.toInt64 r49)) * (Int32.toInt64 (a_p1_seenShared (Int32.toNatClampNeg x3_7)))))) (ty := .int) (C := RX5) (T := TX5) (N := 7) hx hb hts inw_X5_findUnit_X5 tyX5 tyX5_ok nmX5 hown hK.1 hP hD hS 0 rfl rfl 3 (by decide) (hts (.fieldLink RX5 49 "PursesShare$SeenSearch" "unit" "I") (by decide +kernel)) (fun _ h9 => h9) rfl (by decide +kernel) rfl rfl (Nat.le_of_ble_eq_true rfl) dX5_findUnit_91 (fun H locs hP hD hS => ?_)
            have hP : va_P D vwCl (cw_X5_findUnit cI cZ o o_primes o_some o_p1 o_p1_purses o_p1_firsts o_p1_seconds o_p1_firstsHad o_p1_secondsHad o_p1_seenSums o_p1_seenShared v_found (Int64.toInt32 (((Int32.toInt64 v_unit_7) / (Int32.toInt64 r49)) * (Int32.toInt64 (a_p1_seenShared (Int32.toNatClampNeg x3_7))))) v_howMany v_least v_greatest v_p1_filled v_p1_people v_p1_lawNumber v_p1_made v_p1_seen a_p1_seenSums a_p1_seenShared) H := hP
            have hD : va_D A (cw_X5_findUnit cI cZ o o_primes o_some o_p1 o_p1_purses o_p1_firsts o_p1_seconds o_p1_firstsHad o_p1_secondsHad o_p1_seenSums o_p1_seenShared v_found (Int64.toInt32 (((Int32.toInt64 v_unit_7) / (Int32.toInt64 r49)) * (Int32.toInt64 (a_p1_seenShared (Int32.toNatClampNeg x3_7))))) v_howMany v_least v_greatest v_p1_filled v_p1_people v_p1_lawNumber v_p1_made v_p1_seen a_p1_seenSums a_p1_seenShared) := hD
            refine lv_iinc (v := (x3_7 + 1)) (lv' := [(3, .int (x3_7 + 1)), (6, .long (((Int32.toInt64 v_unit_7) / (Int32.toInt64 r49)) * (Int32.toInt64 (a_p1_seenShared (Int32.toNatClampNeg x3_7))))), (5, .int r49), (4, .int (a_p1_seenShared (Int32.toNatClampNeg x3_7))), (0, .ref o), (1, .ref o_p1), (2, .int n2)]) hx hb dX5_findUnit_94 hl (k := 6) rfl rfl (by decide) rfl (fun ls hl => ?_)
            refine lv_goto (tgt := 7) hx hb dX5_findUnit_97 (by decide) ?_
            exact h H locs ls (lv_sub hl [4, 5, 6, 0] rfl) hP hD hS
          · have h := h.2 c82
            refine lv_iconst (v := 0) hx hb dX5_findUnit_85 (by decide) ?_
            exact ret_z1 hx hb hr hlocks hQ hS (by decide) v_unit_7 hP h dX5_findUnit_86
        · have h := h.2 c57
          refine lv_iconst (v := 0) hx hb dX5_findUnit_60 (by decide) ?_
          exact ret_z1 hx hb hr hlocks hQ hS (by decide) v_unit_7 hP h dX5_findUnit_61
      · have h := h.2 c38
        refine lv_iconst (v := 0) hx hb dX5_findUnit_41 (by decide) ?_
        exact ret_z1 hx hb hr hlocks hQ hS (by decide) v_unit_7 hP h dX5_findUnit_42
abbrev rm_X5_noteEmptyPurse : Room := { frames := 0, cells := 0, slots := 0, locals := 0 }
abbrev cw_X5_noteEmptyPurse (cI cZ : ClassId) (o o_primes o_some : Nat) (v_found : Int32) (v_unit : Int32) (v_howMany : Int32) (v_least : Int32) (v_greatest : Int32) : va_W := [(o, .inr (5, [.ref o_primes, .ref o_some, .int v_found, .int v_unit, .int v_howMany, .int v_least, .int v_greatest]))]
theorem inw_X5_noteEmptyPurse_X5 : ∀ w ∈ u_ws RX5 TX5 7, w ∈ wsX5_noteEmptyPurse := by decide +kernel
def wp_X5_noteEmptyPurse (n1 : Int32) (v_howMany : Int32) (v_least : Int32) (v_greatest : Int32) (Post : (Int32) → (Int32) → (Int32) → Prop) : Prop := (Post (n1 + (1 : Int32)) (0 : Int32) n1)
set_option maxHeartbeats 4000000 in
set_option maxRecDepth 100000 in
theorem c_X5_noteEmptyPurse (l : Launch) (D : va_G) (cI cZ : ClassId) (o o_primes o_some : Nat) (sz : Nat) (n1 : Int32) (v_found : Int32) (v_unit : Int32) (v_howMany : Int32) (v_least : Int32) (v_greatest : Int32) (Post : (Int32) → (Int32) → (Int32) → Prop) (h : wp_X5_noteEmptyPurse n1 v_howMany v_least v_greatest Post) : Met l yX5_noteEmptyPurse wsX5_noteEmptyPurse rm_X5_noteEmptyPurse (cPc D cI cZ [.ref o, .int n1] (cw_X5_noteEmptyPurse cI cZ o o_primes o_some v_found v_unit v_howMany v_least v_greatest) sz) (cQv3 D Post (fun m_v_howMany m_v_least m_v_greatest => (cw_X5_noteEmptyPurse cI cZ o o_primes o_some v_found v_unit m_v_howMany m_v_least m_v_greatest)) (va_A (cw_X5_noteEmptyPurse cI cZ o o_primes o_some v_found v_unit v_howMany v_least v_greatest) sz)) 0 0 (va_A (cw_X5_noteEmptyPurse cI cZ o o_primes o_some v_found v_unit v_howMany v_least v_greatest) sz) := by
  refine ent (cc := cX5_noteEmptyPurse) (maxL := 2) (ret := none) (Qc := fun A => cQv3 D Post (fun m_v_howMany m_v_least m_v_greatest => (cw_X5_noteEmptyPurse cI cZ o o_primes o_some v_found v_unit m_v_howMany m_v_least m_v_greatest)) A) (by decide) rfl (Nat.le_of_ble_eq_true rfl) ?_
  intro p e s m args below meth c A ls Q hQ hsz hx hb hml hr hts hown hlocks hnm hK hP hD hA hS hl
  have hl : lv_has ls 2 [(0, .ref o), (1, .int n1)] := hl
  unfold wp_X5_noteEmptyPurse at h
  refine lv_aload_n hx hb dX5_noteEmptyPurse_0 rfl (lv_at hl 0 rfl) ?_
  refine lv_iload_n hx hb dX5_noteEmptyPurse_1 rfl (lv_at hl 1 rfl) ?_
  refine lv_iconst (v := 1) hx hb dX5_noteEmptyPurse_2 (by decide) ?_
  refine lv_iadd hx hb dX5_noteEmptyPurse_3 ?_
  refine va_put (D := D) (ci := 5) (v := .int (n1 + (1 : Int32))) (ty := .int) (C := RX5) (T := TX5) (N := 7) hx hb hts inw_X5_noteEmptyPurse_X5 tyX5 tyX5_ok nmX5 hown hK.1 hP hD hS 0 rfl rfl 4 (by decide) (hts (.fieldLink RX5 18 "PursesShare$SeenSearch" "howMany" "I") (by decide +kernel)) (fun _ h9 => h9) rfl (by decide +kernel) rfl rfl (Nat.le_of_ble_eq_true rfl) dX5_noteEmptyPurse_4 (fun H locs hP hD hS => ?_)
  have hP : va_P D vwCl (cw_X5_noteEmptyPurse cI cZ o o_primes o_some v_found v_unit (n1 + (1 : Int32)) v_least v_greatest) H := hP
  have hD : va_D A (cw_X5_noteEmptyPurse cI cZ o o_primes o_some v_found v_unit (n1 + (1 : Int32)) v_least v_greatest) := hD
  refine lv_aload_n hx hb dX5_noteEmptyPurse_7 rfl (lv_at hl 0 rfl) ?_
  refine lv_iconst (v := 0) hx hb dX5_noteEmptyPurse_8 (by decide) ?_
  refine va_put (D := D) (ci := 5) (v := .int (0 : Int32)) (ty := .int) (C := RX5) (T := TX5) (N := 7) hx hb hts inw_X5_noteEmptyPurse_X5 tyX5 tyX5_ok nmX5 hown hK.1 hP hD hS 0 rfl rfl 5 (by decide) (hts (.fieldLink RX5 22 "PursesShare$SeenSearch" "least" "I") (by decide +kernel)) (fun _ h9 => h9) rfl (by decide +kernel) rfl rfl (Nat.le_of_ble_eq_true rfl) dX5_noteEmptyPurse_9 (fun H locs hP hD hS => ?_)
  have hP : va_P D vwCl (cw_X5_noteEmptyPurse cI cZ o o_primes o_some v_found v_unit (n1 + (1 : Int32)) (0 : Int32) v_greatest) H := hP
  have hD : va_D A (cw_X5_noteEmptyPurse cI cZ o o_primes o_some v_found v_unit (n1 + (1 : Int32)) (0 : Int32) v_greatest) := hD
  refine lv_aload_n hx hb dX5_noteEmptyPurse_12 rfl (lv_at hl 0 rfl) ?_
  refine lv_iload_n hx hb dX5_noteEmptyPurse_13 rfl (lv_at hl 1 rfl) ?_
  refine va_put (D := D) (ci := 5) (v := .int n1) (ty := .int) (C := RX5) (T := TX5) (N := 7) hx hb hts inw_X5_noteEmptyPurse_X5 tyX5 tyX5_ok nmX5 hown hK.1 hP hD hS 0 rfl rfl 6 (by decide) (hts (.fieldLink RX5 25 "PursesShare$SeenSearch" "greatest" "I") (by decide +kernel)) (fun _ h9 => h9) rfl (by decide +kernel) rfl rfl (Nat.le_of_ble_eq_true rfl) dX5_noteEmptyPurse_14 (fun H locs hP hD hS => ?_)
  have hP : va_P D vwCl (cw_X5_noteEmptyPurse cI cZ o o_primes o_some v_found v_unit (n1 + (1 : Int32)) (0 : Int32) n1) H := hP
  have hD : va_D A (cw_X5_noteEmptyPurse cI cZ o o_primes o_some v_found v_unit (n1 + (1 : Int32)) (0 : Int32) n1) := hD
  exact ret_v3 hx hb hr hlocks hQ hS (n1 + (1 : Int32)) (0 : Int32) n1 hP h dX5_noteEmptyPurse_17
abbrev rm_X5_countFree (d : Nat) : Room := { frames := 1 * d + 1, cells := 0, slots := 0, locals := 25 * d + 60 }
abbrev cw_X5_countFree (cI cZ : ClassId) (o_p2 : Nat) (a_p2 : Nat → Int32) : va_W := [(o_p2, .inl (cI, 48, .inl a_p2))]
def wp_X5_countFree : Nat → Int32 → Int32 → Int32 → (Nat → Int32) → (Int32 → Prop) → Prop
  | 0, _, _, _, _, _ => False
  | d + 1, n1, n3, n4, a_p2, Post => ((n4 ≤ (6 : Int32) → (∀ k14 : (Int32) → (Int32) → Prop, (∀ (x5_14 : Int32) (x4_14 : Int32), ((n3 ≤ x5_14 → (Post x4_14)) ∧ (¬ n3 ≤ x5_14 → (vp_in x5_14 48 ∧ (((a_p2 (Int32.toNatClampNeg x5_14)) ≤ (1 : Int32) → (k14 (x5_14 + 1) x4_14)) ∧ (¬ (a_p2 (Int32.toNatClampNeg x5_14)) ≤ (1 : Int32) → (vp_in x5_14 48 ∧ ((n1 < (a_p2 (Int32.toNatClampNeg x5_14)) → (k14 (x5_14 + 1) x4_14)) ∧ (¬ n1 < (a_p2 (Int32.toNatClampNeg x5_14)) → (vp_in x5_14 48 ∧ (¬ (a_p2 (Int32.toNatClampNeg x5_14)) = 0 ∧ (wp_X5_countFree d (n1 / (a_p2 (Int32.toNatClampNeg x5_14))) x5_14 (n4 + (1 : Int32)) a_p2 (fun (r50 : Int32) => (k14 (x5_14 + 1) (x4_14 - r50)))))))))))))) → k14 x5_14 x4_14) → k14 (0 : Int32) n1)) ∧ (¬ n4 ≤ (6 : Int32) → (Post (0 : Int32))))
set_option maxHeartbeats 4000000 in
set_option maxRecDepth 100000 in
theorem c_X5_countFree (l : Launch) : ∀ (d : Nat) (D : va_G) (cI cZ : ClassId) (o_p2 : Nat) (sz : Nat) (n1 : Int32) (n3 : Int32) (n4 : Int32) (a_p2 : Nat → Int32) (Post : Int32 → Prop), wp_X5_countFree d n1 n3 n4 a_p2 Post → Met l yX5_countFree wsX5_countFree (rm_X5_countFree d) (cPc D cI cZ [.int n1, .ref o_p2, .int n3, .int n4] (cw_X5_countFree cI cZ o_p2 a_p2) sz) (cQi0 D Post ((cw_X5_countFree cI cZ o_p2 a_p2)) (va_A (cw_X5_countFree cI cZ o_p2 a_p2) sz)) 0 0 (va_A (cw_X5_countFree cI cZ o_p2 a_p2) sz) := by
  intro d
  induction d with
  | zero =>
    intro D cI cZ o_p2 sz n1 n3 n4 a_p2 Post h
    exact False.elim h
  | succ d ih =>
    intro D cI cZ o_p2 sz n1 n3 n4 a_p2 Post h
    refine ent (cc := cX5_countFree) (maxL := 6) (ret := (some .int)) (Qc := fun A => cQi0 D Post ((cw_X5_countFree cI cZ o_p2 a_p2)) A) (by decide) rfl (Nat.le_of_ble_eq_true rfl) ?_
    intro p e s m args below meth c A ls Q hQ hsz hx hb hml hr hts hown hlocks hnm hK hP hD hA hS hl
    have hl : lv_has ls 6 [(0, .int n1), (1, .ref o_p2), (2, .int n3), (3, .int n4)] := hl
    rw [wp_X5_countFree.eq_2] at h
    refine lv_iload_n hx hb dX5_countFree_0 rfl (lv_at hl 3 rfl) ?_
    refine lv_bipush (v := 6) hx hb dX5_countFree_1 (by decide) ?_
    refine lv_icmp_le (tgt := 8) hx hb dX5_countFree_3 (by decide) (fun c3 => ?_) (fun c3 => ?_)
    · have h := h.1 c3
      refine lv_iload_n hx hb dX5_countFree_8 rfl (lv_at hl 0 rfl) ?_
      refine lv_istore (lv' := [(4, .int n1), (0, .int n1), (1, .ref o_p2), (2, .int n3), (3, .int n4)]) hx hb dX5_countFree_9 hl (by decide) rfl (fun ls hl => ?_)
      refine lv_iconst (v := 0) hx hb dX5_countFree_11 (by decide) ?_
      refine lv_istore (lv' := [(5, .int (0 : Int32)), (4, .int n1), (0, .int n1), (1, .ref o_p2), (2, .int n3), (3, .int n4)]) hx hb dX5_countFree_12 hl (by decide) rfl (fun ls hl => ?_)
      refine h (fun x5_14 x4_14 => ∀ (H : Heap) (locs : List Loc) (ls : Array Slot), lv_has ls 6 [(0, .int n1), (1, .ref o_p2), (2, .int n3), (3, .int n4), (4, .int x4_14), (5, .int x5_14)] → va_P D vwCl (cw_X5_countFree cI cZ o_p2 a_p2) H → va_D A (cw_X5_countFree cI cZ o_p2 a_p2) → va_S A s.heap H locs → W p l e (rm_X5_countFree (d + 1)) s m args below meth c H locs 0 0 Q (F0 m 14 ls [])) ?_ s.heap [] ls (lv_sub hl [2, 3, 4, 5, 1, 0] rfl) hP hD hS
      intro x5_14 x4_14 h H locs ls hl hP hD hS
      refine lv_iload hx hb dX5_countFree_14 (lv_at hl 5 rfl) ?_
      refine lv_iload_n hx hb dX5_countFree_16 rfl (lv_at hl 2 rfl) ?_
      refine lv_icmp_ge (tgt := 62) hx hb dX5_countFree_17 (by decide) (fun c17 => ?_) (fun c17 => ?_)
      · have h := h.1 c17
        refine lv_iload hx hb dX5_countFree_62 (lv_at hl 4 rfl) ?_
        exact ret_i0 hx hb hr hlocks hQ hS  hP h dX5_countFree_64
      · have h := h.2 c17
        refine lv_aload_n hx hb dX5_countFree_20 rfl (lv_at hl 1 rfl) ?_
        refine lv_iload hx hb dX5_countFree_21 (lv_at hl 5 rfl) ?_
        have h0 := h.1
        have h := h.2
        refine va_iald hx hb hK.1 hP 0 0 rfl rfl h0 dX5_countFree_23 ?_
        refine lv_iconst (v := 1) hx hb dX5_countFree_24 (by decide) ?_
        refine lv_icmp_le (tgt := 56) hx hb dX5_countFree_25 (by decide) (fun c25 => ?_) (fun c25 => ?_)
        · have h := h.1 c25
          refine lv_iinc (v := (x5_14 + 1)) (lv' := [(5, .int (x5_14 + 1)), (0, .int n1), (1, .ref o_p2), (2, .int n3), (3, .int n4), (4, .int x4_14)]) hx hb dX5_countFree_56 hl (k := 5) rfl rfl (by decide) rfl (fun ls hl => ?_)
          refine lv_goto (tgt := 14) hx hb dX5_countFree_59 (by decide) ?_
          exact h H locs ls (lv_sub hl [1, 2, 3, 4, 5, 0] rfl) hP hD hS
        · have h := h.2 c25
          refine lv_aload_n hx hb dX5_countFree_28 rfl (lv_at hl 1 rfl) ?_
          refine lv_iload hx hb dX5_countFree_29 (lv_at hl 5 rfl) ?_
          have h0 := h.1
          have h := h.2
          refine va_iald hx hb hK.1 hP 0 0 rfl rfl h0 dX5_countFree_31 ?_
          refine lv_iload_n hx hb dX5_countFree_32 rfl (lv_at hl 0 rfl) ?_
          refine lv_icmp_gt (tgt := 56) hx hb dX5_countFree_33 (by decide) (fun c33 => ?_) (fun c33 => ?_)
          · have h := h.1 c33
            refine lv_iinc (v := (x5_14 + 1)) (lv' := [(5, .int (x5_14 + 1)), (0, .int n1), (1, .ref o_p2), (2, .int n3), (3, .int n4), (4, .int x4_14)]) hx hb dX5_countFree_56 hl (k := 5) rfl rfl (by decide) rfl (fun ls hl => ?_)
            refine lv_goto (tgt := 14) hx hb dX5_countFree_59 (by decide) ?_
            exact h H locs ls (lv_sub hl [1, 2, 3, 4, 5, 0] rfl) hP hD hS
          · have h := h.2 c33
            refine lv_iload hx hb dX5_countFree_36 (lv_at hl 4 rfl) ?_
            refine lv_iload_n hx hb dX5_countFree_38 rfl (lv_at hl 0 rfl) ?_
            refine lv_aload_n hx hb dX5_countFree_39 rfl (lv_at hl 1 rfl) ?_
            refine lv_iload hx hb dX5_countFree_40 (lv_at hl 5 rfl) ?_
            have h0 := h.1
            have h := h.2
            refine va_iald hx hb hK.1 hP 0 0 rfl rfl h0 dX5_countFree_42 ?_
            have h0 := h.1
            have h := h.2
            refine lv_idiv hx hb dX5_countFree_43 h0 ?_
            refine lv_aload_n hx hb dX5_countFree_44 rfl (lv_at hl 1 rfl) ?_
            refine lv_iload hx hb dX5_countFree_45 (lv_at hl 5 rfl) ?_
            refine lv_iload_n hx hb dX5_countFree_47 rfl (lv_at hl 3 rfl) ?_
            refine lv_iconst (v := 1) hx hb dX5_countFree_48 (by decide) ?_
            refine lv_iadd hx hb dX5_countFree_49 ?_
            refine call_i0 (va_runS (As := [.int (n1 / (a_p2 (Int32.toNatClampNeg x5_14))), .ref o_p2, .int x5_14, .int (n4 + (1 : Int32))]) (rest := [.int x4_14]) ⟨hx, hb, hml, hown, hts⟩ (ih D cI cZ o_p2 (Array.size H) (n1 / (a_p2 (Int32.toNatClampNeg x5_14))) x5_14 (n4 + (1 : Int32)) a_p2 _ h) (va_cwS 4 hts gX5_countFree_X5_countFree rfl rfl rfl (by decide +kernel) ⟨(by dsimp only [rm_X5_countFree]; omega), (by dsimp only [rm_X5_countFree]; omega)⟩) (preS_of hP hD hK [0] rfl rfl) rfl rfl hl.1 rfl (lv_room (Nat.le_of_ble_eq_true rfl)) dX5_countFree_50 ⟨Nat.zero_le _, Nat.zero_le _⟩) hP hD hS hA [0] rfl ((cw_X5_countFree cI cZ o_p2 a_p2)) (rfl) (rfl) (fun r50 H locs h hP hD hS => ?_)
            refine lv_isub hx hb dX5_countFree_53 ?_
            refine lv_istore (lv' := [(4, .int (x4_14 - r50)), (0, .int n1), (1, .ref o_p2), (2, .int n3), (3, .int n4), (5, .int x5_14)]) hx hb dX5_countFree_54 hl (by decide) rfl (fun ls hl => ?_)
            refine lv_iinc (v := (x5_14 + 1)) (lv' := [(5, .int (x5_14 + 1)), (4, .int (x4_14 - r50)), (0, .int n1), (1, .ref o_p2), (2, .int n3), (3, .int n4)]) hx hb dX5_countFree_56 hl (k := 5) rfl rfl (by decide) rfl (fun ls hl => ?_)
            refine lv_goto (tgt := 14) hx hb dX5_countFree_59 (by decide) ?_
            exact h H locs ls (lv_sub hl [2, 3, 4, 5, 1, 0] rfl) hP hD hS
    · have h := h.2 c3
      refine lv_iconst (v := 0) hx hb dX5_countFree_6 (by decide) ?_
      exact ret_i0 hx hb hr hlocks hQ hS  hP h dX5_countFree_7
abbrev rm_X5_isFree : Room := { frames := 0, cells := 0, slots := 0, locals := 0 }
abbrev cw_X5_isFree (cI cZ : ClassId) (o o_primes o_some : Nat) (v_found : Int32) (v_unit : Int32) (v_howMany : Int32) (v_least : Int32) (v_greatest : Int32) (a_primes : Nat → Int32) : va_W := [(o, .inr (5, [.ref o_primes, .ref o_some, .int v_found, .int v_unit, .int v_howMany, .int v_least, .int v_greatest])), (o_primes, .inl (cI, 48, .inl a_primes))]
theorem inw_X5_isFree_X5 : ∀ w ∈ u_ws RX5 TX5 7, w ∈ wsX5_isFree := by decide +kernel
def wp_X5_isFree (n1 : Int32) (v_found : Int32) (a_primes : Nat → Int32) (Post : Int32 → Prop) : Prop := (∀ k2 : (Int32) → Prop, (∀ (x2_2 : Int32), ((v_found ≤ x2_2 → (Post (1 : Int32))) ∧ (¬ v_found ≤ x2_2 → (vp_in x2_2 48 ∧ (((a_primes (Int32.toNatClampNeg x2_2)) ≤ (1 : Int32) → (k2 (x2_2 + 1))) ∧ (¬ (a_primes (Int32.toNatClampNeg x2_2)) ≤ (1 : Int32) → (vp_in x2_2 48 ∧ (¬ (a_primes (Int32.toNatClampNeg x2_2)) = 0 ∧ ((¬ (n1 - n1 / (a_primes (Int32.toNatClampNeg x2_2)) * (a_primes (Int32.toNatClampNeg x2_2))) = 0 → (k2 (x2_2 + 1))) ∧ ((n1 - n1 / (a_primes (Int32.toNatClampNeg x2_2)) * (a_primes (Int32.toNatClampNeg x2_2))) = 0 → (Post (0 : Int32))))))))))) → k2 x2_2) → k2 (0 : Int32))
set_option maxHeartbeats 4000000 in
set_option maxRecDepth 100000 in
theorem c_X5_isFree (l : Launch) (D : va_G) (cI cZ : ClassId) (o o_primes o_some : Nat) (sz : Nat) (n1 : Int32) (v_found : Int32) (v_unit : Int32) (v_howMany : Int32) (v_least : Int32) (v_greatest : Int32) (a_primes : Nat → Int32) (Post : Int32 → Prop) (h : wp_X5_isFree n1 v_found a_primes Post) : Met l yX5_isFree wsX5_isFree rm_X5_isFree (cPc D cI cZ [.ref o, .int n1] (cw_X5_isFree cI cZ o o_primes o_some v_found v_unit v_howMany v_least v_greatest a_primes) sz) (cQi0 D Post ((cw_X5_isFree cI cZ o o_primes o_some v_found v_unit v_howMany v_least v_greatest a_primes)) (va_A (cw_X5_isFree cI cZ o o_primes o_some v_found v_unit v_howMany v_least v_greatest a_primes) sz)) 0 0 (va_A (cw_X5_isFree cI cZ o o_primes o_some v_found v_unit v_howMany v_least v_greatest a_primes) sz) := by
  refine ent (cc := cX5_isFree) (maxL := 3) (ret := (some .boolean)) (Qc := fun A => cQi0 D Post ((cw_X5_isFree cI cZ o o_primes o_some v_found v_unit v_howMany v_least v_greatest a_primes)) A) (by decide) rfl (Nat.le_of_ble_eq_true rfl) ?_
  intro p e s m args below meth c A ls Q hQ hsz hx hb hml hr hts hown hlocks hnm hK hP hD hA hS hl
  have hl : lv_has ls 3 [(0, .ref o), (1, .int n1)] := hl
  unfold wp_X5_isFree at h
  refine lv_iconst (v := 0) hx hb dX5_isFree_0 (by decide) ?_
  refine lv_istore_n (lv' := [(2, .int (0 : Int32)), (0, .ref o), (1, .int n1)]) hx hb dX5_isFree_1 rfl hl (by decide) rfl (fun ls hl => ?_)
  refine h (fun x2_2 => ∀ (H : Heap) (locs : List Loc) (ls : Array Slot), lv_has ls 3 [(0, .ref o), (1, .int n1), (2, .int x2_2)] → va_P D vwCl (cw_X5_isFree cI cZ o o_primes o_some v_found v_unit v_howMany v_least v_greatest a_primes) H → va_D A (cw_X5_isFree cI cZ o o_primes o_some v_found v_unit v_howMany v_least v_greatest a_primes) → va_S A s.heap H locs → W p l e rm_X5_isFree s m args below meth c H locs 0 0 Q (F0 m 2 ls [])) ?_ s.heap [] ls (lv_sub hl [1, 2, 0] rfl) hP hD hS
  intro x2_2 h H locs ls hl hP hD hS
  refine lv_iload_n hx hb dX5_isFree_2 rfl (lv_at hl 2 rfl) ?_
  refine lv_aload_n hx hb dX5_isFree_3 rfl (lv_at hl 0 rfl) ?_
  refine va_get (D := D) (ci := 5) (v := .int v_found) (C := RX5) (T := TX5) (N := 7) hx hb hts inw_X5_isFree_X5 hown hK.1 hP 0 rfl rfl 2 (by decide) (hts (.fieldLink RX5 65 "PursesShare$SeenSearch" "found" "I") (by decide +kernel)) (fun _ h9 => h9) rfl dX5_isFree_4 ?_
  refine lv_icmp_ge (tgt := 39) hx hb dX5_isFree_7 (by decide) (fun c7 => ?_) (fun c7 => ?_)
  · have h := h.1 c7
    refine lv_iconst (v := 1) hx hb dX5_isFree_39 (by decide) ?_
    exact ret_z0 hx hb hr hlocks hQ hS (by decide)  hP h dX5_isFree_40
  · have h := h.2 c7
    refine lv_aload_n hx hb dX5_isFree_10 rfl (lv_at hl 0 rfl) ?_
    refine va_get (D := D) (ci := 5) (v := .ref o_primes) (C := RX5) (T := TX5) (N := 7) hx hb hts inw_X5_isFree_X5 hown hK.1 hP 0 rfl rfl 0 (by decide) (hts (.fieldLink RX5 9 "PursesShare$SeenSearch" "primes" "[I") (by decide +kernel)) (fun _ h9 => h9) rfl dX5_isFree_11 ?_
    refine lv_iload_n hx hb dX5_isFree_14 rfl (lv_at hl 2 rfl) ?_
    have h0 := h.1
    have h := h.2
    refine va_iald hx hb hK.1 hP 1 0 rfl rfl h0 dX5_isFree_15 ?_
    refine lv_iconst (v := 1) hx hb dX5_isFree_16 (by decide) ?_
    refine lv_icmp_le (tgt := 33) hx hb dX5_isFree_17 (by decide) (fun c17 => ?_) (fun c17 => ?_)
    · have h := h.1 c17
      refine lv_iinc (v := (x2_2 + 1)) (lv' := [(2, .int (x2_2 + 1)), (0, .ref o), (1, .int n1)]) hx hb dX5_isFree_33 hl (k := 2) rfl rfl (by decide) rfl (fun ls hl => ?_)
      refine lv_goto (tgt := 2) hx hb dX5_isFree_36 (by decide) ?_
      exact h H locs ls (lv_sub hl [1, 2, 0] rfl) hP hD hS
    · have h := h.2 c17
      refine lv_iload_n hx hb dX5_isFree_20 rfl (lv_at hl 1 rfl) ?_
      refine lv_aload_n hx hb dX5_isFree_21 rfl (lv_at hl 0 rfl) ?_
      refine va_get (D := D) (ci := 5) (v := .ref o_primes) (C := RX5) (T := TX5) (N := 7) hx hb hts inw_X5_isFree_X5 hown hK.1 hP 0 rfl rfl 0 (by decide) (hts (.fieldLink RX5 9 "PursesShare$SeenSearch" "primes" "[I") (by decide +kernel)) (fun _ h9 => h9) rfl dX5_isFree_22 ?_
      refine lv_iload_n hx hb dX5_isFree_25 rfl (lv_at hl 2 rfl) ?_
      have h0 := h.1
      have h := h.2
      refine va_iald hx hb hK.1 hP 1 0 rfl rfl h0 dX5_isFree_26 ?_
      have h0 := h.1
      have h := h.2
      refine lv_irem hx hb dX5_isFree_27 h0 ?_
      refine lv_if_ne (tgt := 33) hx hb dX5_isFree_28 (by decide) (fun c28 => ?_) (fun c28 => ?_)
      · have h := h.1 c28
        refine lv_iinc (v := (x2_2 + 1)) (lv' := [(2, .int (x2_2 + 1)), (0, .ref o), (1, .int n1)]) hx hb dX5_isFree_33 hl (k := 2) rfl rfl (by decide) rfl (fun ls hl => ?_)
        refine lv_goto (tgt := 2) hx hb dX5_isFree_36 (by decide) ?_
        exact h H locs ls (lv_sub hl [1, 2, 0] rfl) hP hD hS
      · have h := h.2 c28
        refine lv_iconst (v := 0) hx hb dX5_isFree_31 (by decide) ?_
        exact ret_z0 hx hb hr hlocks hQ hS (by decide)  hP h dX5_isFree_32
abbrev rm_X5_noteMultiples : Room := { frames := 11, cells := 0, slots := 0, locals := 310 }
abbrev cw_X5_noteMultiples (cI cZ : ClassId) (o o_primes o_some : Nat) (v_found : Int32) (v_unit : Int32) (v_howMany : Int32) (v_least : Int32) (v_greatest : Int32) (a_primes : Nat → Int32) : va_W := [(o, .inr (5, [.ref o_primes, .ref o_some, .int v_found, .int v_unit, .int v_howMany, .int v_least, .int v_greatest])), (o_primes, .inl (cI, 48, .inl a_primes))]
theorem inw_X5_noteMultiples_X5 : ∀ w ∈ u_ws RX5 TX5 7, w ∈ wsX5_noteMultiples := by decide +kernel
def wp_X5_noteMultiples (n1 : Int32) (v_found : Int32) (v_unit : Int32) (v_howMany : Int32) (v_least : Int32) (v_greatest : Int32) (a_primes : Nat → Int32) (Post : (Int32) → (Int32) → (Int32) → Prop) : Prop := (((1 : Int32) ≤ n1 → (wp_X5_countFree 8 n1 v_found (0 : Int32) a_primes (fun (r17 : Int32) => (∀ k33 : (Int32) → Prop, (∀ (x2_33 : Int32), ((x2_33 ≤ (1 : Int32) → (Post r17 v_unit (v_unit * x2_33))) ∧ (¬ x2_33 ≤ (1 : Int32) → (wp_X5_isFree x2_33 v_found a_primes (fun (r40 : Int32) => ((¬ r40 = 0 → (Post r17 v_unit (v_unit * x2_33))) ∧ (r40 = 0 → (k33 (x2_33 + (-1))))))))) → k33 x2_33) → k33 n1)))) ∧ (¬ (1 : Int32) ≤ n1 → (Post v_howMany v_least v_greatest)))
set_option maxHeartbeats 4000000 in
set_option maxRecDepth 100000 in
theorem c_X5_noteMultiples (l : Launch) (D : va_G) (cI cZ : ClassId) (o o_primes o_some : Nat) (sz : Nat) (n1 : Int32) (v_found : Int32) (v_unit : Int32) (v_howMany : Int32) (v_least : Int32) (v_greatest : Int32) (a_primes : Nat → Int32) (Post : (Int32) → (Int32) → (Int32) → Prop) (h : wp_X5_noteMultiples n1 v_found v_unit v_howMany v_least v_greatest a_primes Post) : Met l yX5_noteMultiples wsX5_noteMultiples rm_X5_noteMultiples (cPc D cI cZ [.ref o, .int n1] (cw_X5_noteMultiples cI cZ o o_primes o_some v_found v_unit v_howMany v_least v_greatest a_primes) sz) (cQv3 D Post (fun m_v_howMany m_v_least m_v_greatest => (cw_X5_noteMultiples cI cZ o o_primes o_some v_found v_unit m_v_howMany m_v_least m_v_greatest a_primes)) (va_A (cw_X5_noteMultiples cI cZ o o_primes o_some v_found v_unit v_howMany v_least v_greatest a_primes) sz)) 0 0 (va_A (cw_X5_noteMultiples cI cZ o o_primes o_some v_found v_unit v_howMany v_least v_greatest a_primes) sz) := by
  refine ent (cc := cX5_noteMultiples) (maxL := 3) (ret := none) (Qc := fun A => cQv3 D Post (fun m_v_howMany m_v_least m_v_greatest => (cw_X5_noteMultiples cI cZ o o_primes o_some v_found v_unit m_v_howMany m_v_least m_v_greatest a_primes)) A) (by decide) rfl (Nat.le_of_ble_eq_true rfl) ?_
  intro p e s m args below meth c A ls Q hQ hsz hx hb hml hr hts hown hlocks hnm hK hP hD hA hS hl
  have hl : lv_has ls 3 [(0, .ref o), (1, .int n1)] := hl
  unfold wp_X5_noteMultiples at h
  refine lv_iload_n hx hb dX5_noteMultiples_0 rfl (lv_at hl 1 rfl) ?_
  refine lv_iconst (v := 1) hx hb dX5_noteMultiples_1 (by decide) ?_
  refine lv_icmp_ge (tgt := 6) hx hb dX5_noteMultiples_2 (by decide) (fun c2 => ?_) (fun c2 => ?_)
  · have h := h.1 c2
    refine lv_aload_n hx hb dX5_noteMultiples_6 rfl (lv_at hl 0 rfl) ?_
    refine lv_iload_n hx hb dX5_noteMultiples_7 rfl (lv_at hl 1 rfl) ?_
    refine lv_aload_n hx hb dX5_noteMultiples_8 rfl (lv_at hl 0 rfl) ?_
    refine va_get (D := D) (ci := 5) (v := .ref o_primes) (C := RX5) (T := TX5) (N := 7) hx hb hts inw_X5_noteMultiples_X5 hown hK.1 hP 0 rfl rfl 0 (by decide) (hts (.fieldLink RX5 9 "PursesShare$SeenSearch" "primes" "[I") (by decide +kernel)) (fun _ h9 => h9) rfl dX5_noteMultiples_9 ?_
    refine lv_aload_n hx hb dX5_noteMultiples_12 rfl (lv_at hl 0 rfl) ?_
    refine va_get (D := D) (ci := 5) (v := .int v_found) (C := RX5) (T := TX5) (N := 7) hx hb hts inw_X5_noteMultiples_X5 hown hK.1 hP 0 rfl rfl 2 (by decide) (hts (.fieldLink RX5 65 "PursesShare$SeenSearch" "found" "I") (by decide +kernel)) (fun _ h9 => h9) rfl dX5_noteMultiples_13 ?_
    refine lv_iconst (v := 0) hx hb dX5_noteMultiples_16 (by decide) ?_
    refine call_i0 (va_runS (As := [.int n1, .ref o_primes, .int v_found, .int (0 : Int32)]) (rest := [.ref o]) ⟨hx, hb, hml, hown, hts⟩ (c_X5_countFree l 8 D cI cZ o_primes (Array.size s.heap) n1 v_found (0 : Int32) a_primes _ h) (va_cwS 4 hts gX5_noteMultiples_X5_countFree rfl rfl rfl (by decide +kernel) ⟨Nat.le_of_ble_eq_true rfl, Nat.le_of_ble_eq_true rfl⟩) (preS_of hP hD hK [1] rfl rfl) rfl rfl hl.1 rfl (lv_room (Nat.le_of_ble_eq_true rfl)) dX5_noteMultiples_17 ⟨Nat.zero_le _, Nat.zero_le _⟩) hP hD hS hA [1] rfl ((cw_X5_noteMultiples cI cZ o o_primes o_some v_found v_unit v_howMany v_least v_greatest a_primes)) (rfl) (rfl) (fun r17 H locs h hP hD hS => ?_)
    refine va_put (D := D) (ci := 5) (v := .int r17) (ty := .int) (C := RX5) (T := TX5) (N := 7) hx hb hts inw_X5_noteMultiples_X5 tyX5 tyX5_ok nmX5 hown hK.1 hP hD hS 0 rfl rfl 4 (by decide) (hts (.fieldLink RX5 18 "PursesShare$SeenSearch" "howMany" "I") (by decide +kernel)) (fun _ h9 => h9) rfl (by decide +kernel) rfl rfl (Nat.le_of_ble_eq_true rfl) dX5_noteMultiples_20 (fun H locs hP hD hS => ?_)
    have hP : va_P D vwCl (cw_X5_noteMultiples cI cZ o o_primes o_some v_found v_unit r17 v_least v_greatest a_primes) H := hP
    have hD : va_D A (cw_X5_noteMultiples cI cZ o o_primes o_some v_found v_unit r17 v_least v_greatest a_primes) := hD
    refine lv_aload_n hx hb dX5_noteMultiples_23 rfl (lv_at hl 0 rfl) ?_
    refine lv_aload_n hx hb dX5_noteMultiples_24 rfl (lv_at hl 0 rfl) ?_
    refine va_get (D := D) (ci := 5) (v := .int v_unit) (C := RX5) (T := TX5) (N := 7) hx hb hts inw_X5_noteMultiples_X5 hown hK.1 hP 0 rfl rfl 3 (by decide) (hts (.fieldLink RX5 49 "PursesShare$SeenSearch" "unit" "I") (by decide +kernel)) (fun _ h9 => h9) rfl dX5_noteMultiples_25 ?_
    refine va_put (D := D) (ci := 5) (v := .int v_unit) (ty := .int) (C := RX5) (T := TX5) (N := 7) hx hb hts inw_X5_noteMultiples_X5 tyX5 tyX5_ok nmX5 hown hK.1 hP hD hS 0 rfl rfl 5 (by decide) (hts (.fieldLink RX5 22 "PursesShare$SeenSearch" "least" "I") (by decide +kernel)) (fun _ h9 => h9) rfl (by decide +kernel) rfl rfl (Nat.le_of_ble_eq_true rfl) dX5_noteMultiples_28 (fun H locs hP hD hS => ?_)
    have hP : va_P D vwCl (cw_X5_noteMultiples cI cZ o o_primes o_some v_found v_unit r17 v_unit v_greatest a_primes) H := hP
    have hD : va_D A (cw_X5_noteMultiples cI cZ o o_primes o_some v_found v_unit r17 v_unit v_greatest a_primes) := hD
    refine lv_iload_n hx hb dX5_noteMultiples_31 rfl (lv_at hl 1 rfl) ?_
    refine lv_istore_n (lv' := [(2, .int n1), (0, .ref o), (1, .int n1)]) hx hb dX5_noteMultiples_32 rfl hl (by decide) rfl (fun ls hl => ?_)
    refine h (fun x2_33 => ∀ (H : Heap) (locs : List Loc) (ls : Array Slot), lv_has ls 3 [(0, .ref o), (1, .int n1), (2, .int x2_33)] → va_P D vwCl (cw_X5_noteMultiples cI cZ o o_primes o_some v_found v_unit r17 v_unit v_greatest a_primes) H → va_D A (cw_X5_noteMultiples cI cZ o o_primes o_some v_found v_unit r17 v_unit v_greatest a_primes) → va_S A s.heap H locs → W p l e rm_X5_noteMultiples s m args below meth c H locs 0 0 Q (F0 m 33 ls [])) ?_ H locs ls (lv_sub hl [1, 2, 0] rfl) hP hD hS
    intro x2_33 h H locs ls hl hP hD hS
    refine lv_iload_n hx hb dX5_noteMultiples_33 rfl (lv_at hl 2 rfl) ?_
    refine lv_iconst (v := 1) hx hb dX5_noteMultiples_34 (by decide) ?_
    refine lv_icmp_le (tgt := 52) hx hb dX5_noteMultiples_35 (by decide) (fun c35 => ?_) (fun c35 => ?_)
    · have h := h.1 c35
      refine lv_aload_n hx hb dX5_noteMultiples_52 rfl (lv_at hl 0 rfl) ?_
      refine lv_aload_n hx hb dX5_noteMultiples_53 rfl (lv_at hl 0 rfl) ?_
      refine va_get (D := D) (ci := 5) (v := .int v_unit) (C := RX5) (T := TX5) (N := 7) hx hb hts inw_X5_noteMultiples_X5 hown hK.1 hP 0 rfl rfl 3 (by decide) (hts (.fieldLink RX5 49 "PursesShare$SeenSearch" "unit" "I") (by decide +kernel)) (fun _ h9 => h9) rfl dX5_noteMultiples_54 ?_
      refine lv_iload_n hx hb dX5_noteMultiples_57 rfl (lv_at hl 2 rfl) ?_
      refine lv_imul hx hb dX5_noteMultiples_58 ?_
      refine va_put (D := D) (ci := 5) (v := .int (v_unit * x2_33)) (ty := .int) (C := RX5) (T := TX5) (N := 7) hx hb hts inw_X5_noteMultiples_X5 tyX5 tyX5_ok nmX5 hown hK.1 hP hD hS 0 rfl rfl 6 (by decide) (hts (.fieldLink RX5 25 "PursesShare$SeenSearch" "greatest" "I") (by decide +kernel)) (fun _ h9 => h9) rfl (by decide +kernel) rfl rfl (Nat.le_of_ble_eq_true rfl) dX5_noteMultiples_59 (fun H locs hP hD hS => ?_)
      have hP : va_P D vwCl (cw_X5_noteMultiples cI cZ o o_primes o_some v_found v_unit r17 v_unit (v_unit * x2_33) a_primes) H := hP
      have hD : va_D A (cw_X5_noteMultiples cI cZ o o_primes o_some v_found v_unit r17 v_unit (v_unit * x2_33) a_primes) := hD
      exact ret_v3 hx hb hr hlocks hQ hS r17 v_unit (v_unit * x2_33) hP h dX5_noteMultiples_62
    · have h := h.2 c35
      refine lv_aload_n hx hb dX5_noteMultiples_38 rfl (lv_at hl 0 rfl) ?_
      refine lv_iload_n hx hb dX5_noteMultiples_39 rfl (lv_at hl 2 rfl) ?_
      refine call_i0 (va_runV (As := [.int x2_33]) (rest := []) ⟨hx, hb, hml, hown, hts⟩ (c_X5_isFree l D cI cZ o o_primes o_some (Array.size H) x2_33 v_found v_unit r17 v_unit v_greatest a_primes _ h) (cwV 1 hts gX5_noteMultiples_X5_isFree rfl rfl rfl (by decide +kernel) ⟨Nat.le_of_ble_eq_true rfl, Nat.le_of_ble_eq_true rfl⟩) (preV_of hP hD hK [0, 1] rfl rfl 0 5 rfl rfl rfl) rfl rfl hl.1 rfl (lv_room (Nat.le_of_ble_eq_true rfl)) dX5_noteMultiples_40 ⟨Nat.zero_le _, Nat.zero_le _⟩) hP hD hS hA [0, 1] rfl ((cw_X5_noteMultiples cI cZ o o_primes o_some v_found v_unit r17 v_unit v_greatest a_primes)) (rfl) (rfl) (fun r40 H locs h hP hD hS => ?_)
      refine lv_if_ne (tgt := 52) hx hb dX5_noteMultiples_43 (by decide) (fun c43 => ?_) (fun c43 => ?_)
      · have h := h.1 c43
        refine lv_aload_n hx hb dX5_noteMultiples_52 rfl (lv_at hl 0 rfl) ?_
        refine lv_aload_n hx hb dX5_noteMultiples_53 rfl (lv_at hl 0 rfl) ?_
        refine va_get (D := D) (ci := 5) (v := .int v_unit) (C := RX5) (T := TX5) (N := 7) hx hb hts inw_X5_noteMultiples_X5 hown hK.1 hP 0 rfl rfl 3 (by decide) (hts (.fieldLink RX5 49 "PursesShare$SeenSearch" "unit" "I") (by decide +kernel)) (fun _ h9 => h9) rfl dX5_noteMultiples_54 ?_
        refine lv_iload_n hx hb dX5_noteMultiples_57 rfl (lv_at hl 2 rfl) ?_
        refine lv_imul hx hb dX5_noteMultiples_58 ?_
        refine va_put (D := D) (ci := 5) (v := .int (v_unit * x2_33)) (ty := .int) (C := RX5) (T := TX5) (N := 7) hx hb hts inw_X5_noteMultiples_X5 tyX5 tyX5_ok nmX5 hown hK.1 hP hD hS 0 rfl rfl 6 (by decide) (hts (.fieldLink RX5 25 "PursesShare$SeenSearch" "greatest" "I") (by decide +kernel)) (fun _ h9 => h9) rfl (by decide +kernel) rfl rfl (Nat.le_of_ble_eq_true rfl) dX5_noteMultiples_59 (fun H locs hP hD hS => ?_)
        have hP : va_P D vwCl (cw_X5_noteMultiples cI cZ o o_primes o_some v_found v_unit r17 v_unit (v_unit * x2_33) a_primes) H := hP
        have hD : va_D A (cw_X5_noteMultiples cI cZ o o_primes o_some v_found v_unit r17 v_unit (v_unit * x2_33) a_primes) := hD
        exact ret_v3 hx hb hr hlocks hQ hS r17 v_unit (v_unit * x2_33) hP h dX5_noteMultiples_62
      · have h := h.2 c43
        refine lv_iinc (v := (x2_33 + (-1))) (lv' := [(2, .int (x2_33 + (-1))), (0, .ref o), (1, .int n1)]) hx hb dX5_noteMultiples_46 hl (k := 2) rfl rfl (by decide) rfl (fun ls hl => ?_)
        refine lv_goto (tgt := 33) hx hb dX5_noteMultiples_49 (by decide) ?_
        exact h H locs ls (lv_sub hl [1, 2, 0] rfl) hP hD hS
  · have h := h.2 c2
    exact ret_v3 hx hb hr hlocks hQ hS v_howMany v_least v_greatest hP h dX5_noteMultiples_5
abbrev rm_X5_find : Room := { frames := 12, cells := 0, slots := 0, locals := 332 }
abbrev cw_X5_find (cI cZ : ClassId) (o o_primes o_some o_p1 o_p1_purses o_p1_firsts o_p1_seconds o_p1_firstsHad o_p1_secondsHad o_p1_seenSums o_p1_seenShared : Nat) (v_found : Int32) (v_unit : Int32) (v_howMany : Int32) (v_least : Int32) (v_greatest : Int32) (a_primes : Nat → Int32) (a_some : Nat → Int32) (v_p1_filled : Int32) (v_p1_people : Int32) (v_p1_lawNumber : Int32) (v_p1_made : Int32) (v_p1_seen : Int32) (a_p1_seenSums : Nat → Int32) (a_p1_seenShared : Nat → Int32) : va_W := [(o, .inr (5, [.ref o_primes, .ref o_some, .int v_found, .int v_unit, .int v_howMany, .int v_least, .int v_greatest])), (o_primes, .inl (cI, 48, .inl a_primes)), (o_some, .inl (cI, 6, .inl a_some)), (o_p1, .inr (1, [.int v_p1_filled, .int v_p1_people, .int v_p1_lawNumber, .ref o_p1_purses, .int v_p1_made, .ref o_p1_firsts, .ref o_p1_seconds, .ref o_p1_firstsHad, .ref o_p1_secondsHad, .int v_p1_seen, .ref o_p1_seenSums, .ref o_p1_seenShared])), (o_p1_seenSums, .inl (cI, 8, .inl a_p1_seenSums)), (o_p1_seenShared, .inl (cI, 8, .inl a_p1_seenShared))]
theorem inw_X5_find_X1 : ∀ w ∈ u_ws RX1 TX1 12, w ∈ wsX5_find := by decide +kernel
theorem inw_X5_find_X5 : ∀ w ∈ u_ws RX5 TX5 7, w ∈ wsX5_find := by decide +kernel
def wp_X5_find (n2 : Int32) (v_found : Int32) (v_unit : Int32) (v_howMany : Int32) (v_least : Int32) (v_greatest : Int32) (a_primes : Nat → Int32) (a_some : Nat → Int32) (v_p1_seen : Int32) (a_p1_seenSums : Nat → Int32) (a_p1_seenShared : Nat → Int32) (Post : (Int32) → (Int32) → (Int32) → (Int32) → (Int32) → (Nat → Int32) → (Nat → Int32) → Prop) : Prop := (wp_X5_countSharedNothing v_p1_seen a_p1_seenShared (fun (r18 : Int32) => ((¬ r18 = v_p1_seen → ((¬ r18 = 0 → (Post v_found v_unit (0 : Int32) (-9 : Int32) (-9 : Int32) a_primes a_some)) ∧ (r18 = 0 → (wp_X5_findUnit n2 v_unit v_p1_seen a_p1_seenSums a_p1_seenShared (fun (r56 : Int32) (v_unit_56 : Int32) => ((r56 = 0 → (Post v_found v_unit_56 (0 : Int32) (-9 : Int32) (-9 : Int32) a_primes a_some)) ∧ (¬ r56 = 0 → (wp_X5_findPrimes v_found v_unit_56 a_primes a_some v_p1_seen a_p1_seenSums a_p1_seenShared (fun (r64 : Int32) (v_found_64 : Int32) (a_primes_64 : Nat → Int32) (a_some_64 : Nat → Int32) => ((r64 = 0 → (Post v_found_64 v_unit_56 (0 : Int32) (-9 : Int32) (-9 : Int32) a_primes_64 a_some_64)) ∧ (¬ r64 = 0 → (¬ v_unit_56 = 0 ∧ (wp_X5_noteMultiples (n2 / v_unit_56) v_found_64 v_unit_56 (0 : Int32) (-9 : Int32) (-9 : Int32) a_primes_64 (fun (v_howMany_77 : Int32) (v_least_77 : Int32) (v_greatest_77 : Int32) => (Post v_found_64 v_unit_56 v_howMany_77 v_least_77 v_greatest_77 a_primes_64 a_some_64))))))))))))))) ∧ (r18 = v_p1_seen → ((¬ v_p1_seen = 0 → (wp_X5_noteEmptyPurse (0 : Int32) (0 : Int32) (-9 : Int32) (-9 : Int32) (fun (v_howMany_43 : Int32) (v_least_43 : Int32) (v_greatest_43 : Int32) => (Post v_found v_unit v_howMany_43 v_least_43 v_greatest_43 a_primes a_some)))) ∧ (v_p1_seen = 0 → (wp_X5_noteEmptyPurse n2 (0 : Int32) (-9 : Int32) (-9 : Int32) (fun (v_howMany_43 : Int32) (v_least_43 : Int32) (v_greatest_43 : Int32) => (Post v_found v_unit v_howMany_43 v_least_43 v_greatest_43 a_primes a_some)))))))))
set_option maxHeartbeats 4000000 in
set_option maxRecDepth 100000 in
theorem c_X5_find (l : Launch) (D : va_G) (cI cZ : ClassId) (o o_primes o_some o_p1 o_p1_purses o_p1_firsts o_p1_seconds o_p1_firstsHad o_p1_secondsHad o_p1_seenSums o_p1_seenShared : Nat) (sz : Nat) (n2 : Int32) (v_found : Int32) (v_unit : Int32) (v_howMany : Int32) (v_least : Int32) (v_greatest : Int32) (a_primes : Nat → Int32) (a_some : Nat → Int32) (v_p1_filled : Int32) (v_p1_people : Int32) (v_p1_lawNumber : Int32) (v_p1_made : Int32) (v_p1_seen : Int32) (a_p1_seenSums : Nat → Int32) (a_p1_seenShared : Nat → Int32) (Post : (Int32) → (Int32) → (Int32) → (Int32) → (Int32) → (Nat → Int32) → (Nat → Int32) → Prop) (h : wp_X5_find n2 v_found v_unit v_howMany v_least v_greatest a_primes a_some v_p1_seen a_p1_seenSums a_p1_seenShared Post) : Met l yX5_find wsX5_find rm_X5_find (cPc D cI cZ [.ref o, .ref o_p1, .int n2] (cw_X5_find cI cZ o o_primes o_some o_p1 o_p1_purses o_p1_firsts o_p1_seconds o_p1_firstsHad o_p1_secondsHad o_p1_seenSums o_p1_seenShared v_found v_unit v_howMany v_least v_greatest a_primes a_some v_p1_filled v_p1_people v_p1_lawNumber v_p1_made v_p1_seen a_p1_seenSums a_p1_seenShared) sz) (cQv7 D Post (fun m_v_found m_v_unit m_v_howMany m_v_least m_v_greatest m_a_primes m_a_some => (cw_X5_find cI cZ o o_primes o_some o_p1 o_p1_purses o_p1_firsts o_p1_seconds o_p1_firstsHad o_p1_secondsHad o_p1_seenSums o_p1_seenShared m_v_found m_v_unit m_v_howMany m_v_least m_v_greatest m_a_primes m_a_some v_p1_filled v_p1_people v_p1_lawNumber v_p1_made v_p1_seen a_p1_seenSums a_p1_seenShared)) (va_A (cw_X5_find cI cZ o o_primes o_some o_p1 o_p1_purses o_p1_firsts o_p1_seconds o_p1_firstsHad o_p1_secondsHad o_p1_seenSums o_p1_seenShared v_found v_unit v_howMany v_least v_greatest a_primes a_some v_p1_filled v_p1_people v_p1_lawNumber v_p1_made v_p1_seen a_p1_seenSums a_p1_seenShared) sz)) 0 0 (va_A (cw_X5_find cI cZ o o_primes o_some o_p1 o_p1_purses o_p1_firsts o_p1_seconds o_p1_firstsHad o_p1_secondsHad o_p1_seenSums o_p1_seenShared v_found v_unit v_howMany v_least v_greatest a_primes a_some v_p1_filled v_p1_people v_p1_lawNumber v_p1_made v_p1_seen a_p1_seenSums a_p1_seenShared) sz) := by
  refine ent (cc := cX5_find) (maxL := 4) (ret := none) (Qc := fun A => cQv7 D Post (fun m_v_found m_v_unit m_v_howMany m_v_least m_v_greatest m_a_primes m_a_some => (cw_X5_find cI cZ o o_primes o_some o_p1 o_p1_purses o_p1_firsts o_p1_seconds o_p1_firstsHad o_p1_secondsHad o_p1_seenSums o_p1_seenShared m_v_found m_v_unit m_v_howMany m_v_least m_v_greatest m_a_primes m_a_some v_p1_filled v_p1_people v_p1_lawNumber v_p1_made v_p1_seen a_p1_seenSums a_p1_seenShared)) A) (by decide) rfl (Nat.le_of_ble_eq_true rfl) ?_
  intro p e s m args below meth c A ls Q hQ hsz hx hb hml hr hts hown hlocks hnm hK hP hD hA hS hl
  have hl : lv_has ls 4 [(0, .ref o), (1, .ref o_p1), (2, .int n2)] := hl
  unfold wp_X5_find at h
  refine lv_aload_n hx hb dX5_find_0 rfl (lv_at hl 0 rfl) ?_
  refine lv_iconst (v := 0) hx hb dX5_find_1 (by decide) ?_
  refine va_put (D := D) (ci := 5) (v := .int (0 : Int32)) (ty := .int) (C := RX5) (T := TX5) (N := 7) hx hb hts inw_X5_find_X5 tyX5 tyX5_ok nmX5 hown hK.1 hP hD hS 0 rfl rfl 4 (by decide) (hts (.fieldLink RX5 18 "PursesShare$SeenSearch" "howMany" "I") (by decide +kernel)) (fun _ h9 => h9) rfl (by decide +kernel) rfl rfl (Nat.le_of_ble_eq_true rfl) dX5_find_2 (fun H locs hP hD hS => ?_)
  have hP : va_P D vwCl (cw_X5_find cI cZ o o_primes o_some o_p1 o_p1_purses o_p1_firsts o_p1_seconds o_p1_firstsHad o_p1_secondsHad o_p1_seenSums o_p1_seenShared v_found v_unit (0 : Int32) v_least v_greatest a_primes a_some v_p1_filled v_p1_people v_p1_lawNumber v_p1_made v_p1_seen a_p1_seenSums a_p1_seenShared) H := hP
  have hD : va_D A (cw_X5_find cI cZ o o_primes o_some o_p1 o_p1_purses o_p1_firsts o_p1_seconds o_p1_firstsHad o_p1_secondsHad o_p1_seenSums o_p1_seenShared v_found v_unit (0 : Int32) v_least v_greatest a_primes a_some v_p1_filled v_p1_people v_p1_lawNumber v_p1_made v_p1_seen a_p1_seenSums a_p1_seenShared) := hD
  refine lv_aload_n hx hb dX5_find_5 rfl (lv_at hl 0 rfl) ?_
  refine lv_bipush (v := -9) hx hb dX5_find_6 (by decide) ?_
  refine va_put (D := D) (ci := 5) (v := .int (-9 : Int32)) (ty := .int) (C := RX5) (T := TX5) (N := 7) hx hb hts inw_X5_find_X5 tyX5 tyX5_ok nmX5 hown hK.1 hP hD hS 0 rfl rfl 5 (by decide) (hts (.fieldLink RX5 22 "PursesShare$SeenSearch" "least" "I") (by decide +kernel)) (fun _ h9 => h9) rfl (by decide +kernel) rfl rfl (Nat.le_of_ble_eq_true rfl) dX5_find_8 (fun H locs hP hD hS => ?_)
  have hP : va_P D vwCl (cw_X5_find cI cZ o o_primes o_some o_p1 o_p1_purses o_p1_firsts o_p1_seconds o_p1_firstsHad o_p1_secondsHad o_p1_seenSums o_p1_seenShared v_found v_unit (0 : Int32) (-9 : Int32) v_greatest a_primes a_some v_p1_filled v_p1_people v_p1_lawNumber v_p1_made v_p1_seen a_p1_seenSums a_p1_seenShared) H := hP
  have hD : va_D A (cw_X5_find cI cZ o o_primes o_some o_p1 o_p1_purses o_p1_firsts o_p1_seconds o_p1_firstsHad o_p1_secondsHad o_p1_seenSums o_p1_seenShared v_found v_unit (0 : Int32) (-9 : Int32) v_greatest a_primes a_some v_p1_filled v_p1_people v_p1_lawNumber v_p1_made v_p1_seen a_p1_seenSums a_p1_seenShared) := hD
  refine lv_aload_n hx hb dX5_find_11 rfl (lv_at hl 0 rfl) ?_
  refine lv_bipush (v := -9) hx hb dX5_find_12 (by decide) ?_
  refine va_put (D := D) (ci := 5) (v := .int (-9 : Int32)) (ty := .int) (C := RX5) (T := TX5) (N := 7) hx hb hts inw_X5_find_X5 tyX5 tyX5_ok nmX5 hown hK.1 hP hD hS 0 rfl rfl 6 (by decide) (hts (.fieldLink RX5 25 "PursesShare$SeenSearch" "greatest" "I") (by decide +kernel)) (fun _ h9 => h9) rfl (by decide +kernel) rfl rfl (Nat.le_of_ble_eq_true rfl) dX5_find_14 (fun H locs hP hD hS => ?_)
  have hP : va_P D vwCl (cw_X5_find cI cZ o o_primes o_some o_p1 o_p1_purses o_p1_firsts o_p1_seconds o_p1_firstsHad o_p1_secondsHad o_p1_seenSums o_p1_seenShared v_found v_unit (0 : Int32) (-9 : Int32) (-9 : Int32) a_primes a_some v_p1_filled v_p1_people v_p1_lawNumber v_p1_made v_p1_seen a_p1_seenSums a_p1_seenShared) H := hP
  have hD : va_D A (cw_X5_find cI cZ o o_primes o_some o_p1 o_p1_purses o_p1_firsts o_p1_seconds o_p1_firstsHad o_p1_secondsHad o_p1_seenSums o_p1_seenShared v_found v_unit (0 : Int32) (-9 : Int32) (-9 : Int32) a_primes a_some v_p1_filled v_p1_people v_p1_lawNumber v_p1_made v_p1_seen a_p1_seenSums a_p1_seenShared) := hD
  refine lv_aload_n hx hb dX5_find_17 rfl (lv_at hl 1 rfl) ?_
  refine call_i0 (va_runS (As := [.ref o_p1]) (rest := []) ⟨hx, hb, hml, hown, hts⟩ (c_X5_countSharedNothing l D cI cZ o_p1 o_p1_purses o_p1_firsts o_p1_seconds o_p1_firstsHad o_p1_secondsHad o_p1_seenSums o_p1_seenShared (Array.size H) v_p1_filled v_p1_people v_p1_lawNumber v_p1_made v_p1_seen a_p1_seenShared _ h) (va_cwS 1 hts gX5_find_X5_countSharedNothing rfl rfl rfl (by decide +kernel) ⟨Nat.le_of_ble_eq_true rfl, Nat.le_of_ble_eq_true rfl⟩) (preS_of hP hD hK [3, 5] rfl rfl) rfl rfl hl.1 rfl (lv_room (Nat.le_of_ble_eq_true rfl)) dX5_find_18 ⟨Nat.zero_le _, Nat.zero_le _⟩) hP hD hS hA [3, 5] rfl ((cw_X5_find cI cZ o o_primes o_some o_p1 o_p1_purses o_p1_firsts o_p1_seconds o_p1_firstsHad o_p1_secondsHad o_p1_seenSums o_p1_seenShared v_found v_unit (0 : Int32) (-9 : Int32) (-9 : Int32) a_primes a_some v_p1_filled v_p1_people v_p1_lawNumber v_p1_made v_p1_seen a_p1_seenSums a_p1_seenShared)) (rfl) (rfl) (fun r18 H locs h hP hD hS => ?_)
  refine lv_istore_n (lv' := [(3, .int r18), (0, .ref o), (1, .ref o_p1), (2, .int n2)]) hx hb dX5_find_21 rfl hl (by decide) rfl (fun ls hl => ?_)
  refine lv_iload_n hx hb dX5_find_22 rfl (lv_at hl 0 rfl) ?_
  refine lv_aload_n hx hb dX5_find_23 rfl (lv_at hl 2 rfl) ?_
  refine va_getN (D := D) (ci := 1) (v := .int v_p1_seen) (C := RX1) (T := TX1) (N := 12) hx hb hts inw_X5_find_X1 hown hK.1 hP 3 rfl rfl 9 (by decide) (nF_25 hK) (fun _ h9 => h9) rfl dX5_find_24 ?_
  refine lv_icmp_ne (tgt := 49) hx hb dX5_find_27 (by decide) (fun c27 => ?_) (fun c27 => ?_)
  · have h := h.1 c27
    refine lv_iload_n hx hb dX5_find_49 rfl (lv_at hl 0 rfl) ?_
    refine lv_if_ne (tgt := 80) hx hb dX5_find_50 (by decide) (fun c50 => ?_) (fun c50 => ?_)
    · have h := h.1 c50
      exact ret_v7 hx hb hr hlocks hQ hS v_found v_unit (0 : Int32) (-9 : Int32) (-9 : Int32) a_primes a_some hP h dX5_find_80
    · have h := h.2 c50
      refine lv_aload_n hx hb dX5_find_53 rfl (lv_at hl 1 rfl) ?_
      refine lv_aload_n hx hb dX5_find_54 rfl (lv_at hl 2 rfl) ?_
      refine lv_iload_n hx hb dX5_find_55 rfl (lv_at hl 3 rfl) ?_
      refine call_i1 (va_runV (As := [.ref o_p1, .int n2]) (rest := []) ⟨hx, hb, hml, hown, hts⟩ (c_X5_findUnit l D cI cZ o o_primes o_some o_p1 o_p1_purses o_p1_firsts o_p1_seconds o_p1_firstsHad o_p1_secondsHad o_p1_seenSums o_p1_seenShared (Array.size H) n2 v_found v_unit (0 : Int32) (-9 : Int32) (-9 : Int32) v_p1_filled v_p1_people v_p1_lawNumber v_p1_made v_p1_seen a_p1_seenSums a_p1_seenShared _ h) (cwV 2 hts gX5_find_X5_findUnit rfl rfl rfl (by decide +kernel) ⟨Nat.le_of_ble_eq_true rfl, Nat.le_of_ble_eq_true rfl⟩) (preV_of hP hD hK [0, 3, 4, 5] rfl rfl 0 5 rfl rfl rfl) rfl rfl hl.1 rfl (lv_room (Nat.le_of_ble_eq_true rfl)) dX5_find_56 ⟨Nat.zero_le _, Nat.zero_le _⟩) hP hD hS hA [0, 3, 4, 5] rfl (fun v_unit_56 => (cw_X5_find cI cZ o o_primes o_some o_p1 o_p1_purses o_p1_firsts o_p1_seconds o_p1_firstsHad o_p1_secondsHad o_p1_seenSums o_p1_seenShared v_found v_unit_56 (0 : Int32) (-9 : Int32) (-9 : Int32) a_primes a_some v_p1_filled v_p1_people v_p1_lawNumber v_p1_made v_p1_seen a_p1_seenSums a_p1_seenShared)) (fun _ => rfl) (fun _ => rfl) (fun r56 v_unit_56 H locs h hP hD hS => ?_)
      refine lv_if_eq (tgt := 80) hx hb dX5_find_59 (by decide) (fun c59 => ?_) (fun c59 => ?_)
      · have h := h.1 c59
        exact ret_v7 hx hb hr hlocks hQ hS v_found v_unit_56 (0 : Int32) (-9 : Int32) (-9 : Int32) a_primes a_some hP h dX5_find_80
      · have h := h.2 c59
        refine lv_aload_n hx hb dX5_find_62 rfl (lv_at hl 1 rfl) ?_
        refine lv_aload_n hx hb dX5_find_63 rfl (lv_at hl 2 rfl) ?_
        refine call_i3 (va_runV (As := [.ref o_p1]) (rest := []) ⟨hx, hb, hml, hown, hts⟩ (c_X5_findPrimes l D cI cZ o o_primes o_some o_p1 o_p1_purses o_p1_firsts o_p1_seconds o_p1_firstsHad o_p1_secondsHad o_p1_seenSums o_p1_seenShared (Array.size H) v_found v_unit_56 (0 : Int32) (-9 : Int32) (-9 : Int32) a_primes a_some v_p1_filled v_p1_people v_p1_lawNumber v_p1_made v_p1_seen a_p1_seenSums a_p1_seenShared _ h) (cwV 1 hts gX5_find_X5_findPrimes rfl rfl rfl (by decide +kernel) ⟨Nat.le_of_ble_eq_true rfl, Nat.le_of_ble_eq_true rfl⟩) (preV_of hP hD hK [0, 1, 2, 3, 4, 5] rfl rfl 0 5 rfl rfl rfl) rfl rfl hl.1 rfl (lv_room (Nat.le_of_ble_eq_true rfl)) dX5_find_64 ⟨Nat.zero_le _, Nat.zero_le _⟩) hP hD hS hA [0, 1, 2, 3, 4, 5] rfl (fun v_found_64 a_primes_64 a_some_64 => (cw_X5_find cI cZ o o_primes o_some o_p1 o_p1_purses o_p1_firsts o_p1_seconds o_p1_firstsHad o_p1_secondsHad o_p1_seenSums o_p1_seenShared v_found_64 v_unit_56 (0 : Int32) (-9 : Int32) (-9 : Int32) a_primes_64 a_some_64 v_p1_filled v_p1_people v_p1_lawNumber v_p1_made v_p1_seen a_p1_seenSums a_p1_seenShared)) (fun _ _ _ => rfl) (fun _ _ _ => rfl) (fun r64 v_found_64 a_primes_64 a_some_64 H locs h hP hD hS => ?_)
        refine lv_if_eq (tgt := 80) hx hb dX5_find_67 (by decide) (fun c67 => ?_) (fun c67 => ?_)
        · have h := h.1 c67
          exact ret_v7 hx hb hr hlocks hQ hS v_found_64 v_unit_56 (0 : Int32) (-9 : Int32) (-9 : Int32) a_primes_64 a_some_64 hP h dX5_find_80
        · have h := h.2 c67
          refine lv_aload_n hx hb dX5_find_70 rfl (lv_at hl 1 rfl) ?_
          refine lv_iload_n hx hb dX5_find_71 rfl (lv_at hl 3 rfl) ?_
          refine lv_aload_n hx hb dX5_find_72 rfl (lv_at hl 1 rfl) ?_
          refine va_get (D := D) (ci := 5) (v := .int v_unit_56) (C := RX5) (T := TX5) (N := 7) hx hb hts inw_X5_find_X5 hown hK.1 hP 0 rfl rfl 3 (by decide) (hts (.fieldLink RX5 49 "PursesShare$SeenSearch" "unit" "I") (by decide +kernel)) (fun _ h9 => h9) rfl dX5_find_73 ?_
          have h0 := h.1
          have h := h.2
          refine lv_idiv hx hb dX5_find_76 h0 ?_
          refine call_v3 (va_runV (As := [.int (n2 / v_unit_56)]) (rest := []) ⟨hx, hb, hml, hown, hts⟩ (c_X5_noteMultiples l D cI cZ o o_primes o_some (Array.size H) (n2 / v_unit_56) v_found_64 v_unit_56 (0 : Int32) (-9 : Int32) (-9 : Int32) a_primes_64 _ h) (cwV 1 hts gX5_find_X5_noteMultiples rfl rfl rfl (by decide +kernel) ⟨Nat.le_of_ble_eq_true rfl, Nat.le_of_ble_eq_true rfl⟩) (preV_of hP hD hK [0, 1] rfl rfl 0 5 rfl rfl rfl) rfl rfl hl.1 rfl (lv_room (Nat.le_of_ble_eq_true rfl)) dX5_find_77 ⟨Nat.zero_le _, Nat.zero_le _⟩) hP hD hS hA [0, 1] rfl (fun v_howMany_77 v_least_77 v_greatest_77 => (cw_X5_find cI cZ o o_primes o_some o_p1 o_p1_purses o_p1_firsts o_p1_seconds o_p1_firstsHad o_p1_secondsHad o_p1_seenSums o_p1_seenShared v_found_64 v_unit_56 v_howMany_77 v_least_77 v_greatest_77 a_primes_64 a_some_64 v_p1_filled v_p1_people v_p1_lawNumber v_p1_made v_p1_seen a_p1_seenSums a_p1_seenShared)) (fun _ _ _ => rfl) (fun _ _ _ => rfl) (fun v_howMany_77 v_least_77 v_greatest_77 H locs h hP hD hS => ?_)
          exact ret_v7 hx hb hr hlocks hQ hS v_found_64 v_unit_56 v_howMany_77 v_least_77 v_greatest_77 a_primes_64 a_some_64 hP h dX5_find_80
  · have h := h.2 c27
    refine lv_aload_n hx hb dX5_find_30 rfl (lv_at hl 1 rfl) ?_
    refine lv_aload_n hx hb dX5_find_31 rfl (lv_at hl 2 rfl) ?_
    refine va_getN (D := D) (ci := 1) (v := .int v_p1_seen) (C := RX1) (T := TX1) (N := 12) hx hb hts inw_X5_find_X1 hown hK.1 hP 3 rfl rfl 9 (by decide) (nF_25 hK) (fun _ h9 => h9) rfl dX5_find_32 ?_
    refine lv_if_ne (tgt := 42) hx hb dX5_find_35 (by decide) (fun c35 => ?_) (fun c35 => ?_)
    · have h := h.1 c35
      refine lv_iconst (v := 0) hx hb dX5_find_42 (by decide) ?_
      refine call_v3 (va_runV (As := [.int (0 : Int32)]) (rest := []) ⟨hx, hb, hml, hown, hts⟩ (c_X5_noteEmptyPurse l D cI cZ o o_primes o_some (Array.size H) (0 : Int32) v_found v_unit (0 : Int32) (-9 : Int32) (-9 : Int32) _ h) (cwV 1 hts gX5_find_X5_noteEmptyPurse rfl rfl rfl (by decide +kernel) ⟨Nat.le_of_ble_eq_true rfl, Nat.le_of_ble_eq_true rfl⟩) (preV_of hP hD hK [0] rfl rfl 0 5 rfl rfl rfl) rfl rfl hl.1 rfl (lv_room (Nat.le_of_ble_eq_true rfl)) dX5_find_43 ⟨Nat.zero_le _, Nat.zero_le _⟩) hP hD hS hA [0] rfl (fun v_howMany_43 v_least_43 v_greatest_43 => (cw_X5_find cI cZ o o_primes o_some o_p1 o_p1_purses o_p1_firsts o_p1_seconds o_p1_firstsHad o_p1_secondsHad o_p1_seenSums o_p1_seenShared v_found v_unit v_howMany_43 v_least_43 v_greatest_43 a_primes a_some v_p1_filled v_p1_people v_p1_lawNumber v_p1_made v_p1_seen a_p1_seenSums a_p1_seenShared)) (fun _ _ _ => rfl) (fun _ _ _ => rfl) (fun v_howMany_43 v_least_43 v_greatest_43 H locs h hP hD hS => ?_)
      refine lv_goto (tgt := 80) hx hb dX5_find_46 (by decide) ?_
      exact ret_v7 hx hb hr hlocks hQ hS v_found v_unit v_howMany_43 v_least_43 v_greatest_43 a_primes a_some hP h dX5_find_80
    · have h := h.2 c35
      refine lv_iload_n hx hb dX5_find_38 rfl (lv_at hl 3 rfl) ?_
      refine lv_goto (tgt := 43) hx hb dX5_find_39 (by decide) ?_
      refine call_v3 (va_runV (As := [.int n2]) (rest := []) ⟨hx, hb, hml, hown, hts⟩ (c_X5_noteEmptyPurse l D cI cZ o o_primes o_some (Array.size H) n2 v_found v_unit (0 : Int32) (-9 : Int32) (-9 : Int32) _ h) (cwV 1 hts gX5_find_X5_noteEmptyPurse rfl rfl rfl (by decide +kernel) ⟨Nat.le_of_ble_eq_true rfl, Nat.le_of_ble_eq_true rfl⟩) (preV_of hP hD hK [0] rfl rfl 0 5 rfl rfl rfl) rfl rfl hl.1 rfl (lv_room (Nat.le_of_ble_eq_true rfl)) dX5_find_43 ⟨Nat.zero_le _, Nat.zero_le _⟩) hP hD hS hA [0] rfl (fun v_howMany_43 v_least_43 v_greatest_43 => (cw_X5_find cI cZ o o_primes o_some o_p1 o_p1_purses o_p1_firsts o_p1_seconds o_p1_firstsHad o_p1_secondsHad o_p1_seenSums o_p1_seenShared v_found v_unit v_howMany_43 v_least_43 v_greatest_43 a_primes a_some v_p1_filled v_p1_people v_p1_lawNumber v_p1_made v_p1_seen a_p1_seenSums a_p1_seenShared)) (fun _ _ _ => rfl) (fun _ _ _ => rfl) (fun v_howMany_43 v_least_43 v_greatest_43 H locs h hP hD hS => ?_)
      refine lv_goto (tgt := 80) hx hb dX5_find_46 (by decide) ?_
      exact ret_v7 hx hb hr hlocks hQ hS v_found v_unit v_howMany_43 v_least_43 v_greatest_43 a_primes a_some hP h dX5_find_80
abbrev rm_X6_add : Room := { frames := 0, cells := 0, slots := 0, locals := 0 }
abbrev cw_X6_add (cI cZ : ClassId) (o o_bytes o_purses o_meetings : Nat) (v_length : Int32) (v_place : Int32) (v_lawNumber : Int32) (v_people : Int32) (a_bytes : Nat → Int32) : va_W := [(o, .inr (6, [.ref o_bytes, .int v_length, .int v_place, .int v_lawNumber, .int v_people, .ref o_purses, .ref o_meetings])), (o_bytes, .inl (cI, 96, .inl a_bytes))]
theorem inw_X6_add_X6 : ∀ w ∈ u_ws RX6 TX6 7, w ∈ wsX6_add := by decide +kernel
def wp_X6_add (n1 : Int32) (v_length : Int32) (a_bytes : Nat → Int32) (Post : (Int32) → (Nat → Int32) → Prop) : Prop := (((96 : Int32) ≤ v_length → (Post v_length a_bytes)) ∧ (¬ (96 : Int32) ≤ v_length → (vp_in v_length 96 ∧ (Post (v_length + (1 : Int32)) (upd a_bytes (Int32.toNatClampNeg v_length) n1)))))
set_option maxHeartbeats 4000000 in
set_option maxRecDepth 100000 in
theorem c_X6_add (l : Launch) (D : va_G) (cI cZ : ClassId) (o o_bytes o_purses o_meetings : Nat) (sz : Nat) (n1 : Int32) (v_length : Int32) (v_place : Int32) (v_lawNumber : Int32) (v_people : Int32) (a_bytes : Nat → Int32) (Post : (Int32) → (Nat → Int32) → Prop) (h : wp_X6_add n1 v_length a_bytes Post) : Met l yX6_add wsX6_add rm_X6_add (cPc D cI cZ [.ref o, .int n1] (cw_X6_add cI cZ o o_bytes o_purses o_meetings v_length v_place v_lawNumber v_people a_bytes) sz) (cQv2 D Post (fun m_v_length m_a_bytes => (cw_X6_add cI cZ o o_bytes o_purses o_meetings m_v_length v_place v_lawNumber v_people m_a_bytes)) (va_A (cw_X6_add cI cZ o o_bytes o_purses o_meetings v_length v_place v_lawNumber v_people a_bytes) sz)) 0 0 (va_A (cw_X6_add cI cZ o o_bytes o_purses o_meetings v_length v_place v_lawNumber v_people a_bytes) sz) := by
  refine ent (cc := cX6_add) (maxL := 2) (ret := none) (Qc := fun A => cQv2 D Post (fun m_v_length m_a_bytes => (cw_X6_add cI cZ o o_bytes o_purses o_meetings m_v_length v_place v_lawNumber v_people m_a_bytes)) A) (by decide) rfl (Nat.le_of_ble_eq_true rfl) ?_
  intro p e s m args below meth c A ls Q hQ hsz hx hb hml hr hts hown hlocks hnm hK hP hD hA hS hl
  have hl : lv_has ls 2 [(0, .ref o), (1, .int n1)] := hl
  unfold wp_X6_add at h
  refine lv_aload_n hx hb dX6_add_0 rfl (lv_at hl 0 rfl) ?_
  refine va_get (D := D) (ci := 6) (v := .int v_length) (C := RX6) (T := TX6) (N := 7) hx hb hts inw_X6_add_X6 hown hK.1 hP 0 rfl rfl 1 (by decide) (hts (.fieldLink RX6 25 "PursesShare$TownText" "length" "I") (by decide +kernel)) (fun _ h9 => h9) rfl dX6_add_1 ?_
  refine lv_bipush (v := 96) hx hb dX6_add_4 (by decide) ?_
  refine lv_icmp_ge (tgt := 26) hx hb dX6_add_6 (by decide) (fun c6 => ?_) (fun c6 => ?_)
  · have h := h.1 c6
    exact ret_v2 hx hb hr hlocks hQ hS v_length a_bytes hP h dX6_add_26
  · have h := h.2 c6
    refine lv_aload_n hx hb dX6_add_9 rfl (lv_at hl 0 rfl) ?_
    refine va_get (D := D) (ci := 6) (v := .ref o_bytes) (C := RX6) (T := TX6) (N := 7) hx hb hts inw_X6_add_X6 hown hK.1 hP 0 rfl rfl 0 (by decide) (hts (.fieldLink RX6 9 "PursesShare$TownText" "bytes" "[I") (by decide +kernel)) (fun _ h9 => h9) rfl dX6_add_10 ?_
    refine lv_aload_n hx hb dX6_add_13 rfl (lv_at hl 0 rfl) ?_
    refine lv_dup hx hb dX6_add_14 rfl ?_
    refine va_get (D := D) (ci := 6) (v := .int v_length) (C := RX6) (T := TX6) (N := 7) hx hb hts inw_X6_add_X6 hown hK.1 hP 0 rfl rfl 1 (by decide) (hts (.fieldLink RX6 25 "PursesShare$TownText" "length" "I") (by decide +kernel)) (fun _ h9 => h9) rfl dX6_add_15 ?_
    refine lv_dup_x1 hx hb dX6_add_18 rfl rfl ?_
    refine lv_iconst (v := 1) hx hb dX6_add_19 (by decide) ?_
    refine lv_iadd hx hb dX6_add_20 ?_
    refine va_put (D := D) (ci := 6) (v := .int (v_length + (1 : Int32))) (ty := .int) (C := RX6) (T := TX6) (N := 7) hx hb hts inw_X6_add_X6 tyX6 tyX6_ok nmX6 hown hK.1 hP hD hS 0 rfl rfl 1 (by decide) (hts (.fieldLink RX6 25 "PursesShare$TownText" "length" "I") (by decide +kernel)) (fun _ h9 => h9) rfl (by decide +kernel) rfl rfl (Nat.le_of_ble_eq_true rfl) dX6_add_21 (fun H locs hP hD hS => ?_)
    have hP : va_P D vwCl (cw_X6_add cI cZ o o_bytes o_purses o_meetings (v_length + (1 : Int32)) v_place v_lawNumber v_people a_bytes) H := hP
    have hD : va_D A (cw_X6_add cI cZ o o_bytes o_purses o_meetings (v_length + (1 : Int32)) v_place v_lawNumber v_people a_bytes) := hD
    refine lv_iload_n hx hb dX6_add_24 rfl (lv_at hl 1 rfl) ?_
    have h0 := h.1
    have h := h.2
    refine va_iast hx hb hK.1 hP hD hS 1 0 rfl rfl h0 dX6_add_25 (fun H locs hP hD hS => ?_)
    have hP : va_P D vwCl (cw_X6_add cI cZ o o_bytes o_purses o_meetings (v_length + (1 : Int32)) v_place v_lawNumber v_people (upd a_bytes (Int32.toNatClampNeg v_length) n1)) H := hP
    have hD : va_D A (cw_X6_add cI cZ o o_bytes o_purses o_meetings (v_length + (1 : Int32)) v_place v_lawNumber v_people (upd a_bytes (Int32.toNatClampNeg v_length) n1)) := hD
    exact ret_v2 hx hb hr hlocks hQ hS (v_length + (1 : Int32)) (upd a_bytes (Int32.toNatClampNeg v_length) n1) hP h dX6_add_26
abbrev rm_X6_nextIs : Room := { frames := 0, cells := 0, slots := 0, locals := 0 }
abbrev cw_X6_nextIs (cI cZ : ClassId) (o o_bytes o_purses o_meetings : Nat) (v_length : Int32) (v_place : Int32) (v_lawNumber : Int32) (v_people : Int32) (a_bytes : Nat → Int32) : va_W := [(o, .inr (6, [.ref o_bytes, .int v_length, .int v_place, .int v_lawNumber, .int v_people, .ref o_purses, .ref o_meetings])), (o_bytes, .inl (cI, 96, .inl a_bytes))]
theorem inw_X6_nextIs_X6 : ∀ w ∈ u_ws RX6 TX6 7, w ∈ wsX6_nextIs := by decide +kernel
def wp_X6_nextIs (n1 : Int32) (v_length : Int32) (v_place : Int32) (a_bytes : Nat → Int32) (Post : Int32 → Prop) : Prop := ((v_length ≤ v_place → (Post (0 : Int32))) ∧ (¬ v_length ≤ v_place → (vp_in v_place 96 ∧ ((¬ (a_bytes (Int32.toNatClampNeg v_place)) = n1 → (Post (0 : Int32))) ∧ ((a_bytes (Int32.toNatClampNeg v_place)) = n1 → (Post (1 : Int32)))))))
set_option maxHeartbeats 4000000 in
set_option maxRecDepth 100000 in
theorem c_X6_nextIs (l : Launch) (D : va_G) (cI cZ : ClassId) (o o_bytes o_purses o_meetings : Nat) (sz : Nat) (n1 : Int32) (v_length : Int32) (v_place : Int32) (v_lawNumber : Int32) (v_people : Int32) (a_bytes : Nat → Int32) (Post : Int32 → Prop) (h : wp_X6_nextIs n1 v_length v_place a_bytes Post) : Met l yX6_nextIs wsX6_nextIs rm_X6_nextIs (cPc D cI cZ [.ref o, .int n1] (cw_X6_nextIs cI cZ o o_bytes o_purses o_meetings v_length v_place v_lawNumber v_people a_bytes) sz) (cQi0 D Post ((cw_X6_nextIs cI cZ o o_bytes o_purses o_meetings v_length v_place v_lawNumber v_people a_bytes)) (va_A (cw_X6_nextIs cI cZ o o_bytes o_purses o_meetings v_length v_place v_lawNumber v_people a_bytes) sz)) 0 0 (va_A (cw_X6_nextIs cI cZ o o_bytes o_purses o_meetings v_length v_place v_lawNumber v_people a_bytes) sz) := by
  refine ent (cc := cX6_nextIs) (maxL := 2) (ret := (some .boolean)) (Qc := fun A => cQi0 D Post ((cw_X6_nextIs cI cZ o o_bytes o_purses o_meetings v_length v_place v_lawNumber v_people a_bytes)) A) (by decide) rfl (Nat.le_of_ble_eq_true rfl) ?_
  intro p e s m args below meth c A ls Q hQ hsz hx hb hml hr hts hown hlocks hnm hK hP hD hA hS hl
  have hl : lv_has ls 2 [(0, .ref o), (1, .int n1)] := hl
  unfold wp_X6_nextIs at h
  refine lv_aload_n hx hb dX6_nextIs_0 rfl (lv_at hl 0 rfl) ?_
  refine va_get (D := D) (ci := 6) (v := .int v_place) (C := RX6) (T := TX6) (N := 7) hx hb hts inw_X6_nextIs_X6 hown hK.1 hP 0 rfl rfl 2 (by decide) (hts (.fieldLink RX6 29 "PursesShare$TownText" "place" "I") (by decide +kernel)) (fun _ h9 => h9) rfl dX6_nextIs_1 ?_
  refine lv_aload_n hx hb dX6_nextIs_4 rfl (lv_at hl 0 rfl) ?_
  refine va_get (D := D) (ci := 6) (v := .int v_length) (C := RX6) (T := TX6) (N := 7) hx hb hts inw_X6_nextIs_X6 hown hK.1 hP 0 rfl rfl 1 (by decide) (hts (.fieldLink RX6 25 "PursesShare$TownText" "length" "I") (by decide +kernel)) (fun _ h9 => h9) rfl dX6_nextIs_5 ?_
  refine lv_icmp_ge (tgt := 28) hx hb dX6_nextIs_8 (by decide) (fun c8 => ?_) (fun c8 => ?_)
  · have h := h.1 c8
    refine lv_iconst (v := 0) hx hb dX6_nextIs_28 (by decide) ?_
    exact ret_z0 hx hb hr hlocks hQ hS (by decide)  hP h dX6_nextIs_29
  · have h := h.2 c8
    refine lv_aload_n hx hb dX6_nextIs_11 rfl (lv_at hl 0 rfl) ?_
    refine va_get (D := D) (ci := 6) (v := .ref o_bytes) (C := RX6) (T := TX6) (N := 7) hx hb hts inw_X6_nextIs_X6 hown hK.1 hP 0 rfl rfl 0 (by decide) (hts (.fieldLink RX6 9 "PursesShare$TownText" "bytes" "[I") (by decide +kernel)) (fun _ h9 => h9) rfl dX6_nextIs_12 ?_
    refine lv_aload_n hx hb dX6_nextIs_15 rfl (lv_at hl 0 rfl) ?_
    refine va_get (D := D) (ci := 6) (v := .int v_place) (C := RX6) (T := TX6) (N := 7) hx hb hts inw_X6_nextIs_X6 hown hK.1 hP 0 rfl rfl 2 (by decide) (hts (.fieldLink RX6 29 "PursesShare$TownText" "place" "I") (by decide +kernel)) (fun _ h9 => h9) rfl dX6_nextIs_16 ?_
    have h0 := h.1
    have h := h.2
    refine va_iald hx hb hK.1 hP 1 0 rfl rfl h0 dX6_nextIs_19 ?_
    refine lv_iload_n hx hb dX6_nextIs_20 rfl (lv_at hl 1 rfl) ?_
    refine lv_icmp_ne (tgt := 28) hx hb dX6_nextIs_21 (by decide) (fun c21 => ?_) (fun c21 => ?_)
    · have h := h.1 c21
      refine lv_iconst (v := 0) hx hb dX6_nextIs_28 (by decide) ?_
      exact ret_z0 hx hb hr hlocks hQ hS (by decide)  hP h dX6_nextIs_29
    · have h := h.2 c21
      refine lv_iconst (v := 1) hx hb dX6_nextIs_24 (by decide) ?_
      refine lv_goto (tgt := 29) hx hb dX6_nextIs_25 (by decide) ?_
      exact ret_z0 hx hb hr hlocks hQ hS (by decide)  hP h dX6_nextIs_29
abbrev rm_X6_readFigure : Room := { frames := 0, cells := 0, slots := 0, locals := 0 }
abbrev cw_X6_readFigure (cI cZ : ClassId) (o o_bytes o_purses o_meetings : Nat) (v_length : Int32) (v_place : Int32) (v_lawNumber : Int32) (v_people : Int32) (a_bytes : Nat → Int32) : va_W := [(o, .inr (6, [.ref o_bytes, .int v_length, .int v_place, .int v_lawNumber, .int v_people, .ref o_purses, .ref o_meetings])), (o_bytes, .inl (cI, 96, .inl a_bytes))]
theorem inw_X6_readFigure_X6 : ∀ w ∈ u_ws RX6 TX6 7, w ∈ wsX6_readFigure := by decide +kernel
def wp_X6_readFigure (n1 : Int32) (v_length : Int32) (v_place : Int32) (a_bytes : Nat → Int32) (Post : Int32 → (Int32) → Prop) : Prop := ((v_length ≤ v_place → (((-1 : Int32) < 0 → (Post (-1 : Int32) v_place)) ∧ (¬ (-1 : Int32) < 0 → (((-1 : Int32) < n1 → (Post (-1 : Int32) (v_place + (1 : Int32)))) ∧ (¬ (-1 : Int32) < n1 → (Post (-1 : Int32) v_place)))))) ∧ (¬ v_length ≤ v_place → (vp_in v_place 96 ∧ ((((a_bytes (Int32.toNatClampNeg v_place)) - (48 : Int32)) < 0 → (Post (-1 : Int32) v_place)) ∧ (¬ ((a_bytes (Int32.toNatClampNeg v_place)) - (48 : Int32)) < 0 → ((((a_bytes (Int32.toNatClampNeg v_place)) - (48 : Int32)) < n1 → (Post ((a_bytes (Int32.toNatClampNeg v_place)) - (48 : Int32)) (v_place + (1 : Int32)))) ∧ (¬ ((a_bytes (Int32.toNatClampNeg v_place)) - (48 : Int32)) < n1 → (Post (-1 : Int32) v_place))))))))
set_option maxHeartbeats 4000000 in
set_option maxRecDepth 100000 in
theorem c_X6_readFigure (l : Launch) (D : va_G) (cI cZ : ClassId) (o o_bytes o_purses o_meetings : Nat) (sz : Nat) (n1 : Int32) (v_length : Int32) (v_place : Int32) (v_lawNumber : Int32) (v_people : Int32) (a_bytes : Nat → Int32) (Post : Int32 → (Int32) → Prop) (h : wp_X6_readFigure n1 v_length v_place a_bytes Post) : Met l yX6_readFigure wsX6_readFigure rm_X6_readFigure (cPc D cI cZ [.ref o, .int n1] (cw_X6_readFigure cI cZ o o_bytes o_purses o_meetings v_length v_place v_lawNumber v_people a_bytes) sz) (cQi1 D Post (fun m_v_place => (cw_X6_readFigure cI cZ o o_bytes o_purses o_meetings v_length m_v_place v_lawNumber v_people a_bytes)) (va_A (cw_X6_readFigure cI cZ o o_bytes o_purses o_meetings v_length v_place v_lawNumber v_people a_bytes) sz)) 0 0 (va_A (cw_X6_readFigure cI cZ o o_bytes o_purses o_meetings v_length v_place v_lawNumber v_people a_bytes) sz) := by
  refine ent (cc := cX6_readFigure) (maxL := 3) (ret := (some .int)) (Qc := fun A => cQi1 D Post (fun m_v_place => (cw_X6_readFigure cI cZ o o_bytes o_purses o_meetings v_length m_v_place v_lawNumber v_people a_bytes)) A) (by decide) rfl (Nat.le_of_ble_eq_true rfl) ?_
  intro p e s m args below meth c A ls Q hQ hsz hx hb hml hr hts hown hlocks hnm hK hP hD hA hS hl
  have hl : lv_has ls 3 [(0, .ref o), (1, .int n1)] := hl
  unfold wp_X6_readFigure at h
  refine lv_aload_n hx hb dX6_readFigure_0 rfl (lv_at hl 0 rfl) ?_
  refine va_get (D := D) (ci := 6) (v := .int v_place) (C := RX6) (T := TX6) (N := 7) hx hb hts inw_X6_readFigure_X6 hown hK.1 hP 0 rfl rfl 2 (by decide) (hts (.fieldLink RX6 29 "PursesShare$TownText" "place" "I") (by decide +kernel)) (fun _ h9 => h9) rfl dX6_readFigure_1 ?_
  refine lv_aload_n hx hb dX6_readFigure_4 rfl (lv_at hl 0 rfl) ?_
  refine va_get (D := D) (ci := 6) (v := .int v_length) (C := RX6) (T := TX6) (N := 7) hx hb hts inw_X6_readFigure_X6 hown hK.1 hP 0 rfl rfl 1 (by decide) (hts (.fieldLink RX6 25 "PursesShare$TownText" "length" "I") (by decide +kernel)) (fun _ h9 => h9) rfl dX6_readFigure_5 ?_
  refine lv_icmp_ge (tgt := 26) hx hb dX6_readFigure_8 (by decide) (fun c8 => ?_) (fun c8 => ?_)
  · have h := h.1 c8
    refine lv_iconst (v := -1) hx hb dX6_readFigure_26 (by decide) ?_
    refine lv_istore_n (lv' := [(2, .int (-1 : Int32)), (0, .ref o), (1, .int n1)]) hx hb dX6_readFigure_27 rfl hl (by decide) rfl (fun ls hl => ?_)
    refine lv_iload_n hx hb dX6_readFigure_28 rfl (lv_at hl 0 rfl) ?_
    refine lv_if_lt (tgt := 37) hx hb dX6_readFigure_29 (by decide) (fun c29 => ?_) (fun c29 => ?_)
    · have h := h.1 c29
      refine lv_iconst (v := -1) hx hb dX6_readFigure_37 (by decide) ?_
      exact ret_i1 hx hb hr hlocks hQ hS v_place hP h dX6_readFigure_38
    · have h := h.2 c29
      refine lv_iload_n hx hb dX6_readFigure_32 rfl (lv_at hl 0 rfl) ?_
      refine lv_iload_n hx hb dX6_readFigure_33 rfl (lv_at hl 2 rfl) ?_
      refine lv_icmp_lt (tgt := 39) hx hb dX6_readFigure_34 (by decide) (fun c34 => ?_) (fun c34 => ?_)
      · have h := h.1 c34
        refine lv_aload_n hx hb dX6_readFigure_39 rfl (lv_at hl 1 rfl) ?_
        refine lv_dup hx hb dX6_readFigure_40 rfl ?_
        refine va_get (D := D) (ci := 6) (v := .int v_place) (C := RX6) (T := TX6) (N := 7) hx hb hts inw_X6_readFigure_X6 hown hK.1 hP 0 rfl rfl 2 (by decide) (hts (.fieldLink RX6 29 "PursesShare$TownText" "place" "I") (by decide +kernel)) (fun _ h9 => h9) rfl dX6_readFigure_41 ?_
        refine lv_iconst (v := 1) hx hb dX6_readFigure_44 (by decide) ?_
        refine lv_iadd hx hb dX6_readFigure_45 ?_
        refine va_put (D := D) (ci := 6) (v := .int (v_place + (1 : Int32))) (ty := .int) (C := RX6) (T := TX6) (N := 7) hx hb hts inw_X6_readFigure_X6 tyX6 tyX6_ok nmX6 hown hK.1 hP hD hS 0 rfl rfl 2 (by decide) (hts (.fieldLink RX6 29 "PursesShare$TownText" "place" "I") (by decide +kernel)) (fun _ h9 => h9) rfl (by decide +kernel) rfl rfl (Nat.le_of_ble_eq_true rfl) dX6_readFigure_46 (fun H locs hP hD hS => ?_)
        have hP : va_P D vwCl (cw_X6_readFigure cI cZ o o_bytes o_purses o_meetings v_length (v_place + (1 : Int32)) v_lawNumber v_people a_bytes) H := hP
        have hD : va_D A (cw_X6_readFigure cI cZ o o_bytes o_purses o_meetings v_length (v_place + (1 : Int32)) v_lawNumber v_people a_bytes) := hD
        refine lv_iload_n hx hb dX6_readFigure_49 rfl (lv_at hl 0 rfl) ?_
        exact ret_i1 hx hb hr hlocks hQ hS (v_place + (1 : Int32)) hP h dX6_readFigure_50
      · have h := h.2 c34
        refine lv_iconst (v := -1) hx hb dX6_readFigure_37 (by decide) ?_
        exact ret_i1 hx hb hr hlocks hQ hS v_place hP h dX6_readFigure_38
  · have h := h.2 c8
    refine lv_aload_n hx hb dX6_readFigure_11 rfl (lv_at hl 0 rfl) ?_
    refine va_get (D := D) (ci := 6) (v := .ref o_bytes) (C := RX6) (T := TX6) (N := 7) hx hb hts inw_X6_readFigure_X6 hown hK.1 hP 0 rfl rfl 0 (by decide) (hts (.fieldLink RX6 9 "PursesShare$TownText" "bytes" "[I") (by decide +kernel)) (fun _ h9 => h9) rfl dX6_readFigure_12 ?_
    refine lv_aload_n hx hb dX6_readFigure_15 rfl (lv_at hl 0 rfl) ?_
    refine va_get (D := D) (ci := 6) (v := .int v_place) (C := RX6) (T := TX6) (N := 7) hx hb hts inw_X6_readFigure_X6 hown hK.1 hP 0 rfl rfl 2 (by decide) (hts (.fieldLink RX6 29 "PursesShare$TownText" "place" "I") (by decide +kernel)) (fun _ h9 => h9) rfl dX6_readFigure_16 ?_
    have h0 := h.1
    have h := h.2
    refine va_iald hx hb hK.1 hP 1 0 rfl rfl h0 dX6_readFigure_19 ?_
    refine lv_bipush (v := 48) hx hb dX6_readFigure_20 (by decide) ?_
    refine lv_isub hx hb dX6_readFigure_22 ?_
    refine lv_goto (tgt := 27) hx hb dX6_readFigure_23 (by decide) ?_
    refine lv_istore_n (lv' := [(2, .int ((a_bytes (Int32.toNatClampNeg v_place)) - (48 : Int32))), (0, .ref o), (1, .int n1)]) hx hb dX6_readFigure_27 rfl hl (by decide) rfl (fun ls hl => ?_)
    refine lv_iload_n hx hb dX6_readFigure_28 rfl (lv_at hl 0 rfl) ?_
    refine lv_if_lt (tgt := 37) hx hb dX6_readFigure_29 (by decide) (fun c29 => ?_) (fun c29 => ?_)
    · have h := h.1 c29
      refine lv_iconst (v := -1) hx hb dX6_readFigure_37 (by decide) ?_
      exact ret_i1 hx hb hr hlocks hQ hS v_place hP h dX6_readFigure_38
    · have h := h.2 c29
      refine lv_iload_n hx hb dX6_readFigure_32 rfl (lv_at hl 0 rfl) ?_
      refine lv_iload_n hx hb dX6_readFigure_33 rfl (lv_at hl 2 rfl) ?_
      refine lv_icmp_lt (tgt := 39) hx hb dX6_readFigure_34 (by decide) (fun c34 => ?_) (fun c34 => ?_)
      · have h := h.1 c34
        refine lv_aload_n hx hb dX6_readFigure_39 rfl (lv_at hl 1 rfl) ?_
        refine lv_dup hx hb dX6_readFigure_40 rfl ?_
        refine va_get (D := D) (ci := 6) (v := .int v_place) (C := RX6) (T := TX6) (N := 7) hx hb hts inw_X6_readFigure_X6 hown hK.1 hP 0 rfl rfl 2 (by decide) (hts (.fieldLink RX6 29 "PursesShare$TownText" "place" "I") (by decide +kernel)) (fun _ h9 => h9) rfl dX6_readFigure_41 ?_
        refine lv_iconst (v := 1) hx hb dX6_readFigure_44 (by decide) ?_
        refine lv_iadd hx hb dX6_readFigure_45 ?_
        refine va_put (D := D) (ci := 6) (v := .int (v_place + (1 : Int32))) (ty := .int) (C := RX6) (T := TX6) (N := 7) hx hb hts inw_X6_readFigure_X6 tyX6 tyX6_ok nmX6 hown hK.1 hP hD hS 0 rfl rfl 2 (by decide) (hts (.fieldLink RX6 29 "PursesShare$TownText" "place" "I") (by decide +kernel)) (fun _ h9 => h9) rfl (by decide +kernel) rfl rfl (Nat.le_of_ble_eq_true rfl) dX6_readFigure_46 (fun H locs hP hD hS => ?_)
        have hP : va_P D vwCl (cw_X6_readFigure cI cZ o o_bytes o_purses o_meetings v_length (v_place + (1 : Int32)) v_lawNumber v_people a_bytes) H := hP
        have hD : va_D A (cw_X6_readFigure cI cZ o o_bytes o_purses o_meetings v_length (v_place + (1 : Int32)) v_lawNumber v_people a_bytes) := hD
        refine lv_iload_n hx hb dX6_readFigure_49 rfl (lv_at hl 0 rfl) ?_
        exact ret_i1 hx hb hr hlocks hQ hS (v_place + (1 : Int32)) hP h dX6_readFigure_50
      · have h := h.2 c34
        refine lv_iconst (v := -1) hx hb dX6_readFigure_37 (by decide) ?_
        exact ret_i1 hx hb hr hlocks hQ hS v_place hP h dX6_readFigure_38
abbrev rm_X6_readLaw : Room := { frames := 1, cells := 0, slots := 0, locals := 22 }
abbrev cw_X6_readLaw (cI cZ : ClassId) (o o_bytes o_purses o_meetings : Nat) (v_length : Int32) (v_place : Int32) (v_lawNumber : Int32) (v_people : Int32) (a_bytes : Nat → Int32) : va_W := [(o, .inr (6, [.ref o_bytes, .int v_length, .int v_place, .int v_lawNumber, .int v_people, .ref o_purses, .ref o_meetings])), (o_bytes, .inl (cI, 96, .inl a_bytes))]
theorem inw_X6_readLaw_X6 : ∀ w ∈ u_ws RX6 TX6 7, w ∈ wsX6_readLaw := by decide +kernel
def wp_X6_readLaw (v_length : Int32) (v_place : Int32) (v_lawNumber : Int32) (a_bytes : Nat → Int32) (Post : Int32 → (Int32) → (Int32) → Prop) : Prop := (wp_X6_nextIs (76 : Int32) v_length v_place a_bytes (fun (r3 : Int32) => ((¬ r3 = 0 → (wp_X6_readFigure (4 : Int32) v_length (v_place + (1 : Int32)) a_bytes (fun (r24 : Int32) (v_place_24 : Int32) => ((r24 < 0 → (Post (0 : Int32) v_place_24 r24)) ∧ (¬ r24 < 0 → (Post (1 : Int32) v_place_24 r24)))))) ∧ (r3 = 0 → (Post (0 : Int32) v_place v_lawNumber)))))
set_option maxHeartbeats 4000000 in
set_option maxRecDepth 100000 in
theorem c_X6_readLaw (l : Launch) (D : va_G) (cI cZ : ClassId) (o o_bytes o_purses o_meetings : Nat) (sz : Nat) (v_length : Int32) (v_place : Int32) (v_lawNumber : Int32) (v_people : Int32) (a_bytes : Nat → Int32) (Post : Int32 → (Int32) → (Int32) → Prop) (h : wp_X6_readLaw v_length v_place v_lawNumber a_bytes Post) : Met l yX6_readLaw wsX6_readLaw rm_X6_readLaw (cPc D cI cZ [.ref o] (cw_X6_readLaw cI cZ o o_bytes o_purses o_meetings v_length v_place v_lawNumber v_people a_bytes) sz) (cQi2 D Post (fun m_v_place m_v_lawNumber => (cw_X6_readLaw cI cZ o o_bytes o_purses o_meetings v_length m_v_place m_v_lawNumber v_people a_bytes)) (va_A (cw_X6_readLaw cI cZ o o_bytes o_purses o_meetings v_length v_place v_lawNumber v_people a_bytes) sz)) 0 0 (va_A (cw_X6_readLaw cI cZ o o_bytes o_purses o_meetings v_length v_place v_lawNumber v_people a_bytes) sz) := by
  refine ent (cc := cX6_readLaw) (maxL := 1) (ret := (some .boolean)) (Qc := fun A => cQi2 D Post (fun m_v_place m_v_lawNumber => (cw_X6_readLaw cI cZ o o_bytes o_purses o_meetings v_length m_v_place m_v_lawNumber v_people a_bytes)) A) (by decide) rfl (Nat.le_of_ble_eq_true rfl) ?_
  intro p e s m args below meth c A ls Q hQ hsz hx hb hml hr hts hown hlocks hnm hK hP hD hA hS hl
  have hl : lv_has ls 1 [(0, .ref o)] := hl
  unfold wp_X6_readLaw at h
  refine lv_aload_n hx hb dX6_readLaw_0 rfl (lv_at hl 0 rfl) ?_
  refine lv_bipush (v := 76) hx hb dX6_readLaw_1 (by decide) ?_
  refine call_i0 (va_runV (As := [.int (76 : Int32)]) (rest := []) ⟨hx, hb, hml, hown, hts⟩ (c_X6_nextIs l D cI cZ o o_bytes o_purses o_meetings (Array.size s.heap) (76 : Int32) v_length v_place v_lawNumber v_people a_bytes _ h) (cwV 1 hts gX6_readLaw_X6_nextIs rfl rfl rfl (by decide +kernel) ⟨Nat.le_of_ble_eq_true rfl, Nat.le_of_ble_eq_true rfl⟩) (preV_of hP hD hK [0, 1] rfl rfl 0 6 rfl rfl rfl) rfl rfl hl.1 rfl (lv_room (Nat.le_of_ble_eq_true rfl)) dX6_readLaw_3 ⟨Nat.zero_le _, Nat.zero_le _⟩) hP hD hS hA [0, 1] rfl ((cw_X6_readLaw cI cZ o o_bytes o_purses o_meetings v_length v_place v_lawNumber v_people a_bytes)) (rfl) (rfl) (fun r3 H locs h hP hD hS => ?_)
  refine lv_if_ne (tgt := 11) hx hb dX6_readLaw_6 (by decide) (fun c6 => ?_) (fun c6 => ?_)
  · have h := h.1 c6
    refine lv_aload_n hx hb dX6_readLaw_11 rfl (lv_at hl 0 rfl) ?_
    refine lv_dup hx hb dX6_readLaw_12 rfl ?_
    refine va_get (D := D) (ci := 6) (v := .int v_place) (C := RX6) (T := TX6) (N := 7) hx hb hts inw_X6_readLaw_X6 hown hK.1 hP 0 rfl rfl 2 (by decide) (hts (.fieldLink RX6 29 "PursesShare$TownText" "place" "I") (by decide +kernel)) (fun _ h9 => h9) rfl dX6_readLaw_13 ?_
    refine lv_iconst (v := 1) hx hb dX6_readLaw_16 (by decide) ?_
    refine lv_iadd hx hb dX6_readLaw_17 ?_
    refine va_put (D := D) (ci := 6) (v := .int (v_place + (1 : Int32))) (ty := .int) (C := RX6) (T := TX6) (N := 7) hx hb hts inw_X6_readLaw_X6 tyX6 tyX6_ok nmX6 hown hK.1 hP hD hS 0 rfl rfl 2 (by decide) (hts (.fieldLink RX6 29 "PursesShare$TownText" "place" "I") (by decide +kernel)) (fun _ h9 => h9) rfl (by decide +kernel) rfl rfl (Nat.le_of_ble_eq_true rfl) dX6_readLaw_18 (fun H locs hP hD hS => ?_)
    have hP : va_P D vwCl (cw_X6_readLaw cI cZ o o_bytes o_purses o_meetings v_length (v_place + (1 : Int32)) v_lawNumber v_people a_bytes) H := hP
    have hD : va_D A (cw_X6_readLaw cI cZ o o_bytes o_purses o_meetings v_length (v_place + (1 : Int32)) v_lawNumber v_people a_bytes) := hD
    refine lv_aload_n hx hb dX6_readLaw_21 rfl (lv_at hl 0 rfl) ?_
    refine lv_aload_n hx hb dX6_readLaw_22 rfl (lv_at hl 0 rfl) ?_
    refine lv_iconst (v := 4) hx hb dX6_readLaw_23 (by decide) ?_
    refine call_i1 (va_runV (As := [.int (4 : Int32)]) (rest := [.ref o]) ⟨hx, hb, hml, hown, hts⟩ (c_X6_readFigure l D cI cZ o o_bytes o_purses o_meetings (Array.size H) (4 : Int32) v_length (v_place + (1 : Int32)) v_lawNumber v_people a_bytes _ h) (cwV 1 hts gX6_readLaw_X6_readFigure rfl rfl rfl (by decide +kernel) ⟨Nat.le_of_ble_eq_true rfl, Nat.le_of_ble_eq_true rfl⟩) (preV_of hP hD hK [0, 1] rfl rfl 0 6 rfl rfl rfl) rfl rfl hl.1 rfl (lv_room (Nat.le_of_ble_eq_true rfl)) dX6_readLaw_24 ⟨Nat.zero_le _, Nat.zero_le _⟩) hP hD hS hA [0, 1] rfl (fun v_place_24 => (cw_X6_readLaw cI cZ o o_bytes o_purses o_meetings v_length v_place_24 v_lawNumber v_people a_bytes)) (fun _ => rfl) (fun _ => rfl) (fun r24 v_place_24 H locs h hP hD hS => ?_)
    refine va_put (D := D) (ci := 6) (v := .int r24) (ty := .int) (C := RX6) (T := TX6) (N := 7) hx hb hts inw_X6_readLaw_X6 tyX6 tyX6_ok nmX6 hown hK.1 hP hD hS 0 rfl rfl 3 (by decide) (hts (.fieldLink RX6 53 "PursesShare$TownText" "lawNumber" "I") (by decide +kernel)) (fun _ h9 => h9) rfl (by decide +kernel) rfl rfl (Nat.le_of_ble_eq_true rfl) dX6_readLaw_27 (fun H locs hP hD hS => ?_)
    have hP : va_P D vwCl (cw_X6_readLaw cI cZ o o_bytes o_purses o_meetings v_length v_place_24 r24 v_people a_bytes) H := hP
    have hD : va_D A (cw_X6_readLaw cI cZ o o_bytes o_purses o_meetings v_length v_place_24 r24 v_people a_bytes) := hD
    refine lv_aload_n hx hb dX6_readLaw_30 rfl (lv_at hl 0 rfl) ?_
    refine va_get (D := D) (ci := 6) (v := .int r24) (C := RX6) (T := TX6) (N := 7) hx hb hts inw_X6_readLaw_X6 hown hK.1 hP 0 rfl rfl 3 (by decide) (hts (.fieldLink RX6 53 "PursesShare$TownText" "lawNumber" "I") (by decide +kernel)) (fun _ h9 => h9) rfl dX6_readLaw_31 ?_
    refine lv_if_lt (tgt := 41) hx hb dX6_readLaw_34 (by decide) (fun c34 => ?_) (fun c34 => ?_)
    · have h := h.1 c34
      refine lv_iconst (v := 0) hx hb dX6_readLaw_41 (by decide) ?_
      exact ret_z2 hx hb hr hlocks hQ hS (by decide) v_place_24 r24 hP h dX6_readLaw_42
    · have h := h.2 c34
      refine lv_iconst (v := 1) hx hb dX6_readLaw_37 (by decide) ?_
      refine lv_goto (tgt := 42) hx hb dX6_readLaw_38 (by decide) ?_
      exact ret_z2 hx hb hr hlocks hQ hS (by decide) v_place_24 r24 hP h dX6_readLaw_42
  · have h := h.2 c6
    refine lv_iconst (v := 0) hx hb dX6_readLaw_9 (by decide) ?_
    exact ret_z2 hx hb hr hlocks hQ hS (by decide) v_place v_lawNumber hP h dX6_readLaw_10
abbrev rm_X6_readMeeting : Room := { frames := 1, cells := 0, slots := 0, locals := 22 }
abbrev cw_X6_readMeeting (cI cZ : ClassId) (o o_bytes o_purses o_meetings o_meetings_firsts o_meetings_seconds : Nat) (v_length : Int32) (v_place : Int32) (v_lawNumber : Int32) (v_people : Int32) (a_bytes : Nat → Int32) (v_meetings_size : Int32) (a_meetings_firsts : Nat → Int32) (a_meetings_seconds : Nat → Int32) : va_W := [(o, .inr (6, [.ref o_bytes, .int v_length, .int v_place, .int v_lawNumber, .int v_people, .ref o_purses, .ref o_meetings])), (o_bytes, .inl (cI, 96, .inl a_bytes)), (o_meetings, .inr (2, [.ref o_meetings_firsts, .ref o_meetings_seconds, .int v_meetings_size])), (o_meetings_firsts, .inl (cI, 16, .inl a_meetings_firsts)), (o_meetings_seconds, .inl (cI, 16, .inl a_meetings_seconds))]
theorem inw_X6_readMeeting_X6 : ∀ w ∈ u_ws RX6 TX6 7, w ∈ wsX6_readMeeting := by decide +kernel
def wp_X6_readMeeting (v_length : Int32) (v_place : Int32) (v_people : Int32) (a_bytes : Nat → Int32) (v_meetings_size : Int32) (a_meetings_firsts : Nat → Int32) (a_meetings_seconds : Nat → Int32) (Post : Int32 → (Int32) → (Int32) → (Nat → Int32) → (Nat → Int32) → Prop) : Prop := (wp_X6_readFigure v_people v_length (v_place + (1 : Int32)) a_bytes (fun (r15 : Int32) (v_place_15 : Int32) => ((0 ≤ r15 → (wp_X6_nextIs ((48 : Int32) + r15) v_length v_place_15 a_bytes (fun (r30 : Int32) => ((r30 = 0 → (wp_X6_readFigure v_people v_length v_place_15 a_bytes (fun (r43 : Int32) (v_place_43 : Int32) => ((0 ≤ r43 → (wp_X2_add r15 r43 v_meetings_size a_meetings_firsts a_meetings_seconds (fun (v_meetings_size_59 : Int32) (a_meetings_firsts_59 : Nat → Int32) (a_meetings_seconds_59 : Nat → Int32) => (Post (1 : Int32) v_place_43 v_meetings_size_59 a_meetings_firsts_59 a_meetings_seconds_59)))) ∧ (¬ 0 ≤ r43 → (Post (0 : Int32) v_place_43 v_meetings_size a_meetings_firsts a_meetings_seconds)))))) ∧ (¬ r30 = 0 → (Post (0 : Int32) v_place_15 v_meetings_size a_meetings_firsts a_meetings_seconds)))))) ∧ (¬ 0 ≤ r15 → (Post (0 : Int32) v_place_15 v_meetings_size a_meetings_firsts a_meetings_seconds)))))
set_option maxHeartbeats 4000000 in
set_option maxRecDepth 100000 in
theorem c_X6_readMeeting (l : Launch) (D : va_G) (cI cZ : ClassId) (o o_bytes o_purses o_meetings o_meetings_firsts o_meetings_seconds : Nat) (sz : Nat) (v_length : Int32) (v_place : Int32) (v_lawNumber : Int32) (v_people : Int32) (a_bytes : Nat → Int32) (v_meetings_size : Int32) (a_meetings_firsts : Nat → Int32) (a_meetings_seconds : Nat → Int32) (Post : Int32 → (Int32) → (Int32) → (Nat → Int32) → (Nat → Int32) → Prop) (h : wp_X6_readMeeting v_length v_place v_people a_bytes v_meetings_size a_meetings_firsts a_meetings_seconds Post) : Met l yX6_readMeeting wsX6_readMeeting rm_X6_readMeeting (cPc D cI cZ [.ref o] (cw_X6_readMeeting cI cZ o o_bytes o_purses o_meetings o_meetings_firsts o_meetings_seconds v_length v_place v_lawNumber v_people a_bytes v_meetings_size a_meetings_firsts a_meetings_seconds) sz) (cQi4 D Post (fun m_v_place m_v_meetings_size m_a_meetings_firsts m_a_meetings_seconds => (cw_X6_readMeeting cI cZ o o_bytes o_purses o_meetings o_meetings_firsts o_meetings_seconds v_length m_v_place v_lawNumber v_people a_bytes m_v_meetings_size m_a_meetings_firsts m_a_meetings_seconds)) (va_A (cw_X6_readMeeting cI cZ o o_bytes o_purses o_meetings o_meetings_firsts o_meetings_seconds v_length v_place v_lawNumber v_people a_bytes v_meetings_size a_meetings_firsts a_meetings_seconds) sz)) 0 0 (va_A (cw_X6_readMeeting cI cZ o o_bytes o_purses o_meetings o_meetings_firsts o_meetings_seconds v_length v_place v_lawNumber v_people a_bytes v_meetings_size a_meetings_firsts a_meetings_seconds) sz) := by
  refine ent (cc := cX6_readMeeting) (maxL := 3) (ret := (some .boolean)) (Qc := fun A => cQi4 D Post (fun m_v_place m_v_meetings_size m_a_meetings_firsts m_a_meetings_seconds => (cw_X6_readMeeting cI cZ o o_bytes o_purses o_meetings o_meetings_firsts o_meetings_seconds v_length m_v_place v_lawNumber v_people a_bytes m_v_meetings_size m_a_meetings_firsts m_a_meetings_seconds)) A) (by decide) rfl (Nat.le_of_ble_eq_true rfl) ?_
  intro p e s m args below meth c A ls Q hQ hsz hx hb hml hr hts hown hlocks hnm hK hP hD hA hS hl
  have hl : lv_has ls 3 [(0, .ref o)] := hl
  unfold wp_X6_readMeeting at h
  refine lv_aload_n hx hb dX6_readMeeting_0 rfl (lv_at hl 0 rfl) ?_
  refine lv_dup hx hb dX6_readMeeting_1 rfl ?_
  refine va_get (D := D) (ci := 6) (v := .int v_place) (C := RX6) (T := TX6) (N := 7) hx hb hts inw_X6_readMeeting_X6 hown hK.1 hP 0 rfl rfl 2 (by decide) (hts (.fieldLink RX6 29 "PursesShare$TownText" "place" "I") (by decide +kernel)) (fun _ h9 => h9) rfl dX6_readMeeting_2 ?_
  refine lv_iconst (v := 1) hx hb dX6_readMeeting_5 (by decide) ?_
  refine lv_iadd hx hb dX6_readMeeting_6 ?_
  refine va_put (D := D) (ci := 6) (v := .int (v_place + (1 : Int32))) (ty := .int) (C := RX6) (T := TX6) (N := 7) hx hb hts inw_X6_readMeeting_X6 tyX6 tyX6_ok nmX6 hown hK.1 hP hD hS 0 rfl rfl 2 (by decide) (hts (.fieldLink RX6 29 "PursesShare$TownText" "place" "I") (by decide +kernel)) (fun _ h9 => h9) rfl (by decide +kernel) rfl rfl (Nat.le_of_ble_eq_true rfl) dX6_readMeeting_7 (fun H locs hP hD hS => ?_)
  have hP : va_P D vwCl (cw_X6_readMeeting cI cZ o o_bytes o_purses o_meetings o_meetings_firsts o_meetings_seconds v_length (v_place + (1 : Int32)) v_lawNumber v_people a_bytes v_meetings_size a_meetings_firsts a_meetings_seconds) H := hP
  have hD : va_D A (cw_X6_readMeeting cI cZ o o_bytes o_purses o_meetings o_meetings_firsts o_meetings_seconds v_length (v_place + (1 : Int32)) v_lawNumber v_people a_bytes v_meetings_size a_meetings_firsts a_meetings_seconds) := hD
  refine lv_aload_n hx hb dX6_readMeeting_10 rfl (lv_at hl 0 rfl) ?_
  refine lv_aload_n hx hb dX6_readMeeting_11 rfl (lv_at hl 0 rfl) ?_
  refine va_get (D := D) (ci := 6) (v := .int v_people) (C := RX6) (T := TX6) (N := 7) hx hb hts inw_X6_readMeeting_X6 hown hK.1 hP 0 rfl rfl 4 (by decide) (hts (.fieldLink RX6 32 "PursesShare$TownText" "people" "I") (by decide +kernel)) (fun _ h9 => h9) rfl dX6_readMeeting_12 ?_
  refine call_i1 (va_runV (As := [.int v_people]) (rest := []) ⟨hx, hb, hml, hown, hts⟩ (c_X6_readFigure l D cI cZ o o_bytes o_purses o_meetings (Array.size H) v_people v_length (v_place + (1 : Int32)) v_lawNumber v_people a_bytes _ h) (cwV 1 hts gX6_readMeeting_X6_readFigure rfl rfl rfl (by decide +kernel) ⟨Nat.le_of_ble_eq_true rfl, Nat.le_of_ble_eq_true rfl⟩) (preV_of hP hD hK [0, 1] rfl rfl 0 6 rfl rfl rfl) rfl rfl hl.1 rfl (lv_room (Nat.le_of_ble_eq_true rfl)) dX6_readMeeting_15 ⟨Nat.zero_le _, Nat.zero_le _⟩) hP hD hS hA [0, 1] rfl (fun v_place_15 => (cw_X6_readMeeting cI cZ o o_bytes o_purses o_meetings o_meetings_firsts o_meetings_seconds v_length v_place_15 v_lawNumber v_people a_bytes v_meetings_size a_meetings_firsts a_meetings_seconds)) (fun _ => rfl) (fun _ => rfl) (fun r15 v_place_15 H locs h hP hD hS => ?_)
  refine lv_istore_n (lv' := [(1, .int r15), (0, .ref o)]) hx hb dX6_readMeeting_18 rfl hl (by decide) rfl (fun ls hl => ?_)
  refine lv_iload_n hx hb dX6_readMeeting_19 rfl (lv_at hl 0 rfl) ?_
  refine lv_if_ge (tgt := 25) hx hb dX6_readMeeting_20 (by decide) (fun c20 => ?_) (fun c20 => ?_)
  · have h := h.1 c20
    refine lv_aload_n hx hb dX6_readMeeting_25 rfl (lv_at hl 1 rfl) ?_
    refine lv_bipush (v := 48) hx hb dX6_readMeeting_26 (by decide) ?_
    refine lv_iload_n hx hb dX6_readMeeting_28 rfl (lv_at hl 0 rfl) ?_
    refine lv_iadd hx hb dX6_readMeeting_29 ?_
    refine call_i0 (va_runV (As := [.int ((48 : Int32) + r15)]) (rest := []) ⟨hx, hb, hml, hown, hts⟩ (c_X6_nextIs l D cI cZ o o_bytes o_purses o_meetings (Array.size H) ((48 : Int32) + r15) v_length v_place_15 v_lawNumber v_people a_bytes _ h) (cwV 1 hts gX6_readMeeting_X6_nextIs rfl rfl rfl (by decide +kernel) ⟨Nat.le_of_ble_eq_true rfl, Nat.le_of_ble_eq_true rfl⟩) (preV_of hP hD hK [0, 1] rfl rfl 0 6 rfl rfl rfl) rfl rfl hl.1 rfl (lv_room (Nat.le_of_ble_eq_true rfl)) dX6_readMeeting_30 ⟨Nat.zero_le _, Nat.zero_le _⟩) hP hD hS hA [0, 1] rfl ((cw_X6_readMeeting cI cZ o o_bytes o_purses o_meetings o_meetings_firsts o_meetings_seconds v_length v_place_15 v_lawNumber v_people a_bytes v_meetings_size a_meetings_firsts a_meetings_seconds)) (rfl) (rfl) (fun r30 H locs h hP hD hS => ?_)
    refine lv_if_eq (tgt := 38) hx hb dX6_readMeeting_33 (by decide) (fun c33 => ?_) (fun c33 => ?_)
    · have h := h.1 c33
      refine lv_aload_n hx hb dX6_readMeeting_38 rfl (lv_at hl 1 rfl) ?_
      refine lv_aload_n hx hb dX6_readMeeting_39 rfl (lv_at hl 1 rfl) ?_
      refine va_get (D := D) (ci := 6) (v := .int v_people) (C := RX6) (T := TX6) (N := 7) hx hb hts inw_X6_readMeeting_X6 hown hK.1 hP 0 rfl rfl 4 (by decide) (hts (.fieldLink RX6 32 "PursesShare$TownText" "people" "I") (by decide +kernel)) (fun _ h9 => h9) rfl dX6_readMeeting_40 ?_
      refine call_i1 (va_runV (As := [.int v_people]) (rest := []) ⟨hx, hb, hml, hown, hts⟩ (c_X6_readFigure l D cI cZ o o_bytes o_purses o_meetings (Array.size H) v_people v_length v_place_15 v_lawNumber v_people a_bytes _ h) (cwV 1 hts gX6_readMeeting_X6_readFigure rfl rfl rfl (by decide +kernel) ⟨Nat.le_of_ble_eq_true rfl, Nat.le_of_ble_eq_true rfl⟩) (preV_of hP hD hK [0, 1] rfl rfl 0 6 rfl rfl rfl) rfl rfl hl.1 rfl (lv_room (Nat.le_of_ble_eq_true rfl)) dX6_readMeeting_43 ⟨Nat.zero_le _, Nat.zero_le _⟩) hP hD hS hA [0, 1] rfl (fun v_place_43 => (cw_X6_readMeeting cI cZ o o_bytes o_purses o_meetings o_meetings_firsts o_meetings_seconds v_length v_place_43 v_lawNumber v_people a_bytes v_meetings_size a_meetings_firsts a_meetings_seconds)) (fun _ => rfl) (fun _ => rfl) (fun r43 v_place_43 H locs h hP hD hS => ?_)
      refine lv_istore_n (lv' := [(2, .int r43), (1, .int r15), (0, .ref o)]) hx hb dX6_readMeeting_46 rfl hl (by decide) rfl (fun ls hl => ?_)
      refine lv_iload_n hx hb dX6_readMeeting_47 rfl (lv_at hl 0 rfl) ?_
      refine lv_if_ge (tgt := 53) hx hb dX6_readMeeting_48 (by decide) (fun c48 => ?_) (fun c48 => ?_)
      · have h := h.1 c48
        refine lv_aload_n hx hb dX6_readMeeting_53 rfl (lv_at hl 2 rfl) ?_
        refine va_get (D := D) (ci := 6) (v := .ref o_meetings) (C := RX6) (T := TX6) (N := 7) hx hb hts inw_X6_readMeeting_X6 hown hK.1 hP 0 rfl rfl 6 (by decide) (hts (.fieldLink RX6 21 "PursesShare$TownText" "meetings" "LPursesShare$Meetings;") (by decide +kernel)) (fun _ h9 => h9) rfl dX6_readMeeting_54 ?_
        refine lv_iload_n hx hb dX6_readMeeting_57 rfl (lv_at hl 1 rfl) ?_
        refine lv_iload_n hx hb dX6_readMeeting_58 rfl (lv_at hl 0 rfl) ?_
        refine call_v3 (va_runVN (As := [.int r15, .int r43]) (rest := []) ⟨hx, hb, hml, hown, hts⟩ (c_X2_add l D cI cZ o_meetings o_meetings_firsts o_meetings_seconds (Array.size H) r15 r43 v_meetings_size a_meetings_firsts a_meetings_seconds _ h) ⟨va_cnB (own := RX6) 2 hts gX6_readMeeting_X2_add_n62 rfl rfl rfl (nM_10 hK) (hts (.initialized RX2) (by decide +kernel)) (by decide +kernel) ⟨Nat.le_of_ble_eq_true rfl, Nat.le_of_ble_eq_true rfl⟩, hts (.instanceMethod yX2_add) (by decide +kernel), hts (.selects RX2 yX2_add yX2_add) (by decide +kernel)⟩ (preV_of hP hD hK [2, 3, 4] rfl rfl 2 2 rfl rfl rfl) rfl rfl hl.1 rfl (lv_room (Nat.le_of_ble_eq_true rfl)) dX6_readMeeting_59 ⟨Nat.zero_le _, Nat.zero_le _⟩) hP hD hS hA [2, 3, 4] rfl (fun v_meetings_size_59 a_meetings_firsts_59 a_meetings_seconds_59 => (cw_X6_readMeeting cI cZ o o_bytes o_purses o_meetings o_meetings_firsts o_meetings_seconds v_length v_place_43 v_lawNumber v_people a_bytes v_meetings_size_59 a_meetings_firsts_59 a_meetings_seconds_59)) (fun _ _ _ => rfl) (fun _ _ _ => rfl) (fun v_meetings_size_59 a_meetings_firsts_59 a_meetings_seconds_59 H locs h hP hD hS => ?_)
        refine lv_iconst (v := 1) hx hb dX6_readMeeting_62 (by decide) ?_
        exact ret_z4 hx hb hr hlocks hQ hS (by decide) v_place_43 v_meetings_size_59 a_meetings_firsts_59 a_meetings_seconds_59 hP h dX6_readMeeting_63
      · have h := h.2 c48
        refine lv_iconst (v := 0) hx hb dX6_readMeeting_51 (by decide) ?_
        exact ret_z4 hx hb hr hlocks hQ hS (by decide) v_place_43 v_meetings_size a_meetings_firsts a_meetings_seconds hP h dX6_readMeeting_52
    · have h := h.2 c33
      refine lv_iconst (v := 0) hx hb dX6_readMeeting_36 (by decide) ?_
      exact ret_z4 hx hb hr hlocks hQ hS (by decide) v_place_15 v_meetings_size a_meetings_firsts a_meetings_seconds hP h dX6_readMeeting_37
  · have h := h.2 c20
    refine lv_iconst (v := 0) hx hb dX6_readMeeting_23 (by decide) ?_
    exact ret_z4 hx hb hr hlocks hQ hS (by decide) v_place_15 v_meetings_size a_meetings_firsts a_meetings_seconds hP h dX6_readMeeting_24
abbrev rm_X6_readPerson : Room := { frames := 1, cells := 0, slots := 0, locals := 22 }
abbrev cw_X6_readPerson (cI cZ : ClassId) (o o_bytes o_purses o_meetings : Nat) (v_length : Int32) (v_place : Int32) (v_lawNumber : Int32) (v_people : Int32) (a_bytes : Nat → Int32) (a_purses : Nat → Int32) : va_W := [(o, .inr (6, [.ref o_bytes, .int v_length, .int v_place, .int v_lawNumber, .int v_people, .ref o_purses, .ref o_meetings])), (o_bytes, .inl (cI, 96, .inl a_bytes)), (o_purses, .inl (cI, 8, .inl a_purses))]
theorem inw_X6_readPerson_X6 : ∀ w ∈ u_ws RX6 TX6 7, w ∈ wsX6_readPerson := by decide +kernel
def wp_X6_readPerson (v_length : Int32) (v_place : Int32) (v_people : Int32) (a_bytes : Nat → Int32) (a_purses : Nat → Int32) (Post : Int32 → (Int32) → (Int32) → (Nat → Int32) → Prop) : Prop := (∀ k14 : (Int32) → (Int32) → (Int32) → Prop, (∀ (x2_14 : Int32) (x1_14 : Int32) (v_place_14 : Int32), (((4 : Int32) ≤ x2_14 → (vp_in v_people 8 ∧ (Post (1 : Int32) v_place_14 (v_people + (1 : Int32)) (upd a_purses (Int32.toNatClampNeg v_people) x1_14)))) ∧ (¬ (4 : Int32) ≤ x2_14 → (wp_X6_readFigure (10 : Int32) v_length v_place_14 a_bytes (fun (r22 : Int32) (v_place_22 : Int32) => ((0 ≤ r22 → (k14 (x2_14 + 1) ((x1_14 * (10 : Int32)) + r22) v_place_22)) ∧ (¬ 0 ≤ r22 → (Post (0 : Int32) v_place_22 v_people a_purses))))))) → k14 x2_14 x1_14 v_place_14) → k14 (0 : Int32) (0 : Int32) (v_place + (1 : Int32)))
set_option maxHeartbeats 4000000 in
set_option maxRecDepth 100000 in
theorem c_X6_readPerson (l : Launch) (D : va_G) (cI cZ : ClassId) (o o_bytes o_purses o_meetings : Nat) (sz : Nat) (v_length : Int32) (v_place : Int32) (v_lawNumber : Int32) (v_people : Int32) (a_bytes : Nat → Int32) (a_purses : Nat → Int32) (Post : Int32 → (Int32) → (Int32) → (Nat → Int32) → Prop) (h : wp_X6_readPerson v_length v_place v_people a_bytes a_purses Post) : Met l yX6_readPerson wsX6_readPerson rm_X6_readPerson (cPc D cI cZ [.ref o] (cw_X6_readPerson cI cZ o o_bytes o_purses o_meetings v_length v_place v_lawNumber v_people a_bytes a_purses) sz) (cQi3 D Post (fun m_v_place m_v_people m_a_purses => (cw_X6_readPerson cI cZ o o_bytes o_purses o_meetings v_length m_v_place v_lawNumber m_v_people a_bytes m_a_purses)) (va_A (cw_X6_readPerson cI cZ o o_bytes o_purses o_meetings v_length v_place v_lawNumber v_people a_bytes a_purses) sz)) 0 0 (va_A (cw_X6_readPerson cI cZ o o_bytes o_purses o_meetings v_length v_place v_lawNumber v_people a_bytes a_purses) sz) := by
  refine ent (cc := cX6_readPerson) (maxL := 4) (ret := (some .boolean)) (Qc := fun A => cQi3 D Post (fun m_v_place m_v_people m_a_purses => (cw_X6_readPerson cI cZ o o_bytes o_purses o_meetings v_length m_v_place v_lawNumber m_v_people a_bytes m_a_purses)) A) (by decide) rfl (Nat.le_of_ble_eq_true rfl) ?_
  intro p e s m args below meth c A ls Q hQ hsz hx hb hml hr hts hown hlocks hnm hK hP hD hA hS hl
  have hl : lv_has ls 4 [(0, .ref o)] := hl
  unfold wp_X6_readPerson at h
  refine lv_aload_n hx hb dX6_readPerson_0 rfl (lv_at hl 0 rfl) ?_
  refine lv_dup hx hb dX6_readPerson_1 rfl ?_
  refine va_get (D := D) (ci := 6) (v := .int v_place) (C := RX6) (T := TX6) (N := 7) hx hb hts inw_X6_readPerson_X6 hown hK.1 hP 0 rfl rfl 2 (by decide) (hts (.fieldLink RX6 29 "PursesShare$TownText" "place" "I") (by decide +kernel)) (fun _ h9 => h9) rfl dX6_readPerson_2 ?_
  refine lv_iconst (v := 1) hx hb dX6_readPerson_5 (by decide) ?_
  refine lv_iadd hx hb dX6_readPerson_6 ?_
  refine va_put (D := D) (ci := 6) (v := .int (v_place + (1 : Int32))) (ty := .int) (C := RX6) (T := TX6) (N := 7) hx hb hts inw_X6_readPerson_X6 tyX6 tyX6_ok nmX6 hown hK.1 hP hD hS 0 rfl rfl 2 (by decide) (hts (.fieldLink RX6 29 "PursesShare$TownText" "place" "I") (by decide +kernel)) (fun _ h9 => h9) rfl (by decide +kernel) rfl rfl (Nat.le_of_ble_eq_true rfl) dX6_readPerson_7 (fun H locs hP hD hS => ?_)
  have hP : va_P D vwCl (cw_X6_readPerson cI cZ o o_bytes o_purses o_meetings v_length (v_place + (1 : Int32)) v_lawNumber v_people a_bytes a_purses) H := hP
  have hD : va_D A (cw_X6_readPerson cI cZ o o_bytes o_purses o_meetings v_length (v_place + (1 : Int32)) v_lawNumber v_people a_bytes a_purses) := hD
  refine lv_iconst (v := 0) hx hb dX6_readPerson_10 (by decide) ?_
  refine lv_istore_n (lv' := [(1, .int (0 : Int32)), (0, .ref o)]) hx hb dX6_readPerson_11 rfl hl (by decide) rfl (fun ls hl => ?_)
  refine lv_iconst (v := 0) hx hb dX6_readPerson_12 (by decide) ?_
  refine lv_istore_n (lv' := [(2, .int (0 : Int32)), (1, .int (0 : Int32)), (0, .ref o)]) hx hb dX6_readPerson_13 rfl hl (by decide) rfl (fun ls hl => ?_)
  refine h (fun x2_14 x1_14 v_place_14 => ∀ (H : Heap) (locs : List Loc) (ls : Array Slot), lv_has ls 4 [(0, .ref o), (1, .int x1_14), (2, .int x2_14)] → va_P D vwCl (cw_X6_readPerson cI cZ o o_bytes o_purses o_meetings v_length v_place_14 v_lawNumber v_people a_bytes a_purses) H → va_D A (cw_X6_readPerson cI cZ o o_bytes o_purses o_meetings v_length v_place_14 v_lawNumber v_people a_bytes a_purses) → va_S A s.heap H locs → W p l e rm_X6_readPerson s m args below meth c H locs 0 0 Q (F0 m 14 ls [])) ?_ H locs ls (lv_sub hl [2, 1, 0] rfl) hP hD hS
  intro x2_14 x1_14 v_place_14 h H locs ls hl hP hD hS
  refine lv_iload_n hx hb dX6_readPerson_14 rfl (lv_at hl 2 rfl) ?_
  refine lv_iconst (v := 4) hx hb dX6_readPerson_15 (by decide) ?_
  refine lv_icmp_ge (tgt := 45) hx hb dX6_readPerson_16 (by decide) (fun c16 => ?_) (fun c16 => ?_)
  · have h := h.1 c16
    refine lv_aload_n hx hb dX6_readPerson_45 rfl (lv_at hl 0 rfl) ?_
    refine va_get (D := D) (ci := 6) (v := .ref o_purses) (C := RX6) (T := TX6) (N := 7) hx hb hts inw_X6_readPerson_X6 hown hK.1 hP 0 rfl rfl 5 (by decide) (hts (.fieldLink RX6 15 "PursesShare$TownText" "purses" "[I") (by decide +kernel)) (fun _ h9 => h9) rfl dX6_readPerson_46 ?_
    refine lv_aload_n hx hb dX6_readPerson_49 rfl (lv_at hl 0 rfl) ?_
    refine lv_dup hx hb dX6_readPerson_50 rfl ?_
    refine va_get (D := D) (ci := 6) (v := .int v_people) (C := RX6) (T := TX6) (N := 7) hx hb hts inw_X6_readPerson_X6 hown hK.1 hP 0 rfl rfl 4 (by decide) (hts (.fieldLink RX6 32 "PursesShare$TownText" "people" "I") (by decide +kernel)) (fun _ h9 => h9) rfl dX6_readPerson_51 ?_
    refine lv_dup_x1 hx hb dX6_readPerson_54 rfl rfl ?_
    refine lv_iconst (v := 1) hx hb dX6_readPerson_55 (by decide) ?_
    refine lv_iadd hx hb dX6_readPerson_56 ?_
    refine va_put (D := D) (ci := 6) (v := .int (v_people + (1 : Int32))) (ty := .int) (C := RX6) (T := TX6) (N := 7) hx hb hts inw_X6_readPerson_X6 tyX6 tyX6_ok nmX6 hown hK.1 hP hD hS 0 rfl rfl 4 (by decide) (hts (.fieldLink RX6 32 "PursesShare$TownText" "people" "I") (by decide +kernel)) (fun _ h9 => h9) rfl (by decide +kernel) rfl rfl (Nat.le_of_ble_eq_true rfl) dX6_readPerson_57 (fun H locs hP hD hS => ?_)
    have hP : va_P D vwCl (cw_X6_readPerson cI cZ o o_bytes o_purses o_meetings v_length v_place_14 v_lawNumber (v_people + (1 : Int32)) a_bytes a_purses) H := hP
    have hD : va_D A (cw_X6_readPerson cI cZ o o_bytes o_purses o_meetings v_length v_place_14 v_lawNumber (v_people + (1 : Int32)) a_bytes a_purses) := hD
    refine lv_iload_n hx hb dX6_readPerson_60 rfl (lv_at hl 1 rfl) ?_
    have h0 := h.1
    have h := h.2
    refine va_iast hx hb hK.1 hP hD hS 2 0 rfl rfl h0 dX6_readPerson_61 (fun H locs hP hD hS => ?_)
    have hP : va_P D vwCl (cw_X6_readPerson cI cZ o o_bytes o_purses o_meetings v_length v_place_14 v_lawNumber (v_people + (1 : Int32)) a_bytes (upd a_purses (Int32.toNatClampNeg v_people) x1_14)) H := hP
    have hD : va_D A (cw_X6_readPerson cI cZ o o_bytes o_purses o_meetings v_length v_place_14 v_lawNumber (v_people + (1 : Int32)) a_bytes (upd a_purses (Int32.toNatClampNeg v_people) x1_14)) := hD
    refine lv_iconst (v := 1) hx hb dX6_readPerson_62 (by decide) ?_
    exact ret_z3 hx hb hr hlocks hQ hS (by decide) v_place_14 (v_people + (1 : Int32)) (upd a_purses (Int32.toNatClampNeg v_people) x1_14) hP h dX6_readPerson_63
  · have h := h.2 c16
    refine lv_aload_n hx hb dX6_readPerson_19 rfl (lv_at hl 0 rfl) ?_
    refine lv_bipush (v := 10) hx hb dX6_readPerson_20 (by decide) ?_
    refine call_i1 (va_runV (As := [.int (10 : Int32)]) (rest := []) ⟨hx, hb, hml, hown, hts⟩ (c_X6_readFigure l D cI cZ o o_bytes o_purses o_meetings (Array.size H) (10 : Int32) v_length v_place_14 v_lawNumber v_people a_bytes _ h) (cwV 1 hts gX6_readPerson_X6_readFigure rfl rfl rfl (by decide +kernel) ⟨Nat.le_of_ble_eq_true rfl, Nat.le_of_ble_eq_true rfl⟩) (preV_of hP hD hK [0, 1] rfl rfl 0 6 rfl rfl rfl) rfl rfl hl.1 rfl (lv_room (Nat.le_of_ble_eq_true rfl)) dX6_readPerson_22 ⟨Nat.zero_le _, Nat.zero_le _⟩) hP hD hS hA [0, 1] rfl (fun v_place_22 => (cw_X6_readPerson cI cZ o o_bytes o_purses o_meetings v_length v_place_22 v_lawNumber v_people a_bytes a_purses)) (fun _ => rfl) (fun _ => rfl) (fun r22 v_place_22 H locs h hP hD hS => ?_)
    refine lv_istore_n (lv' := [(3, .int r22), (0, .ref o), (1, .int x1_14), (2, .int x2_14)]) hx hb dX6_readPerson_25 rfl hl (by decide) rfl (fun ls hl => ?_)
    refine lv_iload_n hx hb dX6_readPerson_26 rfl (lv_at hl 0 rfl) ?_
    refine lv_if_ge (tgt := 32) hx hb dX6_readPerson_27 (by decide) (fun c27 => ?_) (fun c27 => ?_)
    · have h := h.1 c27
      refine lv_iload_n hx hb dX6_readPerson_32 rfl (lv_at hl 2 rfl) ?_
      refine lv_bipush (v := 10) hx hb dX6_readPerson_33 (by decide) ?_
      refine lv_imul hx hb dX6_readPerson_35 ?_
      refine lv_iload_n hx hb dX6_readPerson_36 rfl (lv_at hl 0 rfl) ?_
      refine lv_iadd hx hb dX6_readPerson_37 ?_
      refine lv_istore_n (lv' := [(1, .int ((x1_14 * (10 : Int32)) + r22)), (3, .int r22), (0, .ref o), (2, .int x2_14)]) hx hb dX6_readPerson_38 rfl hl (by decide) rfl (fun ls hl => ?_)
      refine lv_iinc (v := (x2_14 + 1)) (lv' := [(2, .int (x2_14 + 1)), (1, .int ((x1_14 * (10 : Int32)) + r22)), (3, .int r22), (0, .ref o)]) hx hb dX6_readPerson_39 hl (k := 3) rfl rfl (by decide) rfl (fun ls hl => ?_)
      refine lv_goto (tgt := 14) hx hb dX6_readPerson_42 (by decide) ?_
      exact h H locs ls (lv_sub hl [3, 1, 0] rfl) hP hD hS
    · have h := h.2 c27
      refine lv_iconst (v := 0) hx hb dX6_readPerson_30 (by decide) ?_
      exact ret_z3 hx hb hr hlocks hQ hS (by decide) v_place_22 v_people a_purses hP h dX6_readPerson_31
abbrev rm_X6_readPart : Room := { frames := 2, cells := 0, slots := 0, locals := 45 }
abbrev cw_X6_readPart (cI cZ : ClassId) (o o_bytes o_purses o_meetings o_meetings_firsts o_meetings_seconds : Nat) (v_length : Int32) (v_place : Int32) (v_lawNumber : Int32) (v_people : Int32) (a_bytes : Nat → Int32) (a_purses : Nat → Int32) (v_meetings_size : Int32) (a_meetings_firsts : Nat → Int32) (a_meetings_seconds : Nat → Int32) : va_W := [(o, .inr (6, [.ref o_bytes, .int v_length, .int v_place, .int v_lawNumber, .int v_people, .ref o_purses, .ref o_meetings])), (o_bytes, .inl (cI, 96, .inl a_bytes)), (o_purses, .inl (cI, 8, .inl a_purses)), (o_meetings, .inr (2, [.ref o_meetings_firsts, .ref o_meetings_seconds, .int v_meetings_size])), (o_meetings_firsts, .inl (cI, 16, .inl a_meetings_firsts)), (o_meetings_seconds, .inl (cI, 16, .inl a_meetings_seconds))]
theorem inw_X6_readPart_X2 : ∀ w ∈ u_ws RX2 TX2 3, w ∈ wsX6_readPart := by decide +kernel
theorem inw_X6_readPart_X6 : ∀ w ∈ u_ws RX6 TX6 7, w ∈ wsX6_readPart := by decide +kernel
def wp_X6_readPart (v_length : Int32) (v_place : Int32) (v_people : Int32) (a_bytes : Nat → Int32) (a_purses : Nat → Int32) (v_meetings_size : Int32) (a_meetings_firsts : Nat → Int32) (a_meetings_seconds : Nat → Int32) (Post : Int32 → (Int32) → (Int32) → (Nat → Int32) → (Int32) → (Nat → Int32) → (Nat → Int32) → Prop) : Prop := (wp_X6_nextIs (80 : Int32) v_length v_place a_bytes (fun (r3 : Int32) => ((r3 = 0 → (wp_X6_nextIs (77 : Int32) v_length v_place a_bytes (fun (r26 : Int32) => ((r26 = 0 → (Post (0 : Int32) v_place v_people a_purses v_meetings_size a_meetings_firsts a_meetings_seconds)) ∧ (¬ r26 = 0 → ((v_people < (2 : Int32) → (Post (0 : Int32) v_place v_people a_purses v_meetings_size a_meetings_firsts a_meetings_seconds)) ∧ (¬ v_people < (2 : Int32) → (((16 : Int32) ≤ v_meetings_size → (Post (0 : Int32) v_place v_people a_purses v_meetings_size a_meetings_firsts a_meetings_seconds)) ∧ (¬ (16 : Int32) ≤ v_meetings_size → (wp_X6_readMeeting v_length v_place v_people a_bytes v_meetings_size a_meetings_firsts a_meetings_seconds (fun (r53 : Int32) (v_place_53 : Int32) (v_meetings_size_53 : Int32) (a_meetings_firsts_53 : Nat → Int32) (a_meetings_seconds_53 : Nat → Int32) => (r53 &&& 1 = r53 ∧ (Post r53 v_place_53 v_people a_purses v_meetings_size_53 a_meetings_firsts_53 a_meetings_seconds_53))))))))))))) ∧ (¬ r3 = 0 → (((8 : Int32) ≤ v_people → (wp_X6_nextIs (77 : Int32) v_length v_place a_bytes (fun (r26 : Int32) => ((r26 = 0 → (Post (0 : Int32) v_place v_people a_purses v_meetings_size a_meetings_firsts a_meetings_seconds)) ∧ (¬ r26 = 0 → ((v_people < (2 : Int32) → (Post (0 : Int32) v_place v_people a_purses v_meetings_size a_meetings_firsts a_meetings_seconds)) ∧ (¬ v_people < (2 : Int32) → (((16 : Int32) ≤ v_meetings_size → (Post (0 : Int32) v_place v_people a_purses v_meetings_size a_meetings_firsts a_meetings_seconds)) ∧ (¬ (16 : Int32) ≤ v_meetings_size → (wp_X6_readMeeting v_length v_place v_people a_bytes v_meetings_size a_meetings_firsts a_meetings_seconds (fun (r53 : Int32) (v_place_53 : Int32) (v_meetings_size_53 : Int32) (a_meetings_firsts_53 : Nat → Int32) (a_meetings_seconds_53 : Nat → Int32) => (r53 &&& 1 = r53 ∧ (Post r53 v_place_53 v_people a_purses v_meetings_size_53 a_meetings_firsts_53 a_meetings_seconds_53))))))))))))) ∧ (¬ (8 : Int32) ≤ v_people → (wp_X6_readPerson v_length v_place v_people a_bytes a_purses (fun (r19 : Int32) (v_place_19 : Int32) (v_people_19 : Int32) (a_purses_19 : Nat → Int32) => (r19 &&& 1 = r19 ∧ (Post r19 v_place_19 v_people_19 a_purses_19 v_meetings_size a_meetings_firsts a_meetings_seconds))))))))))
set_option maxHeartbeats 4000000 in
set_option maxRecDepth 100000 in
theorem c_X6_readPart (l : Launch) (D : va_G) (cI cZ : ClassId) (o o_bytes o_purses o_meetings o_meetings_firsts o_meetings_seconds : Nat) (sz : Nat) (v_length : Int32) (v_place : Int32) (v_lawNumber : Int32) (v_people : Int32) (a_bytes : Nat → Int32) (a_purses : Nat → Int32) (v_meetings_size : Int32) (a_meetings_firsts : Nat → Int32) (a_meetings_seconds : Nat → Int32) (Post : Int32 → (Int32) → (Int32) → (Nat → Int32) → (Int32) → (Nat → Int32) → (Nat → Int32) → Prop) (h : wp_X6_readPart v_length v_place v_people a_bytes a_purses v_meetings_size a_meetings_firsts a_meetings_seconds Post) : Met l yX6_readPart wsX6_readPart rm_X6_readPart (cPc D cI cZ [.ref o] (cw_X6_readPart cI cZ o o_bytes o_purses o_meetings o_meetings_firsts o_meetings_seconds v_length v_place v_lawNumber v_people a_bytes a_purses v_meetings_size a_meetings_firsts a_meetings_seconds) sz) (cQi6 D Post (fun m_v_place m_v_people m_a_purses m_v_meetings_size m_a_meetings_firsts m_a_meetings_seconds => (cw_X6_readPart cI cZ o o_bytes o_purses o_meetings o_meetings_firsts o_meetings_seconds v_length m_v_place v_lawNumber m_v_people a_bytes m_a_purses m_v_meetings_size m_a_meetings_firsts m_a_meetings_seconds)) (va_A (cw_X6_readPart cI cZ o o_bytes o_purses o_meetings o_meetings_firsts o_meetings_seconds v_length v_place v_lawNumber v_people a_bytes a_purses v_meetings_size a_meetings_firsts a_meetings_seconds) sz)) 0 0 (va_A (cw_X6_readPart cI cZ o o_bytes o_purses o_meetings o_meetings_firsts o_meetings_seconds v_length v_place v_lawNumber v_people a_bytes a_purses v_meetings_size a_meetings_firsts a_meetings_seconds) sz) := by
  refine ent (cc := cX6_readPart) (maxL := 1) (ret := (some .boolean)) (Qc := fun A => cQi6 D Post (fun m_v_place m_v_people m_a_purses m_v_meetings_size m_a_meetings_firsts m_a_meetings_seconds => (cw_X6_readPart cI cZ o o_bytes o_purses o_meetings o_meetings_firsts o_meetings_seconds v_length m_v_place v_lawNumber m_v_people a_bytes m_a_purses m_v_meetings_size m_a_meetings_firsts m_a_meetings_seconds)) A) (by decide) rfl (Nat.le_of_ble_eq_true rfl) ?_
  intro p e s m args below meth c A ls Q hQ hsz hx hb hml hr hts hown hlocks hnm hK hP hD hA hS hl
  have hl : lv_has ls 1 [(0, .ref o)] := hl
  unfold wp_X6_readPart at h
  refine lv_aload_n hx hb dX6_readPart_0 rfl (lv_at hl 0 rfl) ?_
  refine lv_bipush (v := 80) hx hb dX6_readPart_1 (by decide) ?_
  refine call_i0 (va_runV (As := [.int (80 : Int32)]) (rest := []) ⟨hx, hb, hml, hown, hts⟩ (c_X6_nextIs l D cI cZ o o_bytes o_purses o_meetings (Array.size s.heap) (80 : Int32) v_length v_place v_lawNumber v_people a_bytes _ h) (cwV 1 hts gX6_readPart_X6_nextIs rfl rfl rfl (by decide +kernel) ⟨Nat.le_of_ble_eq_true rfl, Nat.le_of_ble_eq_true rfl⟩) (preV_of hP hD hK [0, 1] rfl rfl 0 6 rfl rfl rfl) rfl rfl hl.1 rfl (lv_room (Nat.le_of_ble_eq_true rfl)) dX6_readPart_3 ⟨Nat.zero_le _, Nat.zero_le _⟩) hP hD hS hA [0, 1] rfl ((cw_X6_readPart cI cZ o o_bytes o_purses o_meetings o_meetings_firsts o_meetings_seconds v_length v_place v_lawNumber v_people a_bytes a_purses v_meetings_size a_meetings_firsts a_meetings_seconds)) (rfl) (rfl) (fun r3 H locs h hP hD hS => ?_)
  refine lv_if_eq (tgt := 23) hx hb dX6_readPart_6 (by decide) (fun c6 => ?_) (fun c6 => ?_)
  · have h := h.1 c6
    refine lv_aload_n hx hb dX6_readPart_23 rfl (lv_at hl 0 rfl) ?_
    refine lv_bipush (v := 77) hx hb dX6_readPart_24 (by decide) ?_
    refine call_i0 (va_runV (As := [.int (77 : Int32)]) (rest := []) ⟨hx, hb, hml, hown, hts⟩ (c_X6_nextIs l D cI cZ o o_bytes o_purses o_meetings (Array.size H) (77 : Int32) v_length v_place v_lawNumber v_people a_bytes _ h) (cwV 1 hts gX6_readPart_X6_nextIs rfl rfl rfl (by decide +kernel) ⟨Nat.le_of_ble_eq_true rfl, Nat.le_of_ble_eq_true rfl⟩) (preV_of hP hD hK [0, 1] rfl rfl 0 6 rfl rfl rfl) rfl rfl hl.1 rfl (lv_room (Nat.le_of_ble_eq_true rfl)) dX6_readPart_26 ⟨Nat.zero_le _, Nat.zero_le _⟩) hP hD hS hA [0, 1] rfl ((cw_X6_readPart cI cZ o o_bytes o_purses o_meetings o_meetings_firsts o_meetings_seconds v_length v_place v_lawNumber v_people a_bytes a_purses v_meetings_size a_meetings_firsts a_meetings_seconds)) (rfl) (rfl) (fun r26 H locs h hP hD hS => ?_)
    refine lv_if_eq (tgt := 57) hx hb dX6_readPart_29 (by decide) (fun c29 => ?_) (fun c29 => ?_)
    · have h := h.1 c29
      refine lv_iconst (v := 0) hx hb dX6_readPart_57 (by decide) ?_
      exact ret_z6 hx hb hr hlocks hQ hS (by decide) v_place v_people a_purses v_meetings_size a_meetings_firsts a_meetings_seconds hP h dX6_readPart_58
    · have h := h.2 c29
      refine lv_aload_n hx hb dX6_readPart_32 rfl (lv_at hl 0 rfl) ?_
      refine va_get (D := D) (ci := 6) (v := .int v_people) (C := RX6) (T := TX6) (N := 7) hx hb hts inw_X6_readPart_X6 hown hK.1 hP 0 rfl rfl 4 (by decide) (hts (.fieldLink RX6 32 "PursesShare$TownText" "people" "I") (by decide +kernel)) (fun _ h9 => h9) rfl dX6_readPart_33 ?_
      refine lv_iconst (v := 2) hx hb dX6_readPart_36 (by decide) ?_
      refine lv_icmp_lt (tgt := 57) hx hb dX6_readPart_37 (by decide) (fun c37 => ?_) (fun c37 => ?_)
      · have h := h.1 c37
        refine lv_iconst (v := 0) hx hb dX6_readPart_57 (by decide) ?_
        exact ret_z6 hx hb hr hlocks hQ hS (by decide) v_place v_people a_purses v_meetings_size a_meetings_firsts a_meetings_seconds hP h dX6_readPart_58
      · have h := h.2 c37
        refine lv_aload_n hx hb dX6_readPart_40 rfl (lv_at hl 0 rfl) ?_
        refine va_get (D := D) (ci := 6) (v := .ref o_meetings) (C := RX6) (T := TX6) (N := 7) hx hb hts inw_X6_readPart_X6 hown hK.1 hP 0 rfl rfl 6 (by decide) (hts (.fieldLink RX6 21 "PursesShare$TownText" "meetings" "LPursesShare$Meetings;") (by decide +kernel)) (fun _ h9 => h9) rfl dX6_readPart_41 ?_
        refine va_getN (D := D) (ci := 2) (v := .int v_meetings_size) (C := RX2) (T := TX2) (N := 3) hx hb hts inw_X6_readPart_X2 hown hK.1 hP 3 rfl rfl 2 (by decide) (nF_5 hK) (fun _ h9 => h9) rfl dX6_readPart_44 ?_
        refine lv_bipush (v := 16) hx hb dX6_readPart_47 (by decide) ?_
        refine lv_icmp_ge (tgt := 57) hx hb dX6_readPart_49 (by decide) (fun c49 => ?_) (fun c49 => ?_)
        · have h := h.1 c49
          refine lv_iconst (v := 0) hx hb dX6_readPart_57 (by decide) ?_
          exact ret_z6 hx hb hr hlocks hQ hS (by decide) v_place v_people a_purses v_meetings_size a_meetings_firsts a_meetings_seconds hP h dX6_readPart_58
        · have h := h.2 c49
          refine lv_aload_n hx hb dX6_readPart_52 rfl (lv_at hl 0 rfl) ?_
          refine call_i4 (va_runV (As := []) (rest := []) ⟨hx, hb, hml, hown, hts⟩ (c_X6_readMeeting l D cI cZ o o_bytes o_purses o_meetings o_meetings_firsts o_meetings_seconds (Array.size H) v_length v_place v_lawNumber v_people a_bytes v_meetings_size a_meetings_firsts a_meetings_seconds _ h) (cwV 0 hts gX6_readPart_X6_readMeeting rfl rfl rfl (by decide +kernel) ⟨Nat.le_of_ble_eq_true rfl, Nat.le_of_ble_eq_true rfl⟩) (preV_of hP hD hK [0, 1, 3, 4, 5] rfl rfl 0 6 rfl rfl rfl) rfl rfl hl.1 rfl (lv_room (Nat.le_of_ble_eq_true rfl)) dX6_readPart_53 ⟨Nat.zero_le _, Nat.zero_le _⟩) hP hD hS hA [0, 1, 3, 4, 5] rfl (fun v_place_53 v_meetings_size_53 a_meetings_firsts_53 a_meetings_seconds_53 => (cw_X6_readPart cI cZ o o_bytes o_purses o_meetings o_meetings_firsts o_meetings_seconds v_length v_place_53 v_lawNumber v_people a_bytes a_purses v_meetings_size_53 a_meetings_firsts_53 a_meetings_seconds_53)) (fun _ _ _ _ => rfl) (fun _ _ _ _ => rfl) (fun r53 v_place_53 v_meetings_size_53 a_meetings_firsts_53 a_meetings_seconds_53 H locs h hP hD hS => ?_)
          have hz := h.1
          have h := h.2
          exact ret_z6 hx hb hr hlocks hQ hS hz v_place_53 v_people a_purses v_meetings_size_53 a_meetings_firsts_53 a_meetings_seconds_53 hP h dX6_readPart_56
  · have h := h.2 c6
    refine lv_aload_n hx hb dX6_readPart_9 rfl (lv_at hl 0 rfl) ?_
    refine va_get (D := D) (ci := 6) (v := .int v_people) (C := RX6) (T := TX6) (N := 7) hx hb hts inw_X6_readPart_X6 hown hK.1 hP 0 rfl rfl 4 (by decide) (hts (.fieldLink RX6 32 "PursesShare$TownText" "people" "I") (by decide +kernel)) (fun _ h9 => h9) rfl dX6_readPart_10 ?_
    refine lv_bipush (v := 8) hx hb dX6_readPart_13 (by decide) ?_
    refine lv_icmp_ge (tgt := 23) hx hb dX6_readPart_15 (by decide) (fun c15 => ?_) (fun c15 => ?_)
    · have h := h.1 c15
      refine lv_aload_n hx hb dX6_readPart_23 rfl (lv_at hl 0 rfl) ?_
      refine lv_bipush (v := 77) hx hb dX6_readPart_24 (by decide) ?_
      refine call_i0 (va_runV (As := [.int (77 : Int32)]) (rest := []) ⟨hx, hb, hml, hown, hts⟩ (c_X6_nextIs l D cI cZ o o_bytes o_purses o_meetings (Array.size H) (77 : Int32) v_length v_place v_lawNumber v_people a_bytes _ h) (cwV 1 hts gX6_readPart_X6_nextIs rfl rfl rfl (by decide +kernel) ⟨Nat.le_of_ble_eq_true rfl, Nat.le_of_ble_eq_true rfl⟩) (preV_of hP hD hK [0, 1] rfl rfl 0 6 rfl rfl rfl) rfl rfl hl.1 rfl (lv_room (Nat.le_of_ble_eq_true rfl)) dX6_readPart_26 ⟨Nat.zero_le _, Nat.zero_le _⟩) hP hD hS hA [0, 1] rfl ((cw_X6_readPart cI cZ o o_bytes o_purses o_meetings o_meetings_firsts o_meetings_seconds v_length v_place v_lawNumber v_people a_bytes a_purses v_meetings_size a_meetings_firsts a_meetings_seconds)) (rfl) (rfl) (fun r26 H locs h hP hD hS => ?_)
      refine lv_if_eq (tgt := 57) hx hb dX6_readPart_29 (by decide) (fun c29 => ?_) (fun c29 => ?_)
      · have h := h.1 c29
        refine lv_iconst (v := 0) hx hb dX6_readPart_57 (by decide) ?_
        exact ret_z6 hx hb hr hlocks hQ hS (by decide) v_place v_people a_purses v_meetings_size a_meetings_firsts a_meetings_seconds hP h dX6_readPart_58
      · have h := h.2 c29
        refine lv_aload_n hx hb dX6_readPart_32 rfl (lv_at hl 0 rfl) ?_
        refine va_get (D := D) (ci := 6) (v := .int v_people) (C := RX6) (T := TX6) (N := 7) hx hb hts inw_X6_readPart_X6 hown hK.1 hP 0 rfl rfl 4 (by decide) (hts (.fieldLink RX6 32 "PursesShare$TownText" "people" "I") (by decide +kernel)) (fun _ h9 => h9) rfl dX6_readPart_33 ?_
        refine lv_iconst (v := 2) hx hb dX6_readPart_36 (by decide) ?_
        refine lv_icmp_lt (tgt := 57) hx hb dX6_readPart_37 (by decide) (fun c37 => ?_) (fun c37 => ?_)
        · have h := h.1 c37
          refine lv_iconst (v := 0) hx hb dX6_readPart_57 (by decide) ?_
          exact ret_z6 hx hb hr hlocks hQ hS (by decide) v_place v_people a_purses v_meetings_size a_meetings_firsts a_meetings_seconds hP h dX6_readPart_58
        · have h := h.2 c37
          refine lv_aload_n hx hb dX6_readPart_40 rfl (lv_at hl 0 rfl) ?_
          refine va_get (D := D) (ci := 6) (v := .ref o_meetings) (C := RX6) (T := TX6) (N := 7) hx hb hts inw_X6_readPart_X6 hown hK.1 hP 0 rfl rfl 6 (by decide) (hts (.fieldLink RX6 21 "PursesShare$TownText" "meetings" "LPursesShare$Meetings;") (by decide +kernel)) (fun _ h9 => h9) rfl dX6_readPart_41 ?_
          refine va_getN (D := D) (ci := 2) (v := .int v_meetings_size) (C := RX2) (T := TX2) (N := 3) hx hb hts inw_X6_readPart_X2 hown hK.1 hP 3 rfl rfl 2 (by decide) (nF_5 hK) (fun _ h9 => h9) rfl dX6_readPart_44 ?_
          refine lv_bipush (v := 16) hx hb dX6_readPart_47 (by decide) ?_
          refine lv_icmp_ge (tgt := 57) hx hb dX6_readPart_49 (by decide) (fun c49 => ?_) (fun c49 => ?_)
          · have h := h.1 c49
            refine lv_iconst (v := 0) hx hb dX6_readPart_57 (by decide) ?_
            exact ret_z6 hx hb hr hlocks hQ hS (by decide) v_place v_people a_purses v_meetings_size a_meetings_firsts a_meetings_seconds hP h dX6_readPart_58
          · have h := h.2 c49
            refine lv_aload_n hx hb dX6_readPart_52 rfl (lv_at hl 0 rfl) ?_
            refine call_i4 (va_runV (As := []) (rest := []) ⟨hx, hb, hml, hown, hts⟩ (c_X6_readMeeting l D cI cZ o o_bytes o_purses o_meetings o_meetings_firsts o_meetings_seconds (Array.size H) v_length v_place v_lawNumber v_people a_bytes v_meetings_size a_meetings_firsts a_meetings_seconds _ h) (cwV 0 hts gX6_readPart_X6_readMeeting rfl rfl rfl (by decide +kernel) ⟨Nat.le_of_ble_eq_true rfl, Nat.le_of_ble_eq_true rfl⟩) (preV_of hP hD hK [0, 1, 3, 4, 5] rfl rfl 0 6 rfl rfl rfl) rfl rfl hl.1 rfl (lv_room (Nat.le_of_ble_eq_true rfl)) dX6_readPart_53 ⟨Nat.zero_le _, Nat.zero_le _⟩) hP hD hS hA [0, 1, 3, 4, 5] rfl (fun v_place_53 v_meetings_size_53 a_meetings_firsts_53 a_meetings_seconds_53 => (cw_X6_readPart cI cZ o o_bytes o_purses o_meetings o_meetings_firsts o_meetings_seconds v_length v_place_53 v_lawNumber v_people a_bytes a_purses v_meetings_size_53 a_meetings_firsts_53 a_meetings_seconds_53)) (fun _ _ _ _ => rfl) (fun _ _ _ _ => rfl) (fun r53 v_place_53 v_meetings_size_53 a_meetings_firsts_53 a_meetings_seconds_53 H locs h hP hD hS => ?_)
            have hz := h.1
            have h := h.2
            exact ret_z6 hx hb hr hlocks hQ hS hz v_place_53 v_people a_purses v_meetings_size_53 a_meetings_firsts_53 a_meetings_seconds_53 hP h dX6_readPart_56
    · have h := h.2 c15
      refine lv_aload_n hx hb dX6_readPart_18 rfl (lv_at hl 0 rfl) ?_
      refine call_i3 (va_runV (As := []) (rest := []) ⟨hx, hb, hml, hown, hts⟩ (c_X6_readPerson l D cI cZ o o_bytes o_purses o_meetings (Array.size H) v_length v_place v_lawNumber v_people a_bytes a_purses _ h) (cwV 0 hts gX6_readPart_X6_readPerson rfl rfl rfl (by decide +kernel) ⟨Nat.le_of_ble_eq_true rfl, Nat.le_of_ble_eq_true rfl⟩) (preV_of hP hD hK [0, 1, 2] rfl rfl 0 6 rfl rfl rfl) rfl rfl hl.1 rfl (lv_room (Nat.le_of_ble_eq_true rfl)) dX6_readPart_19 ⟨Nat.zero_le _, Nat.zero_le _⟩) hP hD hS hA [0, 1, 2] rfl (fun v_place_19 v_people_19 a_purses_19 => (cw_X6_readPart cI cZ o o_bytes o_purses o_meetings o_meetings_firsts o_meetings_seconds v_length v_place_19 v_lawNumber v_people_19 a_bytes a_purses_19 v_meetings_size a_meetings_firsts a_meetings_seconds)) (fun _ _ _ => rfl) (fun _ _ _ => rfl) (fun r19 v_place_19 v_people_19 a_purses_19 H locs h hP hD hS => ?_)
      have hz := h.1
      have h := h.2
      exact ret_z6 hx hb hr hlocks hQ hS hz v_place_19 v_people_19 a_purses_19 v_meetings_size a_meetings_firsts a_meetings_seconds hP h dX6_readPart_22
abbrev rm_X6_findFault : Room := { frames := 3, cells := 0, slots := 0, locals := 65 }
abbrev cw_X6_findFault (cI cZ : ClassId) (o o_bytes o_purses o_meetings o_meetings_firsts o_meetings_seconds : Nat) (v_length : Int32) (v_place : Int32) (v_lawNumber : Int32) (v_people : Int32) (a_bytes : Nat → Int32) (a_purses : Nat → Int32) (v_meetings_size : Int32) (a_meetings_firsts : Nat → Int32) (a_meetings_seconds : Nat → Int32) : va_W := [(o, .inr (6, [.ref o_bytes, .int v_length, .int v_place, .int v_lawNumber, .int v_people, .ref o_purses, .ref o_meetings])), (o_bytes, .inl (cI, 96, .inl a_bytes)), (o_purses, .inl (cI, 8, .inl a_purses)), (o_meetings, .inr (2, [.ref o_meetings_firsts, .ref o_meetings_seconds, .int v_meetings_size])), (o_meetings_firsts, .inl (cI, 16, .inl a_meetings_firsts)), (o_meetings_seconds, .inl (cI, 16, .inl a_meetings_seconds))]
theorem inw_X6_findFault_X2 : ∀ w ∈ u_ws RX2 TX2 3, w ∈ wsX6_findFault := by decide +kernel
theorem inw_X6_findFault_X6 : ∀ w ∈ u_ws RX6 TX6 7, w ∈ wsX6_findFault := by decide +kernel
def wp_X6_findFault (v_length : Int32) (v_place : Int32) (v_lawNumber : Int32) (v_people : Int32) (a_bytes : Nat → Int32) (a_purses : Nat → Int32) (v_meetings_size : Int32) (a_meetings_firsts : Nat → Int32) (a_meetings_seconds : Nat → Int32) (Post : Int32 → (Int32) → (Int32) → (Int32) → (Nat → Int32) → (Int32) → (Nat → Int32) → (Nat → Int32) → Prop) : Prop := (wp_X6_readLaw v_length (0 : Int32) v_lawNumber a_bytes (fun (r19 : Int32) (v_place_19 : Int32) (v_lawNumber_19 : Int32) => (∀ k25 : (Int32) → (Int32) → (Int32) → (Int32) → (Nat → Int32) → (Int32) → (Nat → Int32) → (Nat → Int32) → Prop, (∀ (x2_25 : Int32) (x1_25 : Int32) (v_place_25 : Int32) (v_people_25 : Int32) (a_purses_25 : Nat → Int32) (v_meetings_size_25 : Int32) (a_meetings_firsts_25 : Nat → Int32) (a_meetings_seconds_25 : Nat → Int32), (((96 : Int32) ≤ x2_25 → ((x1_25 = 0 → (Post v_place_25 v_place_25 v_lawNumber_19 v_people_25 a_purses_25 v_meetings_size_25 a_meetings_firsts_25 a_meetings_seconds_25)) ∧ (¬ x1_25 = 0 → ((v_people_25 < (2 : Int32) → (Post v_place_25 v_place_25 v_lawNumber_19 v_people_25 a_purses_25 v_meetings_size_25 a_meetings_firsts_25 a_meetings_seconds_25)) ∧ (¬ v_people_25 < (2 : Int32) → (Post (-9 : Int32) v_place_25 v_lawNumber_19 v_people_25 a_purses_25 v_meetings_size_25 a_meetings_firsts_25 a_meetings_seconds_25)))))) ∧ (¬ (96 : Int32) ≤ x2_25 → ((x1_25 = 0 → ((x1_25 = 0 → (Post v_place_25 v_place_25 v_lawNumber_19 v_people_25 a_purses_25 v_meetings_size_25 a_meetings_firsts_25 a_meetings_seconds_25)) ∧ (¬ x1_25 = 0 → ((v_people_25 < (2 : Int32) → (Post v_place_25 v_place_25 v_lawNumber_19 v_people_25 a_purses_25 v_meetings_size_25 a_meetings_firsts_25 a_meetings_seconds_25)) ∧ (¬ v_people_25 < (2 : Int32) → (Post (-9 : Int32) v_place_25 v_lawNumber_19 v_people_25 a_purses_25 v_meetings_size_25 a_meetings_firsts_25 a_meetings_seconds_25)))))) ∧ (¬ x1_25 = 0 → ((v_length ≤ v_place_25 → ((x1_25 = 0 → (Post v_place_25 v_place_25 v_lawNumber_19 v_people_25 a_purses_25 v_meetings_size_25 a_meetings_firsts_25 a_meetings_seconds_25)) ∧ (¬ x1_25 = 0 → ((v_people_25 < (2 : Int32) → (Post v_place_25 v_place_25 v_lawNumber_19 v_people_25 a_purses_25 v_meetings_size_25 a_meetings_firsts_25 a_meetings_seconds_25)) ∧ (¬ v_people_25 < (2 : Int32) → (Post (-9 : Int32) v_place_25 v_lawNumber_19 v_people_25 a_purses_25 v_meetings_size_25 a_meetings_firsts_25 a_meetings_seconds_25)))))) ∧ (¬ v_length ≤ v_place_25 → (wp_X6_readPart v_length v_place_25 v_people_25 a_bytes a_purses_25 v_meetings_size_25 a_meetings_firsts_25 a_meetings_seconds_25 (fun (r47 : Int32) (v_place_47 : Int32) (v_people_47 : Int32) (a_purses_47 : Nat → Int32) (v_meetings_size_47 : Int32) (a_meetings_firsts_47 : Nat → Int32) (a_meetings_seconds_47 : Nat → Int32) => (k25 (x2_25 + 1) r47 v_place_47 v_people_47 a_purses_47 v_meetings_size_47 a_meetings_firsts_47 a_meetings_seconds_47))))))))) → k25 x2_25 x1_25 v_place_25 v_people_25 a_purses_25 v_meetings_size_25 a_meetings_firsts_25 a_meetings_seconds_25) → k25 (0 : Int32) r19 v_place_19 (0 : Int32) a_purses (0 : Int32) a_meetings_firsts a_meetings_seconds)))
set_option maxHeartbeats 4000000 in
set_option maxRecDepth 100000 in
theorem c_X6_findFault (l : Launch) (D : va_G) (cI cZ : ClassId) (o o_bytes o_purses o_meetings o_meetings_firsts o_meetings_seconds : Nat) (sz : Nat) (v_length : Int32) (v_place : Int32) (v_lawNumber : Int32) (v_people : Int32) (a_bytes : Nat → Int32) (a_purses : Nat → Int32) (v_meetings_size : Int32) (a_meetings_firsts : Nat → Int32) (a_meetings_seconds : Nat → Int32) (Post : Int32 → (Int32) → (Int32) → (Int32) → (Nat → Int32) → (Int32) → (Nat → Int32) → (Nat → Int32) → Prop) (h : wp_X6_findFault v_length v_place v_lawNumber v_people a_bytes a_purses v_meetings_size a_meetings_firsts a_meetings_seconds Post) : Met l yX6_findFault wsX6_findFault rm_X6_findFault (cPc D cI cZ [.ref o] (cw_X6_findFault cI cZ o o_bytes o_purses o_meetings o_meetings_firsts o_meetings_seconds v_length v_place v_lawNumber v_people a_bytes a_purses v_meetings_size a_meetings_firsts a_meetings_seconds) sz) (cQi7 D Post (fun m_v_place m_v_lawNumber m_v_people m_a_purses m_v_meetings_size m_a_meetings_firsts m_a_meetings_seconds => (cw_X6_findFault cI cZ o o_bytes o_purses o_meetings o_meetings_firsts o_meetings_seconds v_length m_v_place m_v_lawNumber m_v_people a_bytes m_a_purses m_v_meetings_size m_a_meetings_firsts m_a_meetings_seconds)) (va_A (cw_X6_findFault cI cZ o o_bytes o_purses o_meetings o_meetings_firsts o_meetings_seconds v_length v_place v_lawNumber v_people a_bytes a_purses v_meetings_size a_meetings_firsts a_meetings_seconds) sz)) 0 0 (va_A (cw_X6_findFault cI cZ o o_bytes o_purses o_meetings o_meetings_firsts o_meetings_seconds v_length v_place v_lawNumber v_people a_bytes a_purses v_meetings_size a_meetings_firsts a_meetings_seconds) sz) := by
  refine ent (cc := cX6_findFault) (maxL := 3) (ret := (some .int)) (Qc := fun A => cQi7 D Post (fun m_v_place m_v_lawNumber m_v_people m_a_purses m_v_meetings_size m_a_meetings_firsts m_a_meetings_seconds => (cw_X6_findFault cI cZ o o_bytes o_purses o_meetings o_meetings_firsts o_meetings_seconds v_length m_v_place m_v_lawNumber m_v_people a_bytes m_a_purses m_v_meetings_size m_a_meetings_firsts m_a_meetings_seconds)) A) (by decide) rfl (Nat.le_of_ble_eq_true rfl) ?_
  intro p e s m args below meth c A ls Q hQ hsz hx hb hml hr hts hown hlocks hnm hK hP hD hA hS hl
  have hl : lv_has ls 3 [(0, .ref o)] := hl
  unfold wp_X6_findFault at h
  refine lv_aload_n hx hb dX6_findFault_0 rfl (lv_at hl 0 rfl) ?_
  refine lv_iconst (v := 0) hx hb dX6_findFault_1 (by decide) ?_
  refine va_put (D := D) (ci := 6) (v := .int (0 : Int32)) (ty := .int) (C := RX6) (T := TX6) (N := 7) hx hb hts inw_X6_findFault_X6 tyX6 tyX6_ok nmX6 hown hK.1 hP hD hS 0 rfl rfl 2 (by decide) (hts (.fieldLink RX6 29 "PursesShare$TownText" "place" "I") (by decide +kernel)) (fun _ h9 => h9) rfl (by decide +kernel) rfl rfl (Nat.le_of_ble_eq_true rfl) dX6_findFault_2 (fun H locs hP hD hS => ?_)
  have hP : va_P D vwCl (cw_X6_findFault cI cZ o o_bytes o_purses o_meetings o_meetings_firsts o_meetings_seconds v_length (0 : Int32) v_lawNumber v_people a_bytes a_purses v_meetings_size a_meetings_firsts a_meetings_seconds) H := hP
  have hD : va_D A (cw_X6_findFault cI cZ o o_bytes o_purses o_meetings o_meetings_firsts o_meetings_seconds v_length (0 : Int32) v_lawNumber v_people a_bytes a_purses v_meetings_size a_meetings_firsts a_meetings_seconds) := hD
  refine lv_aload_n hx hb dX6_findFault_5 rfl (lv_at hl 0 rfl) ?_
  refine lv_iconst (v := 0) hx hb dX6_findFault_6 (by decide) ?_
  refine va_put (D := D) (ci := 6) (v := .int (0 : Int32)) (ty := .int) (C := RX6) (T := TX6) (N := 7) hx hb hts inw_X6_findFault_X6 tyX6 tyX6_ok nmX6 hown hK.1 hP hD hS 0 rfl rfl 4 (by decide) (hts (.fieldLink RX6 32 "PursesShare$TownText" "people" "I") (by decide +kernel)) (fun _ h9 => h9) rfl (by decide +kernel) rfl rfl (Nat.le_of_ble_eq_true rfl) dX6_findFault_7 (fun H locs hP hD hS => ?_)
  have hP : va_P D vwCl (cw_X6_findFault cI cZ o o_bytes o_purses o_meetings o_meetings_firsts o_meetings_seconds v_length (0 : Int32) v_lawNumber (0 : Int32) a_bytes a_purses v_meetings_size a_meetings_firsts a_meetings_seconds) H := hP
  have hD : va_D A (cw_X6_findFault cI cZ o o_bytes o_purses o_meetings o_meetings_firsts o_meetings_seconds v_length (0 : Int32) v_lawNumber (0 : Int32) a_bytes a_purses v_meetings_size a_meetings_firsts a_meetings_seconds) := hD
  refine lv_aload_n hx hb dX6_findFault_10 rfl (lv_at hl 0 rfl) ?_
  refine va_get (D := D) (ci := 6) (v := .ref o_meetings) (C := RX6) (T := TX6) (N := 7) hx hb hts inw_X6_findFault_X6 hown hK.1 hP 0 rfl rfl 6 (by decide) (hts (.fieldLink RX6 21 "PursesShare$TownText" "meetings" "LPursesShare$Meetings;") (by decide +kernel)) (fun _ h9 => h9) rfl dX6_findFault_11 ?_
  refine lv_iconst (v := 0) hx hb dX6_findFault_14 (by decide) ?_
  refine va_putN (D := D) (ci := 2) (v := .int (0 : Int32)) (ty := .int) (C := RX2) (T := TX2) (N := 3) hx hb hts inw_X6_findFault_X2 tyX2 tyX2_ok nmX2 hown hK.1 hP hD hS 3 rfl rfl 2 (by decide) (nF_5 hK) (fun _ h9 => h9) rfl (by decide +kernel) rfl rfl (Nat.le_of_ble_eq_true rfl) dX6_findFault_15 (fun H locs hP hD hS => ?_)
  have hP : va_P D vwCl (cw_X6_findFault cI cZ o o_bytes o_purses o_meetings o_meetings_firsts o_meetings_seconds v_length (0 : Int32) v_lawNumber (0 : Int32) a_bytes a_purses (0 : Int32) a_meetings_firsts a_meetings_seconds) H := hP
  have hD : va_D A (cw_X6_findFault cI cZ o o_bytes o_purses o_meetings o_meetings_firsts o_meetings_seconds v_length (0 : Int32) v_lawNumber (0 : Int32) a_bytes a_purses (0 : Int32) a_meetings_firsts a_meetings_seconds) := hD
  refine lv_aload_n hx hb dX6_findFault_18 rfl (lv_at hl 0 rfl) ?_
  refine call_i2 (va_runV (As := []) (rest := []) ⟨hx, hb, hml, hown, hts⟩ (c_X6_readLaw l D cI cZ o o_bytes o_purses o_meetings (Array.size H) v_length (0 : Int32) v_lawNumber (0 : Int32) a_bytes _ h) (cwV 0 hts gX6_findFault_X6_readLaw rfl rfl rfl (by decide +kernel) ⟨Nat.le_of_ble_eq_true rfl, Nat.le_of_ble_eq_true rfl⟩) (preV_of hP hD hK [0, 1] rfl rfl 0 6 rfl rfl rfl) rfl rfl hl.1 rfl (lv_room (Nat.le_of_ble_eq_true rfl)) dX6_findFault_19 ⟨Nat.zero_le _, Nat.zero_le _⟩) hP hD hS hA [0, 1] rfl (fun v_place_19 v_lawNumber_19 => (cw_X6_findFault cI cZ o o_bytes o_purses o_meetings o_meetings_firsts o_meetings_seconds v_length v_place_19 v_lawNumber_19 (0 : Int32) a_bytes a_purses (0 : Int32) a_meetings_firsts a_meetings_seconds)) (fun _ _ => rfl) (fun _ _ => rfl) (fun r19 v_place_19 v_lawNumber_19 H locs h hP hD hS => ?_)
  refine lv_istore_n (lv' := [(1, .int r19), (0, .ref o)]) hx hb dX6_findFault_22 rfl hl (by decide) rfl (fun ls hl => ?_)
  refine lv_iconst (v := 0) hx hb dX6_findFault_23 (by decide) ?_
  refine lv_istore_n (lv' := [(2, .int (0 : Int32)), (1, .int r19), (0, .ref o)]) hx hb dX6_findFault_24 rfl hl (by decide) rfl (fun ls hl => ?_)
  refine h (fun x2_25 x1_25 v_place_25 v_people_25 a_purses_25 v_meetings_size_25 a_meetings_firsts_25 a_meetings_seconds_25 => ∀ (H : Heap) (locs : List Loc) (ls : Array Slot), lv_has ls 3 [(0, .ref o), (1, .int x1_25), (2, .int x2_25)] → va_P D vwCl (cw_X6_findFault cI cZ o o_bytes o_purses o_meetings o_meetings_firsts o_meetings_seconds v_length v_place_25 v_lawNumber_19 v_people_25 a_bytes a_purses_25 v_meetings_size_25 a_meetings_firsts_25 a_meetings_seconds_25) H → va_D A (cw_X6_findFault cI cZ o o_bytes o_purses o_meetings o_meetings_firsts o_meetings_seconds v_length v_place_25 v_lawNumber_19 v_people_25 a_bytes a_purses_25 v_meetings_size_25 a_meetings_firsts_25 a_meetings_seconds_25) → va_S A s.heap H locs → W p l e rm_X6_findFault s m args below meth c H locs 0 0 Q (F0 m 25 ls [])) ?_ H locs ls (lv_sub hl [2, 1, 0] rfl) hP hD hS
  intro x2_25 x1_25 v_place_25 v_people_25 a_purses_25 v_meetings_size_25 a_meetings_firsts_25 a_meetings_seconds_25 h H locs ls hl hP hD hS
  refine lv_iload_n hx hb dX6_findFault_25 rfl (lv_at hl 2 rfl) ?_
  refine lv_bipush (v := 96) hx hb dX6_findFault_26 (by decide) ?_
  refine lv_icmp_ge (tgt := 57) hx hb dX6_findFault_28 (by decide) (fun c28 => ?_) (fun c28 => ?_)
  · have h := h.1 c28
    refine lv_iload_n hx hb dX6_findFault_57 rfl (lv_at hl 1 rfl) ?_
    refine lv_if_eq (tgt := 74) hx hb dX6_findFault_58 (by decide) (fun c58 => ?_) (fun c58 => ?_)
    · have h := h.1 c58
      refine lv_aload_n hx hb dX6_findFault_74 rfl (lv_at hl 0 rfl) ?_
      refine va_get (D := D) (ci := 6) (v := .int v_place_25) (C := RX6) (T := TX6) (N := 7) hx hb hts inw_X6_findFault_X6 hown hK.1 hP 0 rfl rfl 2 (by decide) (hts (.fieldLink RX6 29 "PursesShare$TownText" "place" "I") (by decide +kernel)) (fun _ h9 => h9) rfl dX6_findFault_75 ?_
      exact ret_i7 hx hb hr hlocks hQ hS v_place_25 v_lawNumber_19 v_people_25 a_purses_25 v_meetings_size_25 a_meetings_firsts_25 a_meetings_seconds_25 hP h dX6_findFault_78
    · have h := h.2 c58
      refine lv_aload_n hx hb dX6_findFault_61 rfl (lv_at hl 0 rfl) ?_
      refine va_get (D := D) (ci := 6) (v := .int v_people_25) (C := RX6) (T := TX6) (N := 7) hx hb hts inw_X6_findFault_X6 hown hK.1 hP 0 rfl rfl 4 (by decide) (hts (.fieldLink RX6 32 "PursesShare$TownText" "people" "I") (by decide +kernel)) (fun _ h9 => h9) rfl dX6_findFault_62 ?_
      refine lv_iconst (v := 2) hx hb dX6_findFault_65 (by decide) ?_
      refine lv_icmp_lt (tgt := 74) hx hb dX6_findFault_66 (by decide) (fun c66 => ?_) (fun c66 => ?_)
      · have h := h.1 c66
        refine lv_aload_n hx hb dX6_findFault_74 rfl (lv_at hl 0 rfl) ?_
        refine va_get (D := D) (ci := 6) (v := .int v_place_25) (C := RX6) (T := TX6) (N := 7) hx hb hts inw_X6_findFault_X6 hown hK.1 hP 0 rfl rfl 2 (by decide) (hts (.fieldLink RX6 29 "PursesShare$TownText" "place" "I") (by decide +kernel)) (fun _ h9 => h9) rfl dX6_findFault_75 ?_
        exact ret_i7 hx hb hr hlocks hQ hS v_place_25 v_lawNumber_19 v_people_25 a_purses_25 v_meetings_size_25 a_meetings_firsts_25 a_meetings_seconds_25 hP h dX6_findFault_78
      · have h := h.2 c66
        refine lv_bipush (v := -9) hx hb dX6_findFault_69 (by decide) ?_
        refine lv_goto (tgt := 78) hx hb dX6_findFault_71 (by decide) ?_
        exact ret_i7 hx hb hr hlocks hQ hS v_place_25 v_lawNumber_19 v_people_25 a_purses_25 v_meetings_size_25 a_meetings_firsts_25 a_meetings_seconds_25 hP h dX6_findFault_78
  · have h := h.2 c28
    refine lv_iload_n hx hb dX6_findFault_31 rfl (lv_at hl 1 rfl) ?_
    refine lv_if_eq (tgt := 57) hx hb dX6_findFault_32 (by decide) (fun c32 => ?_) (fun c32 => ?_)
    · have h := h.1 c32
      refine lv_iload_n hx hb dX6_findFault_57 rfl (lv_at hl 1 rfl) ?_
      refine lv_if_eq (tgt := 74) hx hb dX6_findFault_58 (by decide) (fun c58 => ?_) (fun c58 => ?_)
      · have h := h.1 c58
        refine lv_aload_n hx hb dX6_findFault_74 rfl (lv_at hl 0 rfl) ?_
        refine va_get (D := D) (ci := 6) (v := .int v_place_25) (C := RX6) (T := TX6) (N := 7) hx hb hts inw_X6_findFault_X6 hown hK.1 hP 0 rfl rfl 2 (by decide) (hts (.fieldLink RX6 29 "PursesShare$TownText" "place" "I") (by decide +kernel)) (fun _ h9 => h9) rfl dX6_findFault_75 ?_
        exact ret_i7 hx hb hr hlocks hQ hS v_place_25 v_lawNumber_19 v_people_25 a_purses_25 v_meetings_size_25 a_meetings_firsts_25 a_meetings_seconds_25 hP h dX6_findFault_78
      · have h := h.2 c58
        refine lv_aload_n hx hb dX6_findFault_61 rfl (lv_at hl 0 rfl) ?_
        refine va_get (D := D) (ci := 6) (v := .int v_people_25) (C := RX6) (T := TX6) (N := 7) hx hb hts inw_X6_findFault_X6 hown hK.1 hP 0 rfl rfl 4 (by decide) (hts (.fieldLink RX6 32 "PursesShare$TownText" "people" "I") (by decide +kernel)) (fun _ h9 => h9) rfl dX6_findFault_62 ?_
        refine lv_iconst (v := 2) hx hb dX6_findFault_65 (by decide) ?_
        refine lv_icmp_lt (tgt := 74) hx hb dX6_findFault_66 (by decide) (fun c66 => ?_) (fun c66 => ?_)
        · have h := h.1 c66
          refine lv_aload_n hx hb dX6_findFault_74 rfl (lv_at hl 0 rfl) ?_
          refine va_get (D := D) (ci := 6) (v := .int v_place_25) (C := RX6) (T := TX6) (N := 7) hx hb hts inw_X6_findFault_X6 hown hK.1 hP 0 rfl rfl 2 (by decide) (hts (.fieldLink RX6 29 "PursesShare$TownText" "place" "I") (by decide +kernel)) (fun _ h9 => h9) rfl dX6_findFault_75 ?_
          exact ret_i7 hx hb hr hlocks hQ hS v_place_25 v_lawNumber_19 v_people_25 a_purses_25 v_meetings_size_25 a_meetings_firsts_25 a_meetings_seconds_25 hP h dX6_findFault_78
        · have h := h.2 c66
          refine lv_bipush (v := -9) hx hb dX6_findFault_69 (by decide) ?_
          refine lv_goto (tgt := 78) hx hb dX6_findFault_71 (by decide) ?_
          exact ret_i7 hx hb hr hlocks hQ hS v_place_25 v_lawNumber_19 v_people_25 a_purses_25 v_meetings_size_25 a_meetings_firsts_25 a_meetings_seconds_25 hP h dX6_findFault_78
    · have h := h.2 c32
      refine lv_aload_n hx hb dX6_findFault_35 rfl (lv_at hl 0 rfl) ?_
      refine va_get (D := D) (ci := 6) (v := .int v_place_25) (C := RX6) (T := TX6) (N := 7) hx hb hts inw_X6_findFault_X6 hown hK.1 hP 0 rfl rfl 2 (by decide) (hts (.fieldLink RX6 29 "PursesShare$TownText" "place" "I") (by decide +kernel)) (fun _ h9 => h9) rfl dX6_findFault_36 ?_
      refine lv_aload_n hx hb dX6_findFault_39 rfl (lv_at hl 0 rfl) ?_
      refine va_get (D := D) (ci := 6) (v := .int v_length) (C := RX6) (T := TX6) (N := 7) hx hb hts inw_X6_findFault_X6 hown hK.1 hP 0 rfl rfl 1 (by decide) (hts (.fieldLink RX6 25 "PursesShare$TownText" "length" "I") (by decide +kernel)) (fun _ h9 => h9) rfl dX6_findFault_40 ?_
      refine lv_icmp_ge (tgt := 57) hx hb dX6_findFault_43 (by decide) (fun c43 => ?_) (fun c43 => ?_)
      · have h := h.1 c43
        refine lv_iload_n hx hb dX6_findFault_57 rfl (lv_at hl 1 rfl) ?_
        refine lv_if_eq (tgt := 74) hx hb dX6_findFault_58 (by decide) (fun c58 => ?_) (fun c58 => ?_)
        · have h := h.1 c58
          refine lv_aload_n hx hb dX6_findFault_74 rfl (lv_at hl 0 rfl) ?_
          refine va_get (D := D) (ci := 6) (v := .int v_place_25) (C := RX6) (T := TX6) (N := 7) hx hb hts inw_X6_findFault_X6 hown hK.1 hP 0 rfl rfl 2 (by decide) (hts (.fieldLink RX6 29 "PursesShare$TownText" "place" "I") (by decide +kernel)) (fun _ h9 => h9) rfl dX6_findFault_75 ?_
          exact ret_i7 hx hb hr hlocks hQ hS v_place_25 v_lawNumber_19 v_people_25 a_purses_25 v_meetings_size_25 a_meetings_firsts_25 a_meetings_seconds_25 hP h dX6_findFault_78
        · have h := h.2 c58
          refine lv_aload_n hx hb dX6_findFault_61 rfl (lv_at hl 0 rfl) ?_
          refine va_get (D := D) (ci := 6) (v := .int v_people_25) (C := RX6) (T := TX6) (N := 7) hx hb hts inw_X6_findFault_X6 hown hK.1 hP 0 rfl rfl 4 (by decide) (hts (.fieldLink RX6 32 "PursesShare$TownText" "people" "I") (by decide +kernel)) (fun _ h9 => h9) rfl dX6_findFault_62 ?_
          refine lv_iconst (v := 2) hx hb dX6_findFault_65 (by decide) ?_
          refine lv_icmp_lt (tgt := 74) hx hb dX6_findFault_66 (by decide) (fun c66 => ?_) (fun c66 => ?_)
          · have h := h.1 c66
            refine lv_aload_n hx hb dX6_findFault_74 rfl (lv_at hl 0 rfl) ?_
            refine va_get (D := D) (ci := 6) (v := .int v_place_25) (C := RX6) (T := TX6) (N := 7) hx hb hts inw_X6_findFault_X6 hown hK.1 hP 0 rfl rfl 2 (by decide) (hts (.fieldLink RX6 29 "PursesShare$TownText" "place" "I") (by decide +kernel)) (fun _ h9 => h9) rfl dX6_findFault_75 ?_
            exact ret_i7 hx hb hr hlocks hQ hS v_place_25 v_lawNumber_19 v_people_25 a_purses_25 v_meetings_size_25 a_meetings_firsts_25 a_meetings_seconds_25 hP h dX6_findFault_78
          · have h := h.2 c66
            refine lv_bipush (v := -9) hx hb dX6_findFault_69 (by decide) ?_
            refine lv_goto (tgt := 78) hx hb dX6_findFault_71 (by decide) ?_
            exact ret_i7 hx hb hr hlocks hQ hS v_place_25 v_lawNumber_19 v_people_25 a_purses_25 v_meetings_size_25 a_meetings_firsts_25 a_meetings_seconds_25 hP h dX6_findFault_78
      · have h := h.2 c43
        refine lv_aload_n hx hb dX6_findFault_46 rfl (lv_at hl 0 rfl) ?_
        refine call_i6 (va_runV (As := []) (rest := []) ⟨hx, hb, hml, hown, hts⟩ (c_X6_readPart l D cI cZ o o_bytes o_purses o_meetings o_meetings_firsts o_meetings_seconds (Array.size H) v_length v_place_25 v_lawNumber_19 v_people_25 a_bytes a_purses_25 v_meetings_size_25 a_meetings_firsts_25 a_meetings_seconds_25 _ h) (cwV 0 hts gX6_findFault_X6_readPart rfl rfl rfl (by decide +kernel) ⟨Nat.le_of_ble_eq_true rfl, Nat.le_of_ble_eq_true rfl⟩) (preV_of hP hD hK [0, 1, 2, 3, 4, 5] rfl rfl 0 6 rfl rfl rfl) rfl rfl hl.1 rfl (lv_room (Nat.le_of_ble_eq_true rfl)) dX6_findFault_47 ⟨Nat.zero_le _, Nat.zero_le _⟩) hP hD hS hA [0, 1, 2, 3, 4, 5] rfl (fun v_place_47 v_people_47 a_purses_47 v_meetings_size_47 a_meetings_firsts_47 a_meetings_seconds_47 => (cw_X6_findFault cI cZ o o_bytes o_purses o_meetings o_meetings_firsts o_meetings_seconds v_length v_place_47 v_lawNumber_19 v_people_47 a_bytes a_purses_47 v_meetings_size_47 a_meetings_firsts_47 a_meetings_seconds_47)) (fun _ _ _ _ _ _ => rfl) (fun _ _ _ _ _ _ => rfl) (fun r47 v_place_47 v_people_47 a_purses_47 v_meetings_size_47 a_meetings_firsts_47 a_meetings_seconds_47 H locs h hP hD hS => ?_)
        refine lv_istore_n (lv' := [(1, .int r47), (0, .ref o), (2, .int x2_25)]) hx hb dX6_findFault_50 rfl hl (by decide) rfl (fun ls hl => ?_)
        refine lv_iinc (v := (x2_25 + 1)) (lv' := [(2, .int (x2_25 + 1)), (1, .int r47), (0, .ref o)]) hx hb dX6_findFault_51 hl (k := 2) rfl rfl (by decide) rfl (fun ls hl => ?_)
        refine lv_goto (tgt := 25) hx hb dX6_findFault_54 (by decide) ?_
        exact h H locs ls (lv_sub hl [2, 1, 0] rfl) hP hD hS
abbrev rm_X7_begin : Room := { frames := 2, cells := 0, slots := 0, locals := 46 }
abbrev cw_X7_begin (cI cZ : ClassId) (o o_primes : Nat) (v_lawNumber : Int32) (v_mine : Int32) (v_theirs : Int32) (v_sharedSum : Int32) : va_W := [(o, .inr (7, [.int v_lawNumber, .int v_mine, .int v_theirs, .int v_sharedSum, .ref o_primes]))]
theorem inw_X7_begin_X7 : ∀ w ∈ u_ws RX7 TX7 5, w ∈ wsX7_begin := by decide +kernel
def wp_X7_begin (n1 : Int32) (n2 : Int32) (n3 : Int32) (v_lawNumber : Int32) (v_mine : Int32) (v_theirs : Int32) (v_sharedSum : Int32) (Post : (Int32) → (Int32) → (Int32) → (Int32) → Prop) : Prop := (wp_X8_sharedBy n2 n3 (fun (r18 : Int32) => (Post n1 n2 n3 r18)))
set_option maxHeartbeats 4000000 in
set_option maxRecDepth 100000 in
theorem c_X7_begin (l : Launch) (D : va_G) (cI cZ : ClassId) (o o_primes : Nat) (sz : Nat) (n1 : Int32) (n2 : Int32) (n3 : Int32) (v_lawNumber : Int32) (v_mine : Int32) (v_theirs : Int32) (v_sharedSum : Int32) (Post : (Int32) → (Int32) → (Int32) → (Int32) → Prop) (h : wp_X7_begin n1 n2 n3 v_lawNumber v_mine v_theirs v_sharedSum Post) : Met l yX7_begin wsX7_begin rm_X7_begin (cPc D cI cZ [.ref o, .int n1, .int n2, .int n3] (cw_X7_begin cI cZ o o_primes v_lawNumber v_mine v_theirs v_sharedSum) sz) (cQv4 D Post (fun m_v_lawNumber m_v_mine m_v_theirs m_v_sharedSum => (cw_X7_begin cI cZ o o_primes m_v_lawNumber m_v_mine m_v_theirs m_v_sharedSum)) (va_A (cw_X7_begin cI cZ o o_primes v_lawNumber v_mine v_theirs v_sharedSum) sz)) 0 0 (va_A (cw_X7_begin cI cZ o o_primes v_lawNumber v_mine v_theirs v_sharedSum) sz) := by
  refine ent (cc := cX7_begin) (maxL := 4) (ret := none) (Qc := fun A => cQv4 D Post (fun m_v_lawNumber m_v_mine m_v_theirs m_v_sharedSum => (cw_X7_begin cI cZ o o_primes m_v_lawNumber m_v_mine m_v_theirs m_v_sharedSum)) A) (by decide) rfl (Nat.le_of_ble_eq_true rfl) ?_
  intro p e s m args below meth c A ls Q hQ hsz hx hb hml hr hts hown hlocks hnm hK hP hD hA hS hl
  have hl : lv_has ls 4 [(0, .ref o), (1, .int n1), (2, .int n2), (3, .int n3)] := hl
  unfold wp_X7_begin at h
  refine lv_aload_n hx hb dX7_begin_0 rfl (lv_at hl 0 rfl) ?_
  refine lv_iload_n hx hb dX7_begin_1 rfl (lv_at hl 1 rfl) ?_
  refine va_put (D := D) (ci := 7) (v := .int n1) (ty := .int) (C := RX7) (T := TX7) (N := 5) hx hb hts inw_X7_begin_X7 tyX7 tyX7_ok nmX7 hown hK.1 hP hD hS 0 rfl rfl 0 (by decide) (hts (.fieldLink RX7 15 "PursesShare$TwoPurses" "lawNumber" "I") (by decide +kernel)) (fun _ h9 => h9) rfl (by decide +kernel) rfl rfl (Nat.le_of_ble_eq_true rfl) dX7_begin_2 (fun H locs hP hD hS => ?_)
  have hP : va_P D vwCl (cw_X7_begin cI cZ o o_primes n1 v_mine v_theirs v_sharedSum) H := hP
  have hD : va_D A (cw_X7_begin cI cZ o o_primes n1 v_mine v_theirs v_sharedSum) := hD
  refine lv_aload_n hx hb dX7_begin_5 rfl (lv_at hl 0 rfl) ?_
  refine lv_iload_n hx hb dX7_begin_6 rfl (lv_at hl 2 rfl) ?_
  refine va_put (D := D) (ci := 7) (v := .int n2) (ty := .int) (C := RX7) (T := TX7) (N := 5) hx hb hts inw_X7_begin_X7 tyX7 tyX7_ok nmX7 hown hK.1 hP hD hS 0 rfl rfl 1 (by decide) (hts (.fieldLink RX7 19 "PursesShare$TwoPurses" "mine" "I") (by decide +kernel)) (fun _ h9 => h9) rfl (by decide +kernel) rfl rfl (Nat.le_of_ble_eq_true rfl) dX7_begin_7 (fun H locs hP hD hS => ?_)
  have hP : va_P D vwCl (cw_X7_begin cI cZ o o_primes n1 n2 v_theirs v_sharedSum) H := hP
  have hD : va_D A (cw_X7_begin cI cZ o o_primes n1 n2 v_theirs v_sharedSum) := hD
  refine lv_aload_n hx hb dX7_begin_10 rfl (lv_at hl 0 rfl) ?_
  refine lv_iload_n hx hb dX7_begin_11 rfl (lv_at hl 3 rfl) ?_
  refine va_put (D := D) (ci := 7) (v := .int n3) (ty := .int) (C := RX7) (T := TX7) (N := 5) hx hb hts inw_X7_begin_X7 tyX7 tyX7_ok nmX7 hown hK.1 hP hD hS 0 rfl rfl 2 (by decide) (hts (.fieldLink RX7 22 "PursesShare$TwoPurses" "theirs" "I") (by decide +kernel)) (fun _ h9 => h9) rfl (by decide +kernel) rfl rfl (Nat.le_of_ble_eq_true rfl) dX7_begin_12 (fun H locs hP hD hS => ?_)
  have hP : va_P D vwCl (cw_X7_begin cI cZ o o_primes n1 n2 n3 v_sharedSum) H := hP
  have hD : va_D A (cw_X7_begin cI cZ o o_primes n1 n2 n3 v_sharedSum) := hD
  refine lv_aload_n hx hb dX7_begin_15 rfl (lv_at hl 0 rfl) ?_
  refine lv_iload_n hx hb dX7_begin_16 rfl (lv_at hl 2 rfl) ?_
  refine lv_iload_n hx hb dX7_begin_17 rfl (lv_at hl 3 rfl) ?_
  refine call_i0 (va_runSN (As := [.int n2, .int n3]) (rest := [.ref o]) ⟨hx, hb, hml, hown, hts⟩ (c_X8_sharedBy l D cI cZ (Array.size H) n2 n3 _ h) ⟨va_cnB (own := RX7) 2 hts gX7_begin_X8_sharedBy_n25 rfl rfl rfl (nM_16 hK) (hts (.initialized RX8) (by decide +kernel)) (by decide +kernel) ⟨Nat.le_of_ble_eq_true rfl, Nat.le_of_ble_eq_true rfl⟩, hts (.static yX8_sharedBy) (by decide +kernel), trivial⟩ (preS_of hP hD hK [] rfl rfl) rfl rfl hl.1 rfl (lv_room (Nat.le_of_ble_eq_true rfl)) dX7_begin_18 ⟨Nat.zero_le _, Nat.zero_le _⟩) hP hD hS hA [] rfl ((cw_X7_begin cI cZ o o_primes n1 n2 n3 v_sharedSum)) (rfl) (rfl) (fun r18 H locs h hP hD hS => ?_)
  refine va_put (D := D) (ci := 7) (v := .int r18) (ty := .int) (C := RX7) (T := TX7) (N := 5) hx hb hts inw_X7_begin_X7 tyX7 tyX7_ok nmX7 hown hK.1 hP hD hS 0 rfl rfl 3 (by decide) (hts (.fieldLink RX7 29 "PursesShare$TwoPurses" "sharedSum" "I") (by decide +kernel)) (fun _ h9 => h9) rfl (by decide +kernel) rfl rfl (Nat.le_of_ble_eq_true rfl) dX7_begin_21 (fun H locs hP hD hS => ?_)
  have hP : va_P D vwCl (cw_X7_begin cI cZ o o_primes n1 n2 n3 r18) H := hP
  have hD : va_D A (cw_X7_begin cI cZ o o_primes n1 n2 n3 r18) := hD
  exact ret_v4 hx hb hr hlocks hQ hS n1 n2 n3 r18 hP h dX7_begin_24
abbrev rm_X7_isStill : Room := { frames := 0, cells := 0, slots := 0, locals := 0 }
abbrev cw_X7_isStill (cI cZ : ClassId) (o o_primes : Nat) (v_lawNumber : Int32) (v_mine : Int32) (v_theirs : Int32) (v_sharedSum : Int32) : va_W := [(o, .inr (7, [.int v_lawNumber, .int v_mine, .int v_theirs, .int v_sharedSum, .ref o_primes]))]
theorem inw_X7_isStill_X7 : ∀ w ∈ u_ws RX7 TX7 5, w ∈ wsX7_isStill := by decide +kernel
def wp_X7_isStill (v_lawNumber : Int32) (v_mine : Int32) (v_theirs : Int32) (v_sharedSum : Int32) (Post : Int32 → Prop) : Prop := ((v_mine = v_theirs → (Post (1 : Int32))) ∧ (¬ v_mine = v_theirs → ((¬ v_sharedSum = 0 → ((¬ v_lawNumber = (2 : Int32) → (Post (0 : Int32))) ∧ (v_lawNumber = (2 : Int32) → ((¬ v_sharedSum = (1 : Int32) → (Post (0 : Int32))) ∧ (v_sharedSum = (1 : Int32) → (Post (1 : Int32))))))) ∧ (v_sharedSum = 0 → (Post (1 : Int32))))))
set_option maxHeartbeats 4000000 in
set_option maxRecDepth 100000 in
theorem c_X7_isStill (l : Launch) (D : va_G) (cI cZ : ClassId) (o o_primes : Nat) (sz : Nat) (v_lawNumber : Int32) (v_mine : Int32) (v_theirs : Int32) (v_sharedSum : Int32) (Post : Int32 → Prop) (h : wp_X7_isStill v_lawNumber v_mine v_theirs v_sharedSum Post) : Met l yX7_isStill wsX7_isStill rm_X7_isStill (cPc D cI cZ [.ref o] (cw_X7_isStill cI cZ o o_primes v_lawNumber v_mine v_theirs v_sharedSum) sz) (cQi0 D Post ((cw_X7_isStill cI cZ o o_primes v_lawNumber v_mine v_theirs v_sharedSum)) (va_A (cw_X7_isStill cI cZ o o_primes v_lawNumber v_mine v_theirs v_sharedSum) sz)) 0 0 (va_A (cw_X7_isStill cI cZ o o_primes v_lawNumber v_mine v_theirs v_sharedSum) sz) := by
  refine ent (cc := cX7_isStill) (maxL := 1) (ret := (some .boolean)) (Qc := fun A => cQi0 D Post ((cw_X7_isStill cI cZ o o_primes v_lawNumber v_mine v_theirs v_sharedSum)) A) (by decide) rfl (Nat.le_of_ble_eq_true rfl) ?_
  intro p e s m args below meth c A ls Q hQ hsz hx hb hml hr hts hown hlocks hnm hK hP hD hA hS hl
  have hl : lv_has ls 1 [(0, .ref o)] := hl
  unfold wp_X7_isStill at h
  refine lv_aload_n hx hb dX7_isStill_0 rfl (lv_at hl 0 rfl) ?_
  refine va_get (D := D) (ci := 7) (v := .int v_mine) (C := RX7) (T := TX7) (N := 5) hx hb hts inw_X7_isStill_X7 hown hK.1 hP 0 rfl rfl 1 (by decide) (hts (.fieldLink RX7 19 "PursesShare$TwoPurses" "mine" "I") (by decide +kernel)) (fun _ h9 => h9) rfl dX7_isStill_1 ?_
  refine lv_aload_n hx hb dX7_isStill_4 rfl (lv_at hl 0 rfl) ?_
  refine va_get (D := D) (ci := 7) (v := .int v_theirs) (C := RX7) (T := TX7) (N := 5) hx hb hts inw_X7_isStill_X7 hown hK.1 hP 0 rfl rfl 2 (by decide) (hts (.fieldLink RX7 22 "PursesShare$TwoPurses" "theirs" "I") (by decide +kernel)) (fun _ h9 => h9) rfl dX7_isStill_5 ?_
  refine lv_icmp_eq (tgt := 18) hx hb dX7_isStill_8 (by decide) (fun c8 => ?_) (fun c8 => ?_)
  · have h := h.1 c8
    refine lv_iconst (v := 1) hx hb dX7_isStill_18 (by decide) ?_
    exact ret_z0 hx hb hr hlocks hQ hS (by decide)  hP h dX7_isStill_19
  · have h := h.2 c8
    refine lv_aload_n hx hb dX7_isStill_11 rfl (lv_at hl 0 rfl) ?_
    refine va_get (D := D) (ci := 7) (v := .int v_sharedSum) (C := RX7) (T := TX7) (N := 5) hx hb hts inw_X7_isStill_X7 hown hK.1 hP 0 rfl rfl 3 (by decide) (hts (.fieldLink RX7 29 "PursesShare$TwoPurses" "sharedSum" "I") (by decide +kernel)) (fun _ h9 => h9) rfl dX7_isStill_12 ?_
    refine lv_if_ne (tgt := 20) hx hb dX7_isStill_15 (by decide) (fun c15 => ?_) (fun c15 => ?_)
    · have h := h.1 c15
      refine lv_aload_n hx hb dX7_isStill_20 rfl (lv_at hl 0 rfl) ?_
      refine va_get (D := D) (ci := 7) (v := .int v_lawNumber) (C := RX7) (T := TX7) (N := 5) hx hb hts inw_X7_isStill_X7 hown hK.1 hP 0 rfl rfl 0 (by decide) (hts (.fieldLink RX7 15 "PursesShare$TwoPurses" "lawNumber" "I") (by decide +kernel)) (fun _ h9 => h9) rfl dX7_isStill_21 ?_
      refine lv_iconst (v := 2) hx hb dX7_isStill_24 (by decide) ?_
      refine lv_icmp_ne (tgt := 40) hx hb dX7_isStill_25 (by decide) (fun c25 => ?_) (fun c25 => ?_)
      · have h := h.1 c25
        refine lv_iconst (v := 0) hx hb dX7_isStill_40 (by decide) ?_
        exact ret_z0 hx hb hr hlocks hQ hS (by decide)  hP h dX7_isStill_41
      · have h := h.2 c25
        refine lv_aload_n hx hb dX7_isStill_28 rfl (lv_at hl 0 rfl) ?_
        refine va_get (D := D) (ci := 7) (v := .int v_sharedSum) (C := RX7) (T := TX7) (N := 5) hx hb hts inw_X7_isStill_X7 hown hK.1 hP 0 rfl rfl 3 (by decide) (hts (.fieldLink RX7 29 "PursesShare$TwoPurses" "sharedSum" "I") (by decide +kernel)) (fun _ h9 => h9) rfl dX7_isStill_29 ?_
        refine lv_iconst (v := 1) hx hb dX7_isStill_32 (by decide) ?_
        refine lv_icmp_ne (tgt := 40) hx hb dX7_isStill_33 (by decide) (fun c33 => ?_) (fun c33 => ?_)
        · have h := h.1 c33
          refine lv_iconst (v := 0) hx hb dX7_isStill_40 (by decide) ?_
          exact ret_z0 hx hb hr hlocks hQ hS (by decide)  hP h dX7_isStill_41
        · have h := h.2 c33
          refine lv_iconst (v := 1) hx hb dX7_isStill_36 (by decide) ?_
          refine lv_goto (tgt := 41) hx hb dX7_isStill_37 (by decide) ?_
          exact ret_z0 hx hb hr hlocks hQ hS (by decide)  hP h dX7_isStill_41
    · have h := h.2 c15
      refine lv_iconst (v := 1) hx hb dX7_isStill_18 (by decide) ?_
      exact ret_z0 hx hb hr hlocks hQ hS (by decide)  hP h dX7_isStill_19
abbrev rm_X7_changesPlaces : Room := { frames := 1, cells := 0, slots := 0, locals := 60 }
abbrev cw_X7_changesPlaces (cI cZ : ClassId) (o o_primes : Nat) (v_lawNumber : Int32) (v_mine : Int32) (v_theirs : Int32) (v_sharedSum : Int32) : va_W := [(o, .inr (7, [.int v_lawNumber, .int v_mine, .int v_theirs, .int v_sharedSum, .ref o_primes]))]
theorem inw_X7_changesPlaces_X7 : ∀ w ∈ u_ws RX7 TX7 5, w ∈ wsX7_changesPlaces := by decide +kernel
def wp_X7_changesPlaces (v_lawNumber : Int32) (v_mine : Int32) (v_theirs : Int32) (v_sharedSum : Int32) (Post : Int32 → Prop) : Prop := (wp_X7_isStill v_lawNumber v_mine v_theirs v_sharedSum (fun (r1 : Int32) => ((¬ r1 = 0 → (Post (0 : Int32))) ∧ (r1 = 0 → (∀ r16 : Int32, r16 = (if 0 ≤ (v_mine - v_theirs) then (v_mine - v_theirs) else 0 - (v_mine - v_theirs)) → ((r16 = v_sharedSum → ((v_lawNumber = 0 → (Post (1 : Int32))) ∧ (¬ v_lawNumber = 0 → ((¬ v_lawNumber = (3 : Int32) → (Post (0 : Int32))) ∧ (v_lawNumber = (3 : Int32) → (Post (1 : Int32))))))) ∧ (¬ r16 = v_sharedSum → (Post (0 : Int32)))))))))
set_option maxHeartbeats 4000000 in
set_option maxRecDepth 100000 in
theorem c_X7_changesPlaces (l : Launch) (D : va_G) (cI cZ : ClassId) (o o_primes : Nat) (sz : Nat) (v_lawNumber : Int32) (v_mine : Int32) (v_theirs : Int32) (v_sharedSum : Int32) (Post : Int32 → Prop) (h : wp_X7_changesPlaces v_lawNumber v_mine v_theirs v_sharedSum Post) : Met l yX7_changesPlaces wsX7_changesPlaces rm_X7_changesPlaces (cPc D cI cZ [.ref o] (cw_X7_changesPlaces cI cZ o o_primes v_lawNumber v_mine v_theirs v_sharedSum) sz) (cQi0 D Post ((cw_X7_changesPlaces cI cZ o o_primes v_lawNumber v_mine v_theirs v_sharedSum)) (va_A (cw_X7_changesPlaces cI cZ o o_primes v_lawNumber v_mine v_theirs v_sharedSum) sz)) 0 0 (va_A (cw_X7_changesPlaces cI cZ o o_primes v_lawNumber v_mine v_theirs v_sharedSum) sz) := by
  refine ent (cc := cX7_changesPlaces) (maxL := 1) (ret := (some .boolean)) (Qc := fun A => cQi0 D Post ((cw_X7_changesPlaces cI cZ o o_primes v_lawNumber v_mine v_theirs v_sharedSum)) A) (by decide) rfl (Nat.le_of_ble_eq_true rfl) ?_
  intro p e s m args below meth c A ls Q hQ hsz hx hb hml hr hts hown hlocks hnm hK hP hD hA hS hl
  have hl : lv_has ls 1 [(0, .ref o)] := hl
  unfold wp_X7_changesPlaces at h
  refine lv_aload_n hx hb dX7_changesPlaces_0 rfl (lv_at hl 0 rfl) ?_
  refine call_i0 (va_runV (As := []) (rest := []) ⟨hx, hb, hml, hown, hts⟩ (c_X7_isStill l D cI cZ o o_primes (Array.size s.heap) v_lawNumber v_mine v_theirs v_sharedSum _ h) (cwV 0 hts gX7_changesPlaces_X7_isStill rfl rfl rfl (by decide +kernel) ⟨Nat.le_of_ble_eq_true rfl, Nat.le_of_ble_eq_true rfl⟩) (preV_of hP hD hK [0] rfl rfl 0 7 rfl rfl rfl) rfl rfl hl.1 rfl (lv_room (Nat.le_of_ble_eq_true rfl)) dX7_changesPlaces_1 ⟨Nat.zero_le _, Nat.zero_le _⟩) hP hD hS hA [0] rfl ((cw_X7_changesPlaces cI cZ o o_primes v_lawNumber v_mine v_theirs v_sharedSum)) (rfl) (rfl) (fun r1 H locs h hP hD hS => ?_)
  refine lv_if_ne (tgt := 26) hx hb dX7_changesPlaces_4 (by decide) (fun c4 => ?_) (fun c4 => ?_)
  · have h := h.1 c4
    refine lv_iconst (v := 0) hx hb dX7_changesPlaces_26 (by decide) ?_
    exact ret_z0 hx hb hr hlocks hQ hS (by decide)  hP h dX7_changesPlaces_27
  · have h := h.2 c4
    refine lv_aload_n hx hb dX7_changesPlaces_7 rfl (lv_at hl 0 rfl) ?_
    refine va_get (D := D) (ci := 7) (v := .int v_mine) (C := RX7) (T := TX7) (N := 5) hx hb hts inw_X7_changesPlaces_X7 hown hK.1 hP 0 rfl rfl 1 (by decide) (hts (.fieldLink RX7 19 "PursesShare$TwoPurses" "mine" "I") (by decide +kernel)) (fun _ h9 => h9) rfl dX7_changesPlaces_8 ?_
    refine lv_aload_n hx hb dX7_changesPlaces_11 rfl (lv_at hl 0 rfl) ?_
    refine va_get (D := D) (ci := 7) (v := .int v_theirs) (C := RX7) (T := TX7) (N := 5) hx hb hts inw_X7_changesPlaces_X7 hown hK.1 hP 0 rfl rfl 2 (by decide) (hts (.fieldLink RX7 22 "PursesShare$TwoPurses" "theirs" "I") (by decide +kernel)) (fun _ h9 => h9) rfl dX7_changesPlaces_12 ?_
    refine lv_isub hx hb dX7_changesPlaces_15 ?_
    refine va_mabs hx hb (hml.trans hl.1.symm) hown (hts (.methodLink RX7 36 Lib.Math.abs.name) (by decide +kernel)) (hts (.static Lib.Math.abs.name) (by decide +kernel)) (hts (.initialized "java/lang/Math") (by decide +kernel)) (hts (.code Lib.Math.abs.name Lib.Math.abs.code 1 (some .int)) (by decide +kernel)) (Nat.le_of_ble_eq_true rfl) (Nat.le_of_ble_eq_true rfl) (Nat.zero_le _) (Nat.zero_le _) dX7_changesPlaces_16 ?_
    refine lv_topi (fun r16 e16 => ?_)
    have h := h r16 e16
    refine lv_aload_n hx hb dX7_changesPlaces_19 rfl (lv_at hl 0 rfl) ?_
    refine va_get (D := D) (ci := 7) (v := .int v_sharedSum) (C := RX7) (T := TX7) (N := 5) hx hb hts inw_X7_changesPlaces_X7 hown hK.1 hP 0 rfl rfl 3 (by decide) (hts (.fieldLink RX7 29 "PursesShare$TwoPurses" "sharedSum" "I") (by decide +kernel)) (fun _ h9 => h9) rfl dX7_changesPlaces_20 ?_
    refine lv_icmp_eq (tgt := 28) hx hb dX7_changesPlaces_23 (by decide) (fun c23 => ?_) (fun c23 => ?_)
    · have h := h.1 c23
      refine lv_aload_n hx hb dX7_changesPlaces_28 rfl (lv_at hl 0 rfl) ?_
      refine va_get (D := D) (ci := 7) (v := .int v_lawNumber) (C := RX7) (T := TX7) (N := 5) hx hb hts inw_X7_changesPlaces_X7 hown hK.1 hP 0 rfl rfl 0 (by decide) (hts (.fieldLink RX7 15 "PursesShare$TwoPurses" "lawNumber" "I") (by decide +kernel)) (fun _ h9 => h9) rfl dX7_changesPlaces_29 ?_
      refine lv_if_eq (tgt := 43) hx hb dX7_changesPlaces_32 (by decide) (fun c32 => ?_) (fun c32 => ?_)
      · have h := h.1 c32
        refine lv_iconst (v := 1) hx hb dX7_changesPlaces_43 (by decide) ?_
        refine lv_goto (tgt := 48) hx hb dX7_changesPlaces_44 (by decide) ?_
        exact ret_z0 hx hb hr hlocks hQ hS (by decide)  hP h dX7_changesPlaces_48
      · have h := h.2 c32
        refine lv_aload_n hx hb dX7_changesPlaces_35 rfl (lv_at hl 0 rfl) ?_
        refine va_get (D := D) (ci := 7) (v := .int v_lawNumber) (C := RX7) (T := TX7) (N := 5) hx hb hts inw_X7_changesPlaces_X7 hown hK.1 hP 0 rfl rfl 0 (by decide) (hts (.fieldLink RX7 15 "PursesShare$TwoPurses" "lawNumber" "I") (by decide +kernel)) (fun _ h9 => h9) rfl dX7_changesPlaces_36 ?_
        refine lv_iconst (v := 3) hx hb dX7_changesPlaces_39 (by decide) ?_
        refine lv_icmp_ne (tgt := 47) hx hb dX7_changesPlaces_40 (by decide) (fun c40 => ?_) (fun c40 => ?_)
        · have h := h.1 c40
          refine lv_iconst (v := 0) hx hb dX7_changesPlaces_47 (by decide) ?_
          exact ret_z0 hx hb hr hlocks hQ hS (by decide)  hP h dX7_changesPlaces_48
        · have h := h.2 c40
          refine lv_iconst (v := 1) hx hb dX7_changesPlaces_43 (by decide) ?_
          refine lv_goto (tgt := 48) hx hb dX7_changesPlaces_44 (by decide) ?_
          exact ret_z0 hx hb hr hlocks hQ hS (by decide)  hP h dX7_changesPlaces_48
    · have h := h.2 c23
      refine lv_iconst (v := 0) hx hb dX7_changesPlaces_26 (by decide) ?_
      exact ret_z0 hx hb hr hlocks hQ hS (by decide)  hP h dX7_changesPlaces_27
abbrev rm_X7_ringLength : Room := { frames := 2, cells := 0, slots := 0, locals := 80 }
abbrev cw_X7_ringLength (cI cZ : ClassId) (o o_primes : Nat) (v_lawNumber : Int32) (v_mine : Int32) (v_theirs : Int32) (v_sharedSum : Int32) : va_W := [(o, .inr (7, [.int v_lawNumber, .int v_mine, .int v_theirs, .int v_sharedSum, .ref o_primes]))]
def wp_X7_ringLength (v_lawNumber : Int32) (v_mine : Int32) (v_theirs : Int32) (v_sharedSum : Int32) (Post : Int32 → Prop) : Prop := (wp_X7_changesPlaces v_lawNumber v_mine v_theirs v_sharedSum (fun (r1 : Int32) => ((r1 = 0 → (Post (1 : Int32))) ∧ (¬ r1 = 0 → (Post (2 : Int32))))))
set_option maxHeartbeats 4000000 in
set_option maxRecDepth 100000 in
theorem c_X7_ringLength (l : Launch) (D : va_G) (cI cZ : ClassId) (o o_primes : Nat) (sz : Nat) (v_lawNumber : Int32) (v_mine : Int32) (v_theirs : Int32) (v_sharedSum : Int32) (Post : Int32 → Prop) (h : wp_X7_ringLength v_lawNumber v_mine v_theirs v_sharedSum Post) : Met l yX7_ringLength wsX7_ringLength rm_X7_ringLength (cPc D cI cZ [.ref o] (cw_X7_ringLength cI cZ o o_primes v_lawNumber v_mine v_theirs v_sharedSum) sz) (cQi0 D Post ((cw_X7_ringLength cI cZ o o_primes v_lawNumber v_mine v_theirs v_sharedSum)) (va_A (cw_X7_ringLength cI cZ o o_primes v_lawNumber v_mine v_theirs v_sharedSum) sz)) 0 0 (va_A (cw_X7_ringLength cI cZ o o_primes v_lawNumber v_mine v_theirs v_sharedSum) sz) := by
  refine ent (cc := cX7_ringLength) (maxL := 1) (ret := (some .int)) (Qc := fun A => cQi0 D Post ((cw_X7_ringLength cI cZ o o_primes v_lawNumber v_mine v_theirs v_sharedSum)) A) (by decide) rfl (Nat.le_of_ble_eq_true rfl) ?_
  intro p e s m args below meth c A ls Q hQ hsz hx hb hml hr hts hown hlocks hnm hK hP hD hA hS hl
  have hl : lv_has ls 1 [(0, .ref o)] := hl
  unfold wp_X7_ringLength at h
  refine lv_aload_n hx hb dX7_ringLength_0 rfl (lv_at hl 0 rfl) ?_
  refine call_i0 (va_runV (As := []) (rest := []) ⟨hx, hb, hml, hown, hts⟩ (c_X7_changesPlaces l D cI cZ o o_primes (Array.size s.heap) v_lawNumber v_mine v_theirs v_sharedSum _ h) (cwV 0 hts gX7_ringLength_X7_changesPlaces rfl rfl rfl (by decide +kernel) ⟨Nat.le_of_ble_eq_true rfl, Nat.le_of_ble_eq_true rfl⟩) (preV_of hP hD hK [0] rfl rfl 0 7 rfl rfl rfl) rfl rfl hl.1 rfl (lv_room (Nat.le_of_ble_eq_true rfl)) dX7_ringLength_1 ⟨Nat.zero_le _, Nat.zero_le _⟩) hP hD hS hA [0] rfl ((cw_X7_ringLength cI cZ o o_primes v_lawNumber v_mine v_theirs v_sharedSum)) (rfl) (rfl) (fun r1 H locs h hP hD hS => ?_)
  refine lv_if_eq (tgt := 11) hx hb dX7_ringLength_4 (by decide) (fun c4 => ?_) (fun c4 => ?_)
  · have h := h.1 c4
    refine lv_iconst (v := 1) hx hb dX7_ringLength_11 (by decide) ?_
    exact ret_i0 hx hb hr hlocks hQ hS  hP h dX7_ringLength_12
  · have h := h.2 c4
    refine lv_iconst (v := 2) hx hb dX7_ringLength_7 (by decide) ?_
    refine lv_goto (tgt := 12) hx hb dX7_ringLength_8 (by decide) ?_
    exact ret_i0 hx hb hr hlocks hQ hS  hP h dX7_ringLength_12
abbrev rm_X7_countSameShared : Room := { frames := 1, cells := 0, slots := 0, locals := 60 }
abbrev cw_X7_countSameShared (cI cZ : ClassId) (o o_primes : Nat) (v_lawNumber : Int32) (v_mine : Int32) (v_theirs : Int32) (v_sharedSum : Int32) (a_primes : Nat → Int32) : va_W := [(o, .inr (7, [.int v_lawNumber, .int v_mine, .int v_theirs, .int v_sharedSum, .ref o_primes])), (o_primes, .inl (cI, 6, .inl a_primes))]
theorem inw_X7_countSameShared_X7 : ∀ w ∈ u_ws RX7 TX7 5, w ∈ wsX7_countSameShared := by decide +kernel
def wp_X7_countSameShared (n1 : Int32) (n2 : Int32) (n3 : Int32) (v_sharedSum : Int32) (a_primes : Nat → Int32) (Post : Int32 → (Nat → Int32) → Prop) : Prop := (((1 : Int32) ≤ v_sharedSum → (¬ v_sharedSum = 0 ∧ (¬ v_sharedSum = 0 ∧ (wp_X8_takeApart (n2 / v_sharedSum) a_primes (fun (r28 : Int32) (a_primes_28 : Nat → Int32) => (∀ k36 : (Int32) → (Int32) → Prop, (∀ (x6_36 : Int32) (x4_36 : Int32), ((r28 ≤ x6_36 → (∀ r84 : Int32, r84 = (if (1 : Int32) < x4_36 then x4_36 else (1 : Int32)) → (Post r84 a_primes_28))) ∧ (¬ r28 ≤ x6_36 → (vp_in x6_36 6 ∧ (((a_primes_28 (Int32.toNatClampNeg x6_36)) ≤ (1 : Int32) → (k36 (x6_36 + 1) x4_36)) ∧ (¬ (a_primes_28 (Int32.toNatClampNeg x6_36)) ≤ (1 : Int32) → (¬ v_sharedSum = 0 ∧ (vp_in x6_36 6 ∧ (¬ (a_primes_28 (Int32.toNatClampNeg x6_36)) = 0 ∧ (∀ r70 : Int32, r70 = (if ((n1 / v_sharedSum) - (n1 / v_sharedSum) / (a_primes_28 (Int32.toNatClampNeg x6_36)) * (a_primes_28 (Int32.toNatClampNeg x6_36))) < x4_36 then ((n1 / v_sharedSum) - (n1 / v_sharedSum) / (a_primes_28 (Int32.toNatClampNeg x6_36)) * (a_primes_28 (Int32.toNatClampNeg x6_36))) else x4_36) → (k36 (x6_36 + 1) r70)))))))))) → k36 x6_36 x4_36) → k36 (0 : Int32) (n3 / v_sharedSum))))))) ∧ (¬ (1 : Int32) ≤ v_sharedSum → (Post (1 : Int32) a_primes)))
set_option maxHeartbeats 4000000 in
set_option maxRecDepth 100000 in
theorem c_X7_countSameShared (l : Launch) (D : va_G) (cI cZ : ClassId) (o o_primes : Nat) (sz : Nat) (n1 : Int32) (n2 : Int32) (n3 : Int32) (v_lawNumber : Int32) (v_mine : Int32) (v_theirs : Int32) (v_sharedSum : Int32) (a_primes : Nat → Int32) (Post : Int32 → (Nat → Int32) → Prop) (h : wp_X7_countSameShared n1 n2 n3 v_sharedSum a_primes Post) : Met l yX7_countSameShared wsX7_countSameShared rm_X7_countSameShared (cPc D cI cZ [.ref o, .int n1, .int n2, .int n3] (cw_X7_countSameShared cI cZ o o_primes v_lawNumber v_mine v_theirs v_sharedSum a_primes) sz) (cQi1 D Post (fun m_a_primes => (cw_X7_countSameShared cI cZ o o_primes v_lawNumber v_mine v_theirs v_sharedSum m_a_primes)) (va_A (cw_X7_countSameShared cI cZ o o_primes v_lawNumber v_mine v_theirs v_sharedSum a_primes) sz)) 0 0 (va_A (cw_X7_countSameShared cI cZ o o_primes v_lawNumber v_mine v_theirs v_sharedSum a_primes) sz) := by
  refine ent (cc := cX7_countSameShared) (maxL := 7) (ret := (some .int)) (Qc := fun A => cQi1 D Post (fun m_a_primes => (cw_X7_countSameShared cI cZ o o_primes v_lawNumber v_mine v_theirs v_sharedSum m_a_primes)) A) (by decide) rfl (Nat.le_of_ble_eq_true rfl) ?_
  intro p e s m args below meth c A ls Q hQ hsz hx hb hml hr hts hown hlocks hnm hK hP hD hA hS hl
  have hl : lv_has ls 7 [(0, .ref o), (1, .int n1), (2, .int n2), (3, .int n3)] := hl
  unfold wp_X7_countSameShared at h
  refine lv_aload_n hx hb dX7_countSameShared_0 rfl (lv_at hl 0 rfl) ?_
  refine va_get (D := D) (ci := 7) (v := .int v_sharedSum) (C := RX7) (T := TX7) (N := 5) hx hb hts inw_X7_countSameShared_X7 hown hK.1 hP 0 rfl rfl 3 (by decide) (hts (.fieldLink RX7 29 "PursesShare$TwoPurses" "sharedSum" "I") (by decide +kernel)) (fun _ h9 => h9) rfl dX7_countSameShared_1 ?_
  refine lv_iconst (v := 1) hx hb dX7_countSameShared_4 (by decide) ?_
  refine lv_icmp_ge (tgt := 10) hx hb dX7_countSameShared_5 (by decide) (fun c5 => ?_) (fun c5 => ?_)
  · have h := h.1 c5
    refine lv_iload_n hx hb dX7_countSameShared_10 rfl (lv_at hl 3 rfl) ?_
    refine lv_aload_n hx hb dX7_countSameShared_11 rfl (lv_at hl 0 rfl) ?_
    refine va_get (D := D) (ci := 7) (v := .int v_sharedSum) (C := RX7) (T := TX7) (N := 5) hx hb hts inw_X7_countSameShared_X7 hown hK.1 hP 0 rfl rfl 3 (by decide) (hts (.fieldLink RX7 29 "PursesShare$TwoPurses" "sharedSum" "I") (by decide +kernel)) (fun _ h9 => h9) rfl dX7_countSameShared_12 ?_
    have h0 := h.1
    have h := h.2
    refine lv_idiv hx hb dX7_countSameShared_15 h0 ?_
    refine lv_istore (lv' := [(4, .int (n3 / v_sharedSum)), (0, .ref o), (1, .int n1), (2, .int n2), (3, .int n3)]) hx hb dX7_countSameShared_16 hl (by decide) rfl (fun ls hl => ?_)
    refine lv_iload_n hx hb dX7_countSameShared_18 rfl (lv_at hl 3 rfl) ?_
    refine lv_aload_n hx hb dX7_countSameShared_19 rfl (lv_at hl 1 rfl) ?_
    refine va_get (D := D) (ci := 7) (v := .int v_sharedSum) (C := RX7) (T := TX7) (N := 5) hx hb hts inw_X7_countSameShared_X7 hown hK.1 hP 0 rfl rfl 3 (by decide) (hts (.fieldLink RX7 29 "PursesShare$TwoPurses" "sharedSum" "I") (by decide +kernel)) (fun _ h9 => h9) rfl dX7_countSameShared_20 ?_
    have h0 := h.1
    have h := h.2
    refine lv_idiv hx hb dX7_countSameShared_23 h0 ?_
    refine lv_aload_n hx hb dX7_countSameShared_24 rfl (lv_at hl 1 rfl) ?_
    refine va_get (D := D) (ci := 7) (v := .ref o_primes) (C := RX7) (T := TX7) (N := 5) hx hb hts inw_X7_countSameShared_X7 hown hK.1 hP 0 rfl rfl 4 (by decide) (hts (.fieldLink RX7 9 "PursesShare$TwoPurses" "primes" "[I") (by decide +kernel)) (fun _ h9 => h9) rfl dX7_countSameShared_25 ?_
    refine call_i1 (va_runSN (As := [.int (n2 / v_sharedSum), .ref o_primes]) (rest := []) ⟨hx, hb, hml, hown, hts⟩ (c_X8_takeApart l D cI cZ o_primes (Array.size s.heap) (n2 / v_sharedSum) a_primes _ h) ⟨va_cnB (own := RX7) 2 hts gX7_countSameShared_X8_takeApart_n69 rfl rfl rfl (nM_18 hK) (hts (.initialized RX8) (by decide +kernel)) (by decide +kernel) ⟨Nat.le_of_ble_eq_true rfl, Nat.le_of_ble_eq_true rfl⟩, hts (.static yX8_takeApart) (by decide +kernel), trivial⟩ (preS_of hP hD hK [1] rfl rfl) rfl rfl hl.1 rfl (lv_room (Nat.le_of_ble_eq_true rfl)) dX7_countSameShared_28 ⟨Nat.zero_le _, Nat.zero_le _⟩) hP hD hS hA [1] rfl (fun a_primes_28 => (cw_X7_countSameShared cI cZ o o_primes v_lawNumber v_mine v_theirs v_sharedSum a_primes_28)) (fun _ => rfl) (fun _ => rfl) (fun r28 a_primes_28 H locs h hP hD hS => ?_)
    refine lv_istore (lv' := [(5, .int r28), (4, .int (n3 / v_sharedSum)), (0, .ref o), (1, .int n1), (2, .int n2), (3, .int n3)]) hx hb dX7_countSameShared_31 hl (by decide) rfl (fun ls hl => ?_)
    refine lv_iconst (v := 0) hx hb dX7_countSameShared_33 (by decide) ?_
    refine lv_istore (lv' := [(6, .int (0 : Int32)), (5, .int r28), (4, .int (n3 / v_sharedSum)), (0, .ref o), (1, .int n1), (2, .int n2), (3, .int n3)]) hx hb dX7_countSameShared_34 hl (by decide) rfl (fun ls hl => ?_)
    refine h (fun x6_36 x4_36 => ∀ (H : Heap) (locs : List Loc) (ls : Array Slot), lv_has ls 7 [(0, .ref o), (1, .int n1), (2, .int n2), (3, .int n3), (4, .int x4_36), (5, .int r28), (6, .int x6_36)] → va_P D vwCl (cw_X7_countSameShared cI cZ o o_primes v_lawNumber v_mine v_theirs v_sharedSum a_primes_28) H → va_D A (cw_X7_countSameShared cI cZ o o_primes v_lawNumber v_mine v_theirs v_sharedSum a_primes_28) → va_S A s.heap H locs → W p l e rm_X7_countSameShared s m args below meth c H locs 0 0 Q (F0 m 36 ls [])) ?_ H locs ls (lv_sub hl [3, 4, 5, 6, 2, 1, 0] rfl) hP hD hS
    intro x6_36 x4_36 h H locs ls hl hP hD hS
    refine lv_iload hx hb dX7_countSameShared_36 (lv_at hl 6 rfl) ?_
    refine lv_iload hx hb dX7_countSameShared_38 (lv_at hl 5 rfl) ?_
    refine lv_icmp_ge (tgt := 81) hx hb dX7_countSameShared_40 (by decide) (fun c40 => ?_) (fun c40 => ?_)
    · have h := h.1 c40
      refine lv_iconst (v := 1) hx hb dX7_countSameShared_81 (by decide) ?_
      refine lv_iload hx hb dX7_countSameShared_82 (lv_at hl 4 rfl) ?_
      refine va_mmax hx hb (hml.trans hl.1.symm) hown (hts (.methodLink RX7 61 Lib.Math.max.name) (by decide +kernel)) (hts (.static Lib.Math.max.name) (by decide +kernel)) (hts (.initialized "java/lang/Math") (by decide +kernel)) (hts (.code Lib.Math.max.name Lib.Math.max.code 2 (some .int)) (by decide +kernel)) (Nat.le_of_ble_eq_true rfl) (Nat.le_of_ble_eq_true rfl) (Nat.zero_le _) (Nat.zero_le _) dX7_countSameShared_84 ?_
      refine lv_topi (fun r84 e84 => ?_)
      have h := h r84 e84
      exact ret_i1 hx hb hr hlocks hQ hS a_primes_28 hP h dX7_countSameShared_87
    · have h := h.2 c40
      refine lv_aload_n hx hb dX7_countSameShared_43 rfl (lv_at hl 0 rfl) ?_
      refine va_get (D := D) (ci := 7) (v := .ref o_primes) (C := RX7) (T := TX7) (N := 5) hx hb hts inw_X7_countSameShared_X7 hown hK.1 hP 0 rfl rfl 4 (by decide) (hts (.fieldLink RX7 9 "PursesShare$TwoPurses" "primes" "[I") (by decide +kernel)) (fun _ h9 => h9) rfl dX7_countSameShared_44 ?_
      refine lv_iload hx hb dX7_countSameShared_47 (lv_at hl 6 rfl) ?_
      have h0 := h.1
      have h := h.2
      refine va_iald hx hb hK.1 hP 1 0 rfl rfl h0 dX7_countSameShared_49 ?_
      refine lv_iconst (v := 1) hx hb dX7_countSameShared_50 (by decide) ?_
      refine lv_icmp_le (tgt := 75) hx hb dX7_countSameShared_51 (by decide) (fun c51 => ?_) (fun c51 => ?_)
      · have h := h.1 c51
        refine lv_iinc (v := (x6_36 + 1)) (lv' := [(6, .int (x6_36 + 1)), (0, .ref o), (1, .int n1), (2, .int n2), (3, .int n3), (4, .int x4_36), (5, .int r28)]) hx hb dX7_countSameShared_75 hl (k := 6) rfl rfl (by decide) rfl (fun ls hl => ?_)
        refine lv_goto (tgt := 36) hx hb dX7_countSameShared_78 (by decide) ?_
        exact h H locs ls (lv_sub hl [1, 2, 3, 4, 5, 6, 0] rfl) hP hD hS
      · have h := h.2 c51
        refine lv_iload hx hb dX7_countSameShared_54 (lv_at hl 4 rfl) ?_
        refine lv_iload_n hx hb dX7_countSameShared_56 rfl (lv_at hl 1 rfl) ?_
        refine lv_aload_n hx hb dX7_countSameShared_57 rfl (lv_at hl 0 rfl) ?_
        refine va_get (D := D) (ci := 7) (v := .int v_sharedSum) (C := RX7) (T := TX7) (N := 5) hx hb hts inw_X7_countSameShared_X7 hown hK.1 hP 0 rfl rfl 3 (by decide) (hts (.fieldLink RX7 29 "PursesShare$TwoPurses" "sharedSum" "I") (by decide +kernel)) (fun _ h9 => h9) rfl dX7_countSameShared_58 ?_
        have h0 := h.1
        have h := h.2
        refine lv_idiv hx hb dX7_countSameShared_61 h0 ?_
        refine lv_aload_n hx hb dX7_countSameShared_62 rfl (lv_at hl 0 rfl) ?_
        refine va_get (D := D) (ci := 7) (v := .ref o_primes) (C := RX7) (T := TX7) (N := 5) hx hb hts inw_X7_countSameShared_X7 hown hK.1 hP 0 rfl rfl 4 (by decide) (hts (.fieldLink RX7 9 "PursesShare$TwoPurses" "primes" "[I") (by decide +kernel)) (fun _ h9 => h9) rfl dX7_countSameShared_63 ?_
        refine lv_iload hx hb dX7_countSameShared_66 (lv_at hl 6 rfl) ?_
        have h0 := h.1
        have h := h.2
        refine va_iald hx hb hK.1 hP 1 0 rfl rfl h0 dX7_countSameShared_68 ?_
        have h0 := h.1
        have h := h.2
        refine lv_irem hx hb dX7_countSameShared_69 h0 ?_
        refine va_mmin hx hb (hml.trans hl.1.symm) hown (hts (.methodLink RX7 50 Lib.Math.min.name) (by decide +kernel)) (hts (.static Lib.Math.min.name) (by decide +kernel)) (hts (.initialized "java/lang/Math") (by decide +kernel)) (hts (.code Lib.Math.min.name Lib.Math.min.code 2 (some .int)) (by decide +kernel)) (Nat.le_of_ble_eq_true rfl) (Nat.le_of_ble_eq_true rfl) (Nat.zero_le _) (Nat.zero_le _) dX7_countSameShared_70 ?_
        refine lv_topi (fun r70 e70 => ?_)
        have h := h r70 e70
        refine lv_istore (lv' := [(4, .int r70), (0, .ref o), (1, .int n1), (2, .int n2), (3, .int n3), (5, .int r28), (6, .int x6_36)]) hx hb dX7_countSameShared_73 hl (by decide) rfl (fun ls hl => ?_)
        refine lv_iinc (v := (x6_36 + 1)) (lv' := [(6, .int (x6_36 + 1)), (4, .int r70), (0, .ref o), (1, .int n1), (2, .int n2), (3, .int n3), (5, .int r28)]) hx hb dX7_countSameShared_75 hl (k := 6) rfl rfl (by decide) rfl (fun ls hl => ?_)
        refine lv_goto (tgt := 36) hx hb dX7_countSameShared_78 (by decide) ?_
        exact h H locs ls (lv_sub hl [2, 3, 4, 5, 1, 6, 0] rfl) hP hD hS
  · have h := h.2 c5
    refine lv_iconst (v := 1) hx hb dX7_countSameShared_8 (by decide) ?_
    exact ret_i1 hx hb hr hlocks hQ hS a_primes hP h dX7_countSameShared_9
abbrev rm_X7_countAlike : Room := { frames := 2, cells := 0, slots := 0, locals := 86 }
abbrev cw_X7_countAlike (cI cZ : ClassId) (o o_primes : Nat) (v_lawNumber : Int32) (v_mine : Int32) (v_theirs : Int32) (v_sharedSum : Int32) (a_primes : Nat → Int32) : va_W := [(o, .inr (7, [.int v_lawNumber, .int v_mine, .int v_theirs, .int v_sharedSum, .ref o_primes])), (o_primes, .inl (cI, 6, .inl a_primes))]
theorem inw_X7_countAlike_X7 : ∀ w ∈ u_ws RX7 TX7 5, w ∈ wsX7_countAlike := by decide +kernel
def wp_X7_countAlike (v_lawNumber : Int32) (v_mine : Int32) (v_theirs : Int32) (v_sharedSum : Int32) (a_primes : Nat → Int32) (Post : Int32 → (Nat → Int32) → Prop) : Prop := ((¬ v_lawNumber = 0 → ((¬ v_lawNumber = (1 : Int32) → (Post (1 : Int32) a_primes)) ∧ (v_lawNumber = (1 : Int32) → (∀ r64 : Int32, r64 = (if v_theirs < v_mine then v_theirs else v_mine) → (∀ r76 : Int32, r76 = (if v_mine < v_theirs then v_theirs else v_mine) → ((¬ r76 = (99999 : Int32) → (wp_X7_countSameShared r64 (v_mine + v_theirs) ((99999 : Int32) - r76) v_sharedSum a_primes (fun (r110 : Int32) (a_primes_110 : Nat → Int32) => (Post r110 a_primes_110)))) ∧ (r76 = (99999 : Int32) → (wp_X7_countSameShared r64 (99999 : Int32) r64 v_sharedSum a_primes (fun (r91 : Int32) (a_primes_91 : Nat → Int32) => (Post r91 a_primes_91)))))))))) ∧ (v_lawNumber = 0 → (∀ r15 : Int32, r15 = (if v_mine < v_theirs then v_theirs else v_mine) → (∀ r39 : Int32, r39 = (if 0 ≤ (v_mine - v_theirs) then (v_mine - v_theirs) else 0 - (v_mine - v_theirs)) → (wp_X7_countSameShared r15 (v_mine + v_theirs) (r39 / (2 : Int32)) v_sharedSum a_primes (fun (r44 : Int32) (a_primes_44 : Nat → Int32) => (Post r44 a_primes_44)))))))
set_option maxHeartbeats 4000000 in
set_option maxRecDepth 100000 in
theorem c_X7_countAlike (l : Launch) (D : va_G) (cI cZ : ClassId) (o o_primes : Nat) (sz : Nat) (v_lawNumber : Int32) (v_mine : Int32) (v_theirs : Int32) (v_sharedSum : Int32) (a_primes : Nat → Int32) (Post : Int32 → (Nat → Int32) → Prop) (h : wp_X7_countAlike v_lawNumber v_mine v_theirs v_sharedSum a_primes Post) : Met l yX7_countAlike wsX7_countAlike rm_X7_countAlike (cPc D cI cZ [.ref o] (cw_X7_countAlike cI cZ o o_primes v_lawNumber v_mine v_theirs v_sharedSum a_primes) sz) (cQi1 D Post (fun m_a_primes => (cw_X7_countAlike cI cZ o o_primes v_lawNumber v_mine v_theirs v_sharedSum m_a_primes)) (va_A (cw_X7_countAlike cI cZ o o_primes v_lawNumber v_mine v_theirs v_sharedSum a_primes) sz)) 0 0 (va_A (cw_X7_countAlike cI cZ o o_primes v_lawNumber v_mine v_theirs v_sharedSum a_primes) sz) := by
  refine ent (cc := cX7_countAlike) (maxL := 3) (ret := (some .int)) (Qc := fun A => cQi1 D Post (fun m_a_primes => (cw_X7_countAlike cI cZ o o_primes v_lawNumber v_mine v_theirs v_sharedSum m_a_primes)) A) (by decide) rfl (Nat.le_of_ble_eq_true rfl) ?_
  intro p e s m args below meth c A ls Q hQ hsz hx hb hml hr hts hown hlocks hnm hK hP hD hA hS hl
  have hl : lv_has ls 3 [(0, .ref o)] := hl
  unfold wp_X7_countAlike at h
  refine lv_aload_n hx hb dX7_countAlike_0 rfl (lv_at hl 0 rfl) ?_
  refine va_get (D := D) (ci := 7) (v := .int v_lawNumber) (C := RX7) (T := TX7) (N := 5) hx hb hts inw_X7_countAlike_X7 hown hK.1 hP 0 rfl rfl 0 (by decide) (hts (.fieldLink RX7 15 "PursesShare$TwoPurses" "lawNumber" "I") (by decide +kernel)) (fun _ h9 => h9) rfl dX7_countAlike_1 ?_
  refine lv_if_ne (tgt := 48) hx hb dX7_countAlike_4 (by decide) (fun c4 => ?_) (fun c4 => ?_)
  · have h := h.1 c4
    refine lv_aload_n hx hb dX7_countAlike_48 rfl (lv_at hl 0 rfl) ?_
    refine va_get (D := D) (ci := 7) (v := .int v_lawNumber) (C := RX7) (T := TX7) (N := 5) hx hb hts inw_X7_countAlike_X7 hown hK.1 hP 0 rfl rfl 0 (by decide) (hts (.fieldLink RX7 15 "PursesShare$TwoPurses" "lawNumber" "I") (by decide +kernel)) (fun _ h9 => h9) rfl dX7_countAlike_49 ?_
    refine lv_iconst (v := 1) hx hb dX7_countAlike_52 (by decide) ?_
    refine lv_icmp_ne (tgt := 114) hx hb dX7_countAlike_53 (by decide) (fun c53 => ?_) (fun c53 => ?_)
    · have h := h.1 c53
      refine lv_iconst (v := 1) hx hb dX7_countAlike_114 (by decide) ?_
      exact ret_i1 hx hb hr hlocks hQ hS a_primes hP h dX7_countAlike_115
    · have h := h.2 c53
      refine lv_aload_n hx hb dX7_countAlike_56 rfl (lv_at hl 0 rfl) ?_
      refine va_get (D := D) (ci := 7) (v := .int v_mine) (C := RX7) (T := TX7) (N := 5) hx hb hts inw_X7_countAlike_X7 hown hK.1 hP 0 rfl rfl 1 (by decide) (hts (.fieldLink RX7 19 "PursesShare$TwoPurses" "mine" "I") (by decide +kernel)) (fun _ h9 => h9) rfl dX7_countAlike_57 ?_
      refine lv_aload_n hx hb dX7_countAlike_60 rfl (lv_at hl 0 rfl) ?_
      refine va_get (D := D) (ci := 7) (v := .int v_theirs) (C := RX7) (T := TX7) (N := 5) hx hb hts inw_X7_countAlike_X7 hown hK.1 hP 0 rfl rfl 2 (by decide) (hts (.fieldLink RX7 22 "PursesShare$TwoPurses" "theirs" "I") (by decide +kernel)) (fun _ h9 => h9) rfl dX7_countAlike_61 ?_
      refine va_mmin hx hb (hml.trans hl.1.symm) hown (hts (.methodLink RX7 50 Lib.Math.min.name) (by decide +kernel)) (hts (.static Lib.Math.min.name) (by decide +kernel)) (hts (.initialized "java/lang/Math") (by decide +kernel)) (hts (.code Lib.Math.min.name Lib.Math.min.code 2 (some .int)) (by decide +kernel)) (Nat.le_of_ble_eq_true rfl) (Nat.le_of_ble_eq_true rfl) (Nat.zero_le _) (Nat.zero_le _) dX7_countAlike_64 ?_
      refine lv_topi (fun r64 e64 => ?_)
      have h := h r64 e64
      refine lv_istore_n (lv' := [(1, .int r64), (0, .ref o)]) hx hb dX7_countAlike_67 rfl hl (by decide) rfl (fun ls hl => ?_)
      refine lv_aload_n hx hb dX7_countAlike_68 rfl (lv_at hl 1 rfl) ?_
      refine va_get (D := D) (ci := 7) (v := .int v_mine) (C := RX7) (T := TX7) (N := 5) hx hb hts inw_X7_countAlike_X7 hown hK.1 hP 0 rfl rfl 1 (by decide) (hts (.fieldLink RX7 19 "PursesShare$TwoPurses" "mine" "I") (by decide +kernel)) (fun _ h9 => h9) rfl dX7_countAlike_69 ?_
      refine lv_aload_n hx hb dX7_countAlike_72 rfl (lv_at hl 1 rfl) ?_
      refine va_get (D := D) (ci := 7) (v := .int v_theirs) (C := RX7) (T := TX7) (N := 5) hx hb hts inw_X7_countAlike_X7 hown hK.1 hP 0 rfl rfl 2 (by decide) (hts (.fieldLink RX7 22 "PursesShare$TwoPurses" "theirs" "I") (by decide +kernel)) (fun _ h9 => h9) rfl dX7_countAlike_73 ?_
      refine va_mmax hx hb (hml.trans hl.1.symm) hown (hts (.methodLink RX7 61 Lib.Math.max.name) (by decide +kernel)) (hts (.static Lib.Math.max.name) (by decide +kernel)) (hts (.initialized "java/lang/Math") (by decide +kernel)) (hts (.code Lib.Math.max.name Lib.Math.max.code 2 (some .int)) (by decide +kernel)) (Nat.le_of_ble_eq_true rfl) (Nat.le_of_ble_eq_true rfl) (Nat.zero_le _) (Nat.zero_le _) dX7_countAlike_76 ?_
      refine lv_topi (fun r76 e76 => ?_)
      have h := h r76 e76
      refine lv_istore_n (lv' := [(2, .int r76), (1, .int r64), (0, .ref o)]) hx hb dX7_countAlike_79 rfl hl (by decide) rfl (fun ls hl => ?_)
      refine lv_iload_n hx hb dX7_countAlike_80 rfl (lv_at hl 0 rfl) ?_
      refine lv_ldc (own := RX7) (index := 68) (v := 99999) hx hb hown (hts (.constant RX7 68 (99999)) (by decide +kernel)) dX7_countAlike_81 ?_
      refine lv_icmp_ne (tgt := 95) hx hb dX7_countAlike_83 (by decide) (fun c83 => ?_) (fun c83 => ?_)
      · have h := h.1 c83
        refine lv_aload_n hx hb dX7_countAlike_95 rfl (lv_at hl 2 rfl) ?_
        refine lv_iload_n hx hb dX7_countAlike_96 rfl (lv_at hl 1 rfl) ?_
        refine lv_aload_n hx hb dX7_countAlike_97 rfl (lv_at hl 2 rfl) ?_
        refine va_get (D := D) (ci := 7) (v := .int v_mine) (C := RX7) (T := TX7) (N := 5) hx hb hts inw_X7_countAlike_X7 hown hK.1 hP 0 rfl rfl 1 (by decide) (hts (.fieldLink RX7 19 "PursesShare$TwoPurses" "mine" "I") (by decide +kernel)) (fun _ h9 => h9) rfl dX7_countAlike_98 ?_
        refine lv_aload_n hx hb dX7_countAlike_101 rfl (lv_at hl 2 rfl) ?_
        refine va_get (D := D) (ci := 7) (v := .int v_theirs) (C := RX7) (T := TX7) (N := 5) hx hb hts inw_X7_countAlike_X7 hown hK.1 hP 0 rfl rfl 2 (by decide) (hts (.fieldLink RX7 22 "PursesShare$TwoPurses" "theirs" "I") (by decide +kernel)) (fun _ h9 => h9) rfl dX7_countAlike_102 ?_
        refine lv_iadd hx hb dX7_countAlike_105 ?_
        refine lv_ldc (own := RX7) (index := 68) (v := 99999) hx hb hown (hts (.constant RX7 68 (99999)) (by decide +kernel)) dX7_countAlike_106 ?_
        refine lv_iload_n hx hb dX7_countAlike_108 rfl (lv_at hl 0 rfl) ?_
        refine lv_isub hx hb dX7_countAlike_109 ?_
        refine call_i1 (va_runV (As := [.int r64, .int (v_mine + v_theirs), .int ((99999 : Int32) - r76)]) (rest := []) ⟨hx, hb, hml, hown, hts⟩ (c_X7_countSameShared l D cI cZ o o_primes (Array.size s.heap) r64 (v_mine + v_theirs) ((99999 : Int32) - r76) v_lawNumber v_mine v_theirs v_sharedSum a_primes _ h) (cwV 3 hts gX7_countAlike_X7_countSameShared rfl rfl rfl (by decide +kernel) ⟨Nat.le_of_ble_eq_true rfl, Nat.le_of_ble_eq_true rfl⟩) (preV_of hP hD hK [0, 1] rfl rfl 0 7 rfl rfl rfl) rfl rfl hl.1 rfl (lv_room (Nat.le_of_ble_eq_true rfl)) dX7_countAlike_110 ⟨Nat.zero_le _, Nat.zero_le _⟩) hP hD hS hA [0, 1] rfl (fun a_primes_110 => (cw_X7_countAlike cI cZ o o_primes v_lawNumber v_mine v_theirs v_sharedSum a_primes_110)) (fun _ => rfl) (fun _ => rfl) (fun r110 a_primes_110 H locs h hP hD hS => ?_)
        exact ret_i1 hx hb hr hlocks hQ hS a_primes_110 hP h dX7_countAlike_113
      · have h := h.2 c83
        refine lv_aload_n hx hb dX7_countAlike_86 rfl (lv_at hl 2 rfl) ?_
        refine lv_iload_n hx hb dX7_countAlike_87 rfl (lv_at hl 1 rfl) ?_
        refine lv_ldc (own := RX7) (index := 68) (v := 99999) hx hb hown (hts (.constant RX7 68 (99999)) (by decide +kernel)) dX7_countAlike_88 ?_
        refine lv_iload_n hx hb dX7_countAlike_90 rfl (lv_at hl 1 rfl) ?_
        refine call_i1 (va_runV (As := [.int r64, .int (99999 : Int32), .int r64]) (rest := []) ⟨hx, hb, hml, hown, hts⟩ (c_X7_countSameShared l D cI cZ o o_primes (Array.size s.heap) r64 (99999 : Int32) r64 v_lawNumber v_mine v_theirs v_sharedSum a_primes _ h) (cwV 3 hts gX7_countAlike_X7_countSameShared rfl rfl rfl (by decide +kernel) ⟨Nat.le_of_ble_eq_true rfl, Nat.le_of_ble_eq_true rfl⟩) (preV_of hP hD hK [0, 1] rfl rfl 0 7 rfl rfl rfl) rfl rfl hl.1 rfl (lv_room (Nat.le_of_ble_eq_true rfl)) dX7_countAlike_91 ⟨Nat.zero_le _, Nat.zero_le _⟩) hP hD hS hA [0, 1] rfl (fun a_primes_91 => (cw_X7_countAlike cI cZ o o_primes v_lawNumber v_mine v_theirs v_sharedSum a_primes_91)) (fun _ => rfl) (fun _ => rfl) (fun r91 a_primes_91 H locs h hP hD hS => ?_)
        exact ret_i1 hx hb hr hlocks hQ hS a_primes_91 hP h dX7_countAlike_94
  · have h := h.2 c4
    refine lv_aload_n hx hb dX7_countAlike_7 rfl (lv_at hl 0 rfl) ?_
    refine va_get (D := D) (ci := 7) (v := .int v_mine) (C := RX7) (T := TX7) (N := 5) hx hb hts inw_X7_countAlike_X7 hown hK.1 hP 0 rfl rfl 1 (by decide) (hts (.fieldLink RX7 19 "PursesShare$TwoPurses" "mine" "I") (by decide +kernel)) (fun _ h9 => h9) rfl dX7_countAlike_8 ?_
    refine lv_aload_n hx hb dX7_countAlike_11 rfl (lv_at hl 0 rfl) ?_
    refine va_get (D := D) (ci := 7) (v := .int v_theirs) (C := RX7) (T := TX7) (N := 5) hx hb hts inw_X7_countAlike_X7 hown hK.1 hP 0 rfl rfl 2 (by decide) (hts (.fieldLink RX7 22 "PursesShare$TwoPurses" "theirs" "I") (by decide +kernel)) (fun _ h9 => h9) rfl dX7_countAlike_12 ?_
    refine va_mmax hx hb (hml.trans hl.1.symm) hown (hts (.methodLink RX7 61 Lib.Math.max.name) (by decide +kernel)) (hts (.static Lib.Math.max.name) (by decide +kernel)) (hts (.initialized "java/lang/Math") (by decide +kernel)) (hts (.code Lib.Math.max.name Lib.Math.max.code 2 (some .int)) (by decide +kernel)) (Nat.le_of_ble_eq_true rfl) (Nat.le_of_ble_eq_true rfl) (Nat.zero_le _) (Nat.zero_le _) dX7_countAlike_15 ?_
    refine lv_topi (fun r15 e15 => ?_)
    have h := h r15 e15
    refine lv_istore_n (lv' := [(1, .int r15), (0, .ref o)]) hx hb dX7_countAlike_18 rfl hl (by decide) rfl (fun ls hl => ?_)
    refine lv_aload_n hx hb dX7_countAlike_19 rfl (lv_at hl 1 rfl) ?_
    refine lv_iload_n hx hb dX7_countAlike_20 rfl (lv_at hl 0 rfl) ?_
    refine lv_aload_n hx hb dX7_countAlike_21 rfl (lv_at hl 1 rfl) ?_
    refine va_get (D := D) (ci := 7) (v := .int v_mine) (C := RX7) (T := TX7) (N := 5) hx hb hts inw_X7_countAlike_X7 hown hK.1 hP 0 rfl rfl 1 (by decide) (hts (.fieldLink RX7 19 "PursesShare$TwoPurses" "mine" "I") (by decide +kernel)) (fun _ h9 => h9) rfl dX7_countAlike_22 ?_
    refine lv_aload_n hx hb dX7_countAlike_25 rfl (lv_at hl 1 rfl) ?_
    refine va_get (D := D) (ci := 7) (v := .int v_theirs) (C := RX7) (T := TX7) (N := 5) hx hb hts inw_X7_countAlike_X7 hown hK.1 hP 0 rfl rfl 2 (by decide) (hts (.fieldLink RX7 22 "PursesShare$TwoPurses" "theirs" "I") (by decide +kernel)) (fun _ h9 => h9) rfl dX7_countAlike_26 ?_
    refine lv_iadd hx hb dX7_countAlike_29 ?_
    refine lv_aload_n hx hb dX7_countAlike_30 rfl (lv_at hl 1 rfl) ?_
    refine va_get (D := D) (ci := 7) (v := .int v_mine) (C := RX7) (T := TX7) (N := 5) hx hb hts inw_X7_countAlike_X7 hown hK.1 hP 0 rfl rfl 1 (by decide) (hts (.fieldLink RX7 19 "PursesShare$TwoPurses" "mine" "I") (by decide +kernel)) (fun _ h9 => h9) rfl dX7_countAlike_31 ?_
    refine lv_aload_n hx hb dX7_countAlike_34 rfl (lv_at hl 1 rfl) ?_
    refine va_get (D := D) (ci := 7) (v := .int v_theirs) (C := RX7) (T := TX7) (N := 5) hx hb hts inw_X7_countAlike_X7 hown hK.1 hP 0 rfl rfl 2 (by decide) (hts (.fieldLink RX7 22 "PursesShare$TwoPurses" "theirs" "I") (by decide +kernel)) (fun _ h9 => h9) rfl dX7_countAlike_35 ?_
    refine lv_isub hx hb dX7_countAlike_38 ?_
    refine va_mabs hx hb (hml.trans hl.1.symm) hown (hts (.methodLink RX7 36 Lib.Math.abs.name) (by decide +kernel)) (hts (.static Lib.Math.abs.name) (by decide +kernel)) (hts (.initialized "java/lang/Math") (by decide +kernel)) (hts (.code Lib.Math.abs.name Lib.Math.abs.code 1 (some .int)) (by decide +kernel)) (Nat.le_of_ble_eq_true rfl) (Nat.le_of_ble_eq_true rfl) (Nat.zero_le _) (Nat.zero_le _) dX7_countAlike_39 ?_
    refine lv_topi (fun r39 e39 => ?_)
    have h := h r39 e39
    refine lv_iconst (v := 2) hx hb dX7_countAlike_42 (by decide) ?_
    refine lv_idiv hx hb dX7_countAlike_43 (by decide) ?_
    refine call_i1 (va_runV (As := [.int r15, .int (v_mine + v_theirs), .int (r39 / (2 : Int32))]) (rest := []) ⟨hx, hb, hml, hown, hts⟩ (c_X7_countSameShared l D cI cZ o o_primes (Array.size s.heap) r15 (v_mine + v_theirs) (r39 / (2 : Int32)) v_lawNumber v_mine v_theirs v_sharedSum a_primes _ h) (cwV 3 hts gX7_countAlike_X7_countSameShared rfl rfl rfl (by decide +kernel) ⟨Nat.le_of_ble_eq_true rfl, Nat.le_of_ble_eq_true rfl⟩) (preV_of hP hD hK [0, 1] rfl rfl 0 7 rfl rfl rfl) rfl rfl hl.1 rfl (lv_room (Nat.le_of_ble_eq_true rfl)) dX7_countAlike_44 ⟨Nat.zero_le _, Nat.zero_le _⟩) hP hD hS hA [0, 1] rfl (fun a_primes_44 => (cw_X7_countAlike cI cZ o o_primes v_lawNumber v_mine v_theirs v_sharedSum a_primes_44)) (fun _ => rfl) (fun _ => rfl) (fun r44 a_primes_44 H locs h hP hD hS => ?_)
    exact ret_i1 hx hb hr hlocks hQ hS a_primes_44 hP h dX7_countAlike_47
abbrev rm_X7_makeAlike : Room := { frames := 3, cells := 0, slots := 0, locals := 108 }
abbrev cw_X7_makeAlike (cI cZ : ClassId) (o o_primes : Nat) (v_lawNumber : Int32) (v_mine : Int32) (v_theirs : Int32) (v_sharedSum : Int32) : va_W := [(o, .inr (7, [.int v_lawNumber, .int v_mine, .int v_theirs, .int v_sharedSum, .ref o_primes]))]
theorem inw_X7_makeAlike_X7 : ∀ w ∈ u_ws RX7 TX7 5, w ∈ wsX7_makeAlike := by decide +kernel
def wp_X7_makeAlike (n1 : Int32) (v_lawNumber : Int32) (v_mine : Int32) (v_theirs : Int32) (v_sharedSum : Int32) (Post : (Int32) → (Int32) → (Int32) → Prop) : Prop := (wp_X8_heldAfter v_lawNumber v_mine v_theirs v_sharedSum n1 (fun (r17 : Int32) => (wp_X8_heldAfter v_lawNumber v_theirs v_mine v_sharedSum n1 (fun (r39 : Int32) => (wp_X8_sharedBy r17 r39 (fun (r59 : Int32) => (Post r17 r39 r59)))))))
set_option maxHeartbeats 4000000 in
set_option maxRecDepth 100000 in
theorem c_X7_makeAlike (l : Launch) (D : va_G) (cI cZ : ClassId) (o o_primes : Nat) (sz : Nat) (n1 : Int32) (v_lawNumber : Int32) (v_mine : Int32) (v_theirs : Int32) (v_sharedSum : Int32) (Post : (Int32) → (Int32) → (Int32) → Prop) (h : wp_X7_makeAlike n1 v_lawNumber v_mine v_theirs v_sharedSum Post) : Met l yX7_makeAlike wsX7_makeAlike rm_X7_makeAlike (cPc D cI cZ [.ref o, .int n1] (cw_X7_makeAlike cI cZ o o_primes v_lawNumber v_mine v_theirs v_sharedSum) sz) (cQv3 D Post (fun m_v_mine m_v_theirs m_v_sharedSum => (cw_X7_makeAlike cI cZ o o_primes v_lawNumber m_v_mine m_v_theirs m_v_sharedSum)) (va_A (cw_X7_makeAlike cI cZ o o_primes v_lawNumber v_mine v_theirs v_sharedSum) sz)) 0 0 (va_A (cw_X7_makeAlike cI cZ o o_primes v_lawNumber v_mine v_theirs v_sharedSum) sz) := by
  refine ent (cc := cX7_makeAlike) (maxL := 3) (ret := none) (Qc := fun A => cQv3 D Post (fun m_v_mine m_v_theirs m_v_sharedSum => (cw_X7_makeAlike cI cZ o o_primes v_lawNumber m_v_mine m_v_theirs m_v_sharedSum)) A) (by decide) rfl (Nat.le_of_ble_eq_true rfl) ?_
  intro p e s m args below meth c A ls Q hQ hsz hx hb hml hr hts hown hlocks hnm hK hP hD hA hS hl
  have hl : lv_has ls 3 [(0, .ref o), (1, .int n1)] := hl
  unfold wp_X7_makeAlike at h
  refine lv_aload_n hx hb dX7_makeAlike_0 rfl (lv_at hl 0 rfl) ?_
  refine va_get (D := D) (ci := 7) (v := .int v_lawNumber) (C := RX7) (T := TX7) (N := 5) hx hb hts inw_X7_makeAlike_X7 hown hK.1 hP 0 rfl rfl 0 (by decide) (hts (.fieldLink RX7 15 "PursesShare$TwoPurses" "lawNumber" "I") (by decide +kernel)) (fun _ h9 => h9) rfl dX7_makeAlike_1 ?_
  refine lv_aload_n hx hb dX7_makeAlike_4 rfl (lv_at hl 0 rfl) ?_
  refine va_get (D := D) (ci := 7) (v := .int v_mine) (C := RX7) (T := TX7) (N := 5) hx hb hts inw_X7_makeAlike_X7 hown hK.1 hP 0 rfl rfl 1 (by decide) (hts (.fieldLink RX7 19 "PursesShare$TwoPurses" "mine" "I") (by decide +kernel)) (fun _ h9 => h9) rfl dX7_makeAlike_5 ?_
  refine lv_aload_n hx hb dX7_makeAlike_8 rfl (lv_at hl 0 rfl) ?_
  refine va_get (D := D) (ci := 7) (v := .int v_theirs) (C := RX7) (T := TX7) (N := 5) hx hb hts inw_X7_makeAlike_X7 hown hK.1 hP 0 rfl rfl 2 (by decide) (hts (.fieldLink RX7 22 "PursesShare$TwoPurses" "theirs" "I") (by decide +kernel)) (fun _ h9 => h9) rfl dX7_makeAlike_9 ?_
  refine lv_aload_n hx hb dX7_makeAlike_12 rfl (lv_at hl 0 rfl) ?_
  refine va_get (D := D) (ci := 7) (v := .int v_sharedSum) (C := RX7) (T := TX7) (N := 5) hx hb hts inw_X7_makeAlike_X7 hown hK.1 hP 0 rfl rfl 3 (by decide) (hts (.fieldLink RX7 29 "PursesShare$TwoPurses" "sharedSum" "I") (by decide +kernel)) (fun _ h9 => h9) rfl dX7_makeAlike_13 ?_
  refine lv_iload_n hx hb dX7_makeAlike_16 rfl (lv_at hl 1 rfl) ?_
  refine call_i0 (va_runSN (As := [.int v_lawNumber, .int v_mine, .int v_theirs, .int v_sharedSum, .int n1]) (rest := []) ⟨hx, hb, hml, hown, hts⟩ (c_X8_heldAfter l D cI cZ (Array.size s.heap) v_lawNumber v_mine v_theirs v_sharedSum n1 _ h) ⟨va_cnB (own := RX7) 5 hts gX7_makeAlike_X8_heldAfter_n57 rfl rfl rfl (nM_19 hK) (hts (.initialized RX8) (by decide +kernel)) (by decide +kernel) ⟨Nat.le_of_ble_eq_true rfl, Nat.le_of_ble_eq_true rfl⟩, hts (.static yX8_heldAfter) (by decide +kernel), trivial⟩ (preS_of hP hD hK [] rfl rfl) rfl rfl hl.1 rfl (lv_room (Nat.le_of_ble_eq_true rfl)) dX7_makeAlike_17 ⟨Nat.zero_le _, Nat.zero_le _⟩) hP hD hS hA [] rfl ((cw_X7_makeAlike cI cZ o o_primes v_lawNumber v_mine v_theirs v_sharedSum)) (rfl) (rfl) (fun r17 H locs h hP hD hS => ?_)
  refine lv_istore_n (lv' := [(2, .int r17), (0, .ref o), (1, .int n1)]) hx hb dX7_makeAlike_20 rfl hl (by decide) rfl (fun ls hl => ?_)
  refine lv_aload_n hx hb dX7_makeAlike_21 rfl (lv_at hl 1 rfl) ?_
  refine lv_aload_n hx hb dX7_makeAlike_22 rfl (lv_at hl 1 rfl) ?_
  refine va_get (D := D) (ci := 7) (v := .int v_lawNumber) (C := RX7) (T := TX7) (N := 5) hx hb hts inw_X7_makeAlike_X7 hown hK.1 hP 0 rfl rfl 0 (by decide) (hts (.fieldLink RX7 15 "PursesShare$TwoPurses" "lawNumber" "I") (by decide +kernel)) (fun _ h9 => h9) rfl dX7_makeAlike_23 ?_
  refine lv_aload_n hx hb dX7_makeAlike_26 rfl (lv_at hl 1 rfl) ?_
  refine va_get (D := D) (ci := 7) (v := .int v_theirs) (C := RX7) (T := TX7) (N := 5) hx hb hts inw_X7_makeAlike_X7 hown hK.1 hP 0 rfl rfl 2 (by decide) (hts (.fieldLink RX7 22 "PursesShare$TwoPurses" "theirs" "I") (by decide +kernel)) (fun _ h9 => h9) rfl dX7_makeAlike_27 ?_
  refine lv_aload_n hx hb dX7_makeAlike_30 rfl (lv_at hl 1 rfl) ?_
  refine va_get (D := D) (ci := 7) (v := .int v_mine) (C := RX7) (T := TX7) (N := 5) hx hb hts inw_X7_makeAlike_X7 hown hK.1 hP 0 rfl rfl 1 (by decide) (hts (.fieldLink RX7 19 "PursesShare$TwoPurses" "mine" "I") (by decide +kernel)) (fun _ h9 => h9) rfl dX7_makeAlike_31 ?_
  refine lv_aload_n hx hb dX7_makeAlike_34 rfl (lv_at hl 1 rfl) ?_
  refine va_get (D := D) (ci := 7) (v := .int v_sharedSum) (C := RX7) (T := TX7) (N := 5) hx hb hts inw_X7_makeAlike_X7 hown hK.1 hP 0 rfl rfl 3 (by decide) (hts (.fieldLink RX7 29 "PursesShare$TwoPurses" "sharedSum" "I") (by decide +kernel)) (fun _ h9 => h9) rfl dX7_makeAlike_35 ?_
  refine lv_iload_n hx hb dX7_makeAlike_38 rfl (lv_at hl 2 rfl) ?_
  refine call_i0 (va_runSN (As := [.int v_lawNumber, .int v_theirs, .int v_mine, .int v_sharedSum, .int n1]) (rest := [.ref o]) ⟨hx, hb, hml, hown, hts⟩ (c_X8_heldAfter l D cI cZ (Array.size H) v_lawNumber v_theirs v_mine v_sharedSum n1 _ h) ⟨va_cnB (own := RX7) 5 hts gX7_makeAlike_X8_heldAfter_n57 rfl rfl rfl (nM_19 hK) (hts (.initialized RX8) (by decide +kernel)) (by decide +kernel) ⟨Nat.le_of_ble_eq_true rfl, Nat.le_of_ble_eq_true rfl⟩, hts (.static yX8_heldAfter) (by decide +kernel), trivial⟩ (preS_of hP hD hK [] rfl rfl) rfl rfl hl.1 rfl (lv_room (Nat.le_of_ble_eq_true rfl)) dX7_makeAlike_39 ⟨Nat.zero_le _, Nat.zero_le _⟩) hP hD hS hA [] rfl ((cw_X7_makeAlike cI cZ o o_primes v_lawNumber v_mine v_theirs v_sharedSum)) (rfl) (rfl) (fun r39 H locs h hP hD hS => ?_)
  refine va_put (D := D) (ci := 7) (v := .int r39) (ty := .int) (C := RX7) (T := TX7) (N := 5) hx hb hts inw_X7_makeAlike_X7 tyX7 tyX7_ok nmX7 hown hK.1 hP hD hS 0 rfl rfl 2 (by decide) (hts (.fieldLink RX7 22 "PursesShare$TwoPurses" "theirs" "I") (by decide +kernel)) (fun _ h9 => h9) rfl (by decide +kernel) rfl rfl (Nat.le_of_ble_eq_true rfl) dX7_makeAlike_42 (fun H locs hP hD hS => ?_)
  have hP : va_P D vwCl (cw_X7_makeAlike cI cZ o o_primes v_lawNumber v_mine r39 v_sharedSum) H := hP
  have hD : va_D A (cw_X7_makeAlike cI cZ o o_primes v_lawNumber v_mine r39 v_sharedSum) := hD
  refine lv_aload_n hx hb dX7_makeAlike_45 rfl (lv_at hl 1 rfl) ?_
  refine lv_iload_n hx hb dX7_makeAlike_46 rfl (lv_at hl 0 rfl) ?_
  refine va_put (D := D) (ci := 7) (v := .int r17) (ty := .int) (C := RX7) (T := TX7) (N := 5) hx hb hts inw_X7_makeAlike_X7 tyX7 tyX7_ok nmX7 hown hK.1 hP hD hS 0 rfl rfl 1 (by decide) (hts (.fieldLink RX7 19 "PursesShare$TwoPurses" "mine" "I") (by decide +kernel)) (fun _ h9 => h9) rfl (by decide +kernel) rfl rfl (Nat.le_of_ble_eq_true rfl) dX7_makeAlike_47 (fun H locs hP hD hS => ?_)
  have hP : va_P D vwCl (cw_X7_makeAlike cI cZ o o_primes v_lawNumber r17 r39 v_sharedSum) H := hP
  have hD : va_D A (cw_X7_makeAlike cI cZ o o_primes v_lawNumber r17 r39 v_sharedSum) := hD
  refine lv_aload_n hx hb dX7_makeAlike_50 rfl (lv_at hl 1 rfl) ?_
  refine lv_aload_n hx hb dX7_makeAlike_51 rfl (lv_at hl 1 rfl) ?_
  refine va_get (D := D) (ci := 7) (v := .int r17) (C := RX7) (T := TX7) (N := 5) hx hb hts inw_X7_makeAlike_X7 hown hK.1 hP 0 rfl rfl 1 (by decide) (hts (.fieldLink RX7 19 "PursesShare$TwoPurses" "mine" "I") (by decide +kernel)) (fun _ h9 => h9) rfl dX7_makeAlike_52 ?_
  refine lv_aload_n hx hb dX7_makeAlike_55 rfl (lv_at hl 1 rfl) ?_
  refine va_get (D := D) (ci := 7) (v := .int r39) (C := RX7) (T := TX7) (N := 5) hx hb hts inw_X7_makeAlike_X7 hown hK.1 hP 0 rfl rfl 2 (by decide) (hts (.fieldLink RX7 22 "PursesShare$TwoPurses" "theirs" "I") (by decide +kernel)) (fun _ h9 => h9) rfl dX7_makeAlike_56 ?_
  refine call_i0 (va_runSN (As := [.int r17, .int r39]) (rest := [.ref o]) ⟨hx, hb, hml, hown, hts⟩ (c_X8_sharedBy l D cI cZ (Array.size H) r17 r39 _ h) ⟨va_cnB (own := RX7) 2 hts gX7_makeAlike_X8_sharedBy_n25 rfl rfl rfl (nM_16 hK) (hts (.initialized RX8) (by decide +kernel)) (by decide +kernel) ⟨Nat.le_of_ble_eq_true rfl, Nat.le_of_ble_eq_true rfl⟩, hts (.static yX8_sharedBy) (by decide +kernel), trivial⟩ (preS_of hP hD hK [] rfl rfl) rfl rfl hl.1 rfl (lv_room (Nat.le_of_ble_eq_true rfl)) dX7_makeAlike_59 ⟨Nat.zero_le _, Nat.zero_le _⟩) hP hD hS hA [] rfl ((cw_X7_makeAlike cI cZ o o_primes v_lawNumber r17 r39 v_sharedSum)) (rfl) (rfl) (fun r59 H locs h hP hD hS => ?_)
  refine va_put (D := D) (ci := 7) (v := .int r59) (ty := .int) (C := RX7) (T := TX7) (N := 5) hx hb hts inw_X7_makeAlike_X7 tyX7 tyX7_ok nmX7 hown hK.1 hP hD hS 0 rfl rfl 3 (by decide) (hts (.fieldLink RX7 29 "PursesShare$TwoPurses" "sharedSum" "I") (by decide +kernel)) (fun _ h9 => h9) rfl (by decide +kernel) rfl rfl (Nat.le_of_ble_eq_true rfl) dX7_makeAlike_62 (fun H locs hP hD hS => ?_)
  have hP : va_P D vwCl (cw_X7_makeAlike cI cZ o o_primes v_lawNumber r17 r39 r59) H := hP
  have hD : va_D A (cw_X7_makeAlike cI cZ o o_primes v_lawNumber r17 r39 r59) := hD
  exact ret_v3 hx hb hr hlocks hQ hS r17 r39 r59 hP h dX7_makeAlike_65
abbrev rm_X7_makeToRing : Room := { frames := 4, cells := 0, slots := 0, locals := 130 }
abbrev cw_X7_makeToRing (cI cZ : ClassId) (o o_primes : Nat) (v_lawNumber : Int32) (v_mine : Int32) (v_theirs : Int32) (v_sharedSum : Int32) (a_primes : Nat → Int32) : va_W := [(o, .inr (7, [.int v_lawNumber, .int v_mine, .int v_theirs, .int v_sharedSum, .ref o_primes])), (o_primes, .inl (cI, 6, .inl a_primes))]
def wp_X7_makeToRing (n1 : Int32) (v_lawNumber : Int32) (v_mine : Int32) (v_theirs : Int32) (v_sharedSum : Int32) (a_primes : Nat → Int32) (Post : Int32 → (Int32) → (Int32) → (Int32) → (Nat → Int32) → Prop) : Prop := (∀ k4 : (Int32) → (Int32) → (Int32) → (Int32) → (Int32) → (Nat → Int32) → Prop, (∀ (x3_4 : Int32) (x2_4 : Int32) (v_mine_4 : Int32) (v_theirs_4 : Int32) (v_sharedSum_4 : Int32) (a_primes_4 : Nat → Int32), (((1000000 : Int32) ≤ x3_4 → (Post x2_4 v_mine_4 v_theirs_4 v_sharedSum_4 a_primes_4)) ∧ (¬ (1000000 : Int32) ≤ x3_4 → ((n1 ≤ x2_4 → (Post x2_4 v_mine_4 v_theirs_4 v_sharedSum_4 a_primes_4)) ∧ (¬ n1 ≤ x2_4 → (wp_X7_isStill v_lawNumber v_mine_4 v_theirs_4 v_sharedSum_4 (fun (r16 : Int32) => ((¬ r16 = 0 → (Post x2_4 v_mine_4 v_theirs_4 v_sharedSum_4 a_primes_4)) ∧ (r16 = 0 → (wp_X7_changesPlaces v_lawNumber v_mine_4 v_theirs_4 v_sharedSum_4 (fun (r23 : Int32) => ((¬ r23 = 0 → (Post x2_4 v_mine_4 v_theirs_4 v_sharedSum_4 a_primes_4)) ∧ (r23 = 0 → (wp_X7_countAlike v_lawNumber v_mine_4 v_theirs_4 v_sharedSum_4 a_primes_4 (fun (r33 : Int32) (a_primes_33 : Nat → Int32) => (∀ r36 : Int32, r36 = (if r33 < (n1 - x2_4) then r33 else (n1 - x2_4)) → (wp_X7_makeAlike r36 v_lawNumber v_mine_4 v_theirs_4 v_sharedSum_4 (fun (v_mine_44 : Int32) (v_theirs_44 : Int32) (v_sharedSum_44 : Int32) => (k4 (x3_4 + 1) (x2_4 + r36) v_mine_44 v_theirs_44 v_sharedSum_44 a_primes_33)))))))))))))))))) → k4 x3_4 x2_4 v_mine_4 v_theirs_4 v_sharedSum_4 a_primes_4) → k4 (0 : Int32) (0 : Int32) v_mine v_theirs v_sharedSum a_primes)
set_option maxHeartbeats 4000000 in
set_option maxRecDepth 100000 in
theorem c_X7_makeToRing (l : Launch) (D : va_G) (cI cZ : ClassId) (o o_primes : Nat) (sz : Nat) (n1 : Int32) (v_lawNumber : Int32) (v_mine : Int32) (v_theirs : Int32) (v_sharedSum : Int32) (a_primes : Nat → Int32) (Post : Int32 → (Int32) → (Int32) → (Int32) → (Nat → Int32) → Prop) (h : wp_X7_makeToRing n1 v_lawNumber v_mine v_theirs v_sharedSum a_primes Post) : Met l yX7_makeToRing wsX7_makeToRing rm_X7_makeToRing (cPc D cI cZ [.ref o, .int n1] (cw_X7_makeToRing cI cZ o o_primes v_lawNumber v_mine v_theirs v_sharedSum a_primes) sz) (cQi4 D Post (fun m_v_mine m_v_theirs m_v_sharedSum m_a_primes => (cw_X7_makeToRing cI cZ o o_primes v_lawNumber m_v_mine m_v_theirs m_v_sharedSum m_a_primes)) (va_A (cw_X7_makeToRing cI cZ o o_primes v_lawNumber v_mine v_theirs v_sharedSum a_primes) sz)) 0 0 (va_A (cw_X7_makeToRing cI cZ o o_primes v_lawNumber v_mine v_theirs v_sharedSum a_primes) sz) := by
  refine ent (cc := cX7_makeToRing) (maxL := 5) (ret := (some .int)) (Qc := fun A => cQi4 D Post (fun m_v_mine m_v_theirs m_v_sharedSum m_a_primes => (cw_X7_makeToRing cI cZ o o_primes v_lawNumber m_v_mine m_v_theirs m_v_sharedSum m_a_primes)) A) (by decide) rfl (Nat.le_of_ble_eq_true rfl) ?_
  intro p e s m args below meth c A ls Q hQ hsz hx hb hml hr hts hown hlocks hnm hK hP hD hA hS hl
  have hl : lv_has ls 5 [(0, .ref o), (1, .int n1)] := hl
  unfold wp_X7_makeToRing at h
  refine lv_iconst (v := 0) hx hb dX7_makeToRing_0 (by decide) ?_
  refine lv_istore_n (lv' := [(2, .int (0 : Int32)), (0, .ref o), (1, .int n1)]) hx hb dX7_makeToRing_1 rfl hl (by decide) rfl (fun ls hl => ?_)
  refine lv_iconst (v := 0) hx hb dX7_makeToRing_2 (by decide) ?_
  refine lv_istore_n (lv' := [(3, .int (0 : Int32)), (2, .int (0 : Int32)), (0, .ref o), (1, .int n1)]) hx hb dX7_makeToRing_3 rfl hl (by decide) rfl (fun ls hl => ?_)
  refine h (fun x3_4 x2_4 v_mine_4 v_theirs_4 v_sharedSum_4 a_primes_4 => ∀ (H : Heap) (locs : List Loc) (ls : Array Slot), lv_has ls 5 [(0, .ref o), (1, .int n1), (2, .int x2_4), (3, .int x3_4)] → va_P D vwCl (cw_X7_makeToRing cI cZ o o_primes v_lawNumber v_mine_4 v_theirs_4 v_sharedSum_4 a_primes_4) H → va_D A (cw_X7_makeToRing cI cZ o o_primes v_lawNumber v_mine_4 v_theirs_4 v_sharedSum_4 a_primes_4) → va_S A s.heap H locs → W p l e rm_X7_makeToRing s m args below meth c H locs 0 0 Q (F0 m 4 ls [])) ?_ s.heap [] ls (lv_sub hl [2, 3, 1, 0] rfl) hP hD hS
  intro x3_4 x2_4 v_mine_4 v_theirs_4 v_sharedSum_4 a_primes_4 h H locs ls hl hP hD hS
  refine lv_iload_n hx hb dX7_makeToRing_4 rfl (lv_at hl 3 rfl) ?_
  refine lv_ldc (own := RX7) (index := 45) (v := 1000000) hx hb hown (hts (.constant RX7 45 (1000000)) (by decide +kernel)) dX7_makeToRing_5 ?_
  refine lv_icmp_ge (tgt := 58) hx hb dX7_makeToRing_7 (by decide) (fun c7 => ?_) (fun c7 => ?_)
  · have h := h.1 c7
    refine lv_iload_n hx hb dX7_makeToRing_58 rfl (lv_at hl 2 rfl) ?_
    exact ret_i4 hx hb hr hlocks hQ hS v_mine_4 v_theirs_4 v_sharedSum_4 a_primes_4 hP h dX7_makeToRing_59
  · have h := h.2 c7
    refine lv_iload_n hx hb dX7_makeToRing_10 rfl (lv_at hl 2 rfl) ?_
    refine lv_iload_n hx hb dX7_makeToRing_11 rfl (lv_at hl 1 rfl) ?_
    refine lv_icmp_ge (tgt := 58) hx hb dX7_makeToRing_12 (by decide) (fun c12 => ?_) (fun c12 => ?_)
    · have h := h.1 c12
      refine lv_iload_n hx hb dX7_makeToRing_58 rfl (lv_at hl 2 rfl) ?_
      exact ret_i4 hx hb hr hlocks hQ hS v_mine_4 v_theirs_4 v_sharedSum_4 a_primes_4 hP h dX7_makeToRing_59
    · have h := h.2 c12
      refine lv_aload_n hx hb dX7_makeToRing_15 rfl (lv_at hl 0 rfl) ?_
      refine call_i0 (va_runV (As := []) (rest := []) ⟨hx, hb, hml, hown, hts⟩ (c_X7_isStill l D cI cZ o o_primes (Array.size H) v_lawNumber v_mine_4 v_theirs_4 v_sharedSum_4 _ h) (cwV 0 hts gX7_makeToRing_X7_isStill rfl rfl rfl (by decide +kernel) ⟨Nat.le_of_ble_eq_true rfl, Nat.le_of_ble_eq_true rfl⟩) (preV_of hP hD hK [0] rfl rfl 0 7 rfl rfl rfl) rfl rfl hl.1 rfl (lv_room (Nat.le_of_ble_eq_true rfl)) dX7_makeToRing_16 ⟨Nat.zero_le _, Nat.zero_le _⟩) hP hD hS hA [0] rfl ((cw_X7_makeToRing cI cZ o o_primes v_lawNumber v_mine_4 v_theirs_4 v_sharedSum_4 a_primes_4)) (rfl) (rfl) (fun r16 H locs h hP hD hS => ?_)
      refine lv_if_ne (tgt := 58) hx hb dX7_makeToRing_19 (by decide) (fun c19 => ?_) (fun c19 => ?_)
      · have h := h.1 c19
        refine lv_iload_n hx hb dX7_makeToRing_58 rfl (lv_at hl 2 rfl) ?_
        exact ret_i4 hx hb hr hlocks hQ hS v_mine_4 v_theirs_4 v_sharedSum_4 a_primes_4 hP h dX7_makeToRing_59
      · have h := h.2 c19
        refine lv_aload_n hx hb dX7_makeToRing_22 rfl (lv_at hl 0 rfl) ?_
        refine call_i0 (va_runV (As := []) (rest := []) ⟨hx, hb, hml, hown, hts⟩ (c_X7_changesPlaces l D cI cZ o o_primes (Array.size H) v_lawNumber v_mine_4 v_theirs_4 v_sharedSum_4 _ h) (cwV 0 hts gX7_makeToRing_X7_changesPlaces rfl rfl rfl (by decide +kernel) ⟨Nat.le_of_ble_eq_true rfl, Nat.le_of_ble_eq_true rfl⟩) (preV_of hP hD hK [0] rfl rfl 0 7 rfl rfl rfl) rfl rfl hl.1 rfl (lv_room (Nat.le_of_ble_eq_true rfl)) dX7_makeToRing_23 ⟨Nat.zero_le _, Nat.zero_le _⟩) hP hD hS hA [0] rfl ((cw_X7_makeToRing cI cZ o o_primes v_lawNumber v_mine_4 v_theirs_4 v_sharedSum_4 a_primes_4)) (rfl) (rfl) (fun r23 H locs h hP hD hS => ?_)
        refine lv_if_ne (tgt := 58) hx hb dX7_makeToRing_26 (by decide) (fun c26 => ?_) (fun c26 => ?_)
        · have h := h.1 c26
          refine lv_iload_n hx hb dX7_makeToRing_58 rfl (lv_at hl 2 rfl) ?_
          exact ret_i4 hx hb hr hlocks hQ hS v_mine_4 v_theirs_4 v_sharedSum_4 a_primes_4 hP h dX7_makeToRing_59
        · have h := h.2 c26
          refine lv_iload_n hx hb dX7_makeToRing_29 rfl (lv_at hl 1 rfl) ?_
          refine lv_iload_n hx hb dX7_makeToRing_30 rfl (lv_at hl 2 rfl) ?_
          refine lv_isub hx hb dX7_makeToRing_31 ?_
          refine lv_aload_n hx hb dX7_makeToRing_32 rfl (lv_at hl 0 rfl) ?_
          refine call_i1 (va_runV (As := []) (rest := [.int (n1 - x2_4)]) ⟨hx, hb, hml, hown, hts⟩ (c_X7_countAlike l D cI cZ o o_primes (Array.size H) v_lawNumber v_mine_4 v_theirs_4 v_sharedSum_4 a_primes_4 _ h) (cwV 0 hts gX7_makeToRing_X7_countAlike rfl rfl rfl (by decide +kernel) ⟨Nat.le_of_ble_eq_true rfl, Nat.le_of_ble_eq_true rfl⟩) (preV_of hP hD hK [0, 1] rfl rfl 0 7 rfl rfl rfl) rfl rfl hl.1 rfl (lv_room (Nat.le_of_ble_eq_true rfl)) dX7_makeToRing_33 ⟨Nat.zero_le _, Nat.zero_le _⟩) hP hD hS hA [0, 1] rfl (fun a_primes_33 => (cw_X7_makeToRing cI cZ o o_primes v_lawNumber v_mine_4 v_theirs_4 v_sharedSum_4 a_primes_33)) (fun _ => rfl) (fun _ => rfl) (fun r33 a_primes_33 H locs h hP hD hS => ?_)
          refine va_mmin hx hb (hml.trans hl.1.symm) hown (hts (.methodLink RX7 50 Lib.Math.min.name) (by decide +kernel)) (hts (.static Lib.Math.min.name) (by decide +kernel)) (hts (.initialized "java/lang/Math") (by decide +kernel)) (hts (.code Lib.Math.min.name Lib.Math.min.code 2 (some .int)) (by decide +kernel)) (Nat.le_of_ble_eq_true rfl) (Nat.le_of_ble_eq_true rfl) (Nat.zero_le _) (Nat.zero_le _) dX7_makeToRing_36 ?_
          refine lv_topi (fun r36 e36 => ?_)
          have h := h r36 e36
          refine lv_istore (lv' := [(4, .int r36), (0, .ref o), (1, .int n1), (2, .int x2_4), (3, .int x3_4)]) hx hb dX7_makeToRing_39 hl (by decide) rfl (fun ls hl => ?_)
          refine lv_aload_n hx hb dX7_makeToRing_41 rfl (lv_at hl 1 rfl) ?_
          refine lv_iload hx hb dX7_makeToRing_42 (lv_at hl 0 rfl) ?_
          refine call_v3 (va_runV (As := [.int r36]) (rest := []) ⟨hx, hb, hml, hown, hts⟩ (c_X7_makeAlike l D cI cZ o o_primes (Array.size H) r36 v_lawNumber v_mine_4 v_theirs_4 v_sharedSum_4 _ h) (cwV 1 hts gX7_makeToRing_X7_makeAlike rfl rfl rfl (by decide +kernel) ⟨Nat.le_of_ble_eq_true rfl, Nat.le_of_ble_eq_true rfl⟩) (preV_of hP hD hK [0] rfl rfl 0 7 rfl rfl rfl) rfl rfl hl.1 rfl (lv_room (Nat.le_of_ble_eq_true rfl)) dX7_makeToRing_44 ⟨Nat.zero_le _, Nat.zero_le _⟩) hP hD hS hA [0] rfl (fun v_mine_44 v_theirs_44 v_sharedSum_44 => (cw_X7_makeToRing cI cZ o o_primes v_lawNumber v_mine_44 v_theirs_44 v_sharedSum_44 a_primes_33)) (fun _ _ _ => rfl) (fun _ _ _ => rfl) (fun v_mine_44 v_theirs_44 v_sharedSum_44 H locs h hP hD hS => ?_)
          refine lv_iload_n hx hb dX7_makeToRing_47 rfl (lv_at hl 3 rfl) ?_
          refine lv_iload hx hb dX7_makeToRing_48 (lv_at hl 0 rfl) ?_
          refine lv_iadd hx hb dX7_makeToRing_50 ?_
          refine lv_istore_n (lv' := [(2, .int (x2_4 + r36)), (4, .int r36), (0, .ref o), (1, .int n1), (3, .int x3_4)]) hx hb dX7_makeToRing_51 rfl hl (by decide) rfl (fun ls hl => ?_)
          refine lv_iinc (v := (x3_4 + 1)) (lv' := [(3, .int (x3_4 + 1)), (2, .int (x2_4 + r36)), (4, .int r36), (0, .ref o), (1, .int n1)]) hx hb dX7_makeToRing_52 hl (k := 4) rfl rfl (by decide) rfl (fun ls hl => ?_)
          refine lv_goto (tgt := 4) hx hb dX7_makeToRing_55 (by decide) ?_
          exact h H locs ls (lv_sub hl [3, 4, 1, 0] rfl) hP hD hS
