abbrev rm_X9_in : Room := { frames := 0, cells := 0, slots := 0, locals := 0 }
abbrev cw_X9_in (cI cZ : ClassId)  : va_W := []
def wp_X9_in (n1 : Int64) (n2 : Int64) (n3 : Int64) (Post : Int32 → Prop) : Prop := (((lg_cmp n1 n2) < 0 → (Post (0 : Int32))) ∧ (¬ (lg_cmp n1 n2) < 0 → ((0 < (lg_cmp n1 n3) → (Post (0 : Int32))) ∧ (¬ 0 < (lg_cmp n1 n3) → (Post (1 : Int32))))))
set_option maxHeartbeats 4000000 in
set_option maxRecDepth 100000 in
theorem c_X9_in (l : Launch) (D : va_G) (cI cZ : ClassId) (sz : Nat) (n1 : Int64) (n2 : Int64) (n3 : Int64) (Post : Int32 → Prop) (h : wp_X9_in n1 n2 n3 Post) : Met l yX9_in wsX9_in rm_X9_in (cPc D cI cZ [.long n1, .long n2, .long n3] (cw_X9_in cI cZ) sz) (cQi0 D Post ((cw_X9_in cI cZ)) (va_A (cw_X9_in cI cZ) sz)) 0 0 (va_A (cw_X9_in cI cZ) sz) := by
  refine ent (cc := cX9_in) (maxL := 6) (ret := (some .boolean)) (Qc := fun A => cQi0 D Post ((cw_X9_in cI cZ)) A) (by decide) rfl (Nat.le_of_ble_eq_true rfl) ?_
  intro p e s m args below meth c A ls Q hQ hsz hx hb hml hr hts hown hlocks hnm hK hP hD hA hS hl
  have hl : lv_has ls 6 [(0, .long n1), (2, .long n2), (4, .long n3)] := hl
  unfold wp_X9_in at h
  refine lv_lload_n hx hb dX9_in_0 rfl (lv_at hl 0 rfl) ?_
  refine lv_lload_n hx hb dX9_in_1 rfl (lv_at hl 1 rfl) ?_
  refine W.lcmp hx hb dX9_in_2 ?_
  refine lv_if_lt (tgt := 17) hx hb dX9_in_3 (by decide) (fun c3 => ?_) (fun c3 => ?_)
  · have h := h.1 c3
    refine lv_iconst (v := 0) hx hb dX9_in_17 (by decide) ?_
    exact ret_z0 hx hb hr hlocks hQ hS (by decide)  hP h dX9_in_18
  · have h := h.2 c3
    refine lv_lload_n hx hb dX9_in_6 rfl (lv_at hl 0 rfl) ?_
    refine lv_lload hx hb dX9_in_7 (lv_at hl 2 rfl) ?_
    refine W.lcmp hx hb dX9_in_9 ?_
    refine lv_if_gt (tgt := 17) hx hb dX9_in_10 (by decide) (fun c10 => ?_) (fun c10 => ?_)
    · have h := h.1 c10
      refine lv_iconst (v := 0) hx hb dX9_in_17 (by decide) ?_
      exact ret_z0 hx hb hr hlocks hQ hS (by decide)  hP h dX9_in_18
    · have h := h.2 c10
      refine lv_iconst (v := 1) hx hb dX9_in_13 (by decide) ?_
      refine lv_goto (tgt := 18) hx hb dX9_in_14 (by decide) ?_
      exact ret_z0 hx hb hr hlocks hQ hS (by decide)  hP h dX9_in_18
abbrev rm_X9_write : Room := { frames := 1, cells := 0, slots := 0, locals := 25 }
abbrev cw_X9_write (cI cZ : ClassId) (o o_readPurses o_readDay o_purses o_daily o_text o_row o_tried o_days o_order o_bestOrder o_seenHad o_seenShared o_isKept o_keptPurses o_keptRow o_keptHad o_keptShared o_keptRest : Nat) (v_readLaw : Int32) (v_readMany : Int32) (v_readMeetings : Int32) (v_law : Int32) (v_many : Int32) (v_meetings : Int32) (v_length : Int32) (v_at : Int32) (v_faultAt : Int32) (v_one : Int32) (v_other : Int32) (v_made : Int32) (v_leads : Int32) (v_rings : Int32) (v_seen : Int32) (a_text : Nat → Int32) : va_W := [(o, .inr (9, [.ref o_readPurses, .ref o_readDay, .int v_readLaw, .int v_readMany, .int v_readMeetings, .ref o_purses, .ref o_daily, .int v_law, .int v_many, .int v_meetings, .ref o_text, .int v_length, .int v_at, .int v_faultAt, .int v_one, .int v_other, .int v_made, .ref o_row, .ref o_tried, .int v_leads, .int v_rings, .ref o_days, .ref o_order, .ref o_bestOrder, .int v_seen, .ref o_seenHad, .ref o_seenShared, .ref o_isKept, .ref o_keptPurses, .ref o_keptRow, .ref o_keptHad, .ref o_keptShared, .ref o_keptRest])), (o_text, .inl (cI, 96, .inl a_text))]
theorem inw_X9_write_X9 : ∀ w ∈ u_ws RX9 TX9 33, w ∈ wsX9_write := by decide +kernel
def wp_X9_write (n1 : Int32) (n2 : Int64) (v_length : Int32) (a_text : Nat → Int32) (Post : Int32 → (Int32) → (Nat → Int32) → Prop) : Prop := (wp_X9_in (Int32.toInt64 n1) (1 : Int64) (8 : Int64) (fun (r6 : Int32) => ((¬ r6 = 0 → (((v_length + n1) ≤ (96 : Int32) → (∀ k34 : (Int32) → (Int32) → (Nat → Int32) → Prop, (∀ (x4_34 : Int32) (v_length_34 : Int32) (a_text_34 : Nat → Int32), ((x4_34 < 0 → (Post v_length_34 v_length_34 a_text_34)) ∧ (¬ x4_34 < 0 → (vp_in v_length_34 96 ∧ (k34 (x4_34 + (-1)) (v_length_34 + (1 : Int32)) (upd a_text_34 (Int32.toNatClampNeg v_length_34) (Int64.toInt32 ((n2 >>> ((Int32.toInt64 ((8 : Int32) * x4_34)) &&& 63)) &&& (255 : Int64)))))))) → k34 x4_34 v_length_34 a_text_34) → k34 (n1 - (1 : Int32)) v_length a_text)) ∧ (¬ (v_length + n1) ≤ (96 : Int32) → (Post (-4 : Int32) v_length a_text)))) ∧ (r6 = 0 → (Post (-2 : Int32) v_length a_text)))))
set_option maxHeartbeats 4000000 in
set_option maxRecDepth 100000 in
theorem c_X9_write (l : Launch) (D : va_G) (cI cZ : ClassId) (o o_readPurses o_readDay o_purses o_daily o_text o_row o_tried o_days o_order o_bestOrder o_seenHad o_seenShared o_isKept o_keptPurses o_keptRow o_keptHad o_keptShared o_keptRest : Nat) (sz : Nat) (n1 : Int32) (n2 : Int64) (v_readLaw : Int32) (v_readMany : Int32) (v_readMeetings : Int32) (v_law : Int32) (v_many : Int32) (v_meetings : Int32) (v_length : Int32) (v_at : Int32) (v_faultAt : Int32) (v_one : Int32) (v_other : Int32) (v_made : Int32) (v_leads : Int32) (v_rings : Int32) (v_seen : Int32) (a_text : Nat → Int32) (Post : Int32 → (Int32) → (Nat → Int32) → Prop) (h : wp_X9_write n1 n2 v_length a_text Post) : Met l yX9_write wsX9_write rm_X9_write (cPc D cI cZ [.ref o, .int n1, .long n2] (cw_X9_write cI cZ o o_readPurses o_readDay o_purses o_daily o_text o_row o_tried o_days o_order o_bestOrder o_seenHad o_seenShared o_isKept o_keptPurses o_keptRow o_keptHad o_keptShared o_keptRest v_readLaw v_readMany v_readMeetings v_law v_many v_meetings v_length v_at v_faultAt v_one v_other v_made v_leads v_rings v_seen a_text) sz) (cQi2 D Post (fun m_v_length m_a_text => (cw_X9_write cI cZ o o_readPurses o_readDay o_purses o_daily o_text o_row o_tried o_days o_order o_bestOrder o_seenHad o_seenShared o_isKept o_keptPurses o_keptRow o_keptHad o_keptShared o_keptRest v_readLaw v_readMany v_readMeetings v_law v_many v_meetings m_v_length v_at v_faultAt v_one v_other v_made v_leads v_rings v_seen m_a_text)) (va_A (cw_X9_write cI cZ o o_readPurses o_readDay o_purses o_daily o_text o_row o_tried o_days o_order o_bestOrder o_seenHad o_seenShared o_isKept o_keptPurses o_keptRow o_keptHad o_keptShared o_keptRest v_readLaw v_readMany v_readMeetings v_law v_many v_meetings v_length v_at v_faultAt v_one v_other v_made v_leads v_rings v_seen a_text) sz)) 0 0 (va_A (cw_X9_write cI cZ o o_readPurses o_readDay o_purses o_daily o_text o_row o_tried o_days o_order o_bestOrder o_seenHad o_seenShared o_isKept o_keptPurses o_keptRow o_keptHad o_keptShared o_keptRest v_readLaw v_readMany v_readMeetings v_law v_many v_meetings v_length v_at v_faultAt v_one v_other v_made v_leads v_rings v_seen a_text) sz) := by
  refine ent (cc := cX9_write) (maxL := 5) (ret := (some .int)) (Qc := fun A => cQi2 D Post (fun m_v_length m_a_text => (cw_X9_write cI cZ o o_readPurses o_readDay o_purses o_daily o_text o_row o_tried o_days o_order o_bestOrder o_seenHad o_seenShared o_isKept o_keptPurses o_keptRow o_keptHad o_keptShared o_keptRest v_readLaw v_readMany v_readMeetings v_law v_many v_meetings m_v_length v_at v_faultAt v_one v_other v_made v_leads v_rings v_seen m_a_text)) A) (by decide) rfl (Nat.le_of_ble_eq_true rfl) ?_
  intro p e s m args below meth c A ls Q hQ hsz hx hb hml hr hts hown hlocks hnm hK hP hD hA hS hl
  have hl : lv_has ls 5 [(0, .ref o), (1, .int n1), (2, .long n2)] := hl
  unfold wp_X9_write at h
  refine lv_iload_n hx hb dX9_write_0 rfl (lv_at hl 1 rfl) ?_
  refine lv_i2l (v := (Int32.toInt64 n1)) hx hb dX9_write_1 rfl ?_
  refine lv_lconst (v := 1) hx hb dX9_write_2 (by decide) ?_
  refine lv_ldc2 (own := RX9) (index := 69) (v := 8) hx hb hown (hts (.constantLong RX9 69 (8)) (by decide +kernel)) dX9_write_3 ?_
  refine call_i0 (va_runS (As := [.long (Int32.toInt64 n1), .long (1 : Int64), .long (8 : Int64)]) (rest := []) ⟨hx, hb, hml, hown, hts⟩ (c_X9_in l D cI cZ (Array.size s.heap) (Int32.toInt64 n1) (1 : Int64) (8 : Int64) _ h) (va_cwS 3 hts gX9_write_X9_in rfl rfl rfl (by decide +kernel) ⟨Nat.le_of_ble_eq_true rfl, Nat.le_of_ble_eq_true rfl⟩) (preS_of hP hD hK [] rfl rfl) rfl rfl hl.1 rfl (lv_room (Nat.le_of_ble_eq_true rfl)) dX9_write_6 ⟨Nat.zero_le _, Nat.zero_le _⟩) hP hD hS hA [] rfl ((cw_X9_write cI cZ o o_readPurses o_readDay o_purses o_daily o_text o_row o_tried o_days o_order o_bestOrder o_seenHad o_seenShared o_isKept o_keptPurses o_keptRow o_keptHad o_keptShared o_keptRest v_readLaw v_readMany v_readMeetings v_law v_many v_meetings v_length v_at v_faultAt v_one v_other v_made v_leads v_rings v_seen a_text)) (rfl) (rfl) (fun r6 H locs h hP hD hS => ?_)
  refine lv_if_ne (tgt := 15) hx hb dX9_write_9 (by decide) (fun c9 => ?_) (fun c9 => ?_)
  · have h := h.1 c9
    refine lv_aload_n hx hb dX9_write_15 rfl (lv_at hl 0 rfl) ?_
    refine va_get (D := D) (ci := 9) (v := .int v_length) (C := RX9) (T := TX9) (N := 33) hx hb hts inw_X9_write_X9 hown hK.1 hP 0 rfl rfl 11 (by decide) (hts (.fieldLink RX9 75 "PursesShareModel" "length" "I") (by decide +kernel)) (fun _ h9 => h9) rfl dX9_write_16 ?_
    refine lv_iload_n hx hb dX9_write_19 rfl (lv_at hl 1 rfl) ?_
    refine lv_iadd hx hb dX9_write_20 ?_
    refine lv_bipush (v := 96) hx hb dX9_write_21 (by decide) ?_
    refine lv_icmp_le (tgt := 29) hx hb dX9_write_23 (by decide) (fun c23 => ?_) (fun c23 => ?_)
    · have h := h.1 c23
      refine lv_iload_n hx hb dX9_write_29 rfl (lv_at hl 1 rfl) ?_
      refine lv_iconst (v := 1) hx hb dX9_write_30 (by decide) ?_
      refine lv_isub hx hb dX9_write_31 ?_
      refine lv_istore (lv' := [(4, .int (n1 - (1 : Int32))), (0, .ref o), (1, .int n1), (2, .long n2)]) hx hb dX9_write_32 hl (by decide) rfl (fun ls hl => ?_)
      refine h (fun x4_34 v_length_34 a_text_34 => ∀ (H : Heap) (locs : List Loc) (ls : Array Slot), lv_has ls 5 [(0, .ref o), (1, .int n1), (2, .long n2), (4, .int x4_34)] → va_P D vwCl (cw_X9_write cI cZ o o_readPurses o_readDay o_purses o_daily o_text o_row o_tried o_days o_order o_bestOrder o_seenHad o_seenShared o_isKept o_keptPurses o_keptRow o_keptHad o_keptShared o_keptRest v_readLaw v_readMany v_readMeetings v_law v_many v_meetings v_length_34 v_at v_faultAt v_one v_other v_made v_leads v_rings v_seen a_text_34) H → va_D A (cw_X9_write cI cZ o o_readPurses o_readDay o_purses o_daily o_text o_row o_tried o_days o_order o_bestOrder o_seenHad o_seenShared o_isKept o_keptPurses o_keptRow o_keptHad o_keptShared o_keptRest v_readLaw v_readMany v_readMeetings v_law v_many v_meetings v_length_34 v_at v_faultAt v_one v_other v_made v_leads v_rings v_seen a_text_34) → va_S A s.heap H locs → W p l e rm_X9_write s m args below meth c H locs 0 0 Q (F0 m 34 ls [])) ?_ H locs ls (lv_sub hl [1, 2, 3, 0] rfl) hP hD hS
      intro x4_34 v_length_34 a_text_34 h H locs ls hl hP hD hS
      refine lv_iload hx hb dX9_write_34 (lv_at hl 3 rfl) ?_
      refine lv_if_lt (tgt := 76) hx hb dX9_write_36 (by decide) (fun c36 => ?_) (fun c36 => ?_)
      · have h := h.1 c36
        refine lv_aload_n hx hb dX9_write_76 rfl (lv_at hl 0 rfl) ?_
        refine va_get (D := D) (ci := 9) (v := .int v_length_34) (C := RX9) (T := TX9) (N := 33) hx hb hts inw_X9_write_X9 hown hK.1 hP 0 rfl rfl 11 (by decide) (hts (.fieldLink RX9 75 "PursesShareModel" "length" "I") (by decide +kernel)) (fun _ h9 => h9) rfl dX9_write_77 ?_
        exact ret_i2 hx hb hr hlocks hQ hS v_length_34 a_text_34 hP h dX9_write_80
      · have h := h.2 c36
        refine lv_aload_n hx hb dX9_write_39 rfl (lv_at hl 0 rfl) ?_
        refine va_get (D := D) (ci := 9) (v := .ref o_text) (C := RX9) (T := TX9) (N := 33) hx hb hts inw_X9_write_X9 hown hK.1 hP 0 rfl rfl 10 (by decide) (hts (.fieldLink RX9 22 "PursesShareModel" "text" "[I") (by decide +kernel)) (fun _ h9 => h9) rfl dX9_write_40 ?_
        refine lv_aload_n hx hb dX9_write_43 rfl (lv_at hl 0 rfl) ?_
        refine va_get (D := D) (ci := 9) (v := .int v_length_34) (C := RX9) (T := TX9) (N := 33) hx hb hts inw_X9_write_X9 hown hK.1 hP 0 rfl rfl 11 (by decide) (hts (.fieldLink RX9 75 "PursesShareModel" "length" "I") (by decide +kernel)) (fun _ h9 => h9) rfl dX9_write_44 ?_
        refine lv_lload_n hx hb dX9_write_47 rfl (lv_at hl 2 rfl) ?_
        refine lv_bipush (v := 8) hx hb dX9_write_48 (by decide) ?_
        refine lv_iload hx hb dX9_write_50 (lv_at hl 3 rfl) ?_
        refine lv_imul hx hb dX9_write_52 ?_
        refine lv_lshr (v := (n2 >>> ((Int32.toInt64 ((8 : Int32) * x4_34)) &&& 63))) hx hb dX9_write_53 rfl ?_
        refine lv_ldc2 (own := RX9) (index := 78) (v := 255) hx hb hown (hts (.constantLong RX9 78 (255)) (by decide +kernel)) dX9_write_54 ?_
        refine lv_land hx hb dX9_write_57 ?_
        refine lv_l2i (v := (Int64.toInt32 ((n2 >>> ((Int32.toInt64 ((8 : Int32) * x4_34)) &&& 63)) &&& (255 : Int64)))) hx hb dX9_write_58 rfl ?_
        have h0 := h.1
        have h := h.2
        refine va_iast hx hb hK.1 hP hD hS 1 0 rfl rfl h0 dX9_write_59 (fun H locs hP hD hS => ?_)
        have hP : va_P D vwCl (cw_X9_write cI cZ o o_readPurses o_readDay o_purses o_daily o_text o_row o_tried o_days o_order o_bestOrder o_seenHad o_seenShared o_isKept o_keptPurses o_keptRow o_keptHad o_keptShared o_keptRest v_readLaw v_readMany v_readMeetings v_law v_many v_meetings v_length_34 v_at v_faultAt v_one v_other v_made v_leads v_rings v_seen (upd a_text_34 (Int32.toNatClampNeg v_length_34) (Int64.toInt32 ((n2 >>> ((Int32.toInt64 ((8 : Int32) * x4_34)) &&& 63)) &&& (255 : Int64))))) H := hP
        have hD : va_D A (cw_X9_write cI cZ o o_readPurses o_readDay o_purses o_daily o_text o_row o_tried o_days o_order o_bestOrder o_seenHad o_seenShared o_isKept o_keptPurses o_keptRow o_keptHad o_keptShared o_keptRest v_readLaw v_readMany v_readMeetings v_law v_many v_meetings v_length_34 v_at v_faultAt v_one v_other v_made v_leads v_rings v_seen (upd a_text_34 (Int32.toNatClampNeg v_length_34) (Int64.toInt32 ((n2 >>> ((Int32.toInt64 ((8 : Int32) * x4_34)) &&& 63)) &&& (255 : Int64))))) := hD
        refine lv_aload_n hx hb dX9_write_60 rfl (lv_at hl 0 rfl) ?_
        refine lv_dup hx hb dX9_write_61 rfl ?_
        refine va_get (D := D) (ci := 9) (v := .int v_length_34) (C := RX9) (T := TX9) (N := 33) hx hb hts inw_X9_write_X9 hown hK.1 hP 0 rfl rfl 11 (by decide) (hts (.fieldLink RX9 75 "PursesShareModel" "length" "I") (by decide +kernel)) (fun _ h9 => h9) rfl dX9_write_62 ?_
        refine lv_iconst (v := 1) hx hb dX9_write_65 (by decide) ?_
        refine lv_iadd hx hb dX9_write_66 ?_
        refine va_put (D := D) (ci := 9) (v := .int (v_length_34 + (1 : Int32))) (ty := .int) (C := RX9) (T := TX9) (N := 33) hx hb hts inw_X9_write_X9 tyX9 tyX9_ok nmX9 hown hK.1 hP hD hS 0 rfl rfl 11 (by decide) (hts (.fieldLink RX9 75 "PursesShareModel" "length" "I") (by decide +kernel)) (fun _ h9 => h9) rfl (by decide +kernel) rfl rfl (Nat.le_of_ble_eq_true rfl) dX9_write_67 (fun H locs hP hD hS => ?_)
        have hP : va_P D vwCl (cw_X9_write cI cZ o o_readPurses o_readDay o_purses o_daily o_text o_row o_tried o_days o_order o_bestOrder o_seenHad o_seenShared o_isKept o_keptPurses o_keptRow o_keptHad o_keptShared o_keptRest v_readLaw v_readMany v_readMeetings v_law v_many v_meetings (v_length_34 + (1 : Int32)) v_at v_faultAt v_one v_other v_made v_leads v_rings v_seen (upd a_text_34 (Int32.toNatClampNeg v_length_34) (Int64.toInt32 ((n2 >>> ((Int32.toInt64 ((8 : Int32) * x4_34)) &&& 63)) &&& (255 : Int64))))) H := hP
        have hD : va_D A (cw_X9_write cI cZ o o_readPurses o_readDay o_purses o_daily o_text o_row o_tried o_days o_order o_bestOrder o_seenHad o_seenShared o_isKept o_keptPurses o_keptRow o_keptHad o_keptShared o_keptRest v_readLaw v_readMany v_readMeetings v_law v_many v_meetings (v_length_34 + (1 : Int32)) v_at v_faultAt v_one v_other v_made v_leads v_rings v_seen (upd a_text_34 (Int32.toNatClampNeg v_length_34) (Int64.toInt32 ((n2 >>> ((Int32.toInt64 ((8 : Int32) * x4_34)) &&& 63)) &&& (255 : Int64))))) := hD
        refine lv_iinc (v := (x4_34 + (-1))) (lv' := [(4, .int (x4_34 + (-1))), (0, .ref o), (1, .int n1), (2, .long n2)]) hx hb dX9_write_70 hl (k := 3) rfl rfl (by decide) rfl (fun ls hl => ?_)
        refine lv_goto (tgt := 34) hx hb dX9_write_73 (by decide) ?_
        exact h H locs ls (lv_sub hl [1, 2, 3, 0] rfl) hP hD hS
    · have h := h.2 c23
      refine lv_bipush (v := -4) hx hb dX9_write_26 (by decide) ?_
      exact ret_i2 hx hb hr hlocks hQ hS v_length a_text hP h dX9_write_28
  · have h := h.2 c9
    refine lv_bipush (v := -2) hx hb dX9_write_12 (by decide) ?_
    exact ret_i2 hx hb hr hlocks hQ hS v_length a_text hP h dX9_write_14
abbrev rm_X9_wipe : Room := { frames := 0, cells := 0, slots := 0, locals := 0 }
abbrev cw_X9_wipe (cI cZ : ClassId) (o o_readPurses o_readDay o_purses o_daily o_text o_row o_tried o_days o_order o_bestOrder o_seenHad o_seenShared o_isKept o_keptPurses o_keptRow o_keptHad o_keptShared o_keptRest : Nat) (v_readLaw : Int32) (v_readMany : Int32) (v_readMeetings : Int32) (v_law : Int32) (v_many : Int32) (v_meetings : Int32) (v_length : Int32) (v_at : Int32) (v_faultAt : Int32) (v_one : Int32) (v_other : Int32) (v_made : Int32) (v_leads : Int32) (v_rings : Int32) (v_seen : Int32) : va_W := [(o, .inr (9, [.ref o_readPurses, .ref o_readDay, .int v_readLaw, .int v_readMany, .int v_readMeetings, .ref o_purses, .ref o_daily, .int v_law, .int v_many, .int v_meetings, .ref o_text, .int v_length, .int v_at, .int v_faultAt, .int v_one, .int v_other, .int v_made, .ref o_row, .ref o_tried, .int v_leads, .int v_rings, .ref o_days, .ref o_order, .ref o_bestOrder, .int v_seen, .ref o_seenHad, .ref o_seenShared, .ref o_isKept, .ref o_keptPurses, .ref o_keptRow, .ref o_keptHad, .ref o_keptShared, .ref o_keptRest]))]
theorem inw_X9_wipe_X9 : ∀ w ∈ u_ws RX9 TX9 33, w ∈ wsX9_wipe := by decide +kernel
def wp_X9_wipe (v_length : Int32) (Post : Int32 → (Int32) → Prop) : Prop := (Post v_length (0 : Int32))
set_option maxHeartbeats 4000000 in
set_option maxRecDepth 100000 in
theorem c_X9_wipe (l : Launch) (D : va_G) (cI cZ : ClassId) (o o_readPurses o_readDay o_purses o_daily o_text o_row o_tried o_days o_order o_bestOrder o_seenHad o_seenShared o_isKept o_keptPurses o_keptRow o_keptHad o_keptShared o_keptRest : Nat) (sz : Nat) (v_readLaw : Int32) (v_readMany : Int32) (v_readMeetings : Int32) (v_law : Int32) (v_many : Int32) (v_meetings : Int32) (v_length : Int32) (v_at : Int32) (v_faultAt : Int32) (v_one : Int32) (v_other : Int32) (v_made : Int32) (v_leads : Int32) (v_rings : Int32) (v_seen : Int32) (Post : Int32 → (Int32) → Prop) (h : wp_X9_wipe v_length Post) : Met l yX9_wipe wsX9_wipe rm_X9_wipe (cPc D cI cZ [.ref o] (cw_X9_wipe cI cZ o o_readPurses o_readDay o_purses o_daily o_text o_row o_tried o_days o_order o_bestOrder o_seenHad o_seenShared o_isKept o_keptPurses o_keptRow o_keptHad o_keptShared o_keptRest v_readLaw v_readMany v_readMeetings v_law v_many v_meetings v_length v_at v_faultAt v_one v_other v_made v_leads v_rings v_seen) sz) (cQi1 D Post (fun m_v_length => (cw_X9_wipe cI cZ o o_readPurses o_readDay o_purses o_daily o_text o_row o_tried o_days o_order o_bestOrder o_seenHad o_seenShared o_isKept o_keptPurses o_keptRow o_keptHad o_keptShared o_keptRest v_readLaw v_readMany v_readMeetings v_law v_many v_meetings m_v_length v_at v_faultAt v_one v_other v_made v_leads v_rings v_seen)) (va_A (cw_X9_wipe cI cZ o o_readPurses o_readDay o_purses o_daily o_text o_row o_tried o_days o_order o_bestOrder o_seenHad o_seenShared o_isKept o_keptPurses o_keptRow o_keptHad o_keptShared o_keptRest v_readLaw v_readMany v_readMeetings v_law v_many v_meetings v_length v_at v_faultAt v_one v_other v_made v_leads v_rings v_seen) sz)) 0 0 (va_A (cw_X9_wipe cI cZ o o_readPurses o_readDay o_purses o_daily o_text o_row o_tried o_days o_order o_bestOrder o_seenHad o_seenShared o_isKept o_keptPurses o_keptRow o_keptHad o_keptShared o_keptRest v_readLaw v_readMany v_readMeetings v_law v_many v_meetings v_length v_at v_faultAt v_one v_other v_made v_leads v_rings v_seen) sz) := by
  refine ent (cc := cX9_wipe) (maxL := 2) (ret := (some .int)) (Qc := fun A => cQi1 D Post (fun m_v_length => (cw_X9_wipe cI cZ o o_readPurses o_readDay o_purses o_daily o_text o_row o_tried o_days o_order o_bestOrder o_seenHad o_seenShared o_isKept o_keptPurses o_keptRow o_keptHad o_keptShared o_keptRest v_readLaw v_readMany v_readMeetings v_law v_many v_meetings m_v_length v_at v_faultAt v_one v_other v_made v_leads v_rings v_seen)) A) (by decide) rfl (Nat.le_of_ble_eq_true rfl) ?_
  intro p e s m args below meth c A ls Q hQ hsz hx hb hml hr hts hown hlocks hnm hK hP hD hA hS hl
  have hl : lv_has ls 2 [(0, .ref o)] := hl
  unfold wp_X9_wipe at h
  refine lv_aload_n hx hb dX9_wipe_0 rfl (lv_at hl 0 rfl) ?_
  refine va_get (D := D) (ci := 9) (v := .int v_length) (C := RX9) (T := TX9) (N := 33) hx hb hts inw_X9_wipe_X9 hown hK.1 hP 0 rfl rfl 11 (by decide) (hts (.fieldLink RX9 75 "PursesShareModel" "length" "I") (by decide +kernel)) (fun _ h9 => h9) rfl dX9_wipe_1 ?_
  refine lv_istore_n (lv' := [(1, .int v_length), (0, .ref o)]) hx hb dX9_wipe_4 rfl hl (by decide) rfl (fun ls hl => ?_)
  refine lv_aload_n hx hb dX9_wipe_5 rfl (lv_at hl 1 rfl) ?_
  refine lv_iconst (v := 0) hx hb dX9_wipe_6 (by decide) ?_
  refine va_put (D := D) (ci := 9) (v := .int (0 : Int32)) (ty := .int) (C := RX9) (T := TX9) (N := 33) hx hb hts inw_X9_wipe_X9 tyX9 tyX9_ok nmX9 hown hK.1 hP hD hS 0 rfl rfl 11 (by decide) (hts (.fieldLink RX9 75 "PursesShareModel" "length" "I") (by decide +kernel)) (fun _ h9 => h9) rfl (by decide +kernel) rfl rfl (Nat.le_of_ble_eq_true rfl) dX9_wipe_7 (fun H locs hP hD hS => ?_)
  have hP : va_P D vwCl (cw_X9_wipe cI cZ o o_readPurses o_readDay o_purses o_daily o_text o_row o_tried o_days o_order o_bestOrder o_seenHad o_seenShared o_isKept o_keptPurses o_keptRow o_keptHad o_keptShared o_keptRest v_readLaw v_readMany v_readMeetings v_law v_many v_meetings (0 : Int32) v_at v_faultAt v_one v_other v_made v_leads v_rings v_seen) H := hP
  have hD : va_D A (cw_X9_wipe cI cZ o o_readPurses o_readDay o_purses o_daily o_text o_row o_tried o_days o_order o_bestOrder o_seenHad o_seenShared o_isKept o_keptPurses o_keptRow o_keptHad o_keptShared o_keptRest v_readLaw v_readMany v_readMeetings v_law v_many v_meetings (0 : Int32) v_at v_faultAt v_one v_other v_made v_leads v_rings v_seen) := hD
  refine lv_iload_n hx hb dX9_wipe_10 rfl (lv_at hl 0 rfl) ?_
  exact ret_i1 hx hb hr hlocks hQ hS (0 : Int32) hP h dX9_wipe_11
abbrev rm_X9_figure : Room := { frames := 1, cells := 0, slots := 0, locals := 25 }
abbrev cw_X9_figure (cI cZ : ClassId) (o o_readPurses o_readDay o_purses o_daily o_text o_row o_tried o_days o_order o_bestOrder o_seenHad o_seenShared o_isKept o_keptPurses o_keptRow o_keptHad o_keptShared o_keptRest : Nat) (v_readLaw : Int32) (v_readMany : Int32) (v_readMeetings : Int32) (v_law : Int32) (v_many : Int32) (v_meetings : Int32) (v_length : Int32) (v_at : Int32) (v_faultAt : Int32) (v_one : Int32) (v_other : Int32) (v_made : Int32) (v_leads : Int32) (v_rings : Int32) (v_seen : Int32) (a_text : Nat → Int32) : va_W := [(o, .inr (9, [.ref o_readPurses, .ref o_readDay, .int v_readLaw, .int v_readMany, .int v_readMeetings, .ref o_purses, .ref o_daily, .int v_law, .int v_many, .int v_meetings, .ref o_text, .int v_length, .int v_at, .int v_faultAt, .int v_one, .int v_other, .int v_made, .ref o_row, .ref o_tried, .int v_leads, .int v_rings, .ref o_days, .ref o_order, .ref o_bestOrder, .int v_seen, .ref o_seenHad, .ref o_seenShared, .ref o_isKept, .ref o_keptPurses, .ref o_keptRow, .ref o_keptHad, .ref o_keptShared, .ref o_keptRest])), (o_text, .inl (cI, 96, .inl a_text))]
theorem inw_X9_figure_X9 : ∀ w ∈ u_ws RX9 TX9 33, w ∈ wsX9_figure := by decide +kernel
def wp_X9_figure (n1 : Int32) (n2 : Int32) (v_length : Int32) (v_at : Int32) (v_faultAt : Int32) (a_text : Nat → Int32) (Post : Int32 → (Int32) → (Int32) → Prop) : Prop := ((¬ v_faultAt = (-9 : Int32) → (wp_X9_in (Int32.toInt64 (-1 : Int32)) (0 : Int64) (Int32.toInt64 n1) (fun (r42 : Int32) => ((r42 = 0 → ((¬ v_faultAt = (-9 : Int32) → (Post (0 : Int32) v_at v_faultAt)) ∧ (v_faultAt = (-9 : Int32) → (Post (0 : Int32) v_at v_at)))) ∧ (¬ r42 = 0 → ((¬ (-1 : Int32) = n2 → (Post (-1 : Int32) (v_at + (1 : Int32)) v_faultAt)) ∧ ((-1 : Int32) = n2 → ((¬ v_faultAt = (-9 : Int32) → (Post (0 : Int32) v_at v_faultAt)) ∧ (v_faultAt = (-9 : Int32) → (Post (0 : Int32) v_at v_at)))))))))) ∧ (v_faultAt = (-9 : Int32) → ((v_length ≤ v_at → (wp_X9_in (Int32.toInt64 (-1 : Int32)) (0 : Int64) (Int32.toInt64 n1) (fun (r42 : Int32) => ((r42 = 0 → ((¬ v_faultAt = (-9 : Int32) → (Post (0 : Int32) v_at v_faultAt)) ∧ (v_faultAt = (-9 : Int32) → (Post (0 : Int32) v_at v_at)))) ∧ (¬ r42 = 0 → ((¬ (-1 : Int32) = n2 → (Post (-1 : Int32) (v_at + (1 : Int32)) v_faultAt)) ∧ ((-1 : Int32) = n2 → ((¬ v_faultAt = (-9 : Int32) → (Post (0 : Int32) v_at v_faultAt)) ∧ (v_faultAt = (-9 : Int32) → (Post (0 : Int32) v_at v_at)))))))))) ∧ (¬ v_length ≤ v_at → (vp_in v_at 96 ∧ (wp_X9_in (Int32.toInt64 ((a_text (Int32.toNatClampNeg v_at)) - (48 : Int32))) (0 : Int64) (Int32.toInt64 n1) (fun (r42 : Int32) => ((r42 = 0 → ((¬ v_faultAt = (-9 : Int32) → (Post (0 : Int32) v_at v_faultAt)) ∧ (v_faultAt = (-9 : Int32) → (Post (0 : Int32) v_at v_at)))) ∧ (¬ r42 = 0 → ((¬ ((a_text (Int32.toNatClampNeg v_at)) - (48 : Int32)) = n2 → (Post ((a_text (Int32.toNatClampNeg v_at)) - (48 : Int32)) (v_at + (1 : Int32)) v_faultAt)) ∧ (((a_text (Int32.toNatClampNeg v_at)) - (48 : Int32)) = n2 → ((¬ v_faultAt = (-9 : Int32) → (Post (0 : Int32) v_at v_faultAt)) ∧ (v_faultAt = (-9 : Int32) → (Post (0 : Int32) v_at v_at))))))))))))))
set_option maxHeartbeats 4000000 in
set_option maxRecDepth 100000 in
theorem c_X9_figure (l : Launch) (D : va_G) (cI cZ : ClassId) (o o_readPurses o_readDay o_purses o_daily o_text o_row o_tried o_days o_order o_bestOrder o_seenHad o_seenShared o_isKept o_keptPurses o_keptRow o_keptHad o_keptShared o_keptRest : Nat) (sz : Nat) (n1 : Int32) (n2 : Int32) (v_readLaw : Int32) (v_readMany : Int32) (v_readMeetings : Int32) (v_law : Int32) (v_many : Int32) (v_meetings : Int32) (v_length : Int32) (v_at : Int32) (v_faultAt : Int32) (v_one : Int32) (v_other : Int32) (v_made : Int32) (v_leads : Int32) (v_rings : Int32) (v_seen : Int32) (a_text : Nat → Int32) (Post : Int32 → (Int32) → (Int32) → Prop) (h : wp_X9_figure n1 n2 v_length v_at v_faultAt a_text Post) : Met l yX9_figure wsX9_figure rm_X9_figure (cPc D cI cZ [.ref o, .int n1, .int n2] (cw_X9_figure cI cZ o o_readPurses o_readDay o_purses o_daily o_text o_row o_tried o_days o_order o_bestOrder o_seenHad o_seenShared o_isKept o_keptPurses o_keptRow o_keptHad o_keptShared o_keptRest v_readLaw v_readMany v_readMeetings v_law v_many v_meetings v_length v_at v_faultAt v_one v_other v_made v_leads v_rings v_seen a_text) sz) (cQi2 D Post (fun m_v_at m_v_faultAt => (cw_X9_figure cI cZ o o_readPurses o_readDay o_purses o_daily o_text o_row o_tried o_days o_order o_bestOrder o_seenHad o_seenShared o_isKept o_keptPurses o_keptRow o_keptHad o_keptShared o_keptRest v_readLaw v_readMany v_readMeetings v_law v_many v_meetings v_length m_v_at m_v_faultAt v_one v_other v_made v_leads v_rings v_seen a_text)) (va_A (cw_X9_figure cI cZ o o_readPurses o_readDay o_purses o_daily o_text o_row o_tried o_days o_order o_bestOrder o_seenHad o_seenShared o_isKept o_keptPurses o_keptRow o_keptHad o_keptShared o_keptRest v_readLaw v_readMany v_readMeetings v_law v_many v_meetings v_length v_at v_faultAt v_one v_other v_made v_leads v_rings v_seen a_text) sz)) 0 0 (va_A (cw_X9_figure cI cZ o o_readPurses o_readDay o_purses o_daily o_text o_row o_tried o_days o_order o_bestOrder o_seenHad o_seenShared o_isKept o_keptPurses o_keptRow o_keptHad o_keptShared o_keptRest v_readLaw v_readMany v_readMeetings v_law v_many v_meetings v_length v_at v_faultAt v_one v_other v_made v_leads v_rings v_seen a_text) sz) := by
  refine ent (cc := cX9_figure) (maxL := 4) (ret := (some .int)) (Qc := fun A => cQi2 D Post (fun m_v_at m_v_faultAt => (cw_X9_figure cI cZ o o_readPurses o_readDay o_purses o_daily o_text o_row o_tried o_days o_order o_bestOrder o_seenHad o_seenShared o_isKept o_keptPurses o_keptRow o_keptHad o_keptShared o_keptRest v_readLaw v_readMany v_readMeetings v_law v_many v_meetings v_length m_v_at m_v_faultAt v_one v_other v_made v_leads v_rings v_seen a_text)) A) (by decide) rfl (Nat.le_of_ble_eq_true rfl) ?_
  intro p e s m args below meth c A ls Q hQ hsz hx hb hml hr hts hown hlocks hnm hK hP hD hA hS hl
  have hl : lv_has ls 4 [(0, .ref o), (1, .int n1), (2, .int n2)] := hl
  unfold wp_X9_figure at h
  refine lv_aload_n hx hb dX9_figure_0 rfl (lv_at hl 0 rfl) ?_
  refine va_get (D := D) (ci := 9) (v := .int v_faultAt) (C := RX9) (T := TX9) (N := 33) hx hb hts inw_X9_figure_X9 hown hK.1 hP 0 rfl rfl 13 (by decide) (hts (.fieldLink RX9 80 "PursesShareModel" "faultAt" "I") (by decide +kernel)) (fun _ h9 => h9) rfl dX9_figure_1 ?_
  refine lv_bipush (v := -9) hx hb dX9_figure_4 (by decide) ?_
  refine lv_icmp_ne (tgt := 35) hx hb dX9_figure_6 (by decide) (fun c6 => ?_) (fun c6 => ?_)
  · have h := h.1 c6
    refine lv_iconst (v := -1) hx hb dX9_figure_35 (by decide) ?_
    refine lv_istore_n (lv' := [(3, .int (-1 : Int32)), (0, .ref o), (1, .int n1), (2, .int n2)]) hx hb dX9_figure_36 rfl hl (by decide) rfl (fun ls hl => ?_)
    refine lv_iload_n hx hb dX9_figure_37 rfl (lv_at hl 0 rfl) ?_
    refine lv_i2l (v := (Int32.toInt64 (-1 : Int32))) hx hb dX9_figure_38 rfl ?_
    refine lv_lconst (v := 0) hx hb dX9_figure_39 (by decide) ?_
    refine lv_iload_n hx hb dX9_figure_40 rfl (lv_at hl 2 rfl) ?_
    refine lv_i2l (v := (Int32.toInt64 n1)) hx hb dX9_figure_41 rfl ?_
    refine call_i0 (va_runS (As := [.long (Int32.toInt64 (-1 : Int32)), .long (0 : Int64), .long (Int32.toInt64 n1)]) (rest := []) ⟨hx, hb, hml, hown, hts⟩ (c_X9_in l D cI cZ (Array.size s.heap) (Int32.toInt64 (-1 : Int32)) (0 : Int64) (Int32.toInt64 n1) _ h) (va_cwS 3 hts gX9_figure_X9_in rfl rfl rfl (by decide +kernel) ⟨Nat.le_of_ble_eq_true rfl, Nat.le_of_ble_eq_true rfl⟩) (preS_of hP hD hK [] rfl rfl) rfl rfl hl.1 rfl (lv_room (Nat.le_of_ble_eq_true rfl)) dX9_figure_42 ⟨Nat.zero_le _, Nat.zero_le _⟩) hP hD hS hA [] rfl ((cw_X9_figure cI cZ o o_readPurses o_readDay o_purses o_daily o_text o_row o_tried o_days o_order o_bestOrder o_seenHad o_seenShared o_isKept o_keptPurses o_keptRow o_keptHad o_keptShared o_keptRest v_readLaw v_readMany v_readMeetings v_law v_many v_meetings v_length v_at v_faultAt v_one v_other v_made v_leads v_rings v_seen a_text)) (rfl) (rfl) (fun r42 H locs h hP hD hS => ?_)
    refine lv_if_eq (tgt := 53) hx hb dX9_figure_45 (by decide) (fun c45 => ?_) (fun c45 => ?_)
    · have h := h.1 c45
      refine lv_aload_n hx hb dX9_figure_53 rfl (lv_at hl 1 rfl) ?_
      refine lv_aload_n hx hb dX9_figure_54 rfl (lv_at hl 1 rfl) ?_
      refine va_get (D := D) (ci := 9) (v := .int v_faultAt) (C := RX9) (T := TX9) (N := 33) hx hb hts inw_X9_figure_X9 hown hK.1 hP 0 rfl rfl 13 (by decide) (hts (.fieldLink RX9 80 "PursesShareModel" "faultAt" "I") (by decide +kernel)) (fun _ h9 => h9) rfl dX9_figure_55 ?_
      refine lv_bipush (v := -9) hx hb dX9_figure_58 (by decide) ?_
      refine lv_icmp_ne (tgt := 70) hx hb dX9_figure_60 (by decide) (fun c60 => ?_) (fun c60 => ?_)
      · have h := h.1 c60
        refine lv_aload_n hx hb dX9_figure_70 rfl (lv_at hl 1 rfl) ?_
        refine va_get (D := D) (ci := 9) (v := .int v_faultAt) (C := RX9) (T := TX9) (N := 33) hx hb hts inw_X9_figure_X9 hown hK.1 hP 0 rfl rfl 13 (by decide) (hts (.fieldLink RX9 80 "PursesShareModel" "faultAt" "I") (by decide +kernel)) (fun _ h9 => h9) rfl dX9_figure_71 ?_
        refine va_put (D := D) (ci := 9) (v := .int v_faultAt) (ty := .int) (C := RX9) (T := TX9) (N := 33) hx hb hts inw_X9_figure_X9 tyX9 tyX9_ok nmX9 hown hK.1 hP hD hS 0 rfl rfl 13 (by decide) (hts (.fieldLink RX9 80 "PursesShareModel" "faultAt" "I") (by decide +kernel)) (fun _ h9 => h9) rfl (by decide +kernel) rfl rfl (Nat.le_of_ble_eq_true rfl) dX9_figure_74 (fun H locs hP hD hS => ?_)
        have hP : va_P D vwCl (cw_X9_figure cI cZ o o_readPurses o_readDay o_purses o_daily o_text o_row o_tried o_days o_order o_bestOrder o_seenHad o_seenShared o_isKept o_keptPurses o_keptRow o_keptHad o_keptShared o_keptRest v_readLaw v_readMany v_readMeetings v_law v_many v_meetings v_length v_at v_faultAt v_one v_other v_made v_leads v_rings v_seen a_text) H := hP
        have hD : va_D A (cw_X9_figure cI cZ o o_readPurses o_readDay o_purses o_daily o_text o_row o_tried o_days o_order o_bestOrder o_seenHad o_seenShared o_isKept o_keptPurses o_keptRow o_keptHad o_keptShared o_keptRest v_readLaw v_readMany v_readMeetings v_law v_many v_meetings v_length v_at v_faultAt v_one v_other v_made v_leads v_rings v_seen a_text) := hD
        refine lv_iconst (v := 0) hx hb dX9_figure_77 (by decide) ?_
        exact ret_i2 hx hb hr hlocks hQ hS v_at v_faultAt hP h dX9_figure_78
      · have h := h.2 c60
        refine lv_aload_n hx hb dX9_figure_63 rfl (lv_at hl 1 rfl) ?_
        refine va_get (D := D) (ci := 9) (v := .int v_at) (C := RX9) (T := TX9) (N := 33) hx hb hts inw_X9_figure_X9 hown hK.1 hP 0 rfl rfl 12 (by decide) (hts (.fieldLink RX9 83 "PursesShareModel" "at" "I") (by decide +kernel)) (fun _ h9 => h9) rfl dX9_figure_64 ?_
        refine lv_goto (tgt := 74) hx hb dX9_figure_67 (by decide) ?_
        refine va_put (D := D) (ci := 9) (v := .int v_at) (ty := .int) (C := RX9) (T := TX9) (N := 33) hx hb hts inw_X9_figure_X9 tyX9 tyX9_ok nmX9 hown hK.1 hP hD hS 0 rfl rfl 13 (by decide) (hts (.fieldLink RX9 80 "PursesShareModel" "faultAt" "I") (by decide +kernel)) (fun _ h9 => h9) rfl (by decide +kernel) rfl rfl (Nat.le_of_ble_eq_true rfl) dX9_figure_74 (fun H locs hP hD hS => ?_)
        have hP : va_P D vwCl (cw_X9_figure cI cZ o o_readPurses o_readDay o_purses o_daily o_text o_row o_tried o_days o_order o_bestOrder o_seenHad o_seenShared o_isKept o_keptPurses o_keptRow o_keptHad o_keptShared o_keptRest v_readLaw v_readMany v_readMeetings v_law v_many v_meetings v_length v_at v_at v_one v_other v_made v_leads v_rings v_seen a_text) H := hP
        have hD : va_D A (cw_X9_figure cI cZ o o_readPurses o_readDay o_purses o_daily o_text o_row o_tried o_days o_order o_bestOrder o_seenHad o_seenShared o_isKept o_keptPurses o_keptRow o_keptHad o_keptShared o_keptRest v_readLaw v_readMany v_readMeetings v_law v_many v_meetings v_length v_at v_at v_one v_other v_made v_leads v_rings v_seen a_text) := hD
        refine lv_iconst (v := 0) hx hb dX9_figure_77 (by decide) ?_
        exact ret_i2 hx hb hr hlocks hQ hS v_at v_at hP h dX9_figure_78
    · have h := h.2 c45
      refine lv_iload_n hx hb dX9_figure_48 rfl (lv_at hl 0 rfl) ?_
      refine lv_iload_n hx hb dX9_figure_49 rfl (lv_at hl 3 rfl) ?_
      refine lv_icmp_ne (tgt := 79) hx hb dX9_figure_50 (by decide) (fun c50 => ?_) (fun c50 => ?_)
      · have h := h.1 c50
        refine lv_aload_n hx hb dX9_figure_79 rfl (lv_at hl 1 rfl) ?_
        refine lv_dup hx hb dX9_figure_80 rfl ?_
        refine va_get (D := D) (ci := 9) (v := .int v_at) (C := RX9) (T := TX9) (N := 33) hx hb hts inw_X9_figure_X9 hown hK.1 hP 0 rfl rfl 12 (by decide) (hts (.fieldLink RX9 83 "PursesShareModel" "at" "I") (by decide +kernel)) (fun _ h9 => h9) rfl dX9_figure_81 ?_
        refine lv_iconst (v := 1) hx hb dX9_figure_84 (by decide) ?_
        refine lv_iadd hx hb dX9_figure_85 ?_
        refine va_put (D := D) (ci := 9) (v := .int (v_at + (1 : Int32))) (ty := .int) (C := RX9) (T := TX9) (N := 33) hx hb hts inw_X9_figure_X9 tyX9 tyX9_ok nmX9 hown hK.1 hP hD hS 0 rfl rfl 12 (by decide) (hts (.fieldLink RX9 83 "PursesShareModel" "at" "I") (by decide +kernel)) (fun _ h9 => h9) rfl (by decide +kernel) rfl rfl (Nat.le_of_ble_eq_true rfl) dX9_figure_86 (fun H locs hP hD hS => ?_)
        have hP : va_P D vwCl (cw_X9_figure cI cZ o o_readPurses o_readDay o_purses o_daily o_text o_row o_tried o_days o_order o_bestOrder o_seenHad o_seenShared o_isKept o_keptPurses o_keptRow o_keptHad o_keptShared o_keptRest v_readLaw v_readMany v_readMeetings v_law v_many v_meetings v_length (v_at + (1 : Int32)) v_faultAt v_one v_other v_made v_leads v_rings v_seen a_text) H := hP
        have hD : va_D A (cw_X9_figure cI cZ o o_readPurses o_readDay o_purses o_daily o_text o_row o_tried o_days o_order o_bestOrder o_seenHad o_seenShared o_isKept o_keptPurses o_keptRow o_keptHad o_keptShared o_keptRest v_readLaw v_readMany v_readMeetings v_law v_many v_meetings v_length (v_at + (1 : Int32)) v_faultAt v_one v_other v_made v_leads v_rings v_seen a_text) := hD
        refine lv_iload_n hx hb dX9_figure_89 rfl (lv_at hl 0 rfl) ?_
        exact ret_i2 hx hb hr hlocks hQ hS (v_at + (1 : Int32)) v_faultAt hP h dX9_figure_90
      · have h := h.2 c50
        refine lv_aload_n hx hb dX9_figure_53 rfl (lv_at hl 1 rfl) ?_
        refine lv_aload_n hx hb dX9_figure_54 rfl (lv_at hl 1 rfl) ?_
        refine va_get (D := D) (ci := 9) (v := .int v_faultAt) (C := RX9) (T := TX9) (N := 33) hx hb hts inw_X9_figure_X9 hown hK.1 hP 0 rfl rfl 13 (by decide) (hts (.fieldLink RX9 80 "PursesShareModel" "faultAt" "I") (by decide +kernel)) (fun _ h9 => h9) rfl dX9_figure_55 ?_
        refine lv_bipush (v := -9) hx hb dX9_figure_58 (by decide) ?_
        refine lv_icmp_ne (tgt := 70) hx hb dX9_figure_60 (by decide) (fun c60 => ?_) (fun c60 => ?_)
        · have h := h.1 c60
          refine lv_aload_n hx hb dX9_figure_70 rfl (lv_at hl 1 rfl) ?_
          refine va_get (D := D) (ci := 9) (v := .int v_faultAt) (C := RX9) (T := TX9) (N := 33) hx hb hts inw_X9_figure_X9 hown hK.1 hP 0 rfl rfl 13 (by decide) (hts (.fieldLink RX9 80 "PursesShareModel" "faultAt" "I") (by decide +kernel)) (fun _ h9 => h9) rfl dX9_figure_71 ?_
          refine va_put (D := D) (ci := 9) (v := .int v_faultAt) (ty := .int) (C := RX9) (T := TX9) (N := 33) hx hb hts inw_X9_figure_X9 tyX9 tyX9_ok nmX9 hown hK.1 hP hD hS 0 rfl rfl 13 (by decide) (hts (.fieldLink RX9 80 "PursesShareModel" "faultAt" "I") (by decide +kernel)) (fun _ h9 => h9) rfl (by decide +kernel) rfl rfl (Nat.le_of_ble_eq_true rfl) dX9_figure_74 (fun H locs hP hD hS => ?_)
          have hP : va_P D vwCl (cw_X9_figure cI cZ o o_readPurses o_readDay o_purses o_daily o_text o_row o_tried o_days o_order o_bestOrder o_seenHad o_seenShared o_isKept o_keptPurses o_keptRow o_keptHad o_keptShared o_keptRest v_readLaw v_readMany v_readMeetings v_law v_many v_meetings v_length v_at v_faultAt v_one v_other v_made v_leads v_rings v_seen a_text) H := hP
          have hD : va_D A (cw_X9_figure cI cZ o o_readPurses o_readDay o_purses o_daily o_text o_row o_tried o_days o_order o_bestOrder o_seenHad o_seenShared o_isKept o_keptPurses o_keptRow o_keptHad o_keptShared o_keptRest v_readLaw v_readMany v_readMeetings v_law v_many v_meetings v_length v_at v_faultAt v_one v_other v_made v_leads v_rings v_seen a_text) := hD
          refine lv_iconst (v := 0) hx hb dX9_figure_77 (by decide) ?_
          exact ret_i2 hx hb hr hlocks hQ hS v_at v_faultAt hP h dX9_figure_78
        · have h := h.2 c60
          refine lv_aload_n hx hb dX9_figure_63 rfl (lv_at hl 1 rfl) ?_
          refine va_get (D := D) (ci := 9) (v := .int v_at) (C := RX9) (T := TX9) (N := 33) hx hb hts inw_X9_figure_X9 hown hK.1 hP 0 rfl rfl 12 (by decide) (hts (.fieldLink RX9 83 "PursesShareModel" "at" "I") (by decide +kernel)) (fun _ h9 => h9) rfl dX9_figure_64 ?_
          refine lv_goto (tgt := 74) hx hb dX9_figure_67 (by decide) ?_
          refine va_put (D := D) (ci := 9) (v := .int v_at) (ty := .int) (C := RX9) (T := TX9) (N := 33) hx hb hts inw_X9_figure_X9 tyX9 tyX9_ok nmX9 hown hK.1 hP hD hS 0 rfl rfl 13 (by decide) (hts (.fieldLink RX9 80 "PursesShareModel" "faultAt" "I") (by decide +kernel)) (fun _ h9 => h9) rfl (by decide +kernel) rfl rfl (Nat.le_of_ble_eq_true rfl) dX9_figure_74 (fun H locs hP hD hS => ?_)
          have hP : va_P D vwCl (cw_X9_figure cI cZ o o_readPurses o_readDay o_purses o_daily o_text o_row o_tried o_days o_order o_bestOrder o_seenHad o_seenShared o_isKept o_keptPurses o_keptRow o_keptHad o_keptShared o_keptRest v_readLaw v_readMany v_readMeetings v_law v_many v_meetings v_length v_at v_at v_one v_other v_made v_leads v_rings v_seen a_text) H := hP
          have hD : va_D A (cw_X9_figure cI cZ o o_readPurses o_readDay o_purses o_daily o_text o_row o_tried o_days o_order o_bestOrder o_seenHad o_seenShared o_isKept o_keptPurses o_keptRow o_keptHad o_keptShared o_keptRest v_readLaw v_readMany v_readMeetings v_law v_many v_meetings v_length v_at v_at v_one v_other v_made v_leads v_rings v_seen a_text) := hD
          refine lv_iconst (v := 0) hx hb dX9_figure_77 (by decide) ?_
          exact ret_i2 hx hb hr hlocks hQ hS v_at v_at hP h dX9_figure_78
  · have h := h.2 c6
    refine lv_aload_n hx hb dX9_figure_9 rfl (lv_at hl 0 rfl) ?_
    refine va_get (D := D) (ci := 9) (v := .int v_at) (C := RX9) (T := TX9) (N := 33) hx hb hts inw_X9_figure_X9 hown hK.1 hP 0 rfl rfl 12 (by decide) (hts (.fieldLink RX9 83 "PursesShareModel" "at" "I") (by decide +kernel)) (fun _ h9 => h9) rfl dX9_figure_10 ?_
    refine lv_aload_n hx hb dX9_figure_13 rfl (lv_at hl 0 rfl) ?_
    refine va_get (D := D) (ci := 9) (v := .int v_length) (C := RX9) (T := TX9) (N := 33) hx hb hts inw_X9_figure_X9 hown hK.1 hP 0 rfl rfl 11 (by decide) (hts (.fieldLink RX9 75 "PursesShareModel" "length" "I") (by decide +kernel)) (fun _ h9 => h9) rfl dX9_figure_14 ?_
    refine lv_icmp_ge (tgt := 35) hx hb dX9_figure_17 (by decide) (fun c17 => ?_) (fun c17 => ?_)
    · have h := h.1 c17
      refine lv_iconst (v := -1) hx hb dX9_figure_35 (by decide) ?_
      refine lv_istore_n (lv' := [(3, .int (-1 : Int32)), (0, .ref o), (1, .int n1), (2, .int n2)]) hx hb dX9_figure_36 rfl hl (by decide) rfl (fun ls hl => ?_)
      refine lv_iload_n hx hb dX9_figure_37 rfl (lv_at hl 0 rfl) ?_
      refine lv_i2l (v := (Int32.toInt64 (-1 : Int32))) hx hb dX9_figure_38 rfl ?_
      refine lv_lconst (v := 0) hx hb dX9_figure_39 (by decide) ?_
      refine lv_iload_n hx hb dX9_figure_40 rfl (lv_at hl 2 rfl) ?_
      refine lv_i2l (v := (Int32.toInt64 n1)) hx hb dX9_figure_41 rfl ?_
      refine call_i0 (va_runS (As := [.long (Int32.toInt64 (-1 : Int32)), .long (0 : Int64), .long (Int32.toInt64 n1)]) (rest := []) ⟨hx, hb, hml, hown, hts⟩ (c_X9_in l D cI cZ (Array.size s.heap) (Int32.toInt64 (-1 : Int32)) (0 : Int64) (Int32.toInt64 n1) _ h) (va_cwS 3 hts gX9_figure_X9_in rfl rfl rfl (by decide +kernel) ⟨Nat.le_of_ble_eq_true rfl, Nat.le_of_ble_eq_true rfl⟩) (preS_of hP hD hK [] rfl rfl) rfl rfl hl.1 rfl (lv_room (Nat.le_of_ble_eq_true rfl)) dX9_figure_42 ⟨Nat.zero_le _, Nat.zero_le _⟩) hP hD hS hA [] rfl ((cw_X9_figure cI cZ o o_readPurses o_readDay o_purses o_daily o_text o_row o_tried o_days o_order o_bestOrder o_seenHad o_seenShared o_isKept o_keptPurses o_keptRow o_keptHad o_keptShared o_keptRest v_readLaw v_readMany v_readMeetings v_law v_many v_meetings v_length v_at v_faultAt v_one v_other v_made v_leads v_rings v_seen a_text)) (rfl) (rfl) (fun r42 H locs h hP hD hS => ?_)
      refine lv_if_eq (tgt := 53) hx hb dX9_figure_45 (by decide) (fun c45 => ?_) (fun c45 => ?_)
      · have h := h.1 c45
        refine lv_aload_n hx hb dX9_figure_53 rfl (lv_at hl 1 rfl) ?_
        refine lv_aload_n hx hb dX9_figure_54 rfl (lv_at hl 1 rfl) ?_
        refine va_get (D := D) (ci := 9) (v := .int v_faultAt) (C := RX9) (T := TX9) (N := 33) hx hb hts inw_X9_figure_X9 hown hK.1 hP 0 rfl rfl 13 (by decide) (hts (.fieldLink RX9 80 "PursesShareModel" "faultAt" "I") (by decide +kernel)) (fun _ h9 => h9) rfl dX9_figure_55 ?_
        refine lv_bipush (v := -9) hx hb dX9_figure_58 (by decide) ?_
        refine lv_icmp_ne (tgt := 70) hx hb dX9_figure_60 (by decide) (fun c60 => ?_) (fun c60 => ?_)
        · have h := h.1 c60
          refine lv_aload_n hx hb dX9_figure_70 rfl (lv_at hl 1 rfl) ?_
          refine va_get (D := D) (ci := 9) (v := .int v_faultAt) (C := RX9) (T := TX9) (N := 33) hx hb hts inw_X9_figure_X9 hown hK.1 hP 0 rfl rfl 13 (by decide) (hts (.fieldLink RX9 80 "PursesShareModel" "faultAt" "I") (by decide +kernel)) (fun _ h9 => h9) rfl dX9_figure_71 ?_
          refine va_put (D := D) (ci := 9) (v := .int v_faultAt) (ty := .int) (C := RX9) (T := TX9) (N := 33) hx hb hts inw_X9_figure_X9 tyX9 tyX9_ok nmX9 hown hK.1 hP hD hS 0 rfl rfl 13 (by decide) (hts (.fieldLink RX9 80 "PursesShareModel" "faultAt" "I") (by decide +kernel)) (fun _ h9 => h9) rfl (by decide +kernel) rfl rfl (Nat.le_of_ble_eq_true rfl) dX9_figure_74 (fun H locs hP hD hS => ?_)
          have hP : va_P D vwCl (cw_X9_figure cI cZ o o_readPurses o_readDay o_purses o_daily o_text o_row o_tried o_days o_order o_bestOrder o_seenHad o_seenShared o_isKept o_keptPurses o_keptRow o_keptHad o_keptShared o_keptRest v_readLaw v_readMany v_readMeetings v_law v_many v_meetings v_length v_at v_faultAt v_one v_other v_made v_leads v_rings v_seen a_text) H := hP
          have hD : va_D A (cw_X9_figure cI cZ o o_readPurses o_readDay o_purses o_daily o_text o_row o_tried o_days o_order o_bestOrder o_seenHad o_seenShared o_isKept o_keptPurses o_keptRow o_keptHad o_keptShared o_keptRest v_readLaw v_readMany v_readMeetings v_law v_many v_meetings v_length v_at v_faultAt v_one v_other v_made v_leads v_rings v_seen a_text) := hD
          refine lv_iconst (v := 0) hx hb dX9_figure_77 (by decide) ?_
          exact ret_i2 hx hb hr hlocks hQ hS v_at v_faultAt hP h dX9_figure_78
        · have h := h.2 c60
          refine lv_aload_n hx hb dX9_figure_63 rfl (lv_at hl 1 rfl) ?_
          refine va_get (D := D) (ci := 9) (v := .int v_at) (C := RX9) (T := TX9) (N := 33) hx hb hts inw_X9_figure_X9 hown hK.1 hP 0 rfl rfl 12 (by decide) (hts (.fieldLink RX9 83 "PursesShareModel" "at" "I") (by decide +kernel)) (fun _ h9 => h9) rfl dX9_figure_64 ?_
          refine lv_goto (tgt := 74) hx hb dX9_figure_67 (by decide) ?_
          refine va_put (D := D) (ci := 9) (v := .int v_at) (ty := .int) (C := RX9) (T := TX9) (N := 33) hx hb hts inw_X9_figure_X9 tyX9 tyX9_ok nmX9 hown hK.1 hP hD hS 0 rfl rfl 13 (by decide) (hts (.fieldLink RX9 80 "PursesShareModel" "faultAt" "I") (by decide +kernel)) (fun _ h9 => h9) rfl (by decide +kernel) rfl rfl (Nat.le_of_ble_eq_true rfl) dX9_figure_74 (fun H locs hP hD hS => ?_)
          have hP : va_P D vwCl (cw_X9_figure cI cZ o o_readPurses o_readDay o_purses o_daily o_text o_row o_tried o_days o_order o_bestOrder o_seenHad o_seenShared o_isKept o_keptPurses o_keptRow o_keptHad o_keptShared o_keptRest v_readLaw v_readMany v_readMeetings v_law v_many v_meetings v_length v_at v_at v_one v_other v_made v_leads v_rings v_seen a_text) H := hP
          have hD : va_D A (cw_X9_figure cI cZ o o_readPurses o_readDay o_purses o_daily o_text o_row o_tried o_days o_order o_bestOrder o_seenHad o_seenShared o_isKept o_keptPurses o_keptRow o_keptHad o_keptShared o_keptRest v_readLaw v_readMany v_readMeetings v_law v_many v_meetings v_length v_at v_at v_one v_other v_made v_leads v_rings v_seen a_text) := hD
          refine lv_iconst (v := 0) hx hb dX9_figure_77 (by decide) ?_
          exact ret_i2 hx hb hr hlocks hQ hS v_at v_at hP h dX9_figure_78
      · have h := h.2 c45
        refine lv_iload_n hx hb dX9_figure_48 rfl (lv_at hl 0 rfl) ?_
        refine lv_iload_n hx hb dX9_figure_49 rfl (lv_at hl 3 rfl) ?_
        refine lv_icmp_ne (tgt := 79) hx hb dX9_figure_50 (by decide) (fun c50 => ?_) (fun c50 => ?_)
        · have h := h.1 c50
          refine lv_aload_n hx hb dX9_figure_79 rfl (lv_at hl 1 rfl) ?_
          refine lv_dup hx hb dX9_figure_80 rfl ?_
          refine va_get (D := D) (ci := 9) (v := .int v_at) (C := RX9) (T := TX9) (N := 33) hx hb hts inw_X9_figure_X9 hown hK.1 hP 0 rfl rfl 12 (by decide) (hts (.fieldLink RX9 83 "PursesShareModel" "at" "I") (by decide +kernel)) (fun _ h9 => h9) rfl dX9_figure_81 ?_
          refine lv_iconst (v := 1) hx hb dX9_figure_84 (by decide) ?_
          refine lv_iadd hx hb dX9_figure_85 ?_
          refine va_put (D := D) (ci := 9) (v := .int (v_at + (1 : Int32))) (ty := .int) (C := RX9) (T := TX9) (N := 33) hx hb hts inw_X9_figure_X9 tyX9 tyX9_ok nmX9 hown hK.1 hP hD hS 0 rfl rfl 12 (by decide) (hts (.fieldLink RX9 83 "PursesShareModel" "at" "I") (by decide +kernel)) (fun _ h9 => h9) rfl (by decide +kernel) rfl rfl (Nat.le_of_ble_eq_true rfl) dX9_figure_86 (fun H locs hP hD hS => ?_)
          have hP : va_P D vwCl (cw_X9_figure cI cZ o o_readPurses o_readDay o_purses o_daily o_text o_row o_tried o_days o_order o_bestOrder o_seenHad o_seenShared o_isKept o_keptPurses o_keptRow o_keptHad o_keptShared o_keptRest v_readLaw v_readMany v_readMeetings v_law v_many v_meetings v_length (v_at + (1 : Int32)) v_faultAt v_one v_other v_made v_leads v_rings v_seen a_text) H := hP
          have hD : va_D A (cw_X9_figure cI cZ o o_readPurses o_readDay o_purses o_daily o_text o_row o_tried o_days o_order o_bestOrder o_seenHad o_seenShared o_isKept o_keptPurses o_keptRow o_keptHad o_keptShared o_keptRest v_readLaw v_readMany v_readMeetings v_law v_many v_meetings v_length (v_at + (1 : Int32)) v_faultAt v_one v_other v_made v_leads v_rings v_seen a_text) := hD
          refine lv_iload_n hx hb dX9_figure_89 rfl (lv_at hl 0 rfl) ?_
          exact ret_i2 hx hb hr hlocks hQ hS (v_at + (1 : Int32)) v_faultAt hP h dX9_figure_90
        · have h := h.2 c50
          refine lv_aload_n hx hb dX9_figure_53 rfl (lv_at hl 1 rfl) ?_
          refine lv_aload_n hx hb dX9_figure_54 rfl (lv_at hl 1 rfl) ?_
          refine va_get (D := D) (ci := 9) (v := .int v_faultAt) (C := RX9) (T := TX9) (N := 33) hx hb hts inw_X9_figure_X9 hown hK.1 hP 0 rfl rfl 13 (by decide) (hts (.fieldLink RX9 80 "PursesShareModel" "faultAt" "I") (by decide +kernel)) (fun _ h9 => h9) rfl dX9_figure_55 ?_
          refine lv_bipush (v := -9) hx hb dX9_figure_58 (by decide) ?_
          refine lv_icmp_ne (tgt := 70) hx hb dX9_figure_60 (by decide) (fun c60 => ?_) (fun c60 => ?_)
          · have h := h.1 c60
            refine lv_aload_n hx hb dX9_figure_70 rfl (lv_at hl 1 rfl) ?_
            refine va_get (D := D) (ci := 9) (v := .int v_faultAt) (C := RX9) (T := TX9) (N := 33) hx hb hts inw_X9_figure_X9 hown hK.1 hP 0 rfl rfl 13 (by decide) (hts (.fieldLink RX9 80 "PursesShareModel" "faultAt" "I") (by decide +kernel)) (fun _ h9 => h9) rfl dX9_figure_71 ?_
            refine va_put (D := D) (ci := 9) (v := .int v_faultAt) (ty := .int) (C := RX9) (T := TX9) (N := 33) hx hb hts inw_X9_figure_X9 tyX9 tyX9_ok nmX9 hown hK.1 hP hD hS 0 rfl rfl 13 (by decide) (hts (.fieldLink RX9 80 "PursesShareModel" "faultAt" "I") (by decide +kernel)) (fun _ h9 => h9) rfl (by decide +kernel) rfl rfl (Nat.le_of_ble_eq_true rfl) dX9_figure_74 (fun H locs hP hD hS => ?_)
            have hP : va_P D vwCl (cw_X9_figure cI cZ o o_readPurses o_readDay o_purses o_daily o_text o_row o_tried o_days o_order o_bestOrder o_seenHad o_seenShared o_isKept o_keptPurses o_keptRow o_keptHad o_keptShared o_keptRest v_readLaw v_readMany v_readMeetings v_law v_many v_meetings v_length v_at v_faultAt v_one v_other v_made v_leads v_rings v_seen a_text) H := hP
            have hD : va_D A (cw_X9_figure cI cZ o o_readPurses o_readDay o_purses o_daily o_text o_row o_tried o_days o_order o_bestOrder o_seenHad o_seenShared o_isKept o_keptPurses o_keptRow o_keptHad o_keptShared o_keptRest v_readLaw v_readMany v_readMeetings v_law v_many v_meetings v_length v_at v_faultAt v_one v_other v_made v_leads v_rings v_seen a_text) := hD
            refine lv_iconst (v := 0) hx hb dX9_figure_77 (by decide) ?_
            exact ret_i2 hx hb hr hlocks hQ hS v_at v_faultAt hP h dX9_figure_78
          · have h := h.2 c60
            refine lv_aload_n hx hb dX9_figure_63 rfl (lv_at hl 1 rfl) ?_
            refine va_get (D := D) (ci := 9) (v := .int v_at) (C := RX9) (T := TX9) (N := 33) hx hb hts inw_X9_figure_X9 hown hK.1 hP 0 rfl rfl 12 (by decide) (hts (.fieldLink RX9 83 "PursesShareModel" "at" "I") (by decide +kernel)) (fun _ h9 => h9) rfl dX9_figure_64 ?_
            refine lv_goto (tgt := 74) hx hb dX9_figure_67 (by decide) ?_
            refine va_put (D := D) (ci := 9) (v := .int v_at) (ty := .int) (C := RX9) (T := TX9) (N := 33) hx hb hts inw_X9_figure_X9 tyX9 tyX9_ok nmX9 hown hK.1 hP hD hS 0 rfl rfl 13 (by decide) (hts (.fieldLink RX9 80 "PursesShareModel" "faultAt" "I") (by decide +kernel)) (fun _ h9 => h9) rfl (by decide +kernel) rfl rfl (Nat.le_of_ble_eq_true rfl) dX9_figure_74 (fun H locs hP hD hS => ?_)
            have hP : va_P D vwCl (cw_X9_figure cI cZ o o_readPurses o_readDay o_purses o_daily o_text o_row o_tried o_days o_order o_bestOrder o_seenHad o_seenShared o_isKept o_keptPurses o_keptRow o_keptHad o_keptShared o_keptRest v_readLaw v_readMany v_readMeetings v_law v_many v_meetings v_length v_at v_at v_one v_other v_made v_leads v_rings v_seen a_text) H := hP
            have hD : va_D A (cw_X9_figure cI cZ o o_readPurses o_readDay o_purses o_daily o_text o_row o_tried o_days o_order o_bestOrder o_seenHad o_seenShared o_isKept o_keptPurses o_keptRow o_keptHad o_keptShared o_keptRest v_readLaw v_readMany v_readMeetings v_law v_many v_meetings v_length v_at v_at v_one v_other v_made v_leads v_rings v_seen a_text) := hD
            refine lv_iconst (v := 0) hx hb dX9_figure_77 (by decide) ?_
            exact ret_i2 hx hb hr hlocks hQ hS v_at v_at hP h dX9_figure_78
    · have h := h.2 c17
      refine lv_aload_n hx hb dX9_figure_20 rfl (lv_at hl 0 rfl) ?_
      refine va_get (D := D) (ci := 9) (v := .ref o_text) (C := RX9) (T := TX9) (N := 33) hx hb hts inw_X9_figure_X9 hown hK.1 hP 0 rfl rfl 10 (by decide) (hts (.fieldLink RX9 22 "PursesShareModel" "text" "[I") (by decide +kernel)) (fun _ h9 => h9) rfl dX9_figure_21 ?_
      refine lv_aload_n hx hb dX9_figure_24 rfl (lv_at hl 0 rfl) ?_
      refine va_get (D := D) (ci := 9) (v := .int v_at) (C := RX9) (T := TX9) (N := 33) hx hb hts inw_X9_figure_X9 hown hK.1 hP 0 rfl rfl 12 (by decide) (hts (.fieldLink RX9 83 "PursesShareModel" "at" "I") (by decide +kernel)) (fun _ h9 => h9) rfl dX9_figure_25 ?_
      have h0 := h.1
      have h := h.2
      refine va_iald hx hb hK.1 hP 1 0 rfl rfl h0 dX9_figure_28 ?_
      refine lv_bipush (v := 48) hx hb dX9_figure_29 (by decide) ?_
      refine lv_isub hx hb dX9_figure_31 ?_
      refine lv_goto (tgt := 36) hx hb dX9_figure_32 (by decide) ?_
      refine lv_istore_n (lv' := [(3, .int ((a_text (Int32.toNatClampNeg v_at)) - (48 : Int32))), (0, .ref o), (1, .int n1), (2, .int n2)]) hx hb dX9_figure_36 rfl hl (by decide) rfl (fun ls hl => ?_)
      refine lv_iload_n hx hb dX9_figure_37 rfl (lv_at hl 0 rfl) ?_
      refine lv_i2l (v := (Int32.toInt64 ((a_text (Int32.toNatClampNeg v_at)) - (48 : Int32)))) hx hb dX9_figure_38 rfl ?_
      refine lv_lconst (v := 0) hx hb dX9_figure_39 (by decide) ?_
      refine lv_iload_n hx hb dX9_figure_40 rfl (lv_at hl 2 rfl) ?_
      refine lv_i2l (v := (Int32.toInt64 n1)) hx hb dX9_figure_41 rfl ?_
      refine call_i0 (va_runS (As := [.long (Int32.toInt64 ((a_text (Int32.toNatClampNeg v_at)) - (48 : Int32))), .long (0 : Int64), .long (Int32.toInt64 n1)]) (rest := []) ⟨hx, hb, hml, hown, hts⟩ (c_X9_in l D cI cZ (Array.size s.heap) (Int32.toInt64 ((a_text (Int32.toNatClampNeg v_at)) - (48 : Int32))) (0 : Int64) (Int32.toInt64 n1) _ h) (va_cwS 3 hts gX9_figure_X9_in rfl rfl rfl (by decide +kernel) ⟨Nat.le_of_ble_eq_true rfl, Nat.le_of_ble_eq_true rfl⟩) (preS_of hP hD hK [] rfl rfl) rfl rfl hl.1 rfl (lv_room (Nat.le_of_ble_eq_true rfl)) dX9_figure_42 ⟨Nat.zero_le _, Nat.zero_le _⟩) hP hD hS hA [] rfl ((cw_X9_figure cI cZ o o_readPurses o_readDay o_purses o_daily o_text o_row o_tried o_days o_order o_bestOrder o_seenHad o_seenShared o_isKept o_keptPurses o_keptRow o_keptHad o_keptShared o_keptRest v_readLaw v_readMany v_readMeetings v_law v_many v_meetings v_length v_at v_faultAt v_one v_other v_made v_leads v_rings v_seen a_text)) (rfl) (rfl) (fun r42 H locs h hP hD hS => ?_)
      refine lv_if_eq (tgt := 53) hx hb dX9_figure_45 (by decide) (fun c45 => ?_) (fun c45 => ?_)
      · have h := h.1 c45
        refine lv_aload_n hx hb dX9_figure_53 rfl (lv_at hl 1 rfl) ?_
        refine lv_aload_n hx hb dX9_figure_54 rfl (lv_at hl 1 rfl) ?_
        refine va_get (D := D) (ci := 9) (v := .int v_faultAt) (C := RX9) (T := TX9) (N := 33) hx hb hts inw_X9_figure_X9 hown hK.1 hP 0 rfl rfl 13 (by decide) (hts (.fieldLink RX9 80 "PursesShareModel" "faultAt" "I") (by decide +kernel)) (fun _ h9 => h9) rfl dX9_figure_55 ?_
        refine lv_bipush (v := -9) hx hb dX9_figure_58 (by decide) ?_
        refine lv_icmp_ne (tgt := 70) hx hb dX9_figure_60 (by decide) (fun c60 => ?_) (fun c60 => ?_)
        · have h := h.1 c60
          refine lv_aload_n hx hb dX9_figure_70 rfl (lv_at hl 1 rfl) ?_
          refine va_get (D := D) (ci := 9) (v := .int v_faultAt) (C := RX9) (T := TX9) (N := 33) hx hb hts inw_X9_figure_X9 hown hK.1 hP 0 rfl rfl 13 (by decide) (hts (.fieldLink RX9 80 "PursesShareModel" "faultAt" "I") (by decide +kernel)) (fun _ h9 => h9) rfl dX9_figure_71 ?_
          refine va_put (D := D) (ci := 9) (v := .int v_faultAt) (ty := .int) (C := RX9) (T := TX9) (N := 33) hx hb hts inw_X9_figure_X9 tyX9 tyX9_ok nmX9 hown hK.1 hP hD hS 0 rfl rfl 13 (by decide) (hts (.fieldLink RX9 80 "PursesShareModel" "faultAt" "I") (by decide +kernel)) (fun _ h9 => h9) rfl (by decide +kernel) rfl rfl (Nat.le_of_ble_eq_true rfl) dX9_figure_74 (fun H locs hP hD hS => ?_)
          have hP : va_P D vwCl (cw_X9_figure cI cZ o o_readPurses o_readDay o_purses o_daily o_text o_row o_tried o_days o_order o_bestOrder o_seenHad o_seenShared o_isKept o_keptPurses o_keptRow o_keptHad o_keptShared o_keptRest v_readLaw v_readMany v_readMeetings v_law v_many v_meetings v_length v_at v_faultAt v_one v_other v_made v_leads v_rings v_seen a_text) H := hP
          have hD : va_D A (cw_X9_figure cI cZ o o_readPurses o_readDay o_purses o_daily o_text o_row o_tried o_days o_order o_bestOrder o_seenHad o_seenShared o_isKept o_keptPurses o_keptRow o_keptHad o_keptShared o_keptRest v_readLaw v_readMany v_readMeetings v_law v_many v_meetings v_length v_at v_faultAt v_one v_other v_made v_leads v_rings v_seen a_text) := hD
          refine lv_iconst (v := 0) hx hb dX9_figure_77 (by decide) ?_
          exact ret_i2 hx hb hr hlocks hQ hS v_at v_faultAt hP h dX9_figure_78
        · have h := h.2 c60
          refine lv_aload_n hx hb dX9_figure_63 rfl (lv_at hl 1 rfl) ?_
          refine va_get (D := D) (ci := 9) (v := .int v_at) (C := RX9) (T := TX9) (N := 33) hx hb hts inw_X9_figure_X9 hown hK.1 hP 0 rfl rfl 12 (by decide) (hts (.fieldLink RX9 83 "PursesShareModel" "at" "I") (by decide +kernel)) (fun _ h9 => h9) rfl dX9_figure_64 ?_
          refine lv_goto (tgt := 74) hx hb dX9_figure_67 (by decide) ?_
          refine va_put (D := D) (ci := 9) (v := .int v_at) (ty := .int) (C := RX9) (T := TX9) (N := 33) hx hb hts inw_X9_figure_X9 tyX9 tyX9_ok nmX9 hown hK.1 hP hD hS 0 rfl rfl 13 (by decide) (hts (.fieldLink RX9 80 "PursesShareModel" "faultAt" "I") (by decide +kernel)) (fun _ h9 => h9) rfl (by decide +kernel) rfl rfl (Nat.le_of_ble_eq_true rfl) dX9_figure_74 (fun H locs hP hD hS => ?_)
          have hP : va_P D vwCl (cw_X9_figure cI cZ o o_readPurses o_readDay o_purses o_daily o_text o_row o_tried o_days o_order o_bestOrder o_seenHad o_seenShared o_isKept o_keptPurses o_keptRow o_keptHad o_keptShared o_keptRest v_readLaw v_readMany v_readMeetings v_law v_many v_meetings v_length v_at v_at v_one v_other v_made v_leads v_rings v_seen a_text) H := hP
          have hD : va_D A (cw_X9_figure cI cZ o o_readPurses o_readDay o_purses o_daily o_text o_row o_tried o_days o_order o_bestOrder o_seenHad o_seenShared o_isKept o_keptPurses o_keptRow o_keptHad o_keptShared o_keptRest v_readLaw v_readMany v_readMeetings v_law v_many v_meetings v_length v_at v_at v_one v_other v_made v_leads v_rings v_seen a_text) := hD
          refine lv_iconst (v := 0) hx hb dX9_figure_77 (by decide) ?_
          exact ret_i2 hx hb hr hlocks hQ hS v_at v_at hP h dX9_figure_78
      · have h := h.2 c45
        refine lv_iload_n hx hb dX9_figure_48 rfl (lv_at hl 0 rfl) ?_
        refine lv_iload_n hx hb dX9_figure_49 rfl (lv_at hl 3 rfl) ?_
        refine lv_icmp_ne (tgt := 79) hx hb dX9_figure_50 (by decide) (fun c50 => ?_) (fun c50 => ?_)
        · have h := h.1 c50
          refine lv_aload_n hx hb dX9_figure_79 rfl (lv_at hl 1 rfl) ?_
          refine lv_dup hx hb dX9_figure_80 rfl ?_
          refine va_get (D := D) (ci := 9) (v := .int v_at) (C := RX9) (T := TX9) (N := 33) hx hb hts inw_X9_figure_X9 hown hK.1 hP 0 rfl rfl 12 (by decide) (hts (.fieldLink RX9 83 "PursesShareModel" "at" "I") (by decide +kernel)) (fun _ h9 => h9) rfl dX9_figure_81 ?_
          refine lv_iconst (v := 1) hx hb dX9_figure_84 (by decide) ?_
          refine lv_iadd hx hb dX9_figure_85 ?_
          refine va_put (D := D) (ci := 9) (v := .int (v_at + (1 : Int32))) (ty := .int) (C := RX9) (T := TX9) (N := 33) hx hb hts inw_X9_figure_X9 tyX9 tyX9_ok nmX9 hown hK.1 hP hD hS 0 rfl rfl 12 (by decide) (hts (.fieldLink RX9 83 "PursesShareModel" "at" "I") (by decide +kernel)) (fun _ h9 => h9) rfl (by decide +kernel) rfl rfl (Nat.le_of_ble_eq_true rfl) dX9_figure_86 (fun H locs hP hD hS => ?_)
          have hP : va_P D vwCl (cw_X9_figure cI cZ o o_readPurses o_readDay o_purses o_daily o_text o_row o_tried o_days o_order o_bestOrder o_seenHad o_seenShared o_isKept o_keptPurses o_keptRow o_keptHad o_keptShared o_keptRest v_readLaw v_readMany v_readMeetings v_law v_many v_meetings v_length (v_at + (1 : Int32)) v_faultAt v_one v_other v_made v_leads v_rings v_seen a_text) H := hP
          have hD : va_D A (cw_X9_figure cI cZ o o_readPurses o_readDay o_purses o_daily o_text o_row o_tried o_days o_order o_bestOrder o_seenHad o_seenShared o_isKept o_keptPurses o_keptRow o_keptHad o_keptShared o_keptRest v_readLaw v_readMany v_readMeetings v_law v_many v_meetings v_length (v_at + (1 : Int32)) v_faultAt v_one v_other v_made v_leads v_rings v_seen a_text) := hD
          refine lv_iload_n hx hb dX9_figure_89 rfl (lv_at hl 0 rfl) ?_
          exact ret_i2 hx hb hr hlocks hQ hS (v_at + (1 : Int32)) v_faultAt hP h dX9_figure_90
        · have h := h.2 c50
          refine lv_aload_n hx hb dX9_figure_53 rfl (lv_at hl 1 rfl) ?_
          refine lv_aload_n hx hb dX9_figure_54 rfl (lv_at hl 1 rfl) ?_
          refine va_get (D := D) (ci := 9) (v := .int v_faultAt) (C := RX9) (T := TX9) (N := 33) hx hb hts inw_X9_figure_X9 hown hK.1 hP 0 rfl rfl 13 (by decide) (hts (.fieldLink RX9 80 "PursesShareModel" "faultAt" "I") (by decide +kernel)) (fun _ h9 => h9) rfl dX9_figure_55 ?_
          refine lv_bipush (v := -9) hx hb dX9_figure_58 (by decide) ?_
          refine lv_icmp_ne (tgt := 70) hx hb dX9_figure_60 (by decide) (fun c60 => ?_) (fun c60 => ?_)
          · have h := h.1 c60
            refine lv_aload_n hx hb dX9_figure_70 rfl (lv_at hl 1 rfl) ?_
            refine va_get (D := D) (ci := 9) (v := .int v_faultAt) (C := RX9) (T := TX9) (N := 33) hx hb hts inw_X9_figure_X9 hown hK.1 hP 0 rfl rfl 13 (by decide) (hts (.fieldLink RX9 80 "PursesShareModel" "faultAt" "I") (by decide +kernel)) (fun _ h9 => h9) rfl dX9_figure_71 ?_
            refine va_put (D := D) (ci := 9) (v := .int v_faultAt) (ty := .int) (C := RX9) (T := TX9) (N := 33) hx hb hts inw_X9_figure_X9 tyX9 tyX9_ok nmX9 hown hK.1 hP hD hS 0 rfl rfl 13 (by decide) (hts (.fieldLink RX9 80 "PursesShareModel" "faultAt" "I") (by decide +kernel)) (fun _ h9 => h9) rfl (by decide +kernel) rfl rfl (Nat.le_of_ble_eq_true rfl) dX9_figure_74 (fun H locs hP hD hS => ?_)
            have hP : va_P D vwCl (cw_X9_figure cI cZ o o_readPurses o_readDay o_purses o_daily o_text o_row o_tried o_days o_order o_bestOrder o_seenHad o_seenShared o_isKept o_keptPurses o_keptRow o_keptHad o_keptShared o_keptRest v_readLaw v_readMany v_readMeetings v_law v_many v_meetings v_length v_at v_faultAt v_one v_other v_made v_leads v_rings v_seen a_text) H := hP
            have hD : va_D A (cw_X9_figure cI cZ o o_readPurses o_readDay o_purses o_daily o_text o_row o_tried o_days o_order o_bestOrder o_seenHad o_seenShared o_isKept o_keptPurses o_keptRow o_keptHad o_keptShared o_keptRest v_readLaw v_readMany v_readMeetings v_law v_many v_meetings v_length v_at v_faultAt v_one v_other v_made v_leads v_rings v_seen a_text) := hD
            refine lv_iconst (v := 0) hx hb dX9_figure_77 (by decide) ?_
            exact ret_i2 hx hb hr hlocks hQ hS v_at v_faultAt hP h dX9_figure_78
          · have h := h.2 c60
            refine lv_aload_n hx hb dX9_figure_63 rfl (lv_at hl 1 rfl) ?_
            refine va_get (D := D) (ci := 9) (v := .int v_at) (C := RX9) (T := TX9) (N := 33) hx hb hts inw_X9_figure_X9 hown hK.1 hP 0 rfl rfl 12 (by decide) (hts (.fieldLink RX9 83 "PursesShareModel" "at" "I") (by decide +kernel)) (fun _ h9 => h9) rfl dX9_figure_64 ?_
            refine lv_goto (tgt := 74) hx hb dX9_figure_67 (by decide) ?_
            refine va_put (D := D) (ci := 9) (v := .int v_at) (ty := .int) (C := RX9) (T := TX9) (N := 33) hx hb hts inw_X9_figure_X9 tyX9 tyX9_ok nmX9 hown hK.1 hP hD hS 0 rfl rfl 13 (by decide) (hts (.fieldLink RX9 80 "PursesShareModel" "faultAt" "I") (by decide +kernel)) (fun _ h9 => h9) rfl (by decide +kernel) rfl rfl (Nat.le_of_ble_eq_true rfl) dX9_figure_74 (fun H locs hP hD hS => ?_)
            have hP : va_P D vwCl (cw_X9_figure cI cZ o o_readPurses o_readDay o_purses o_daily o_text o_row o_tried o_days o_order o_bestOrder o_seenHad o_seenShared o_isKept o_keptPurses o_keptRow o_keptHad o_keptShared o_keptRest v_readLaw v_readMany v_readMeetings v_law v_many v_meetings v_length v_at v_at v_one v_other v_made v_leads v_rings v_seen a_text) H := hP
            have hD : va_D A (cw_X9_figure cI cZ o o_readPurses o_readDay o_purses o_daily o_text o_row o_tried o_days o_order o_bestOrder o_seenHad o_seenShared o_isKept o_keptPurses o_keptRow o_keptHad o_keptShared o_keptRest v_readLaw v_readMany v_readMeetings v_law v_many v_meetings v_length v_at v_at v_one v_other v_made v_leads v_rings v_seen a_text) := hD
            refine lv_iconst (v := 0) hx hb dX9_figure_77 (by decide) ?_
            exact ret_i2 hx hb hr hlocks hQ hS v_at v_at hP h dX9_figure_78
abbrev rm_X9_readText : Room := { frames := 2, cells := 0, slots := 0, locals := 48 }
abbrev cw_X9_readText (cI cZ : ClassId) (o o_readPurses o_readDay o_purses o_daily o_text o_row o_tried o_days o_order o_bestOrder o_seenHad o_seenShared o_isKept o_keptPurses o_keptRow o_keptHad o_keptShared o_keptRest : Nat) (v_readLaw : Int32) (v_readMany : Int32) (v_readMeetings : Int32) (v_law : Int32) (v_many : Int32) (v_meetings : Int32) (v_length : Int32) (v_at : Int32) (v_faultAt : Int32) (v_one : Int32) (v_other : Int32) (v_made : Int32) (v_leads : Int32) (v_rings : Int32) (v_seen : Int32) (a_readPurses : Nat → Int32) (a_readDay : Nat → Int32) (a_text : Nat → Int32) : va_W := [(o, .inr (9, [.ref o_readPurses, .ref o_readDay, .int v_readLaw, .int v_readMany, .int v_readMeetings, .ref o_purses, .ref o_daily, .int v_law, .int v_many, .int v_meetings, .ref o_text, .int v_length, .int v_at, .int v_faultAt, .int v_one, .int v_other, .int v_made, .ref o_row, .ref o_tried, .int v_leads, .int v_rings, .ref o_days, .ref o_order, .ref o_bestOrder, .int v_seen, .ref o_seenHad, .ref o_seenShared, .ref o_isKept, .ref o_keptPurses, .ref o_keptRow, .ref o_keptHad, .ref o_keptShared, .ref o_keptRest])), (o_readPurses, .inl (cI, 8, .inl a_readPurses)), (o_readDay, .inl (cI, 32, .inl a_readDay)), (o_text, .inl (cI, 96, .inl a_text))]
theorem inw_X9_readText_X9 : ∀ w ∈ u_ws RX9 TX9 33, w ∈ wsX9_readText := by decide +kernel
def wp_X9_readText (v_readLaw : Int32) (v_readMany : Int32) (v_readMeetings : Int32) (v_length : Int32) (v_at : Int32) (v_faultAt : Int32) (a_readPurses : Nat → Int32) (a_readDay : Nat → Int32) (a_text : Nat → Int32) (Post : Int32 → (Int32) → (Int32) → (Int32) → (Int32) → (Int32) → (Nat → Int32) → (Nat → Int32) → Prop) : Prop := ((v_length = 0 → (Post (0 : Int32) v_readLaw (0 : Int32) (0 : Int32) (0 : Int32) (-9 : Int32) a_readPurses a_readDay)) ∧ (¬ v_length = 0 → (((a_text (Int32.toNatClampNeg (0 : Int32))) = (76 : Int32) → (wp_X9_figure (3 : Int32) (-9 : Int32) v_length (1 : Int32) (-9 : Int32) a_text (fun (r51 : Int32) (v_at_51 : Int32) (v_faultAt_51 : Int32) => (∀ k57 : (Int32) → (Int32) → (Int32) → (Int32) → (Int32) → (Nat → Int32) → (Nat → Int32) → Prop, (∀ (v_readLaw_57 : Int32) (v_readMany_57 : Int32) (v_readMeetings_57 : Int32) (v_at_57 : Int32) (v_faultAt_57 : Int32) (a_readPurses_57 : Nat → Int32) (a_readDay_57 : Nat → Int32), ((¬ v_faultAt_57 = (-9 : Int32) → ((¬ v_faultAt_57 = (-9 : Int32) → (Post v_faultAt_57 v_readLaw_57 v_readMany_57 v_readMeetings_57 v_at_57 v_faultAt_57 a_readPurses_57 a_readDay_57)) ∧ (v_faultAt_57 = (-9 : Int32) → (((2 : Int32) ≤ v_readMany_57 → (Post v_faultAt_57 v_readLaw_57 v_readMany_57 v_readMeetings_57 v_at_57 v_faultAt_57 a_readPurses_57 a_readDay_57)) ∧ (¬ (2 : Int32) ≤ v_readMany_57 → (Post v_length v_readLaw_57 v_readMany_57 v_readMeetings_57 v_at_57 v_faultAt_57 a_readPurses_57 a_readDay_57)))))) ∧ (v_faultAt_57 = (-9 : Int32) → ((v_length ≤ v_at_57 → ((¬ v_faultAt_57 = (-9 : Int32) → (Post v_faultAt_57 v_readLaw_57 v_readMany_57 v_readMeetings_57 v_at_57 v_faultAt_57 a_readPurses_57 a_readDay_57)) ∧ (v_faultAt_57 = (-9 : Int32) → (((2 : Int32) ≤ v_readMany_57 → (Post v_faultAt_57 v_readLaw_57 v_readMany_57 v_readMeetings_57 v_at_57 v_faultAt_57 a_readPurses_57 a_readDay_57)) ∧ (¬ (2 : Int32) ≤ v_readMany_57 → (Post v_length v_readLaw_57 v_readMany_57 v_readMeetings_57 v_at_57 v_faultAt_57 a_readPurses_57 a_readDay_57)))))) ∧ (¬ v_length ≤ v_at_57 → (vp_in v_at_57 96 ∧ ((¬ (a_text (Int32.toNatClampNeg v_at_57)) = (80 : Int32) → (vp_in v_at_57 96 ∧ ((¬ (a_text (Int32.toNatClampNeg v_at_57)) = (77 : Int32) → (k57 v_readLaw_57 v_readMany_57 v_readMeetings_57 v_at_57 v_at_57 a_readPurses_57 a_readDay_57)) ∧ ((a_text (Int32.toNatClampNeg v_at_57)) = (77 : Int32) → ((v_readMany_57 ≤ (1 : Int32) → (k57 v_readLaw_57 v_readMany_57 v_readMeetings_57 v_at_57 v_at_57 a_readPurses_57 a_readDay_57)) ∧ (¬ v_readMany_57 ≤ (1 : Int32) → (((16 : Int32) ≤ v_readMeetings_57 → (k57 v_readLaw_57 v_readMany_57 v_readMeetings_57 v_at_57 v_at_57 a_readPurses_57 a_readDay_57)) ∧ (¬ (16 : Int32) ≤ v_readMeetings_57 → (wp_X9_figure (v_readMany_57 - (1 : Int32)) (-9 : Int32) v_length (v_at_57 + (1 : Int32)) v_faultAt_57 a_text (fun (r212 : Int32) (v_at_212 : Int32) (v_faultAt_212 : Int32) => (vp_in ((2 : Int32) * v_readMeetings_57) 32 ∧ (wp_X9_figure (v_readMany_57 - (1 : Int32)) r212 v_length v_at_212 v_faultAt_212 a_text (fun (r248 : Int32) (v_at_248 : Int32) (v_faultAt_248 : Int32) => (vp_in (((2 : Int32) * v_readMeetings_57) + (1 : Int32)) 32 ∧ (k57 v_readLaw_57 v_readMany_57 (v_readMeetings_57 + (1 : Int32)) v_at_248 v_faultAt_248 a_readPurses_57 (upd (upd a_readDay_57 (Int32.toNatClampNeg ((2 : Int32) * v_readMeetings_57)) r212) (Int32.toNatClampNeg (((2 : Int32) * v_readMeetings_57) + (1 : Int32))) r248)))))))))))))))) ∧ ((a_text (Int32.toNatClampNeg v_at_57)) = (80 : Int32) → (((8 : Int32) ≤ v_readMany_57 → (vp_in v_at_57 96 ∧ ((¬ (a_text (Int32.toNatClampNeg v_at_57)) = (77 : Int32) → (k57 v_readLaw_57 v_readMany_57 v_readMeetings_57 v_at_57 v_at_57 a_readPurses_57 a_readDay_57)) ∧ ((a_text (Int32.toNatClampNeg v_at_57)) = (77 : Int32) → ((v_readMany_57 ≤ (1 : Int32) → (k57 v_readLaw_57 v_readMany_57 v_readMeetings_57 v_at_57 v_at_57 a_readPurses_57 a_readDay_57)) ∧ (¬ v_readMany_57 ≤ (1 : Int32) → (((16 : Int32) ≤ v_readMeetings_57 → (k57 v_readLaw_57 v_readMany_57 v_readMeetings_57 v_at_57 v_at_57 a_readPurses_57 a_readDay_57)) ∧ (¬ (16 : Int32) ≤ v_readMeetings_57 → (wp_X9_figure (v_readMany_57 - (1 : Int32)) (-9 : Int32) v_length (v_at_57 + (1 : Int32)) v_faultAt_57 a_text (fun (r212 : Int32) (v_at_212 : Int32) (v_faultAt_212 : Int32) => (vp_in ((2 : Int32) * v_readMeetings_57) 32 ∧ (wp_X9_figure (v_readMany_57 - (1 : Int32)) r212 v_length v_at_212 v_faultAt_212 a_text (fun (r248 : Int32) (v_at_248 : Int32) (v_faultAt_248 : Int32) => (vp_in (((2 : Int32) * v_readMeetings_57) + (1 : Int32)) 32 ∧ (k57 v_readLaw_57 v_readMany_57 (v_readMeetings_57 + (1 : Int32)) v_at_248 v_faultAt_248 a_readPurses_57 (upd (upd a_readDay_57 (Int32.toNatClampNeg ((2 : Int32) * v_readMeetings_57)) r212) (Int32.toNatClampNeg (((2 : Int32) * v_readMeetings_57) + (1 : Int32))) r248)))))))))))))))) ∧ (¬ (8 : Int32) ≤ v_readMany_57 → (∀ k114 : (Int32) → (Int32) → (Int32) → (Int32) → Prop, (∀ (x2_114 : Int32) (x1_114 : Int32) (v_at_114 : Int32) (v_faultAt_114 : Int32), (((4 : Int32) ≤ x2_114 → (vp_in v_readMany_57 8 ∧ (k57 v_readLaw_57 (v_readMany_57 + (1 : Int32)) v_readMeetings_57 v_at_114 v_faultAt_114 (upd a_readPurses_57 (Int32.toNatClampNeg v_readMany_57) x1_114) a_readDay_57))) ∧ (¬ (4 : Int32) ≤ x2_114 → (wp_X9_figure (9 : Int32) (-9 : Int32) v_length v_at_114 v_faultAt_114 a_text (fun (r128 : Int32) (v_at_128 : Int32) (v_faultAt_128 : Int32) => (k114 (x2_114 + 1) (((10 : Int32) * x1_114) + r128) v_at_128 v_faultAt_128))))) → k114 x2_114 x1_114 v_at_114 v_faultAt_114) → k114 (0 : Int32) (0 : Int32) (v_at_57 + (1 : Int32)) v_faultAt_57)))))))))) → k57 v_readLaw_57 v_readMany_57 v_readMeetings_57 v_at_57 v_faultAt_57 a_readPurses_57 a_readDay_57) → k57 r51 (0 : Int32) (0 : Int32) v_at_51 v_faultAt_51 a_readPurses a_readDay)))) ∧ (¬ (a_text (Int32.toNatClampNeg (0 : Int32))) = (76 : Int32) → (Post (0 : Int32) v_readLaw (0 : Int32) (0 : Int32) (0 : Int32) (-9 : Int32) a_readPurses a_readDay)))))
set_option maxHeartbeats 4000000 in
set_option maxRecDepth 100000 in
theorem c_X9_readText (l : Launch) (D : va_G) (cI cZ : ClassId) (o o_readPurses o_readDay o_purses o_daily o_text o_row o_tried o_days o_order o_bestOrder o_seenHad o_seenShared o_isKept o_keptPurses o_keptRow o_keptHad o_keptShared o_keptRest : Nat) (sz : Nat) (v_readLaw : Int32) (v_readMany : Int32) (v_readMeetings : Int32) (v_law : Int32) (v_many : Int32) (v_meetings : Int32) (v_length : Int32) (v_at : Int32) (v_faultAt : Int32) (v_one : Int32) (v_other : Int32) (v_made : Int32) (v_leads : Int32) (v_rings : Int32) (v_seen : Int32) (a_readPurses : Nat → Int32) (a_readDay : Nat → Int32) (a_text : Nat → Int32) (Post : Int32 → (Int32) → (Int32) → (Int32) → (Int32) → (Int32) → (Nat → Int32) → (Nat → Int32) → Prop) (h : wp_X9_readText v_readLaw v_readMany v_readMeetings v_length v_at v_faultAt a_readPurses a_readDay a_text Post) : Met l yX9_readText wsX9_readText rm_X9_readText (cPc D cI cZ [.ref o] (cw_X9_readText cI cZ o o_readPurses o_readDay o_purses o_daily o_text o_row o_tried o_days o_order o_bestOrder o_seenHad o_seenShared o_isKept o_keptPurses o_keptRow o_keptHad o_keptShared o_keptRest v_readLaw v_readMany v_readMeetings v_law v_many v_meetings v_length v_at v_faultAt v_one v_other v_made v_leads v_rings v_seen a_readPurses a_readDay a_text) sz) (cQi7 D Post (fun m_v_readLaw m_v_readMany m_v_readMeetings m_v_at m_v_faultAt m_a_readPurses m_a_readDay => (cw_X9_readText cI cZ o o_readPurses o_readDay o_purses o_daily o_text o_row o_tried o_days o_order o_bestOrder o_seenHad o_seenShared o_isKept o_keptPurses o_keptRow o_keptHad o_keptShared o_keptRest m_v_readLaw m_v_readMany m_v_readMeetings v_law v_many v_meetings v_length m_v_at m_v_faultAt v_one v_other v_made v_leads v_rings v_seen m_a_readPurses m_a_readDay a_text)) (va_A (cw_X9_readText cI cZ o o_readPurses o_readDay o_purses o_daily o_text o_row o_tried o_days o_order o_bestOrder o_seenHad o_seenShared o_isKept o_keptPurses o_keptRow o_keptHad o_keptShared o_keptRest v_readLaw v_readMany v_readMeetings v_law v_many v_meetings v_length v_at v_faultAt v_one v_other v_made v_leads v_rings v_seen a_readPurses a_readDay a_text) sz)) 0 0 (va_A (cw_X9_readText cI cZ o o_readPurses o_readDay o_purses o_daily o_text o_row o_tried o_days o_order o_bestOrder o_seenHad o_seenShared o_isKept o_keptPurses o_keptRow o_keptHad o_keptShared o_keptRest v_readLaw v_readMany v_readMeetings v_law v_many v_meetings v_length v_at v_faultAt v_one v_other v_made v_leads v_rings v_seen a_readPurses a_readDay a_text) sz) := by
  refine ent (cc := cX9_readText) (maxL := 3) (ret := (some .int)) (Qc := fun A => cQi7 D Post (fun m_v_readLaw m_v_readMany m_v_readMeetings m_v_at m_v_faultAt m_a_readPurses m_a_readDay => (cw_X9_readText cI cZ o o_readPurses o_readDay o_purses o_daily o_text o_row o_tried o_days o_order o_bestOrder o_seenHad o_seenShared o_isKept o_keptPurses o_keptRow o_keptHad o_keptShared o_keptRest m_v_readLaw m_v_readMany m_v_readMeetings v_law v_many v_meetings v_length m_v_at m_v_faultAt v_one v_other v_made v_leads v_rings v_seen m_a_readPurses m_a_readDay a_text)) A) (by decide) rfl (Nat.le_of_ble_eq_true rfl) ?_
  intro p e s m args below meth c A ls Q hQ hsz hx hb hml hr hts hown hlocks hnm hK hP hD hA hS hl
  have hl : lv_has ls 3 [(0, .ref o)] := hl
  unfold wp_X9_readText at h
  refine lv_aload_n hx hb dX9_readText_0 rfl (lv_at hl 0 rfl) ?_
  refine lv_iconst (v := 0) hx hb dX9_readText_1 (by decide) ?_
  refine va_put (D := D) (ci := 9) (v := .int (0 : Int32)) (ty := .int) (C := RX9) (T := TX9) (N := 33) hx hb hts inw_X9_readText_X9 tyX9 tyX9_ok nmX9 hown hK.1 hP hD hS 0 rfl rfl 12 (by decide) (hts (.fieldLink RX9 83 "PursesShareModel" "at" "I") (by decide +kernel)) (fun _ h9 => h9) rfl (by decide +kernel) rfl rfl (Nat.le_of_ble_eq_true rfl) dX9_readText_2 (fun H locs hP hD hS => ?_)
  have hP : va_P D vwCl (cw_X9_readText cI cZ o o_readPurses o_readDay o_purses o_daily o_text o_row o_tried o_days o_order o_bestOrder o_seenHad o_seenShared o_isKept o_keptPurses o_keptRow o_keptHad o_keptShared o_keptRest v_readLaw v_readMany v_readMeetings v_law v_many v_meetings v_length (0 : Int32) v_faultAt v_one v_other v_made v_leads v_rings v_seen a_readPurses a_readDay a_text) H := hP
  have hD : va_D A (cw_X9_readText cI cZ o o_readPurses o_readDay o_purses o_daily o_text o_row o_tried o_days o_order o_bestOrder o_seenHad o_seenShared o_isKept o_keptPurses o_keptRow o_keptHad o_keptShared o_keptRest v_readLaw v_readMany v_readMeetings v_law v_many v_meetings v_length (0 : Int32) v_faultAt v_one v_other v_made v_leads v_rings v_seen a_readPurses a_readDay a_text) := hD
  refine lv_aload_n hx hb dX9_readText_5 rfl (lv_at hl 0 rfl) ?_
  refine lv_bipush (v := -9) hx hb dX9_readText_6 (by decide) ?_
  refine va_put (D := D) (ci := 9) (v := .int (-9 : Int32)) (ty := .int) (C := RX9) (T := TX9) (N := 33) hx hb hts inw_X9_readText_X9 tyX9 tyX9_ok nmX9 hown hK.1 hP hD hS 0 rfl rfl 13 (by decide) (hts (.fieldLink RX9 80 "PursesShareModel" "faultAt" "I") (by decide +kernel)) (fun _ h9 => h9) rfl (by decide +kernel) rfl rfl (Nat.le_of_ble_eq_true rfl) dX9_readText_8 (fun H locs hP hD hS => ?_)
  have hP : va_P D vwCl (cw_X9_readText cI cZ o o_readPurses o_readDay o_purses o_daily o_text o_row o_tried o_days o_order o_bestOrder o_seenHad o_seenShared o_isKept o_keptPurses o_keptRow o_keptHad o_keptShared o_keptRest v_readLaw v_readMany v_readMeetings v_law v_many v_meetings v_length (0 : Int32) (-9 : Int32) v_one v_other v_made v_leads v_rings v_seen a_readPurses a_readDay a_text) H := hP
  have hD : va_D A (cw_X9_readText cI cZ o o_readPurses o_readDay o_purses o_daily o_text o_row o_tried o_days o_order o_bestOrder o_seenHad o_seenShared o_isKept o_keptPurses o_keptRow o_keptHad o_keptShared o_keptRest v_readLaw v_readMany v_readMeetings v_law v_many v_meetings v_length (0 : Int32) (-9 : Int32) v_one v_other v_made v_leads v_rings v_seen a_readPurses a_readDay a_text) := hD
  refine lv_aload_n hx hb dX9_readText_11 rfl (lv_at hl 0 rfl) ?_
  refine lv_iconst (v := 0) hx hb dX9_readText_12 (by decide) ?_
  refine va_put (D := D) (ci := 9) (v := .int (0 : Int32)) (ty := .int) (C := RX9) (T := TX9) (N := 33) hx hb hts inw_X9_readText_X9 tyX9 tyX9_ok nmX9 hown hK.1 hP hD hS 0 rfl rfl 3 (by decide) (hts (.fieldLink RX9 86 "PursesShareModel" "readMany" "I") (by decide +kernel)) (fun _ h9 => h9) rfl (by decide +kernel) rfl rfl (Nat.le_of_ble_eq_true rfl) dX9_readText_13 (fun H locs hP hD hS => ?_)
  have hP : va_P D vwCl (cw_X9_readText cI cZ o o_readPurses o_readDay o_purses o_daily o_text o_row o_tried o_days o_order o_bestOrder o_seenHad o_seenShared o_isKept o_keptPurses o_keptRow o_keptHad o_keptShared o_keptRest v_readLaw (0 : Int32) v_readMeetings v_law v_many v_meetings v_length (0 : Int32) (-9 : Int32) v_one v_other v_made v_leads v_rings v_seen a_readPurses a_readDay a_text) H := hP
  have hD : va_D A (cw_X9_readText cI cZ o o_readPurses o_readDay o_purses o_daily o_text o_row o_tried o_days o_order o_bestOrder o_seenHad o_seenShared o_isKept o_keptPurses o_keptRow o_keptHad o_keptShared o_keptRest v_readLaw (0 : Int32) v_readMeetings v_law v_many v_meetings v_length (0 : Int32) (-9 : Int32) v_one v_other v_made v_leads v_rings v_seen a_readPurses a_readDay a_text) := hD
  refine lv_aload_n hx hb dX9_readText_16 rfl (lv_at hl 0 rfl) ?_
  refine lv_iconst (v := 0) hx hb dX9_readText_17 (by decide) ?_
  refine va_put (D := D) (ci := 9) (v := .int (0 : Int32)) (ty := .int) (C := RX9) (T := TX9) (N := 33) hx hb hts inw_X9_readText_X9 tyX9 tyX9_ok nmX9 hown hK.1 hP hD hS 0 rfl rfl 4 (by decide) (hts (.fieldLink RX9 89 "PursesShareModel" "readMeetings" "I") (by decide +kernel)) (fun _ h9 => h9) rfl (by decide +kernel) rfl rfl (Nat.le_of_ble_eq_true rfl) dX9_readText_18 (fun H locs hP hD hS => ?_)
  have hP : va_P D vwCl (cw_X9_readText cI cZ o o_readPurses o_readDay o_purses o_daily o_text o_row o_tried o_days o_order o_bestOrder o_seenHad o_seenShared o_isKept o_keptPurses o_keptRow o_keptHad o_keptShared o_keptRest v_readLaw (0 : Int32) (0 : Int32) v_law v_many v_meetings v_length (0 : Int32) (-9 : Int32) v_one v_other v_made v_leads v_rings v_seen a_readPurses a_readDay a_text) H := hP
  have hD : va_D A (cw_X9_readText cI cZ o o_readPurses o_readDay o_purses o_daily o_text o_row o_tried o_days o_order o_bestOrder o_seenHad o_seenShared o_isKept o_keptPurses o_keptRow o_keptHad o_keptShared o_keptRest v_readLaw (0 : Int32) (0 : Int32) v_law v_many v_meetings v_length (0 : Int32) (-9 : Int32) v_one v_other v_made v_leads v_rings v_seen a_readPurses a_readDay a_text) := hD
  refine lv_aload_n hx hb dX9_readText_21 rfl (lv_at hl 0 rfl) ?_
  refine va_get (D := D) (ci := 9) (v := .int v_length) (C := RX9) (T := TX9) (N := 33) hx hb hts inw_X9_readText_X9 hown hK.1 hP 0 rfl rfl 11 (by decide) (hts (.fieldLink RX9 75 "PursesShareModel" "length" "I") (by decide +kernel)) (fun _ h9 => h9) rfl dX9_readText_22 ?_
  refine lv_if_eq (tgt := 39) hx hb dX9_readText_25 (by decide) (fun c25 => ?_) (fun c25 => ?_)
  · have h := h.1 c25
    refine lv_iconst (v := 0) hx hb dX9_readText_39 (by decide) ?_
    exact ret_i7 hx hb hr hlocks hQ hS v_readLaw (0 : Int32) (0 : Int32) (0 : Int32) (-9 : Int32) a_readPurses a_readDay hP h dX9_readText_40
  · have h := h.2 c25
    refine lv_aload_n hx hb dX9_readText_28 rfl (lv_at hl 0 rfl) ?_
    refine va_get (D := D) (ci := 9) (v := .ref o_text) (C := RX9) (T := TX9) (N := 33) hx hb hts inw_X9_readText_X9 hown hK.1 hP 0 rfl rfl 10 (by decide) (hts (.fieldLink RX9 22 "PursesShareModel" "text" "[I") (by decide +kernel)) (fun _ h9 => h9) rfl dX9_readText_29 ?_
    refine lv_iconst (v := 0) hx hb dX9_readText_32 (by decide) ?_
    refine va_iald hx hb hK.1 hP 3 0 rfl rfl (by unfold vp_in; decide) dX9_readText_33 ?_
    refine lv_bipush (v := 76) hx hb dX9_readText_34 (by decide) ?_
    refine lv_icmp_eq (tgt := 41) hx hb dX9_readText_36 (by decide) (fun c36 => ?_) (fun c36 => ?_)
    · have h := h.1 c36
      refine lv_aload_n hx hb dX9_readText_41 rfl (lv_at hl 0 rfl) ?_
      refine lv_iconst (v := 1) hx hb dX9_readText_42 (by decide) ?_
      refine va_put (D := D) (ci := 9) (v := .int (1 : Int32)) (ty := .int) (C := RX9) (T := TX9) (N := 33) hx hb hts inw_X9_readText_X9 tyX9 tyX9_ok nmX9 hown hK.1 hP hD hS 0 rfl rfl 12 (by decide) (hts (.fieldLink RX9 83 "PursesShareModel" "at" "I") (by decide +kernel)) (fun _ h9 => h9) rfl (by decide +kernel) rfl rfl (Nat.le_of_ble_eq_true rfl) dX9_readText_43 (fun H locs hP hD hS => ?_)
      have hP : va_P D vwCl (cw_X9_readText cI cZ o o_readPurses o_readDay o_purses o_daily o_text o_row o_tried o_days o_order o_bestOrder o_seenHad o_seenShared o_isKept o_keptPurses o_keptRow o_keptHad o_keptShared o_keptRest v_readLaw (0 : Int32) (0 : Int32) v_law v_many v_meetings v_length (1 : Int32) (-9 : Int32) v_one v_other v_made v_leads v_rings v_seen a_readPurses a_readDay a_text) H := hP
      have hD : va_D A (cw_X9_readText cI cZ o o_readPurses o_readDay o_purses o_daily o_text o_row o_tried o_days o_order o_bestOrder o_seenHad o_seenShared o_isKept o_keptPurses o_keptRow o_keptHad o_keptShared o_keptRest v_readLaw (0 : Int32) (0 : Int32) v_law v_many v_meetings v_length (1 : Int32) (-9 : Int32) v_one v_other v_made v_leads v_rings v_seen a_readPurses a_readDay a_text) := hD
      refine lv_aload_n hx hb dX9_readText_46 rfl (lv_at hl 0 rfl) ?_
      refine lv_aload_n hx hb dX9_readText_47 rfl (lv_at hl 0 rfl) ?_
      refine lv_iconst (v := 3) hx hb dX9_readText_48 (by decide) ?_
      refine lv_bipush (v := -9) hx hb dX9_readText_49 (by decide) ?_
      refine call_i2 (va_runV (As := [.int (3 : Int32), .int (-9 : Int32)]) (rest := [.ref o]) ⟨hx, hb, hml, hown, hts⟩ (c_X9_figure l D cI cZ o o_readPurses o_readDay o_purses o_daily o_text o_row o_tried o_days o_order o_bestOrder o_seenHad o_seenShared o_isKept o_keptPurses o_keptRow o_keptHad o_keptShared o_keptRest (Array.size H) (3 : Int32) (-9 : Int32) v_readLaw (0 : Int32) (0 : Int32) v_law v_many v_meetings v_length (1 : Int32) (-9 : Int32) v_one v_other v_made v_leads v_rings v_seen a_text _ h) (cwV 2 hts gX9_readText_X9_figure rfl rfl rfl (by decide +kernel) ⟨Nat.le_of_ble_eq_true rfl, Nat.le_of_ble_eq_true rfl⟩) (preV_of hP hD hK [0, 3] rfl rfl 0 9 rfl rfl rfl) rfl rfl hl.1 rfl (lv_room (Nat.le_of_ble_eq_true rfl)) dX9_readText_51 ⟨Nat.zero_le _, Nat.zero_le _⟩) hP hD hS hA [0, 3] rfl (fun v_at_51 v_faultAt_51 => (cw_X9_readText cI cZ o o_readPurses o_readDay o_purses o_daily o_text o_row o_tried o_days o_order o_bestOrder o_seenHad o_seenShared o_isKept o_keptPurses o_keptRow o_keptHad o_keptShared o_keptRest v_readLaw (0 : Int32) (0 : Int32) v_law v_many v_meetings v_length v_at_51 v_faultAt_51 v_one v_other v_made v_leads v_rings v_seen a_readPurses a_readDay a_text)) (fun _ _ => rfl) (fun _ _ => rfl) (fun r51 v_at_51 v_faultAt_51 H locs h hP hD hS => ?_)
      refine va_put (D := D) (ci := 9) (v := .int r51) (ty := .int) (C := RX9) (T := TX9) (N := 33) hx hb hts inw_X9_readText_X9 tyX9 tyX9_ok nmX9 hown hK.1 hP hD hS 0 rfl rfl 2 (by decide) (hts (.fieldLink RX9 96 "PursesShareModel" "readLaw" "I") (by decide +kernel)) (fun _ h9 => h9) rfl (by decide +kernel) rfl rfl (Nat.le_of_ble_eq_true rfl) dX9_readText_54 (fun H locs hP hD hS => ?_)
      have hP : va_P D vwCl (cw_X9_readText cI cZ o o_readPurses o_readDay o_purses o_daily o_text o_row o_tried o_days o_order o_bestOrder o_seenHad o_seenShared o_isKept o_keptPurses o_keptRow o_keptHad o_keptShared o_keptRest r51 (0 : Int32) (0 : Int32) v_law v_many v_meetings v_length v_at_51 v_faultAt_51 v_one v_other v_made v_leads v_rings v_seen a_readPurses a_readDay a_text) H := hP
      have hD : va_D A (cw_X9_readText cI cZ o o_readPurses o_readDay o_purses o_daily o_text o_row o_tried o_days o_order o_bestOrder o_seenHad o_seenShared o_isKept o_keptPurses o_keptRow o_keptHad o_keptShared o_keptRest r51 (0 : Int32) (0 : Int32) v_law v_many v_meetings v_length v_at_51 v_faultAt_51 v_one v_other v_made v_leads v_rings v_seen a_readPurses a_readDay a_text) := hD
      refine h (fun v_readLaw_57 v_readMany_57 v_readMeetings_57 v_at_57 v_faultAt_57 a_readPurses_57 a_readDay_57 => ∀ (H : Heap) (locs : List Loc) (ls : Array Slot), lv_has ls 3 [(0, .ref o)] → va_P D vwCl (cw_X9_readText cI cZ o o_readPurses o_readDay o_purses o_daily o_text o_row o_tried o_days o_order o_bestOrder o_seenHad o_seenShared o_isKept o_keptPurses o_keptRow o_keptHad o_keptShared o_keptRest v_readLaw_57 v_readMany_57 v_readMeetings_57 v_law v_many v_meetings v_length v_at_57 v_faultAt_57 v_one v_other v_made v_leads v_rings v_seen a_readPurses_57 a_readDay_57 a_text) H → va_D A (cw_X9_readText cI cZ o o_readPurses o_readDay o_purses o_daily o_text o_row o_tried o_days o_order o_bestOrder o_seenHad o_seenShared o_isKept o_keptPurses o_keptRow o_keptHad o_keptShared o_keptRest v_readLaw_57 v_readMany_57 v_readMeetings_57 v_law v_many v_meetings v_length v_at_57 v_faultAt_57 v_one v_other v_made v_leads v_rings v_seen a_readPurses_57 a_readDay_57 a_text) → va_S A s.heap H locs → W p l e rm_X9_readText s m args below meth c H locs 0 0 Q (F0 m 57 ls [])) ?_ H locs ls (lv_sub hl [0] rfl) hP hD hS
      intro v_readLaw_57 v_readMany_57 v_readMeetings_57 v_at_57 v_faultAt_57 a_readPurses_57 a_readDay_57 h H locs ls hl hP hD hS
      refine lv_aload_n hx hb dX9_readText_57 rfl (lv_at hl 0 rfl) ?_
      refine va_get (D := D) (ci := 9) (v := .int v_faultAt_57) (C := RX9) (T := TX9) (N := 33) hx hb hts inw_X9_readText_X9 hown hK.1 hP 0 rfl rfl 13 (by decide) (hts (.fieldLink RX9 80 "PursesShareModel" "faultAt" "I") (by decide +kernel)) (fun _ h9 => h9) rfl dX9_readText_58 ?_
      refine lv_bipush (v := -9) hx hb dX9_readText_61 (by decide) ?_
      refine lv_icmp_ne (tgt := 276) hx hb dX9_readText_63 (by decide) (fun c63 => ?_) (fun c63 => ?_)
      · have h := h.1 c63
        refine lv_aload_n hx hb dX9_readText_276 rfl (lv_at hl 0 rfl) ?_
        refine va_get (D := D) (ci := 9) (v := .int v_faultAt_57) (C := RX9) (T := TX9) (N := 33) hx hb hts inw_X9_readText_X9 hown hK.1 hP 0 rfl rfl 13 (by decide) (hts (.fieldLink RX9 80 "PursesShareModel" "faultAt" "I") (by decide +kernel)) (fun _ h9 => h9) rfl dX9_readText_277 ?_
        refine lv_bipush (v := -9) hx hb dX9_readText_280 (by decide) ?_
        refine lv_icmp_ne (tgt := 300) hx hb dX9_readText_282 (by decide) (fun c282 => ?_) (fun c282 => ?_)
        · have h := h.1 c282
          refine lv_aload_n hx hb dX9_readText_300 rfl (lv_at hl 0 rfl) ?_
          refine va_get (D := D) (ci := 9) (v := .int v_faultAt_57) (C := RX9) (T := TX9) (N := 33) hx hb hts inw_X9_readText_X9 hown hK.1 hP 0 rfl rfl 13 (by decide) (hts (.fieldLink RX9 80 "PursesShareModel" "faultAt" "I") (by decide +kernel)) (fun _ h9 => h9) rfl dX9_readText_301 ?_
          exact ret_i7 hx hb hr hlocks hQ hS v_readLaw_57 v_readMany_57 v_readMeetings_57 v_at_57 v_faultAt_57 a_readPurses_57 a_readDay_57 hP h dX9_readText_304
        · have h := h.2 c282
          refine lv_aload_n hx hb dX9_readText_285 rfl (lv_at hl 0 rfl) ?_
          refine va_get (D := D) (ci := 9) (v := .int v_readMany_57) (C := RX9) (T := TX9) (N := 33) hx hb hts inw_X9_readText_X9 hown hK.1 hP 0 rfl rfl 3 (by decide) (hts (.fieldLink RX9 86 "PursesShareModel" "readMany" "I") (by decide +kernel)) (fun _ h9 => h9) rfl dX9_readText_286 ?_
          refine lv_iconst (v := 2) hx hb dX9_readText_289 (by decide) ?_
          refine lv_icmp_ge (tgt := 300) hx hb dX9_readText_290 (by decide) (fun c290 => ?_) (fun c290 => ?_)
          · have h := h.1 c290
            refine lv_aload_n hx hb dX9_readText_300 rfl (lv_at hl 0 rfl) ?_
            refine va_get (D := D) (ci := 9) (v := .int v_faultAt_57) (C := RX9) (T := TX9) (N := 33) hx hb hts inw_X9_readText_X9 hown hK.1 hP 0 rfl rfl 13 (by decide) (hts (.fieldLink RX9 80 "PursesShareModel" "faultAt" "I") (by decide +kernel)) (fun _ h9 => h9) rfl dX9_readText_301 ?_
            exact ret_i7 hx hb hr hlocks hQ hS v_readLaw_57 v_readMany_57 v_readMeetings_57 v_at_57 v_faultAt_57 a_readPurses_57 a_readDay_57 hP h dX9_readText_304
          · have h := h.2 c290
            refine lv_aload_n hx hb dX9_readText_293 rfl (lv_at hl 0 rfl) ?_
            refine va_get (D := D) (ci := 9) (v := .int v_length) (C := RX9) (T := TX9) (N := 33) hx hb hts inw_X9_readText_X9 hown hK.1 hP 0 rfl rfl 11 (by decide) (hts (.fieldLink RX9 75 "PursesShareModel" "length" "I") (by decide +kernel)) (fun _ h9 => h9) rfl dX9_readText_294 ?_
            refine lv_goto (tgt := 304) hx hb dX9_readText_297 (by decide) ?_
            exact ret_i7 hx hb hr hlocks hQ hS v_readLaw_57 v_readMany_57 v_readMeetings_57 v_at_57 v_faultAt_57 a_readPurses_57 a_readDay_57 hP h dX9_readText_304
      · have h := h.2 c63
        refine lv_aload_n hx hb dX9_readText_66 rfl (lv_at hl 0 rfl) ?_
        refine va_get (D := D) (ci := 9) (v := .int v_at_57) (C := RX9) (T := TX9) (N := 33) hx hb hts inw_X9_readText_X9 hown hK.1 hP 0 rfl rfl 12 (by decide) (hts (.fieldLink RX9 83 "PursesShareModel" "at" "I") (by decide +kernel)) (fun _ h9 => h9) rfl dX9_readText_67 ?_
        refine lv_aload_n hx hb dX9_readText_70 rfl (lv_at hl 0 rfl) ?_
        refine va_get (D := D) (ci := 9) (v := .int v_length) (C := RX9) (T := TX9) (N := 33) hx hb hts inw_X9_readText_X9 hown hK.1 hP 0 rfl rfl 11 (by decide) (hts (.fieldLink RX9 75 "PursesShareModel" "length" "I") (by decide +kernel)) (fun _ h9 => h9) rfl dX9_readText_71 ?_
        refine lv_icmp_ge (tgt := 276) hx hb dX9_readText_74 (by decide) (fun c74 => ?_) (fun c74 => ?_)
        · have h := h.1 c74
          refine lv_aload_n hx hb dX9_readText_276 rfl (lv_at hl 0 rfl) ?_
          refine va_get (D := D) (ci := 9) (v := .int v_faultAt_57) (C := RX9) (T := TX9) (N := 33) hx hb hts inw_X9_readText_X9 hown hK.1 hP 0 rfl rfl 13 (by decide) (hts (.fieldLink RX9 80 "PursesShareModel" "faultAt" "I") (by decide +kernel)) (fun _ h9 => h9) rfl dX9_readText_277 ?_
          refine lv_bipush (v := -9) hx hb dX9_readText_280 (by decide) ?_
          refine lv_icmp_ne (tgt := 300) hx hb dX9_readText_282 (by decide) (fun c282 => ?_) (fun c282 => ?_)
          · have h := h.1 c282
            refine lv_aload_n hx hb dX9_readText_300 rfl (lv_at hl 0 rfl) ?_
            refine va_get (D := D) (ci := 9) (v := .int v_faultAt_57) (C := RX9) (T := TX9) (N := 33) hx hb hts inw_X9_readText_X9 hown hK.1 hP 0 rfl rfl 13 (by decide) (hts (.fieldLink RX9 80 "PursesShareModel" "faultAt" "I") (by decide +kernel)) (fun _ h9 => h9) rfl dX9_readText_301 ?_
            exact ret_i7 hx hb hr hlocks hQ hS v_readLaw_57 v_readMany_57 v_readMeetings_57 v_at_57 v_faultAt_57 a_readPurses_57 a_readDay_57 hP h dX9_readText_304
          · have h := h.2 c282
            refine lv_aload_n hx hb dX9_readText_285 rfl (lv_at hl 0 rfl) ?_
            refine va_get (D := D) (ci := 9) (v := .int v_readMany_57) (C := RX9) (T := TX9) (N := 33) hx hb hts inw_X9_readText_X9 hown hK.1 hP 0 rfl rfl 3 (by decide) (hts (.fieldLink RX9 86 "PursesShareModel" "readMany" "I") (by decide +kernel)) (fun _ h9 => h9) rfl dX9_readText_286 ?_
            refine lv_iconst (v := 2) hx hb dX9_readText_289 (by decide) ?_
            refine lv_icmp_ge (tgt := 300) hx hb dX9_readText_290 (by decide) (fun c290 => ?_) (fun c290 => ?_)
            · have h := h.1 c290
              refine lv_aload_n hx hb dX9_readText_300 rfl (lv_at hl 0 rfl) ?_
              refine va_get (D := D) (ci := 9) (v := .int v_faultAt_57) (C := RX9) (T := TX9) (N := 33) hx hb hts inw_X9_readText_X9 hown hK.1 hP 0 rfl rfl 13 (by decide) (hts (.fieldLink RX9 80 "PursesShareModel" "faultAt" "I") (by decide +kernel)) (fun _ h9 => h9) rfl dX9_readText_301 ?_
              exact ret_i7 hx hb hr hlocks hQ hS v_readLaw_57 v_readMany_57 v_readMeetings_57 v_at_57 v_faultAt_57 a_readPurses_57 a_readDay_57 hP h dX9_readText_304
            · have h := h.2 c290
              refine lv_aload_n hx hb dX9_readText_293 rfl (lv_at hl 0 rfl) ?_
              refine va_get (D := D) (ci := 9) (v := .int v_length) (C := RX9) (T := TX9) (N := 33) hx hb hts inw_X9_readText_X9 hown hK.1 hP 0 rfl rfl 11 (by decide) (hts (.fieldLink RX9 75 "PursesShareModel" "length" "I") (by decide +kernel)) (fun _ h9 => h9) rfl dX9_readText_294 ?_
              refine lv_goto (tgt := 304) hx hb dX9_readText_297 (by decide) ?_
              exact ret_i7 hx hb hr hlocks hQ hS v_readLaw_57 v_readMany_57 v_readMeetings_57 v_at_57 v_faultAt_57 a_readPurses_57 a_readDay_57 hP h dX9_readText_304
        · have h := h.2 c74
          refine lv_aload_n hx hb dX9_readText_77 rfl (lv_at hl 0 rfl) ?_
          refine va_get (D := D) (ci := 9) (v := .ref o_text) (C := RX9) (T := TX9) (N := 33) hx hb hts inw_X9_readText_X9 hown hK.1 hP 0 rfl rfl 10 (by decide) (hts (.fieldLink RX9 22 "PursesShareModel" "text" "[I") (by decide +kernel)) (fun _ h9 => h9) rfl dX9_readText_78 ?_
          refine lv_aload_n hx hb dX9_readText_81 rfl (lv_at hl 0 rfl) ?_
          refine va_get (D := D) (ci := 9) (v := .int v_at_57) (C := RX9) (T := TX9) (N := 33) hx hb hts inw_X9_readText_X9 hown hK.1 hP 0 rfl rfl 12 (by decide) (hts (.fieldLink RX9 83 "PursesShareModel" "at" "I") (by decide +kernel)) (fun _ h9 => h9) rfl dX9_readText_82 ?_
          have h0 := h.1
          have h := h.2
          refine va_iald hx hb hK.1 hP 3 0 rfl rfl h0 dX9_readText_85 ?_
          refine lv_bipush (v := 80) hx hb dX9_readText_86 (by decide) ?_
          refine lv_icmp_ne (tgt := 162) hx hb dX9_readText_88 (by decide) (fun c88 => ?_) (fun c88 => ?_)
          · have h := h.1 c88
            refine lv_aload_n hx hb dX9_readText_162 rfl (lv_at hl 0 rfl) ?_
            refine va_get (D := D) (ci := 9) (v := .ref o_text) (C := RX9) (T := TX9) (N := 33) hx hb hts inw_X9_readText_X9 hown hK.1 hP 0 rfl rfl 10 (by decide) (hts (.fieldLink RX9 22 "PursesShareModel" "text" "[I") (by decide +kernel)) (fun _ h9 => h9) rfl dX9_readText_163 ?_
            refine lv_aload_n hx hb dX9_readText_166 rfl (lv_at hl 0 rfl) ?_
            refine va_get (D := D) (ci := 9) (v := .int v_at_57) (C := RX9) (T := TX9) (N := 33) hx hb hts inw_X9_readText_X9 hown hK.1 hP 0 rfl rfl 12 (by decide) (hts (.fieldLink RX9 83 "PursesShareModel" "at" "I") (by decide +kernel)) (fun _ h9 => h9) rfl dX9_readText_167 ?_
            have h0 := h.1
            have h := h.2
            refine va_iald hx hb hK.1 hP 3 0 rfl rfl h0 dX9_readText_170 ?_
            refine lv_bipush (v := 77) hx hb dX9_readText_171 (by decide) ?_
            refine lv_icmp_ne (tgt := 265) hx hb dX9_readText_173 (by decide) (fun c173 => ?_) (fun c173 => ?_)
            · have h := h.1 c173
              refine lv_aload_n hx hb dX9_readText_265 rfl (lv_at hl 0 rfl) ?_
              refine lv_aload_n hx hb dX9_readText_266 rfl (lv_at hl 0 rfl) ?_
              refine va_get (D := D) (ci := 9) (v := .int v_at_57) (C := RX9) (T := TX9) (N := 33) hx hb hts inw_X9_readText_X9 hown hK.1 hP 0 rfl rfl 12 (by decide) (hts (.fieldLink RX9 83 "PursesShareModel" "at" "I") (by decide +kernel)) (fun _ h9 => h9) rfl dX9_readText_267 ?_
              refine va_put (D := D) (ci := 9) (v := .int v_at_57) (ty := .int) (C := RX9) (T := TX9) (N := 33) hx hb hts inw_X9_readText_X9 tyX9 tyX9_ok nmX9 hown hK.1 hP hD hS 0 rfl rfl 13 (by decide) (hts (.fieldLink RX9 80 "PursesShareModel" "faultAt" "I") (by decide +kernel)) (fun _ h9 => h9) rfl (by decide +kernel) rfl rfl (Nat.le_of_ble_eq_true rfl) dX9_readText_270 (fun H locs hP hD hS => ?_)
              have hP : va_P D vwCl (cw_X9_readText cI cZ o o_readPurses o_readDay o_purses o_daily o_text o_row o_tried o_days o_order o_bestOrder o_seenHad o_seenShared o_isKept o_keptPurses o_keptRow o_keptHad o_keptShared o_keptRest v_readLaw_57 v_readMany_57 v_readMeetings_57 v_law v_many v_meetings v_length v_at_57 v_at_57 v_one v_other v_made v_leads v_rings v_seen a_readPurses_57 a_readDay_57 a_text) H := hP
              have hD : va_D A (cw_X9_readText cI cZ o o_readPurses o_readDay o_purses o_daily o_text o_row o_tried o_days o_order o_bestOrder o_seenHad o_seenShared o_isKept o_keptPurses o_keptRow o_keptHad o_keptShared o_keptRest v_readLaw_57 v_readMany_57 v_readMeetings_57 v_law v_many v_meetings v_length v_at_57 v_at_57 v_one v_other v_made v_leads v_rings v_seen a_readPurses_57 a_readDay_57 a_text) := hD
              refine lv_goto (tgt := 57) hx hb dX9_readText_273 (by decide) ?_
              exact h H locs ls (lv_sub hl [0] rfl) hP hD hS
            · have h := h.2 c173
              refine lv_aload_n hx hb dX9_readText_176 rfl (lv_at hl 0 rfl) ?_
              refine va_get (D := D) (ci := 9) (v := .int v_readMany_57) (C := RX9) (T := TX9) (N := 33) hx hb hts inw_X9_readText_X9 hown hK.1 hP 0 rfl rfl 3 (by decide) (hts (.fieldLink RX9 86 "PursesShareModel" "readMany" "I") (by decide +kernel)) (fun _ h9 => h9) rfl dX9_readText_177 ?_
              refine lv_iconst (v := 1) hx hb dX9_readText_180 (by decide) ?_
              refine lv_icmp_le (tgt := 265) hx hb dX9_readText_181 (by decide) (fun c181 => ?_) (fun c181 => ?_)
              · have h := h.1 c181
                refine lv_aload_n hx hb dX9_readText_265 rfl (lv_at hl 0 rfl) ?_
                refine lv_aload_n hx hb dX9_readText_266 rfl (lv_at hl 0 rfl) ?_
                refine va_get (D := D) (ci := 9) (v := .int v_at_57) (C := RX9) (T := TX9) (N := 33) hx hb hts inw_X9_readText_X9 hown hK.1 hP 0 rfl rfl 12 (by decide) (hts (.fieldLink RX9 83 "PursesShareModel" "at" "I") (by decide +kernel)) (fun _ h9 => h9) rfl dX9_readText_267 ?_
                refine va_put (D := D) (ci := 9) (v := .int v_at_57) (ty := .int) (C := RX9) (T := TX9) (N := 33) hx hb hts inw_X9_readText_X9 tyX9 tyX9_ok nmX9 hown hK.1 hP hD hS 0 rfl rfl 13 (by decide) (hts (.fieldLink RX9 80 "PursesShareModel" "faultAt" "I") (by decide +kernel)) (fun _ h9 => h9) rfl (by decide +kernel) rfl rfl (Nat.le_of_ble_eq_true rfl) dX9_readText_270 (fun H locs hP hD hS => ?_)
                have hP : va_P D vwCl (cw_X9_readText cI cZ o o_readPurses o_readDay o_purses o_daily o_text o_row o_tried o_days o_order o_bestOrder o_seenHad o_seenShared o_isKept o_keptPurses o_keptRow o_keptHad o_keptShared o_keptRest v_readLaw_57 v_readMany_57 v_readMeetings_57 v_law v_many v_meetings v_length v_at_57 v_at_57 v_one v_other v_made v_leads v_rings v_seen a_readPurses_57 a_readDay_57 a_text) H := hP
                have hD : va_D A (cw_X9_readText cI cZ o o_readPurses o_readDay o_purses o_daily o_text o_row o_tried o_days o_order o_bestOrder o_seenHad o_seenShared o_isKept o_keptPurses o_keptRow o_keptHad o_keptShared o_keptRest v_readLaw_57 v_readMany_57 v_readMeetings_57 v_law v_many v_meetings v_length v_at_57 v_at_57 v_one v_other v_made v_leads v_rings v_seen a_readPurses_57 a_readDay_57 a_text) := hD
                refine lv_goto (tgt := 57) hx hb dX9_readText_273 (by decide) ?_
                exact h H locs ls (lv_sub hl [0] rfl) hP hD hS
              · have h := h.2 c181
                refine lv_aload_n hx hb dX9_readText_184 rfl (lv_at hl 0 rfl) ?_
                refine va_get (D := D) (ci := 9) (v := .int v_readMeetings_57) (C := RX9) (T := TX9) (N := 33) hx hb hts inw_X9_readText_X9 hown hK.1 hP 0 rfl rfl 4 (by decide) (hts (.fieldLink RX9 89 "PursesShareModel" "readMeetings" "I") (by decide +kernel)) (fun _ h9 => h9) rfl dX9_readText_185 ?_
                refine lv_bipush (v := 16) hx hb dX9_readText_188 (by decide) ?_
                refine lv_icmp_ge (tgt := 265) hx hb dX9_readText_190 (by decide) (fun c190 => ?_) (fun c190 => ?_)
                · have h := h.1 c190
                  refine lv_aload_n hx hb dX9_readText_265 rfl (lv_at hl 0 rfl) ?_
                  refine lv_aload_n hx hb dX9_readText_266 rfl (lv_at hl 0 rfl) ?_
                  refine va_get (D := D) (ci := 9) (v := .int v_at_57) (C := RX9) (T := TX9) (N := 33) hx hb hts inw_X9_readText_X9 hown hK.1 hP 0 rfl rfl 12 (by decide) (hts (.fieldLink RX9 83 "PursesShareModel" "at" "I") (by decide +kernel)) (fun _ h9 => h9) rfl dX9_readText_267 ?_
                  refine va_put (D := D) (ci := 9) (v := .int v_at_57) (ty := .int) (C := RX9) (T := TX9) (N := 33) hx hb hts inw_X9_readText_X9 tyX9 tyX9_ok nmX9 hown hK.1 hP hD hS 0 rfl rfl 13 (by decide) (hts (.fieldLink RX9 80 "PursesShareModel" "faultAt" "I") (by decide +kernel)) (fun _ h9 => h9) rfl (by decide +kernel) rfl rfl (Nat.le_of_ble_eq_true rfl) dX9_readText_270 (fun H locs hP hD hS => ?_)
                  have hP : va_P D vwCl (cw_X9_readText cI cZ o o_readPurses o_readDay o_purses o_daily o_text o_row o_tried o_days o_order o_bestOrder o_seenHad o_seenShared o_isKept o_keptPurses o_keptRow o_keptHad o_keptShared o_keptRest v_readLaw_57 v_readMany_57 v_readMeetings_57 v_law v_many v_meetings v_length v_at_57 v_at_57 v_one v_other v_made v_leads v_rings v_seen a_readPurses_57 a_readDay_57 a_text) H := hP
                  have hD : va_D A (cw_X9_readText cI cZ o o_readPurses o_readDay o_purses o_daily o_text o_row o_tried o_days o_order o_bestOrder o_seenHad o_seenShared o_isKept o_keptPurses o_keptRow o_keptHad o_keptShared o_keptRest v_readLaw_57 v_readMany_57 v_readMeetings_57 v_law v_many v_meetings v_length v_at_57 v_at_57 v_one v_other v_made v_leads v_rings v_seen a_readPurses_57 a_readDay_57 a_text) := hD
                  refine lv_goto (tgt := 57) hx hb dX9_readText_273 (by decide) ?_
                  exact h H locs ls (lv_sub hl [0] rfl) hP hD hS
                · have h := h.2 c190
                  refine lv_aload_n hx hb dX9_readText_193 rfl (lv_at hl 0 rfl) ?_
                  refine lv_dup hx hb dX9_readText_194 rfl ?_
                  refine va_get (D := D) (ci := 9) (v := .int v_at_57) (C := RX9) (T := TX9) (N := 33) hx hb hts inw_X9_readText_X9 hown hK.1 hP 0 rfl rfl 12 (by decide) (hts (.fieldLink RX9 83 "PursesShareModel" "at" "I") (by decide +kernel)) (fun _ h9 => h9) rfl dX9_readText_195 ?_
                  refine lv_iconst (v := 1) hx hb dX9_readText_198 (by decide) ?_
                  refine lv_iadd hx hb dX9_readText_199 ?_
                  refine va_put (D := D) (ci := 9) (v := .int (v_at_57 + (1 : Int32))) (ty := .int) (C := RX9) (T := TX9) (N := 33) hx hb hts inw_X9_readText_X9 tyX9 tyX9_ok nmX9 hown hK.1 hP hD hS 0 rfl rfl 12 (by decide) (hts (.fieldLink RX9 83 "PursesShareModel" "at" "I") (by decide +kernel)) (fun _ h9 => h9) rfl (by decide +kernel) rfl rfl (Nat.le_of_ble_eq_true rfl) dX9_readText_200 (fun H locs hP hD hS => ?_)
                  have hP : va_P D vwCl (cw_X9_readText cI cZ o o_readPurses o_readDay o_purses o_daily o_text o_row o_tried o_days o_order o_bestOrder o_seenHad o_seenShared o_isKept o_keptPurses o_keptRow o_keptHad o_keptShared o_keptRest v_readLaw_57 v_readMany_57 v_readMeetings_57 v_law v_many v_meetings v_length (v_at_57 + (1 : Int32)) v_faultAt_57 v_one v_other v_made v_leads v_rings v_seen a_readPurses_57 a_readDay_57 a_text) H := hP
                  have hD : va_D A (cw_X9_readText cI cZ o o_readPurses o_readDay o_purses o_daily o_text o_row o_tried o_days o_order o_bestOrder o_seenHad o_seenShared o_isKept o_keptPurses o_keptRow o_keptHad o_keptShared o_keptRest v_readLaw_57 v_readMany_57 v_readMeetings_57 v_law v_many v_meetings v_length (v_at_57 + (1 : Int32)) v_faultAt_57 v_one v_other v_made v_leads v_rings v_seen a_readPurses_57 a_readDay_57 a_text) := hD
                  refine lv_aload_n hx hb dX9_readText_203 rfl (lv_at hl 0 rfl) ?_
                  refine lv_aload_n hx hb dX9_readText_204 rfl (lv_at hl 0 rfl) ?_
                  refine va_get (D := D) (ci := 9) (v := .int v_readMany_57) (C := RX9) (T := TX9) (N := 33) hx hb hts inw_X9_readText_X9 hown hK.1 hP 0 rfl rfl 3 (by decide) (hts (.fieldLink RX9 86 "PursesShareModel" "readMany" "I") (by decide +kernel)) (fun _ h9 => h9) rfl dX9_readText_205 ?_
                  refine lv_iconst (v := 1) hx hb dX9_readText_208 (by decide) ?_
                  refine lv_isub hx hb dX9_readText_209 ?_
                  refine lv_bipush (v := -9) hx hb dX9_readText_210 (by decide) ?_
                  refine call_i2 (va_runV (As := [.int (v_readMany_57 - (1 : Int32)), .int (-9 : Int32)]) (rest := []) ⟨hx, hb, hml, hown, hts⟩ (c_X9_figure l D cI cZ o o_readPurses o_readDay o_purses o_daily o_text o_row o_tried o_days o_order o_bestOrder o_seenHad o_seenShared o_isKept o_keptPurses o_keptRow o_keptHad o_keptShared o_keptRest (Array.size H) (v_readMany_57 - (1 : Int32)) (-9 : Int32) v_readLaw_57 v_readMany_57 v_readMeetings_57 v_law v_many v_meetings v_length (v_at_57 + (1 : Int32)) v_faultAt_57 v_one v_other v_made v_leads v_rings v_seen a_text _ h) (cwV 2 hts gX9_readText_X9_figure rfl rfl rfl (by decide +kernel) ⟨Nat.le_of_ble_eq_true rfl, Nat.le_of_ble_eq_true rfl⟩) (preV_of hP hD hK [0, 3] rfl rfl 0 9 rfl rfl rfl) rfl rfl hl.1 rfl (lv_room (Nat.le_of_ble_eq_true rfl)) dX9_readText_212 ⟨Nat.zero_le _, Nat.zero_le _⟩) hP hD hS hA [0, 3] rfl (fun v_at_212 v_faultAt_212 => (cw_X9_readText cI cZ o o_readPurses o_readDay o_purses o_daily o_text o_row o_tried o_days o_order o_bestOrder o_seenHad o_seenShared o_isKept o_keptPurses o_keptRow o_keptHad o_keptShared o_keptRest v_readLaw_57 v_readMany_57 v_readMeetings_57 v_law v_many v_meetings v_length v_at_212 v_faultAt_212 v_one v_other v_made v_leads v_rings v_seen a_readPurses_57 a_readDay_57 a_text)) (fun _ _ => rfl) (fun _ _ => rfl) (fun r212 v_at_212 v_faultAt_212 H locs h hP hD hS => ?_)
                  refine lv_istore_n (lv' := [(1, .int r212), (0, .ref o)]) hx hb dX9_readText_215 rfl hl (by decide) rfl (fun ls hl => ?_)
                  refine lv_aload_n hx hb dX9_readText_216 rfl (lv_at hl 1 rfl) ?_
                  refine va_get (D := D) (ci := 9) (v := .ref o_readDay) (C := RX9) (T := TX9) (N := 33) hx hb hts inw_X9_readText_X9 hown hK.1 hP 0 rfl rfl 1 (by decide) (hts (.fieldLink RX9 13 "PursesShareModel" "readDay" "[I") (by decide +kernel)) (fun _ h9 => h9) rfl dX9_readText_217 ?_
                  refine lv_iconst (v := 2) hx hb dX9_readText_220 (by decide) ?_
                  refine lv_aload_n hx hb dX9_readText_221 rfl (lv_at hl 1 rfl) ?_
                  refine va_get (D := D) (ci := 9) (v := .int v_readMeetings_57) (C := RX9) (T := TX9) (N := 33) hx hb hts inw_X9_readText_X9 hown hK.1 hP 0 rfl rfl 4 (by decide) (hts (.fieldLink RX9 89 "PursesShareModel" "readMeetings" "I") (by decide +kernel)) (fun _ h9 => h9) rfl dX9_readText_222 ?_
                  refine lv_imul hx hb dX9_readText_225 ?_
                  refine lv_iload_n hx hb dX9_readText_226 rfl (lv_at hl 0 rfl) ?_
                  have h0 := h.1
                  have h := h.2
                  refine va_iast hx hb hK.1 hP hD hS 2 0 rfl rfl h0 dX9_readText_227 (fun H locs hP hD hS => ?_)
                  have hP : va_P D vwCl (cw_X9_readText cI cZ o o_readPurses o_readDay o_purses o_daily o_text o_row o_tried o_days o_order o_bestOrder o_seenHad o_seenShared o_isKept o_keptPurses o_keptRow o_keptHad o_keptShared o_keptRest v_readLaw_57 v_readMany_57 v_readMeetings_57 v_law v_many v_meetings v_length v_at_212 v_faultAt_212 v_one v_other v_made v_leads v_rings v_seen a_readPurses_57 (upd a_readDay_57 (Int32.toNatClampNeg ((2 : Int32) * v_readMeetings_57)) r212) a_text) H := hP
                  have hD : va_D A (cw_X9_readText cI cZ o o_readPurses o_readDay o_purses o_daily o_text o_row o_tried o_days o_order o_bestOrder o_seenHad o_seenShared o_isKept o_keptPurses o_keptRow o_keptHad o_keptShared o_keptRest v_readLaw_57 v_readMany_57 v_readMeetings_57 v_law v_many v_meetings v_length v_at_212 v_faultAt_212 v_one v_other v_made v_leads v_rings v_seen a_readPurses_57 (upd a_readDay_57 (Int32.toNatClampNeg ((2 : Int32) * v_readMeetings_57)) r212) a_text) := hD
                  refine lv_aload_n hx hb dX9_readText_228 rfl (lv_at hl 1 rfl) ?_
                  refine va_get (D := D) (ci := 9) (v := .ref o_readDay) (C := RX9) (T := TX9) (N := 33) hx hb hts inw_X9_readText_X9 hown hK.1 hP 0 rfl rfl 1 (by decide) (hts (.fieldLink RX9 13 "PursesShareModel" "readDay" "[I") (by decide +kernel)) (fun _ h9 => h9) rfl dX9_readText_229 ?_
                  refine lv_iconst (v := 2) hx hb dX9_readText_232 (by decide) ?_
                  refine lv_aload_n hx hb dX9_readText_233 rfl (lv_at hl 1 rfl) ?_
                  refine va_get (D := D) (ci := 9) (v := .int v_readMeetings_57) (C := RX9) (T := TX9) (N := 33) hx hb hts inw_X9_readText_X9 hown hK.1 hP 0 rfl rfl 4 (by decide) (hts (.fieldLink RX9 89 "PursesShareModel" "readMeetings" "I") (by decide +kernel)) (fun _ h9 => h9) rfl dX9_readText_234 ?_
                  refine lv_imul hx hb dX9_readText_237 ?_
                  refine lv_iconst (v := 1) hx hb dX9_readText_238 (by decide) ?_
                  refine lv_iadd hx hb dX9_readText_239 ?_
                  refine lv_aload_n hx hb dX9_readText_240 rfl (lv_at hl 1 rfl) ?_
                  refine lv_aload_n hx hb dX9_readText_241 rfl (lv_at hl 1 rfl) ?_
                  refine va_get (D := D) (ci := 9) (v := .int v_readMany_57) (C := RX9) (T := TX9) (N := 33) hx hb hts inw_X9_readText_X9 hown hK.1 hP 0 rfl rfl 3 (by decide) (hts (.fieldLink RX9 86 "PursesShareModel" "readMany" "I") (by decide +kernel)) (fun _ h9 => h9) rfl dX9_readText_242 ?_
                  refine lv_iconst (v := 1) hx hb dX9_readText_245 (by decide) ?_
                  refine lv_isub hx hb dX9_readText_246 ?_
                  refine lv_iload_n hx hb dX9_readText_247 rfl (lv_at hl 0 rfl) ?_
                  refine call_i2 (va_runV (As := [.int (v_readMany_57 - (1 : Int32)), .int r212]) (rest := [.int (((2 : Int32) * v_readMeetings_57) + (1 : Int32)), .ref o_readDay]) ⟨hx, hb, hml, hown, hts⟩ (c_X9_figure l D cI cZ o o_readPurses o_readDay o_purses o_daily o_text o_row o_tried o_days o_order o_bestOrder o_seenHad o_seenShared o_isKept o_keptPurses o_keptRow o_keptHad o_keptShared o_keptRest (Array.size H) (v_readMany_57 - (1 : Int32)) r212 v_readLaw_57 v_readMany_57 v_readMeetings_57 v_law v_many v_meetings v_length v_at_212 v_faultAt_212 v_one v_other v_made v_leads v_rings v_seen a_text _ h) (cwV 2 hts gX9_readText_X9_figure rfl rfl rfl (by decide +kernel) ⟨Nat.le_of_ble_eq_true rfl, Nat.le_of_ble_eq_true rfl⟩) (preV_of hP hD hK [0, 3] rfl rfl 0 9 rfl rfl rfl) rfl rfl hl.1 rfl (lv_room (Nat.le_of_ble_eq_true rfl)) dX9_readText_248 ⟨Nat.zero_le _, Nat.zero_le _⟩) hP hD hS hA [0, 3] rfl (fun v_at_248 v_faultAt_248 => (cw_X9_readText cI cZ o o_readPurses o_readDay o_purses o_daily o_text o_row o_tried o_days o_order o_bestOrder o_seenHad o_seenShared o_isKept o_keptPurses o_keptRow o_keptHad o_keptShared o_keptRest v_readLaw_57 v_readMany_57 v_readMeetings_57 v_law v_many v_meetings v_length v_at_248 v_faultAt_248 v_one v_other v_made v_leads v_rings v_seen a_readPurses_57 (upd a_readDay_57 (Int32.toNatClampNeg ((2 : Int32) * v_readMeetings_57)) r212) a_text)) (fun _ _ => rfl) (fun _ _ => rfl) (fun r248 v_at_248 v_faultAt_248 H locs h hP hD hS => ?_)
                  have h0 := h.1
                  have h := h.2
                  refine va_iast hx hb hK.1 hP hD hS 2 0 rfl rfl h0 dX9_readText_251 (fun H locs hP hD hS => ?_)
                  have hP : va_P D vwCl (cw_X9_readText cI cZ o o_readPurses o_readDay o_purses o_daily o_text o_row o_tried o_days o_order o_bestOrder o_seenHad o_seenShared o_isKept o_keptPurses o_keptRow o_keptHad o_keptShared o_keptRest v_readLaw_57 v_readMany_57 v_readMeetings_57 v_law v_many v_meetings v_length v_at_248 v_faultAt_248 v_one v_other v_made v_leads v_rings v_seen a_readPurses_57 (upd (upd a_readDay_57 (Int32.toNatClampNeg ((2 : Int32) * v_readMeetings_57)) r212) (Int32.toNatClampNeg (((2 : Int32) * v_readMeetings_57) + (1 : Int32))) r248) a_text) H := hP
                  have hD : va_D A (cw_X9_readText cI cZ o o_readPurses o_readDay o_purses o_daily o_text o_row o_tried o_days o_order o_bestOrder o_seenHad o_seenShared o_isKept o_keptPurses o_keptRow o_keptHad o_keptShared o_keptRest v_readLaw_57 v_readMany_57 v_readMeetings_57 v_law v_many v_meetings v_length v_at_248 v_faultAt_248 v_one v_other v_made v_leads v_rings v_seen a_readPurses_57 (upd (upd a_readDay_57 (Int32.toNatClampNeg ((2 : Int32) * v_readMeetings_57)) r212) (Int32.toNatClampNeg (((2 : Int32) * v_readMeetings_57) + (1 : Int32))) r248) a_text) := hD
                  refine lv_aload_n hx hb dX9_readText_252 rfl (lv_at hl 1 rfl) ?_
                  refine lv_dup hx hb dX9_readText_253 rfl ?_
                  refine va_get (D := D) (ci := 9) (v := .int v_readMeetings_57) (C := RX9) (T := TX9) (N := 33) hx hb hts inw_X9_readText_X9 hown hK.1 hP 0 rfl rfl 4 (by decide) (hts (.fieldLink RX9 89 "PursesShareModel" "readMeetings" "I") (by decide +kernel)) (fun _ h9 => h9) rfl dX9_readText_254 ?_
                  refine lv_iconst (v := 1) hx hb dX9_readText_257 (by decide) ?_
                  refine lv_iadd hx hb dX9_readText_258 ?_
                  refine va_put (D := D) (ci := 9) (v := .int (v_readMeetings_57 + (1 : Int32))) (ty := .int) (C := RX9) (T := TX9) (N := 33) hx hb hts inw_X9_readText_X9 tyX9 tyX9_ok nmX9 hown hK.1 hP hD hS 0 rfl rfl 4 (by decide) (hts (.fieldLink RX9 89 "PursesShareModel" "readMeetings" "I") (by decide +kernel)) (fun _ h9 => h9) rfl (by decide +kernel) rfl rfl (Nat.le_of_ble_eq_true rfl) dX9_readText_259 (fun H locs hP hD hS => ?_)
                  have hP : va_P D vwCl (cw_X9_readText cI cZ o o_readPurses o_readDay o_purses o_daily o_text o_row o_tried o_days o_order o_bestOrder o_seenHad o_seenShared o_isKept o_keptPurses o_keptRow o_keptHad o_keptShared o_keptRest v_readLaw_57 v_readMany_57 (v_readMeetings_57 + (1 : Int32)) v_law v_many v_meetings v_length v_at_248 v_faultAt_248 v_one v_other v_made v_leads v_rings v_seen a_readPurses_57 (upd (upd a_readDay_57 (Int32.toNatClampNeg ((2 : Int32) * v_readMeetings_57)) r212) (Int32.toNatClampNeg (((2 : Int32) * v_readMeetings_57) + (1 : Int32))) r248) a_text) H := hP
                  have hD : va_D A (cw_X9_readText cI cZ o o_readPurses o_readDay o_purses o_daily o_text o_row o_tried o_days o_order o_bestOrder o_seenHad o_seenShared o_isKept o_keptPurses o_keptRow o_keptHad o_keptShared o_keptRest v_readLaw_57 v_readMany_57 (v_readMeetings_57 + (1 : Int32)) v_law v_many v_meetings v_length v_at_248 v_faultAt_248 v_one v_other v_made v_leads v_rings v_seen a_readPurses_57 (upd (upd a_readDay_57 (Int32.toNatClampNeg ((2 : Int32) * v_readMeetings_57)) r212) (Int32.toNatClampNeg (((2 : Int32) * v_readMeetings_57) + (1 : Int32))) r248) a_text) := hD
                  refine lv_goto (tgt := 57) hx hb dX9_readText_262 (by decide) ?_
                  exact h H locs ls (lv_sub hl [1] rfl) hP hD hS
          · have h := h.2 c88
            refine lv_aload_n hx hb dX9_readText_91 rfl (lv_at hl 0 rfl) ?_
            refine va_get (D := D) (ci := 9) (v := .int v_readMany_57) (C := RX9) (T := TX9) (N := 33) hx hb hts inw_X9_readText_X9 hown hK.1 hP 0 rfl rfl 3 (by decide) (hts (.fieldLink RX9 86 "PursesShareModel" "readMany" "I") (by decide +kernel)) (fun _ h9 => h9) rfl dX9_readText_92 ?_
            refine lv_bipush (v := 8) hx hb dX9_readText_95 (by decide) ?_
            refine lv_icmp_ge (tgt := 162) hx hb dX9_readText_97 (by decide) (fun c97 => ?_) (fun c97 => ?_)
            · have h := h.1 c97
              refine lv_aload_n hx hb dX9_readText_162 rfl (lv_at hl 0 rfl) ?_
              refine va_get (D := D) (ci := 9) (v := .ref o_text) (C := RX9) (T := TX9) (N := 33) hx hb hts inw_X9_readText_X9 hown hK.1 hP 0 rfl rfl 10 (by decide) (hts (.fieldLink RX9 22 "PursesShareModel" "text" "[I") (by decide +kernel)) (fun _ h9 => h9) rfl dX9_readText_163 ?_
              refine lv_aload_n hx hb dX9_readText_166 rfl (lv_at hl 0 rfl) ?_
              refine va_get (D := D) (ci := 9) (v := .int v_at_57) (C := RX9) (T := TX9) (N := 33) hx hb hts inw_X9_readText_X9 hown hK.1 hP 0 rfl rfl 12 (by decide) (hts (.fieldLink RX9 83 "PursesShareModel" "at" "I") (by decide +kernel)) (fun _ h9 => h9) rfl dX9_readText_167 ?_
              have h0 := h.1
              have h := h.2
              refine va_iald hx hb hK.1 hP 3 0 rfl rfl h0 dX9_readText_170 ?_
              refine lv_bipush (v := 77) hx hb dX9_readText_171 (by decide) ?_
              refine lv_icmp_ne (tgt := 265) hx hb dX9_readText_173 (by decide) (fun c173 => ?_) (fun c173 => ?_)
              · have h := h.1 c173
                refine lv_aload_n hx hb dX9_readText_265 rfl (lv_at hl 0 rfl) ?_
                refine lv_aload_n hx hb dX9_readText_266 rfl (lv_at hl 0 rfl) ?_
                refine va_get (D := D) (ci := 9) (v := .int v_at_57) (C := RX9) (T := TX9) (N := 33) hx hb hts inw_X9_readText_X9 hown hK.1 hP 0 rfl rfl 12 (by decide) (hts (.fieldLink RX9 83 "PursesShareModel" "at" "I") (by decide +kernel)) (fun _ h9 => h9) rfl dX9_readText_267 ?_
                refine va_put (D := D) (ci := 9) (v := .int v_at_57) (ty := .int) (C := RX9) (T := TX9) (N := 33) hx hb hts inw_X9_readText_X9 tyX9 tyX9_ok nmX9 hown hK.1 hP hD hS 0 rfl rfl 13 (by decide) (hts (.fieldLink RX9 80 "PursesShareModel" "faultAt" "I") (by decide +kernel)) (fun _ h9 => h9) rfl (by decide +kernel) rfl rfl (Nat.le_of_ble_eq_true rfl) dX9_readText_270 (fun H locs hP hD hS => ?_)
                have hP : va_P D vwCl (cw_X9_readText cI cZ o o_readPurses o_readDay o_purses o_daily o_text o_row o_tried o_days o_order o_bestOrder o_seenHad o_seenShared o_isKept o_keptPurses o_keptRow o_keptHad o_keptShared o_keptRest v_readLaw_57 v_readMany_57 v_readMeetings_57 v_law v_many v_meetings v_length v_at_57 v_at_57 v_one v_other v_made v_leads v_rings v_seen a_readPurses_57 a_readDay_57 a_text) H := hP
                have hD : va_D A (cw_X9_readText cI cZ o o_readPurses o_readDay o_purses o_daily o_text o_row o_tried o_days o_order o_bestOrder o_seenHad o_seenShared o_isKept o_keptPurses o_keptRow o_keptHad o_keptShared o_keptRest v_readLaw_57 v_readMany_57 v_readMeetings_57 v_law v_many v_meetings v_length v_at_57 v_at_57 v_one v_other v_made v_leads v_rings v_seen a_readPurses_57 a_readDay_57 a_text) := hD
                refine lv_goto (tgt := 57) hx hb dX9_readText_273 (by decide) ?_
                exact h H locs ls (lv_sub hl [0] rfl) hP hD hS
              · have h := h.2 c173
                refine lv_aload_n hx hb dX9_readText_176 rfl (lv_at hl 0 rfl) ?_
                refine va_get (D := D) (ci := 9) (v := .int v_readMany_57) (C := RX9) (T := TX9) (N := 33) hx hb hts inw_X9_readText_X9 hown hK.1 hP 0 rfl rfl 3 (by decide) (hts (.fieldLink RX9 86 "PursesShareModel" "readMany" "I") (by decide +kernel)) (fun _ h9 => h9) rfl dX9_readText_177 ?_
                refine lv_iconst (v := 1) hx hb dX9_readText_180 (by decide) ?_
                refine lv_icmp_le (tgt := 265) hx hb dX9_readText_181 (by decide) (fun c181 => ?_) (fun c181 => ?_)
                · have h := h.1 c181
                  refine lv_aload_n hx hb dX9_readText_265 rfl (lv_at hl 0 rfl) ?_
                  refine lv_aload_n hx hb dX9_readText_266 rfl (lv_at hl 0 rfl) ?_
                  refine va_get (D := D) (ci := 9) (v := .int v_at_57) (C := RX9) (T := TX9) (N := 33) hx hb hts inw_X9_readText_X9 hown hK.1 hP 0 rfl rfl 12 (by decide) (hts (.fieldLink RX9 83 "PursesShareModel" "at" "I") (by decide +kernel)) (fun _ h9 => h9) rfl dX9_readText_267 ?_
                  refine va_put (D := D) (ci := 9) (v := .int v_at_57) (ty := .int) (C := RX9) (T := TX9) (N := 33) hx hb hts inw_X9_readText_X9 tyX9 tyX9_ok nmX9 hown hK.1 hP hD hS 0 rfl rfl 13 (by decide) (hts (.fieldLink RX9 80 "PursesShareModel" "faultAt" "I") (by decide +kernel)) (fun _ h9 => h9) rfl (by decide +kernel) rfl rfl (Nat.le_of_ble_eq_true rfl) dX9_readText_270 (fun H locs hP hD hS => ?_)
                  have hP : va_P D vwCl (cw_X9_readText cI cZ o o_readPurses o_readDay o_purses o_daily o_text o_row o_tried o_days o_order o_bestOrder o_seenHad o_seenShared o_isKept o_keptPurses o_keptRow o_keptHad o_keptShared o_keptRest v_readLaw_57 v_readMany_57 v_readMeetings_57 v_law v_many v_meetings v_length v_at_57 v_at_57 v_one v_other v_made v_leads v_rings v_seen a_readPurses_57 a_readDay_57 a_text) H := hP
                  have hD : va_D A (cw_X9_readText cI cZ o o_readPurses o_readDay o_purses o_daily o_text o_row o_tried o_days o_order o_bestOrder o_seenHad o_seenShared o_isKept o_keptPurses o_keptRow o_keptHad o_keptShared o_keptRest v_readLaw_57 v_readMany_57 v_readMeetings_57 v_law v_many v_meetings v_length v_at_57 v_at_57 v_one v_other v_made v_leads v_rings v_seen a_readPurses_57 a_readDay_57 a_text) := hD
                  refine lv_goto (tgt := 57) hx hb dX9_readText_273 (by decide) ?_
                  exact h H locs ls (lv_sub hl [0] rfl) hP hD hS
                · have h := h.2 c181
                  refine lv_aload_n hx hb dX9_readText_184 rfl (lv_at hl 0 rfl) ?_
                  refine va_get (D := D) (ci := 9) (v := .int v_readMeetings_57) (C := RX9) (T := TX9) (N := 33) hx hb hts inw_X9_readText_X9 hown hK.1 hP 0 rfl rfl 4 (by decide) (hts (.fieldLink RX9 89 "PursesShareModel" "readMeetings" "I") (by decide +kernel)) (fun _ h9 => h9) rfl dX9_readText_185 ?_
                  refine lv_bipush (v := 16) hx hb dX9_readText_188 (by decide) ?_
                  refine lv_icmp_ge (tgt := 265) hx hb dX9_readText_190 (by decide) (fun c190 => ?_) (fun c190 => ?_)
                  · have h := h.1 c190
                    refine lv_aload_n hx hb dX9_readText_265 rfl (lv_at hl 0 rfl) ?_
                    refine lv_aload_n hx hb dX9_readText_266 rfl (lv_at hl 0 rfl) ?_
                    refine va_get (D := D) (ci := 9) (v := .int v_at_57) (C := RX9) (T := TX9) (N := 33) hx hb hts inw_X9_readText_X9 hown hK.1 hP 0 rfl rfl 12 (by decide) (hts (.fieldLink RX9 83 "PursesShareModel" "at" "I") (by decide +kernel)) (fun _ h9 => h9) rfl dX9_readText_267 ?_
                    refine va_put (D := D) (ci := 9) (v := .int v_at_57) (ty := .int) (C := RX9) (T := TX9) (N := 33) hx hb hts inw_X9_readText_X9 tyX9 tyX9_ok nmX9 hown hK.1 hP hD hS 0 rfl rfl 13 (by decide) (hts (.fieldLink RX9 80 "PursesShareModel" "faultAt" "I") (by decide +kernel)) (fun _ h9 => h9) rfl (by decide +kernel) rfl rfl (Nat.le_of_ble_eq_true rfl) dX9_readText_270 (fun H locs hP hD hS => ?_)
                    have hP : va_P D vwCl (cw_X9_readText cI cZ o o_readPurses o_readDay o_purses o_daily o_text o_row o_tried o_days o_order o_bestOrder o_seenHad o_seenShared o_isKept o_keptPurses o_keptRow o_keptHad o_keptShared o_keptRest v_readLaw_57 v_readMany_57 v_readMeetings_57 v_law v_many v_meetings v_length v_at_57 v_at_57 v_one v_other v_made v_leads v_rings v_seen a_readPurses_57 a_readDay_57 a_text) H := hP
                    have hD : va_D A (cw_X9_readText cI cZ o o_readPurses o_readDay o_purses o_daily o_text o_row o_tried o_days o_order o_bestOrder o_seenHad o_seenShared o_isKept o_keptPurses o_keptRow o_keptHad o_keptShared o_keptRest v_readLaw_57 v_readMany_57 v_readMeetings_57 v_law v_many v_meetings v_length v_at_57 v_at_57 v_one v_other v_made v_leads v_rings v_seen a_readPurses_57 a_readDay_57 a_text) := hD
                    refine lv_goto (tgt := 57) hx hb dX9_readText_273 (by decide) ?_
                    exact h H locs ls (lv_sub hl [0] rfl) hP hD hS
                  · have h := h.2 c190
                    refine lv_aload_n hx hb dX9_readText_193 rfl (lv_at hl 0 rfl) ?_
                    refine lv_dup hx hb dX9_readText_194 rfl ?_
                    refine va_get (D := D) (ci := 9) (v := .int v_at_57) (C := RX9) (T := TX9) (N := 33) hx hb hts inw_X9_readText_X9 hown hK.1 hP 0 rfl rfl 12 (by decide) (hts (.fieldLink RX9 83 "PursesShareModel" "at" "I") (by decide +kernel)) (fun _ h9 => h9) rfl dX9_readText_195 ?_
                    refine lv_iconst (v := 1) hx hb dX9_readText_198 (by decide) ?_
                    refine lv_iadd hx hb dX9_readText_199 ?_
                    refine va_put (D := D) (ci := 9) (v := .int (v_at_57 + (1 : Int32))) (ty := .int) (C := RX9) (T := TX9) (N := 33) hx hb hts inw_X9_readText_X9 tyX9 tyX9_ok nmX9 hown hK.1 hP hD hS 0 rfl rfl 12 (by decide) (hts (.fieldLink RX9 83 "PursesShareModel" "at" "I") (by decide +kernel)) (fun _ h9 => h9) rfl (by decide +kernel) rfl rfl (Nat.le_of_ble_eq_true rfl) dX9_readText_200 (fun H locs hP hD hS => ?_)
                    have hP : va_P D vwCl (cw_X9_readText cI cZ o o_readPurses o_readDay o_purses o_daily o_text o_row o_tried o_days o_order o_bestOrder o_seenHad o_seenShared o_isKept o_keptPurses o_keptRow o_keptHad o_keptShared o_keptRest v_readLaw_57 v_readMany_57 v_readMeetings_57 v_law v_many v_meetings v_length (v_at_57 + (1 : Int32)) v_faultAt_57 v_one v_other v_made v_leads v_rings v_seen a_readPurses_57 a_readDay_57 a_text) H := hP
                    have hD : va_D A (cw_X9_readText cI cZ o o_readPurses o_readDay o_purses o_daily o_text o_row o_tried o_days o_order o_bestOrder o_seenHad o_seenShared o_isKept o_keptPurses o_keptRow o_keptHad o_keptShared o_keptRest v_readLaw_57 v_readMany_57 v_readMeetings_57 v_law v_many v_meetings v_length (v_at_57 + (1 : Int32)) v_faultAt_57 v_one v_other v_made v_leads v_rings v_seen a_readPurses_57 a_readDay_57 a_text) := hD
                    refine lv_aload_n hx hb dX9_readText_203 rfl (lv_at hl 0 rfl) ?_
                    refine lv_aload_n hx hb dX9_readText_204 rfl (lv_at hl 0 rfl) ?_
                    refine va_get (D := D) (ci := 9) (v := .int v_readMany_57) (C := RX9) (T := TX9) (N := 33) hx hb hts inw_X9_readText_X9 hown hK.1 hP 0 rfl rfl 3 (by decide) (hts (.fieldLink RX9 86 "PursesShareModel" "readMany" "I") (by decide +kernel)) (fun _ h9 => h9) rfl dX9_readText_205 ?_
                    refine lv_iconst (v := 1) hx hb dX9_readText_208 (by decide) ?_
                    refine lv_isub hx hb dX9_readText_209 ?_
                    refine lv_bipush (v := -9) hx hb dX9_readText_210 (by decide) ?_
                    refine call_i2 (va_runV (As := [.int (v_readMany_57 - (1 : Int32)), .int (-9 : Int32)]) (rest := []) ⟨hx, hb, hml, hown, hts⟩ (c_X9_figure l D cI cZ o o_readPurses o_readDay o_purses o_daily o_text o_row o_tried o_days o_order o_bestOrder o_seenHad o_seenShared o_isKept o_keptPurses o_keptRow o_keptHad o_keptShared o_keptRest (Array.size H) (v_readMany_57 - (1 : Int32)) (-9 : Int32) v_readLaw_57 v_readMany_57 v_readMeetings_57 v_law v_many v_meetings v_length (v_at_57 + (1 : Int32)) v_faultAt_57 v_one v_other v_made v_leads v_rings v_seen a_text _ h) (cwV 2 hts gX9_readText_X9_figure rfl rfl rfl (by decide +kernel) ⟨Nat.le_of_ble_eq_true rfl, Nat.le_of_ble_eq_true rfl⟩) (preV_of hP hD hK [0, 3] rfl rfl 0 9 rfl rfl rfl) rfl rfl hl.1 rfl (lv_room (Nat.le_of_ble_eq_true rfl)) dX9_readText_212 ⟨Nat.zero_le _, Nat.zero_le _⟩) hP hD hS hA [0, 3] rfl (fun v_at_212 v_faultAt_212 => (cw_X9_readText cI cZ o o_readPurses o_readDay o_purses o_daily o_text o_row o_tried o_days o_order o_bestOrder o_seenHad o_seenShared o_isKept o_keptPurses o_keptRow o_keptHad o_keptShared o_keptRest v_readLaw_57 v_readMany_57 v_readMeetings_57 v_law v_many v_meetings v_length v_at_212 v_faultAt_212 v_one v_other v_made v_leads v_rings v_seen a_readPurses_57 a_readDay_57 a_text)) (fun _ _ => rfl) (fun _ _ => rfl) (fun r212 v_at_212 v_faultAt_212 H locs h hP hD hS => ?_)
                    refine lv_istore_n (lv' := [(1, .int r212), (0, .ref o)]) hx hb dX9_readText_215 rfl hl (by decide) rfl (fun ls hl => ?_)
                    refine lv_aload_n hx hb dX9_readText_216 rfl (lv_at hl 1 rfl) ?_
                    refine va_get (D := D) (ci := 9) (v := .ref o_readDay) (C := RX9) (T := TX9) (N := 33) hx hb hts inw_X9_readText_X9 hown hK.1 hP 0 rfl rfl 1 (by decide) (hts (.fieldLink RX9 13 "PursesShareModel" "readDay" "[I") (by decide +kernel)) (fun _ h9 => h9) rfl dX9_readText_217 ?_
                    refine lv_iconst (v := 2) hx hb dX9_readText_220 (by decide) ?_
                    refine lv_aload_n hx hb dX9_readText_221 rfl (lv_at hl 1 rfl) ?_
                    refine va_get (D := D) (ci := 9) (v := .int v_readMeetings_57) (C := RX9) (T := TX9) (N := 33) hx hb hts inw_X9_readText_X9 hown hK.1 hP 0 rfl rfl 4 (by decide) (hts (.fieldLink RX9 89 "PursesShareModel" "readMeetings" "I") (by decide +kernel)) (fun _ h9 => h9) rfl dX9_readText_222 ?_
                    refine lv_imul hx hb dX9_readText_225 ?_
                    refine lv_iload_n hx hb dX9_readText_226 rfl (lv_at hl 0 rfl) ?_
                    have h0 := h.1
                    have h := h.2
                    refine va_iast hx hb hK.1 hP hD hS 2 0 rfl rfl h0 dX9_readText_227 (fun H locs hP hD hS => ?_)
                    have hP : va_P D vwCl (cw_X9_readText cI cZ o o_readPurses o_readDay o_purses o_daily o_text o_row o_tried o_days o_order o_bestOrder o_seenHad o_seenShared o_isKept o_keptPurses o_keptRow o_keptHad o_keptShared o_keptRest v_readLaw_57 v_readMany_57 v_readMeetings_57 v_law v_many v_meetings v_length v_at_212 v_faultAt_212 v_one v_other v_made v_leads v_rings v_seen a_readPurses_57 (upd a_readDay_57 (Int32.toNatClampNeg ((2 : Int32) * v_readMeetings_57)) r212) a_text) H := hP
                    have hD : va_D A (cw_X9_readText cI cZ o o_readPurses o_readDay o_purses o_daily o_text o_row o_tried o_days o_order o_bestOrder o_seenHad o_seenShared o_isKept o_keptPurses o_keptRow o_keptHad o_keptShared o_keptRest v_readLaw_57 v_readMany_57 v_readMeetings_57 v_law v_many v_meetings v_length v_at_212 v_faultAt_212 v_one v_other v_made v_leads v_rings v_seen a_readPurses_57 (upd a_readDay_57 (Int32.toNatClampNeg ((2 : Int32) * v_readMeetings_57)) r212) a_text) := hD
                    refine lv_aload_n hx hb dX9_readText_228 rfl (lv_at hl 1 rfl) ?_
                    refine va_get (D := D) (ci := 9) (v := .ref o_readDay) (C := RX9) (T := TX9) (N := 33) hx hb hts inw_X9_readText_X9 hown hK.1 hP 0 rfl rfl 1 (by decide) (hts (.fieldLink RX9 13 "PursesShareModel" "readDay" "[I") (by decide +kernel)) (fun _ h9 => h9) rfl dX9_readText_229 ?_
                    refine lv_iconst (v := 2) hx hb dX9_readText_232 (by decide) ?_
                    refine lv_aload_n hx hb dX9_readText_233 rfl (lv_at hl 1 rfl) ?_
                    refine va_get (D := D) (ci := 9) (v := .int v_readMeetings_57) (C := RX9) (T := TX9) (N := 33) hx hb hts inw_X9_readText_X9 hown hK.1 hP 0 rfl rfl 4 (by decide) (hts (.fieldLink RX9 89 "PursesShareModel" "readMeetings" "I") (by decide +kernel)) (fun _ h9 => h9) rfl dX9_readText_234 ?_
                    refine lv_imul hx hb dX9_readText_237 ?_
                    refine lv_iconst (v := 1) hx hb dX9_readText_238 (by decide) ?_
                    refine lv_iadd hx hb dX9_readText_239 ?_
                    refine lv_aload_n hx hb dX9_readText_240 rfl (lv_at hl 1 rfl) ?_
                    refine lv_aload_n hx hb dX9_readText_241 rfl (lv_at hl 1 rfl) ?_
                    refine va_get (D := D) (ci := 9) (v := .int v_readMany_57) (C := RX9) (T := TX9) (N := 33) hx hb hts inw_X9_readText_X9 hown hK.1 hP 0 rfl rfl 3 (by decide) (hts (.fieldLink RX9 86 "PursesShareModel" "readMany" "I") (by decide +kernel)) (fun _ h9 => h9) rfl dX9_readText_242 ?_
                    refine lv_iconst (v := 1) hx hb dX9_readText_245 (by decide) ?_
                    refine lv_isub hx hb dX9_readText_246 ?_
                    refine lv_iload_n hx hb dX9_readText_247 rfl (lv_at hl 0 rfl) ?_
                    refine call_i2 (va_runV (As := [.int (v_readMany_57 - (1 : Int32)), .int r212]) (rest := [.int (((2 : Int32) * v_readMeetings_57) + (1 : Int32)), .ref o_readDay]) ⟨hx, hb, hml, hown, hts⟩ (c_X9_figure l D cI cZ o o_readPurses o_readDay o_purses o_daily o_text o_row o_tried o_days o_order o_bestOrder o_seenHad o_seenShared o_isKept o_keptPurses o_keptRow o_keptHad o_keptShared o_keptRest (Array.size H) (v_readMany_57 - (1 : Int32)) r212 v_readLaw_57 v_readMany_57 v_readMeetings_57 v_law v_many v_meetings v_length v_at_212 v_faultAt_212 v_one v_other v_made v_leads v_rings v_seen a_text _ h) (cwV 2 hts gX9_readText_X9_figure rfl rfl rfl (by decide +kernel) ⟨Nat.le_of_ble_eq_true rfl, Nat.le_of_ble_eq_true rfl⟩) (preV_of hP hD hK [0, 3] rfl rfl 0 9 rfl rfl rfl) rfl rfl hl.1 rfl (lv_room (Nat.le_of_ble_eq_true rfl)) dX9_readText_248 ⟨Nat.zero_le _, Nat.zero_le _⟩) hP hD hS hA [0, 3] rfl (fun v_at_248 v_faultAt_248 => (cw_X9_readText cI cZ o o_readPurses o_readDay o_purses o_daily o_text o_row o_tried o_days o_order o_bestOrder o_seenHad o_seenShared o_isKept o_keptPurses o_keptRow o_keptHad o_keptShared o_keptRest v_readLaw_57 v_readMany_57 v_readMeetings_57 v_law v_many v_meetings v_length v_at_248 v_faultAt_248 v_one v_other v_made v_leads v_rings v_seen a_readPurses_57 (upd a_readDay_57 (Int32.toNatClampNeg ((2 : Int32) * v_readMeetings_57)) r212) a_text)) (fun _ _ => rfl) (fun _ _ => rfl) (fun r248 v_at_248 v_faultAt_248 H locs h hP hD hS => ?_)
                    have h0 := h.1
                    have h := h.2
                    refine va_iast hx hb hK.1 hP hD hS 2 0 rfl rfl h0 dX9_readText_251 (fun H locs hP hD hS => ?_)
                    have hP : va_P D vwCl (cw_X9_readText cI cZ o o_readPurses o_readDay o_purses o_daily o_text o_row o_tried o_days o_order o_bestOrder o_seenHad o_seenShared o_isKept o_keptPurses o_keptRow o_keptHad o_keptShared o_keptRest v_readLaw_57 v_readMany_57 v_readMeetings_57 v_law v_many v_meetings v_length v_at_248 v_faultAt_248 v_one v_other v_made v_leads v_rings v_seen a_readPurses_57 (upd (upd a_readDay_57 (Int32.toNatClampNeg ((2 : Int32) * v_readMeetings_57)) r212) (Int32.toNatClampNeg (((2 : Int32) * v_readMeetings_57) + (1 : Int32))) r248) a_text) H := hP
                    have hD : va_D A (cw_X9_readText cI cZ o o_readPurses o_readDay o_purses o_daily o_text o_row o_tried o_days o_order o_bestOrder o_seenHad o_seenShared o_isKept o_keptPurses o_keptRow o_keptHad o_keptShared o_keptRest v_readLaw_57 v_readMany_57 v_readMeetings_57 v_law v_many v_meetings v_length v_at_248 v_faultAt_248 v_one v_other v_made v_leads v_rings v_seen a_readPurses_57 (upd (upd a_readDay_57 (Int32.toNatClampNeg ((2 : Int32) * v_readMeetings_57)) r212) (Int32.toNatClampNeg (((2 : Int32) * v_readMeetings_57) + (1 : Int32))) r248) a_text) := hD
                    refine lv_aload_n hx hb dX9_readText_252 rfl (lv_at hl 1 rfl) ?_
                    refine lv_dup hx hb dX9_readText_253 rfl ?_
                    refine va_get (D := D) (ci := 9) (v := .int v_readMeetings_57) (C := RX9) (T := TX9) (N := 33) hx hb hts inw_X9_readText_X9 hown hK.1 hP 0 rfl rfl 4 (by decide) (hts (.fieldLink RX9 89 "PursesShareModel" "readMeetings" "I") (by decide +kernel)) (fun _ h9 => h9) rfl dX9_readText_254 ?_
                    refine lv_iconst (v := 1) hx hb dX9_readText_257 (by decide) ?_
                    refine lv_iadd hx hb dX9_readText_258 ?_
                    refine va_put (D := D) (ci := 9) (v := .int (v_readMeetings_57 + (1 : Int32))) (ty := .int) (C := RX9) (T := TX9) (N := 33) hx hb hts inw_X9_readText_X9 tyX9 tyX9_ok nmX9 hown hK.1 hP hD hS 0 rfl rfl 4 (by decide) (hts (.fieldLink RX9 89 "PursesShareModel" "readMeetings" "I") (by decide +kernel)) (fun _ h9 => h9) rfl (by decide +kernel) rfl rfl (Nat.le_of_ble_eq_true rfl) dX9_readText_259 (fun H locs hP hD hS => ?_)
                    have hP : va_P D vwCl (cw_X9_readText cI cZ o o_readPurses o_readDay o_purses o_daily o_text o_row o_tried o_days o_order o_bestOrder o_seenHad o_seenShared o_isKept o_keptPurses o_keptRow o_keptHad o_keptShared o_keptRest v_readLaw_57 v_readMany_57 (v_readMeetings_57 + (1 : Int32)) v_law v_many v_meetings v_length v_at_248 v_faultAt_248 v_one v_other v_made v_leads v_rings v_seen a_readPurses_57 (upd (upd a_readDay_57 (Int32.toNatClampNeg ((2 : Int32) * v_readMeetings_57)) r212) (Int32.toNatClampNeg (((2 : Int32) * v_readMeetings_57) + (1 : Int32))) r248) a_text) H := hP
                    have hD : va_D A (cw_X9_readText cI cZ o o_readPurses o_readDay o_purses o_daily o_text o_row o_tried o_days o_order o_bestOrder o_seenHad o_seenShared o_isKept o_keptPurses o_keptRow o_keptHad o_keptShared o_keptRest v_readLaw_57 v_readMany_57 (v_readMeetings_57 + (1 : Int32)) v_law v_many v_meetings v_length v_at_248 v_faultAt_248 v_one v_other v_made v_leads v_rings v_seen a_readPurses_57 (upd (upd a_readDay_57 (Int32.toNatClampNeg ((2 : Int32) * v_readMeetings_57)) r212) (Int32.toNatClampNeg (((2 : Int32) * v_readMeetings_57) + (1 : Int32))) r248) a_text) := hD
                    refine lv_goto (tgt := 57) hx hb dX9_readText_262 (by decide) ?_
                    exact h H locs ls (lv_sub hl [1] rfl) hP hD hS
            · have h := h.2 c97
              refine lv_aload_n hx hb dX9_readText_100 rfl (lv_at hl 0 rfl) ?_
              refine lv_dup hx hb dX9_readText_101 rfl ?_
              refine va_get (D := D) (ci := 9) (v := .int v_at_57) (C := RX9) (T := TX9) (N := 33) hx hb hts inw_X9_readText_X9 hown hK.1 hP 0 rfl rfl 12 (by decide) (hts (.fieldLink RX9 83 "PursesShareModel" "at" "I") (by decide +kernel)) (fun _ h9 => h9) rfl dX9_readText_102 ?_
              refine lv_iconst (v := 1) hx hb dX9_readText_105 (by decide) ?_
              refine lv_iadd hx hb dX9_readText_106 ?_
              refine va_put (D := D) (ci := 9) (v := .int (v_at_57 + (1 : Int32))) (ty := .int) (C := RX9) (T := TX9) (N := 33) hx hb hts inw_X9_readText_X9 tyX9 tyX9_ok nmX9 hown hK.1 hP hD hS 0 rfl rfl 12 (by decide) (hts (.fieldLink RX9 83 "PursesShareModel" "at" "I") (by decide +kernel)) (fun _ h9 => h9) rfl (by decide +kernel) rfl rfl (Nat.le_of_ble_eq_true rfl) dX9_readText_107 (fun H locs hP hD hS => ?_)
              have hP : va_P D vwCl (cw_X9_readText cI cZ o o_readPurses o_readDay o_purses o_daily o_text o_row o_tried o_days o_order o_bestOrder o_seenHad o_seenShared o_isKept o_keptPurses o_keptRow o_keptHad o_keptShared o_keptRest v_readLaw_57 v_readMany_57 v_readMeetings_57 v_law v_many v_meetings v_length (v_at_57 + (1 : Int32)) v_faultAt_57 v_one v_other v_made v_leads v_rings v_seen a_readPurses_57 a_readDay_57 a_text) H := hP
              have hD : va_D A (cw_X9_readText cI cZ o o_readPurses o_readDay o_purses o_daily o_text o_row o_tried o_days o_order o_bestOrder o_seenHad o_seenShared o_isKept o_keptPurses o_keptRow o_keptHad o_keptShared o_keptRest v_readLaw_57 v_readMany_57 v_readMeetings_57 v_law v_many v_meetings v_length (v_at_57 + (1 : Int32)) v_faultAt_57 v_one v_other v_made v_leads v_rings v_seen a_readPurses_57 a_readDay_57 a_text) := hD
              refine lv_iconst (v := 0) hx hb dX9_readText_110 (by decide) ?_
              refine lv_istore_n (lv' := [(1, .int (0 : Int32)), (0, .ref o)]) hx hb dX9_readText_111 rfl hl (by decide) rfl (fun ls hl => ?_)
              refine lv_iconst (v := 0) hx hb dX9_readText_112 (by decide) ?_
              refine lv_istore_n (lv' := [(2, .int (0 : Int32)), (1, .int (0 : Int32)), (0, .ref o)]) hx hb dX9_readText_113 rfl hl (by decide) rfl (fun ls hl => ?_)
              refine h (fun x2_114 x1_114 v_at_114 v_faultAt_114 => ∀ (H : Heap) (locs : List Loc) (ls : Array Slot), lv_has ls 3 [(0, .ref o), (1, .int x1_114), (2, .int x2_114)] → va_P D vwCl (cw_X9_readText cI cZ o o_readPurses o_readDay o_purses o_daily o_text o_row o_tried o_days o_order o_bestOrder o_seenHad o_seenShared o_isKept o_keptPurses o_keptRow o_keptHad o_keptShared o_keptRest v_readLaw_57 v_readMany_57 v_readMeetings_57 v_law v_many v_meetings v_length v_at_114 v_faultAt_114 v_one v_other v_made v_leads v_rings v_seen a_readPurses_57 a_readDay_57 a_text) H → va_D A (cw_X9_readText cI cZ o o_readPurses o_readDay o_purses o_daily o_text o_row o_tried o_days o_order o_bestOrder o_seenHad o_seenShared o_isKept o_keptPurses o_keptRow o_keptHad o_keptShared o_keptRest v_readLaw_57 v_readMany_57 v_readMeetings_57 v_law v_many v_meetings v_length v_at_114 v_faultAt_114 v_one v_other v_made v_leads v_rings v_seen a_readPurses_57 a_readDay_57 a_text) → va_S A s.heap H locs → W p l e rm_X9_readText s m args below meth c H locs 0 0 Q (F0 m 114 ls [])) ?_ H locs ls (lv_sub hl [2, 1, 0] rfl) hP hD hS
              intro x2_114 x1_114 v_at_114 v_faultAt_114 h H locs ls hl hP hD hS
              refine lv_iload_n hx hb dX9_readText_114 rfl (lv_at hl 2 rfl) ?_
              refine lv_iconst (v := 4) hx hb dX9_readText_115 (by decide) ?_
              refine lv_icmp_ge (tgt := 139) hx hb dX9_readText_116 (by decide) (fun c116 => ?_) (fun c116 => ?_)
              · have h := h.1 c116
                refine lv_aload_n hx hb dX9_readText_139 rfl (lv_at hl 0 rfl) ?_
                refine va_get (D := D) (ci := 9) (v := .ref o_readPurses) (C := RX9) (T := TX9) (N := 33) hx hb hts inw_X9_readText_X9 hown hK.1 hP 0 rfl rfl 0 (by decide) (hts (.fieldLink RX9 7 "PursesShareModel" "readPurses" "[I") (by decide +kernel)) (fun _ h9 => h9) rfl dX9_readText_140 ?_
                refine lv_aload_n hx hb dX9_readText_143 rfl (lv_at hl 0 rfl) ?_
                refine va_get (D := D) (ci := 9) (v := .int v_readMany_57) (C := RX9) (T := TX9) (N := 33) hx hb hts inw_X9_readText_X9 hown hK.1 hP 0 rfl rfl 3 (by decide) (hts (.fieldLink RX9 86 "PursesShareModel" "readMany" "I") (by decide +kernel)) (fun _ h9 => h9) rfl dX9_readText_144 ?_
                refine lv_iload_n hx hb dX9_readText_147 rfl (lv_at hl 1 rfl) ?_
                have h0 := h.1
                have h := h.2
                refine va_iast hx hb hK.1 hP hD hS 1 0 rfl rfl h0 dX9_readText_148 (fun H locs hP hD hS => ?_)
                have hP : va_P D vwCl (cw_X9_readText cI cZ o o_readPurses o_readDay o_purses o_daily o_text o_row o_tried o_days o_order o_bestOrder o_seenHad o_seenShared o_isKept o_keptPurses o_keptRow o_keptHad o_keptShared o_keptRest v_readLaw_57 v_readMany_57 v_readMeetings_57 v_law v_many v_meetings v_length v_at_114 v_faultAt_114 v_one v_other v_made v_leads v_rings v_seen (upd a_readPurses_57 (Int32.toNatClampNeg v_readMany_57) x1_114) a_readDay_57 a_text) H := hP
                have hD : va_D A (cw_X9_readText cI cZ o o_readPurses o_readDay o_purses o_daily o_text o_row o_tried o_days o_order o_bestOrder o_seenHad o_seenShared o_isKept o_keptPurses o_keptRow o_keptHad o_keptShared o_keptRest v_readLaw_57 v_readMany_57 v_readMeetings_57 v_law v_many v_meetings v_length v_at_114 v_faultAt_114 v_one v_other v_made v_leads v_rings v_seen (upd a_readPurses_57 (Int32.toNatClampNeg v_readMany_57) x1_114) a_readDay_57 a_text) := hD
                refine lv_aload_n hx hb dX9_readText_149 rfl (lv_at hl 0 rfl) ?_
                refine lv_dup hx hb dX9_readText_150 rfl ?_
                refine va_get (D := D) (ci := 9) (v := .int v_readMany_57) (C := RX9) (T := TX9) (N := 33) hx hb hts inw_X9_readText_X9 hown hK.1 hP 0 rfl rfl 3 (by decide) (hts (.fieldLink RX9 86 "PursesShareModel" "readMany" "I") (by decide +kernel)) (fun _ h9 => h9) rfl dX9_readText_151 ?_
                refine lv_iconst (v := 1) hx hb dX9_readText_154 (by decide) ?_
                refine lv_iadd hx hb dX9_readText_155 ?_
                refine va_put (D := D) (ci := 9) (v := .int (v_readMany_57 + (1 : Int32))) (ty := .int) (C := RX9) (T := TX9) (N := 33) hx hb hts inw_X9_readText_X9 tyX9 tyX9_ok nmX9 hown hK.1 hP hD hS 0 rfl rfl 3 (by decide) (hts (.fieldLink RX9 86 "PursesShareModel" "readMany" "I") (by decide +kernel)) (fun _ h9 => h9) rfl (by decide +kernel) rfl rfl (Nat.le_of_ble_eq_true rfl) dX9_readText_156 (fun H locs hP hD hS => ?_)
                have hP : va_P D vwCl (cw_X9_readText cI cZ o o_readPurses o_readDay o_purses o_daily o_text o_row o_tried o_days o_order o_bestOrder o_seenHad o_seenShared o_isKept o_keptPurses o_keptRow o_keptHad o_keptShared o_keptRest v_readLaw_57 (v_readMany_57 + (1 : Int32)) v_readMeetings_57 v_law v_many v_meetings v_length v_at_114 v_faultAt_114 v_one v_other v_made v_leads v_rings v_seen (upd a_readPurses_57 (Int32.toNatClampNeg v_readMany_57) x1_114) a_readDay_57 a_text) H := hP
                have hD : va_D A (cw_X9_readText cI cZ o o_readPurses o_readDay o_purses o_daily o_text o_row o_tried o_days o_order o_bestOrder o_seenHad o_seenShared o_isKept o_keptPurses o_keptRow o_keptHad o_keptShared o_keptRest v_readLaw_57 (v_readMany_57 + (1 : Int32)) v_readMeetings_57 v_law v_many v_meetings v_length v_at_114 v_faultAt_114 v_one v_other v_made v_leads v_rings v_seen (upd a_readPurses_57 (Int32.toNatClampNeg v_readMany_57) x1_114) a_readDay_57 a_text) := hD
                refine lv_goto (tgt := 57) hx hb dX9_readText_159 (by decide) ?_
                exact h H locs ls (lv_sub hl [0] rfl) hP hD hS
              · have h := h.2 c116
                refine lv_bipush (v := 10) hx hb dX9_readText_119 (by decide) ?_
                refine lv_iload_n hx hb dX9_readText_121 rfl (lv_at hl 1 rfl) ?_
                refine lv_imul hx hb dX9_readText_122 ?_
                refine lv_aload_n hx hb dX9_readText_123 rfl (lv_at hl 0 rfl) ?_
                refine lv_bipush (v := 9) hx hb dX9_readText_124 (by decide) ?_
                refine lv_bipush (v := -9) hx hb dX9_readText_126 (by decide) ?_
                refine call_i2 (va_runV (As := [.int (9 : Int32), .int (-9 : Int32)]) (rest := [.int ((10 : Int32) * x1_114)]) ⟨hx, hb, hml, hown, hts⟩ (c_X9_figure l D cI cZ o o_readPurses o_readDay o_purses o_daily o_text o_row o_tried o_days o_order o_bestOrder o_seenHad o_seenShared o_isKept o_keptPurses o_keptRow o_keptHad o_keptShared o_keptRest (Array.size H) (9 : Int32) (-9 : Int32) v_readLaw_57 v_readMany_57 v_readMeetings_57 v_law v_many v_meetings v_length v_at_114 v_faultAt_114 v_one v_other v_made v_leads v_rings v_seen a_text _ h) (cwV 2 hts gX9_readText_X9_figure rfl rfl rfl (by decide +kernel) ⟨Nat.le_of_ble_eq_true rfl, Nat.le_of_ble_eq_true rfl⟩) (preV_of hP hD hK [0, 3] rfl rfl 0 9 rfl rfl rfl) rfl rfl hl.1 rfl (lv_room (Nat.le_of_ble_eq_true rfl)) dX9_readText_128 ⟨Nat.zero_le _, Nat.zero_le _⟩) hP hD hS hA [0, 3] rfl (fun v_at_128 v_faultAt_128 => (cw_X9_readText cI cZ o o_readPurses o_readDay o_purses o_daily o_text o_row o_tried o_days o_order o_bestOrder o_seenHad o_seenShared o_isKept o_keptPurses o_keptRow o_keptHad o_keptShared o_keptRest v_readLaw_57 v_readMany_57 v_readMeetings_57 v_law v_many v_meetings v_length v_at_128 v_faultAt_128 v_one v_other v_made v_leads v_rings v_seen a_readPurses_57 a_readDay_57 a_text)) (fun _ _ => rfl) (fun _ _ => rfl) (fun r128 v_at_128 v_faultAt_128 H locs h hP hD hS => ?_)
                refine lv_iadd hx hb dX9_readText_131 ?_
                refine lv_istore_n (lv' := [(1, .int (((10 : Int32) * x1_114) + r128)), (0, .ref o), (2, .int x2_114)]) hx hb dX9_readText_132 rfl hl (by decide) rfl (fun ls hl => ?_)
                refine lv_iinc (v := (x2_114 + 1)) (lv' := [(2, .int (x2_114 + 1)), (1, .int (((10 : Int32) * x1_114) + r128)), (0, .ref o)]) hx hb dX9_readText_133 hl (k := 2) rfl rfl (by decide) rfl (fun ls hl => ?_)
                refine lv_goto (tgt := 114) hx hb dX9_readText_136 (by decide) ?_
                exact h H locs ls (lv_sub hl [2, 1, 0] rfl) hP hD hS
    · have h := h.2 c36
      refine lv_iconst (v := 0) hx hb dX9_readText_39 (by decide) ?_
      exact ret_i7 hx hb hr hlocks hQ hS v_readLaw (0 : Int32) (0 : Int32) (0 : Int32) (-9 : Int32) a_readPurses a_readDay hP h dX9_readText_40
abbrev rm_X9_fault : Room := { frames := 3, cells := 0, slots := 0, locals := 70 }
abbrev cw_X9_fault (cI cZ : ClassId) (o o_readPurses o_readDay o_purses o_daily o_text o_row o_tried o_days o_order o_bestOrder o_seenHad o_seenShared o_isKept o_keptPurses o_keptRow o_keptHad o_keptShared o_keptRest : Nat) (v_readLaw : Int32) (v_readMany : Int32) (v_readMeetings : Int32) (v_law : Int32) (v_many : Int32) (v_meetings : Int32) (v_length : Int32) (v_at : Int32) (v_faultAt : Int32) (v_one : Int32) (v_other : Int32) (v_made : Int32) (v_leads : Int32) (v_rings : Int32) (v_seen : Int32) (a_readPurses : Nat → Int32) (a_readDay : Nat → Int32) (a_text : Nat → Int32) : va_W := [(o, .inr (9, [.ref o_readPurses, .ref o_readDay, .int v_readLaw, .int v_readMany, .int v_readMeetings, .ref o_purses, .ref o_daily, .int v_law, .int v_many, .int v_meetings, .ref o_text, .int v_length, .int v_at, .int v_faultAt, .int v_one, .int v_other, .int v_made, .ref o_row, .ref o_tried, .int v_leads, .int v_rings, .ref o_days, .ref o_order, .ref o_bestOrder, .int v_seen, .ref o_seenHad, .ref o_seenShared, .ref o_isKept, .ref o_keptPurses, .ref o_keptRow, .ref o_keptHad, .ref o_keptShared, .ref o_keptRest])), (o_readPurses, .inl (cI, 8, .inl a_readPurses)), (o_readDay, .inl (cI, 32, .inl a_readDay)), (o_text, .inl (cI, 96, .inl a_text))]
def wp_X9_fault (v_readLaw : Int32) (v_readMany : Int32) (v_readMeetings : Int32) (v_length : Int32) (v_at : Int32) (v_faultAt : Int32) (a_readPurses : Nat → Int32) (a_readDay : Nat → Int32) (a_text : Nat → Int32) (Post : Int32 → (Int32) → (Int32) → (Int32) → (Int32) → (Int32) → (Nat → Int32) → (Nat → Int32) → Prop) : Prop := (wp_X9_readText v_readLaw v_readMany v_readMeetings v_length v_at v_faultAt a_readPurses a_readDay a_text (fun (r1 : Int32) (v_readLaw_1 : Int32) (v_readMany_1 : Int32) (v_readMeetings_1 : Int32) (v_at_1 : Int32) (v_faultAt_1 : Int32) (a_readPurses_1 : Nat → Int32) (a_readDay_1 : Nat → Int32) => (Post r1 v_readLaw_1 v_readMany_1 v_readMeetings_1 v_at_1 v_faultAt_1 a_readPurses_1 a_readDay_1)))
set_option maxHeartbeats 4000000 in
set_option maxRecDepth 100000 in
theorem c_X9_fault (l : Launch) (D : va_G) (cI cZ : ClassId) (o o_readPurses o_readDay o_purses o_daily o_text o_row o_tried o_days o_order o_bestOrder o_seenHad o_seenShared o_isKept o_keptPurses o_keptRow o_keptHad o_keptShared o_keptRest : Nat) (sz : Nat) (v_readLaw : Int32) (v_readMany : Int32) (v_readMeetings : Int32) (v_law : Int32) (v_many : Int32) (v_meetings : Int32) (v_length : Int32) (v_at : Int32) (v_faultAt : Int32) (v_one : Int32) (v_other : Int32) (v_made : Int32) (v_leads : Int32) (v_rings : Int32) (v_seen : Int32) (a_readPurses : Nat → Int32) (a_readDay : Nat → Int32) (a_text : Nat → Int32) (Post : Int32 → (Int32) → (Int32) → (Int32) → (Int32) → (Int32) → (Nat → Int32) → (Nat → Int32) → Prop) (h : wp_X9_fault v_readLaw v_readMany v_readMeetings v_length v_at v_faultAt a_readPurses a_readDay a_text Post) : Met l yX9_fault wsX9_fault rm_X9_fault (cPc D cI cZ [.ref o] (cw_X9_fault cI cZ o o_readPurses o_readDay o_purses o_daily o_text o_row o_tried o_days o_order o_bestOrder o_seenHad o_seenShared o_isKept o_keptPurses o_keptRow o_keptHad o_keptShared o_keptRest v_readLaw v_readMany v_readMeetings v_law v_many v_meetings v_length v_at v_faultAt v_one v_other v_made v_leads v_rings v_seen a_readPurses a_readDay a_text) sz) (cQi7 D Post (fun m_v_readLaw m_v_readMany m_v_readMeetings m_v_at m_v_faultAt m_a_readPurses m_a_readDay => (cw_X9_fault cI cZ o o_readPurses o_readDay o_purses o_daily o_text o_row o_tried o_days o_order o_bestOrder o_seenHad o_seenShared o_isKept o_keptPurses o_keptRow o_keptHad o_keptShared o_keptRest m_v_readLaw m_v_readMany m_v_readMeetings v_law v_many v_meetings v_length m_v_at m_v_faultAt v_one v_other v_made v_leads v_rings v_seen m_a_readPurses m_a_readDay a_text)) (va_A (cw_X9_fault cI cZ o o_readPurses o_readDay o_purses o_daily o_text o_row o_tried o_days o_order o_bestOrder o_seenHad o_seenShared o_isKept o_keptPurses o_keptRow o_keptHad o_keptShared o_keptRest v_readLaw v_readMany v_readMeetings v_law v_many v_meetings v_length v_at v_faultAt v_one v_other v_made v_leads v_rings v_seen a_readPurses a_readDay a_text) sz)) 0 0 (va_A (cw_X9_fault cI cZ o o_readPurses o_readDay o_purses o_daily o_text o_row o_tried o_days o_order o_bestOrder o_seenHad o_seenShared o_isKept o_keptPurses o_keptRow o_keptHad o_keptShared o_keptRest v_readLaw v_readMany v_readMeetings v_law v_many v_meetings v_length v_at v_faultAt v_one v_other v_made v_leads v_rings v_seen a_readPurses a_readDay a_text) sz) := by
  refine ent (cc := cX9_fault) (maxL := 1) (ret := (some .int)) (Qc := fun A => cQi7 D Post (fun m_v_readLaw m_v_readMany m_v_readMeetings m_v_at m_v_faultAt m_a_readPurses m_a_readDay => (cw_X9_fault cI cZ o o_readPurses o_readDay o_purses o_daily o_text o_row o_tried o_days o_order o_bestOrder o_seenHad o_seenShared o_isKept o_keptPurses o_keptRow o_keptHad o_keptShared o_keptRest m_v_readLaw m_v_readMany m_v_readMeetings v_law v_many v_meetings v_length m_v_at m_v_faultAt v_one v_other v_made v_leads v_rings v_seen m_a_readPurses m_a_readDay a_text)) A) (by decide) rfl (Nat.le_of_ble_eq_true rfl) ?_
  intro p e s m args below meth c A ls Q hQ hsz hx hb hml hr hts hown hlocks hnm hK hP hD hA hS hl
  have hl : lv_has ls 1 [(0, .ref o)] := hl
  unfold wp_X9_fault at h
  refine lv_aload_n hx hb dX9_fault_0 rfl (lv_at hl 0 rfl) ?_
  refine call_i7 (va_runV (As := []) (rest := []) ⟨hx, hb, hml, hown, hts⟩ (c_X9_readText l D cI cZ o o_readPurses o_readDay o_purses o_daily o_text o_row o_tried o_days o_order o_bestOrder o_seenHad o_seenShared o_isKept o_keptPurses o_keptRow o_keptHad o_keptShared o_keptRest (Array.size s.heap) v_readLaw v_readMany v_readMeetings v_law v_many v_meetings v_length v_at v_faultAt v_one v_other v_made v_leads v_rings v_seen a_readPurses a_readDay a_text _ h) (cwV 0 hts gX9_fault_X9_readText rfl rfl rfl (by decide +kernel) ⟨Nat.le_of_ble_eq_true rfl, Nat.le_of_ble_eq_true rfl⟩) (preV_of hP hD hK [0, 1, 2, 3] rfl rfl 0 9 rfl rfl rfl) rfl rfl hl.1 rfl (lv_room (Nat.le_of_ble_eq_true rfl)) dX9_fault_1 ⟨Nat.zero_le _, Nat.zero_le _⟩) hP hD hS hA [0, 1, 2, 3] rfl (fun v_readLaw_1 v_readMany_1 v_readMeetings_1 v_at_1 v_faultAt_1 a_readPurses_1 a_readDay_1 => (cw_X9_fault cI cZ o o_readPurses o_readDay o_purses o_daily o_text o_row o_tried o_days o_order o_bestOrder o_seenHad o_seenShared o_isKept o_keptPurses o_keptRow o_keptHad o_keptShared o_keptRest v_readLaw_1 v_readMany_1 v_readMeetings_1 v_law v_many v_meetings v_length v_at_1 v_faultAt_1 v_one v_other v_made v_leads v_rings v_seen a_readPurses_1 a_readDay_1 a_text)) (fun _ _ _ _ _ _ _ => rfl) (fun _ _ _ _ _ _ _ => rfl) (fun r1 v_readLaw_1 v_readMany_1 v_readMeetings_1 v_at_1 v_faultAt_1 a_readPurses_1 a_readDay_1 H locs h hP hD hS => ?_)
  exact ret_i7 hx hb hr hlocks hQ hS v_readLaw_1 v_readMany_1 v_readMeetings_1 v_at_1 v_faultAt_1 a_readPurses_1 a_readDay_1 hP h dX9_fault_4
abbrev rm_X9_town : Room := { frames := 3, cells := 0, slots := 0, locals := 70 }
abbrev cw_X9_town (cI cZ : ClassId) (o o_readPurses o_readDay o_purses o_daily o_text o_row o_tried o_days o_order o_bestOrder o_seenHad o_seenShared o_isKept o_keptPurses o_keptRow o_keptHad o_keptShared o_keptRest : Nat) (v_readLaw : Int32) (v_readMany : Int32) (v_readMeetings : Int32) (v_law : Int32) (v_many : Int32) (v_meetings : Int32) (v_length : Int32) (v_at : Int32) (v_faultAt : Int32) (v_one : Int32) (v_other : Int32) (v_made : Int32) (v_leads : Int32) (v_rings : Int32) (v_seen : Int32) (a_readPurses : Nat → Int32) (a_readDay : Nat → Int32) (a_purses : Nat → Int32) (a_daily : Nat → Int32) (a_text : Nat → Int32) (a_isKept : Nat → Int32) : va_W := [(o, .inr (9, [.ref o_readPurses, .ref o_readDay, .int v_readLaw, .int v_readMany, .int v_readMeetings, .ref o_purses, .ref o_daily, .int v_law, .int v_many, .int v_meetings, .ref o_text, .int v_length, .int v_at, .int v_faultAt, .int v_one, .int v_other, .int v_made, .ref o_row, .ref o_tried, .int v_leads, .int v_rings, .ref o_days, .ref o_order, .ref o_bestOrder, .int v_seen, .ref o_seenHad, .ref o_seenShared, .ref o_isKept, .ref o_keptPurses, .ref o_keptRow, .ref o_keptHad, .ref o_keptShared, .ref o_keptRest])), (o_readPurses, .inl (cI, 8, .inl a_readPurses)), (o_readDay, .inl (cI, 32, .inl a_readDay)), (o_purses, .inl (cI, 8, .inl a_purses)), (o_daily, .inl (cI, 32, .inl a_daily)), (o_text, .inl (cI, 96, .inl a_text)), (o_isKept, .inl (cZ, 2, .inl a_isKept))]
theorem inw_X9_town_X9 : ∀ w ∈ u_ws RX9 TX9 33, w ∈ wsX9_town := by decide +kernel
def wp_X9_town (v_readLaw : Int32) (v_readMany : Int32) (v_readMeetings : Int32) (v_law : Int32) (v_many : Int32) (v_meetings : Int32) (v_length : Int32) (v_at : Int32) (v_faultAt : Int32) (v_made : Int32) (v_seen : Int32) (a_readPurses : Nat → Int32) (a_readDay : Nat → Int32) (a_purses : Nat → Int32) (a_daily : Nat → Int32) (a_text : Nat → Int32) (a_isKept : Nat → Int32) (Post : Int32 → (Int32) → (Int32) → (Int32) → (Int32) → (Int32) → (Int32) → (Int32) → (Int32) → (Int32) → (Int32) → (Nat → Int32) → (Nat → Int32) → (Nat → Int32) → (Nat → Int32) → (Nat → Int32) → Prop) : Prop := (wp_X9_readText v_readLaw v_readMany v_readMeetings v_length v_at v_faultAt a_readPurses a_readDay a_text (fun (r1 : Int32) (v_readLaw_1 : Int32) (v_readMany_1 : Int32) (v_readMeetings_1 : Int32) (v_at_1 : Int32) (v_faultAt_1 : Int32) (a_readPurses_1 : Nat → Int32) (a_readDay_1 : Nat → Int32) => ((r1 = (-9 : Int32) → (∀ k14 : (Int32) → (Nat → Int32) → Prop, (∀ (x1_14 : Int32) (a_purses_14 : Nat → Int32), (((8 : Int32) ≤ x1_14 → (∀ k52 : (Int32) → (Nat → Int32) → Prop, (∀ (x1_52 : Int32) (a_daily_52 : Nat → Int32), (((32 : Int32) ≤ x1_52 → (Post v_readMany_1 v_readLaw_1 v_readMany_1 v_readMeetings_1 v_readLaw_1 v_readMany_1 v_readMeetings_1 v_at_1 v_faultAt_1 (0 : Int32) (0 : Int32) a_readPurses_1 a_readDay_1 a_purses_14 a_daily_52 (upd (upd a_isKept (Int32.toNatClampNeg (0 : Int32)) (0 : Int32)) (Int32.toNatClampNeg (1 : Int32)) (0 : Int32)))) ∧ (¬ (32 : Int32) ≤ x1_52 → (vp_in x1_52 32 ∧ (vp_in x1_52 32 ∧ (k52 (x1_52 + 1) (upd a_daily_52 (Int32.toNatClampNeg x1_52) (a_readDay_1 (Int32.toNatClampNeg x1_52)))))))) → k52 x1_52 a_daily_52) → k52 (0 : Int32) a_daily)) ∧ (¬ (8 : Int32) ≤ x1_14 → ((v_readMany_1 ≤ x1_14 → (vp_in x1_14 8 ∧ (k14 (x1_14 + 1) (upd a_purses_14 (Int32.toNatClampNeg x1_14) (0 : Int32))))) ∧ (¬ v_readMany_1 ≤ x1_14 → (vp_in x1_14 8 ∧ (vp_in x1_14 8 ∧ (k14 (x1_14 + 1) (upd a_purses_14 (Int32.toNatClampNeg x1_14) (a_readPurses_1 (Int32.toNatClampNeg x1_14)))))))))) → k14 x1_14 a_purses_14) → k14 (0 : Int32) a_purses)) ∧ (¬ r1 = (-9 : Int32) → (Post (-3 : Int32) v_readLaw_1 v_readMany_1 v_readMeetings_1 v_law v_many v_meetings v_at_1 v_faultAt_1 v_made v_seen a_readPurses_1 a_readDay_1 a_purses a_daily a_isKept)))))
set_option maxHeartbeats 4000000 in
set_option maxRecDepth 100000 in
theorem c_X9_town (l : Launch) (D : va_G) (cI cZ : ClassId) (o o_readPurses o_readDay o_purses o_daily o_text o_row o_tried o_days o_order o_bestOrder o_seenHad o_seenShared o_isKept o_keptPurses o_keptRow o_keptHad o_keptShared o_keptRest : Nat) (sz : Nat) (v_readLaw : Int32) (v_readMany : Int32) (v_readMeetings : Int32) (v_law : Int32) (v_many : Int32) (v_meetings : Int32) (v_length : Int32) (v_at : Int32) (v_faultAt : Int32) (v_one : Int32) (v_other : Int32) (v_made : Int32) (v_leads : Int32) (v_rings : Int32) (v_seen : Int32) (a_readPurses : Nat → Int32) (a_readDay : Nat → Int32) (a_purses : Nat → Int32) (a_daily : Nat → Int32) (a_text : Nat → Int32) (a_isKept : Nat → Int32) (Post : Int32 → (Int32) → (Int32) → (Int32) → (Int32) → (Int32) → (Int32) → (Int32) → (Int32) → (Int32) → (Int32) → (Nat → Int32) → (Nat → Int32) → (Nat → Int32) → (Nat → Int32) → (Nat → Int32) → Prop) (h : wp_X9_town v_readLaw v_readMany v_readMeetings v_law v_many v_meetings v_length v_at v_faultAt v_made v_seen a_readPurses a_readDay a_purses a_daily a_text a_isKept Post) : Met l yX9_town wsX9_town rm_X9_town (cPc D cI cZ [.ref o] (cw_X9_town cI cZ o o_readPurses o_readDay o_purses o_daily o_text o_row o_tried o_days o_order o_bestOrder o_seenHad o_seenShared o_isKept o_keptPurses o_keptRow o_keptHad o_keptShared o_keptRest v_readLaw v_readMany v_readMeetings v_law v_many v_meetings v_length v_at v_faultAt v_one v_other v_made v_leads v_rings v_seen a_readPurses a_readDay a_purses a_daily a_text a_isKept) sz) (cQi15 D Post (fun m_v_readLaw m_v_readMany m_v_readMeetings m_v_law m_v_many m_v_meetings m_v_at m_v_faultAt m_v_made m_v_seen m_a_readPurses m_a_readDay m_a_purses m_a_daily m_a_isKept => (cw_X9_town cI cZ o o_readPurses o_readDay o_purses o_daily o_text o_row o_tried o_days o_order o_bestOrder o_seenHad o_seenShared o_isKept o_keptPurses o_keptRow o_keptHad o_keptShared o_keptRest m_v_readLaw m_v_readMany m_v_readMeetings m_v_law m_v_many m_v_meetings v_length m_v_at m_v_faultAt v_one v_other m_v_made v_leads v_rings m_v_seen m_a_readPurses m_a_readDay m_a_purses m_a_daily a_text m_a_isKept)) (va_A (cw_X9_town cI cZ o o_readPurses o_readDay o_purses o_daily o_text o_row o_tried o_days o_order o_bestOrder o_seenHad o_seenShared o_isKept o_keptPurses o_keptRow o_keptHad o_keptShared o_keptRest v_readLaw v_readMany v_readMeetings v_law v_many v_meetings v_length v_at v_faultAt v_one v_other v_made v_leads v_rings v_seen a_readPurses a_readDay a_purses a_daily a_text a_isKept) sz)) 0 0 (va_A (cw_X9_town cI cZ o o_readPurses o_readDay o_purses o_daily o_text o_row o_tried o_days o_order o_bestOrder o_seenHad o_seenShared o_isKept o_keptPurses o_keptRow o_keptHad o_keptShared o_keptRest v_readLaw v_readMany v_readMeetings v_law v_many v_meetings v_length v_at v_faultAt v_one v_other v_made v_leads v_rings v_seen a_readPurses a_readDay a_purses a_daily a_text a_isKept) sz) := by
  refine ent (cc := cX9_town) (maxL := 2) (ret := (some .int)) (Qc := fun A => cQi15 D Post (fun m_v_readLaw m_v_readMany m_v_readMeetings m_v_law m_v_many m_v_meetings m_v_at m_v_faultAt m_v_made m_v_seen m_a_readPurses m_a_readDay m_a_purses m_a_daily m_a_isKept => (cw_X9_town cI cZ o o_readPurses o_readDay o_purses o_daily o_text o_row o_tried o_days o_order o_bestOrder o_seenHad o_seenShared o_isKept o_keptPurses o_keptRow o_keptHad o_keptShared o_keptRest m_v_readLaw m_v_readMany m_v_readMeetings m_v_law m_v_many m_v_meetings v_length m_v_at m_v_faultAt v_one v_other m_v_made v_leads v_rings m_v_seen m_a_readPurses m_a_readDay m_a_purses m_a_daily a_text m_a_isKept)) A) (by decide) rfl (Nat.le_of_ble_eq_true rfl) ?_
  intro p e s m args below meth c A ls Q hQ hsz hx hb hml hr hts hown hlocks hnm hK hP hD hA hS hl
  have hl : lv_has ls 2 [(0, .ref o)] := hl
  unfold wp_X9_town at h
  refine lv_aload_n hx hb dX9_town_0 rfl (lv_at hl 0 rfl) ?_
  refine call_i7 (va_runV (As := []) (rest := []) ⟨hx, hb, hml, hown, hts⟩ (c_X9_readText l D cI cZ o o_readPurses o_readDay o_purses o_daily o_text o_row o_tried o_days o_order o_bestOrder o_seenHad o_seenShared o_isKept o_keptPurses o_keptRow o_keptHad o_keptShared o_keptRest (Array.size s.heap) v_readLaw v_readMany v_readMeetings v_law v_many v_meetings v_length v_at v_faultAt v_one v_other v_made v_leads v_rings v_seen a_readPurses a_readDay a_text _ h) (cwV 0 hts gX9_town_X9_readText rfl rfl rfl (by decide +kernel) ⟨Nat.le_of_ble_eq_true rfl, Nat.le_of_ble_eq_true rfl⟩) (preV_of hP hD hK [0, 1, 2, 5] rfl rfl 0 9 rfl rfl rfl) rfl rfl hl.1 rfl (lv_room (Nat.le_of_ble_eq_true rfl)) dX9_town_1 ⟨Nat.zero_le _, Nat.zero_le _⟩) hP hD hS hA [0, 1, 2, 5] rfl (fun v_readLaw_1 v_readMany_1 v_readMeetings_1 v_at_1 v_faultAt_1 a_readPurses_1 a_readDay_1 => (cw_X9_town cI cZ o o_readPurses o_readDay o_purses o_daily o_text o_row o_tried o_days o_order o_bestOrder o_seenHad o_seenShared o_isKept o_keptPurses o_keptRow o_keptHad o_keptShared o_keptRest v_readLaw_1 v_readMany_1 v_readMeetings_1 v_law v_many v_meetings v_length v_at_1 v_faultAt_1 v_one v_other v_made v_leads v_rings v_seen a_readPurses_1 a_readDay_1 a_purses a_daily a_text a_isKept)) (fun _ _ _ _ _ _ _ => rfl) (fun _ _ _ _ _ _ _ => rfl) (fun r1 v_readLaw_1 v_readMany_1 v_readMeetings_1 v_at_1 v_faultAt_1 a_readPurses_1 a_readDay_1 H locs h hP hD hS => ?_)
  refine lv_bipush (v := -9) hx hb dX9_town_4 (by decide) ?_
  refine lv_icmp_eq (tgt := 12) hx hb dX9_town_6 (by decide) (fun c6 => ?_) (fun c6 => ?_)
  · have h := h.1 c6
    refine lv_iconst (v := 0) hx hb dX9_town_12 (by decide) ?_
    refine lv_istore_n (lv' := [(1, .int (0 : Int32)), (0, .ref o)]) hx hb dX9_town_13 rfl hl (by decide) rfl (fun ls hl => ?_)
    refine h (fun x1_14 a_purses_14 => ∀ (H : Heap) (locs : List Loc) (ls : Array Slot), lv_has ls 2 [(0, .ref o), (1, .int x1_14)] → va_P D vwCl (cw_X9_town cI cZ o o_readPurses o_readDay o_purses o_daily o_text o_row o_tried o_days o_order o_bestOrder o_seenHad o_seenShared o_isKept o_keptPurses o_keptRow o_keptHad o_keptShared o_keptRest v_readLaw_1 v_readMany_1 v_readMeetings_1 v_law v_many v_meetings v_length v_at_1 v_faultAt_1 v_one v_other v_made v_leads v_rings v_seen a_readPurses_1 a_readDay_1 a_purses_14 a_daily a_text a_isKept) H → va_D A (cw_X9_town cI cZ o o_readPurses o_readDay o_purses o_daily o_text o_row o_tried o_days o_order o_bestOrder o_seenHad o_seenShared o_isKept o_keptPurses o_keptRow o_keptHad o_keptShared o_keptRest v_readLaw_1 v_readMany_1 v_readMeetings_1 v_law v_many v_meetings v_length v_at_1 v_faultAt_1 v_one v_other v_made v_leads v_rings v_seen a_readPurses_1 a_readDay_1 a_purses_14 a_daily a_text a_isKept) → va_S A s.heap H locs → W p l e rm_X9_town s m args below meth c H locs 0 0 Q (F0 m 14 ls [])) ?_ H locs ls (lv_sub hl [1, 0] rfl) hP hD hS
    intro x1_14 a_purses_14 h H locs ls hl hP hD hS
    refine lv_iload_n hx hb dX9_town_14 rfl (lv_at hl 1 rfl) ?_
    refine lv_bipush (v := 8) hx hb dX9_town_15 (by decide) ?_
    refine lv_icmp_ge (tgt := 50) hx hb dX9_town_17 (by decide) (fun c17 => ?_) (fun c17 => ?_)
    · have h := h.1 c17
      refine lv_iconst (v := 0) hx hb dX9_town_50 (by decide) ?_
      refine lv_istore_n (lv' := [(1, .int (0 : Int32)), (0, .ref o)]) hx hb dX9_town_51 rfl hl (by decide) rfl (fun ls hl => ?_)
      refine h (fun x1_52 a_daily_52 => ∀ (H : Heap) (locs : List Loc) (ls : Array Slot), lv_has ls 2 [(0, .ref o), (1, .int x1_52)] → va_P D vwCl (cw_X9_town cI cZ o o_readPurses o_readDay o_purses o_daily o_text o_row o_tried o_days o_order o_bestOrder o_seenHad o_seenShared o_isKept o_keptPurses o_keptRow o_keptHad o_keptShared o_keptRest v_readLaw_1 v_readMany_1 v_readMeetings_1 v_law v_many v_meetings v_length v_at_1 v_faultAt_1 v_one v_other v_made v_leads v_rings v_seen a_readPurses_1 a_readDay_1 a_purses_14 a_daily_52 a_text a_isKept) H → va_D A (cw_X9_town cI cZ o o_readPurses o_readDay o_purses o_daily o_text o_row o_tried o_days o_order o_bestOrder o_seenHad o_seenShared o_isKept o_keptPurses o_keptRow o_keptHad o_keptShared o_keptRest v_readLaw_1 v_readMany_1 v_readMeetings_1 v_law v_many v_meetings v_length v_at_1 v_faultAt_1 v_one v_other v_made v_leads v_rings v_seen a_readPurses_1 a_readDay_1 a_purses_14 a_daily_52 a_text a_isKept) → va_S A s.heap H locs → W p l e rm_X9_town s m args below meth c H locs 0 0 Q (F0 m 52 ls [])) ?_ H locs ls (lv_sub hl [1, 0] rfl) hP hD hS
      intro x1_52 a_daily_52 h H locs ls hl hP hD hS
      refine lv_iload_n hx hb dX9_town_52 rfl (lv_at hl 1 rfl) ?_
      refine lv_bipush (v := 32) hx hb dX9_town_53 (by decide) ?_
      refine lv_icmp_ge (tgt := 76) hx hb dX9_town_55 (by decide) (fun c55 => ?_) (fun c55 => ?_)
      · have h := h.1 c55
        refine lv_aload_n hx hb dX9_town_76 rfl (lv_at hl 0 rfl) ?_
        refine lv_aload_n hx hb dX9_town_77 rfl (lv_at hl 0 rfl) ?_
        refine va_get (D := D) (ci := 9) (v := .int v_readLaw_1) (C := RX9) (T := TX9) (N := 33) hx hb hts inw_X9_town_X9 hown hK.1 hP 0 rfl rfl 2 (by decide) (hts (.fieldLink RX9 96 "PursesShareModel" "readLaw" "I") (by decide +kernel)) (fun _ h9 => h9) rfl dX9_town_78 ?_
        refine va_put (D := D) (ci := 9) (v := .int v_readLaw_1) (ty := .int) (C := RX9) (T := TX9) (N := 33) hx hb hts inw_X9_town_X9 tyX9 tyX9_ok nmX9 hown hK.1 hP hD hS 0 rfl rfl 7 (by decide) (hts (.fieldLink RX9 103 "PursesShareModel" "law" "I") (by decide +kernel)) (fun _ h9 => h9) rfl (by decide +kernel) rfl rfl (Nat.le_of_ble_eq_true rfl) dX9_town_81 (fun H locs hP hD hS => ?_)
        have hP : va_P D vwCl (cw_X9_town cI cZ o o_readPurses o_readDay o_purses o_daily o_text o_row o_tried o_days o_order o_bestOrder o_seenHad o_seenShared o_isKept o_keptPurses o_keptRow o_keptHad o_keptShared o_keptRest v_readLaw_1 v_readMany_1 v_readMeetings_1 v_readLaw_1 v_many v_meetings v_length v_at_1 v_faultAt_1 v_one v_other v_made v_leads v_rings v_seen a_readPurses_1 a_readDay_1 a_purses_14 a_daily_52 a_text a_isKept) H := hP
        have hD : va_D A (cw_X9_town cI cZ o o_readPurses o_readDay o_purses o_daily o_text o_row o_tried o_days o_order o_bestOrder o_seenHad o_seenShared o_isKept o_keptPurses o_keptRow o_keptHad o_keptShared o_keptRest v_readLaw_1 v_readMany_1 v_readMeetings_1 v_readLaw_1 v_many v_meetings v_length v_at_1 v_faultAt_1 v_one v_other v_made v_leads v_rings v_seen a_readPurses_1 a_readDay_1 a_purses_14 a_daily_52 a_text a_isKept) := hD
        refine lv_aload_n hx hb dX9_town_84 rfl (lv_at hl 0 rfl) ?_
        refine lv_aload_n hx hb dX9_town_85 rfl (lv_at hl 0 rfl) ?_
        refine va_get (D := D) (ci := 9) (v := .int v_readMany_1) (C := RX9) (T := TX9) (N := 33) hx hb hts inw_X9_town_X9 hown hK.1 hP 0 rfl rfl 3 (by decide) (hts (.fieldLink RX9 86 "PursesShareModel" "readMany" "I") (by decide +kernel)) (fun _ h9 => h9) rfl dX9_town_86 ?_
        refine va_put (D := D) (ci := 9) (v := .int v_readMany_1) (ty := .int) (C := RX9) (T := TX9) (N := 33) hx hb hts inw_X9_town_X9 tyX9 tyX9_ok nmX9 hown hK.1 hP hD hS 0 rfl rfl 8 (by decide) (hts (.fieldLink RX9 65 "PursesShareModel" "many" "I") (by decide +kernel)) (fun _ h9 => h9) rfl (by decide +kernel) rfl rfl (Nat.le_of_ble_eq_true rfl) dX9_town_89 (fun H locs hP hD hS => ?_)
        have hP : va_P D vwCl (cw_X9_town cI cZ o o_readPurses o_readDay o_purses o_daily o_text o_row o_tried o_days o_order o_bestOrder o_seenHad o_seenShared o_isKept o_keptPurses o_keptRow o_keptHad o_keptShared o_keptRest v_readLaw_1 v_readMany_1 v_readMeetings_1 v_readLaw_1 v_readMany_1 v_meetings v_length v_at_1 v_faultAt_1 v_one v_other v_made v_leads v_rings v_seen a_readPurses_1 a_readDay_1 a_purses_14 a_daily_52 a_text a_isKept) H := hP
        have hD : va_D A (cw_X9_town cI cZ o o_readPurses o_readDay o_purses o_daily o_text o_row o_tried o_days o_order o_bestOrder o_seenHad o_seenShared o_isKept o_keptPurses o_keptRow o_keptHad o_keptShared o_keptRest v_readLaw_1 v_readMany_1 v_readMeetings_1 v_readLaw_1 v_readMany_1 v_meetings v_length v_at_1 v_faultAt_1 v_one v_other v_made v_leads v_rings v_seen a_readPurses_1 a_readDay_1 a_purses_14 a_daily_52 a_text a_isKept) := hD
        refine lv_aload_n hx hb dX9_town_92 rfl (lv_at hl 0 rfl) ?_
        refine lv_aload_n hx hb dX9_town_93 rfl (lv_at hl 0 rfl) ?_
        refine va_get (D := D) (ci := 9) (v := .int v_readMeetings_1) (C := RX9) (T := TX9) (N := 33) hx hb hts inw_X9_town_X9 hown hK.1 hP 0 rfl rfl 4 (by decide) (hts (.fieldLink RX9 89 "PursesShareModel" "readMeetings" "I") (by decide +kernel)) (fun _ h9 => h9) rfl dX9_town_94 ?_
        refine va_put (D := D) (ci := 9) (v := .int v_readMeetings_1) (ty := .int) (C := RX9) (T := TX9) (N := 33) hx hb hts inw_X9_town_X9 tyX9 tyX9_ok nmX9 hown hK.1 hP hD hS 0 rfl rfl 9 (by decide) (hts (.fieldLink RX9 106 "PursesShareModel" "meetings" "I") (by decide +kernel)) (fun _ h9 => h9) rfl (by decide +kernel) rfl rfl (Nat.le_of_ble_eq_true rfl) dX9_town_97 (fun H locs hP hD hS => ?_)
        have hP : va_P D vwCl (cw_X9_town cI cZ o o_readPurses o_readDay o_purses o_daily o_text o_row o_tried o_days o_order o_bestOrder o_seenHad o_seenShared o_isKept o_keptPurses o_keptRow o_keptHad o_keptShared o_keptRest v_readLaw_1 v_readMany_1 v_readMeetings_1 v_readLaw_1 v_readMany_1 v_readMeetings_1 v_length v_at_1 v_faultAt_1 v_one v_other v_made v_leads v_rings v_seen a_readPurses_1 a_readDay_1 a_purses_14 a_daily_52 a_text a_isKept) H := hP
        have hD : va_D A (cw_X9_town cI cZ o o_readPurses o_readDay o_purses o_daily o_text o_row o_tried o_days o_order o_bestOrder o_seenHad o_seenShared o_isKept o_keptPurses o_keptRow o_keptHad o_keptShared o_keptRest v_readLaw_1 v_readMany_1 v_readMeetings_1 v_readLaw_1 v_readMany_1 v_readMeetings_1 v_length v_at_1 v_faultAt_1 v_one v_other v_made v_leads v_rings v_seen a_readPurses_1 a_readDay_1 a_purses_14 a_daily_52 a_text a_isKept) := hD
        refine lv_aload_n hx hb dX9_town_100 rfl (lv_at hl 0 rfl) ?_
        refine lv_iconst (v := 0) hx hb dX9_town_101 (by decide) ?_
        refine va_put (D := D) (ci := 9) (v := .int (0 : Int32)) (ty := .int) (C := RX9) (T := TX9) (N := 33) hx hb hts inw_X9_town_X9 tyX9 tyX9_ok nmX9 hown hK.1 hP hD hS 0 rfl rfl 16 (by decide) (hts (.fieldLink RX9 109 "PursesShareModel" "made" "I") (by decide +kernel)) (fun _ h9 => h9) rfl (by decide +kernel) rfl rfl (Nat.le_of_ble_eq_true rfl) dX9_town_102 (fun H locs hP hD hS => ?_)
        have hP : va_P D vwCl (cw_X9_town cI cZ o o_readPurses o_readDay o_purses o_daily o_text o_row o_tried o_days o_order o_bestOrder o_seenHad o_seenShared o_isKept o_keptPurses o_keptRow o_keptHad o_keptShared o_keptRest v_readLaw_1 v_readMany_1 v_readMeetings_1 v_readLaw_1 v_readMany_1 v_readMeetings_1 v_length v_at_1 v_faultAt_1 v_one v_other (0 : Int32) v_leads v_rings v_seen a_readPurses_1 a_readDay_1 a_purses_14 a_daily_52 a_text a_isKept) H := hP
        have hD : va_D A (cw_X9_town cI cZ o o_readPurses o_readDay o_purses o_daily o_text o_row o_tried o_days o_order o_bestOrder o_seenHad o_seenShared o_isKept o_keptPurses o_keptRow o_keptHad o_keptShared o_keptRest v_readLaw_1 v_readMany_1 v_readMeetings_1 v_readLaw_1 v_readMany_1 v_readMeetings_1 v_length v_at_1 v_faultAt_1 v_one v_other (0 : Int32) v_leads v_rings v_seen a_readPurses_1 a_readDay_1 a_purses_14 a_daily_52 a_text a_isKept) := hD
        refine lv_aload_n hx hb dX9_town_105 rfl (lv_at hl 0 rfl) ?_
        refine lv_iconst (v := 0) hx hb dX9_town_106 (by decide) ?_
        refine va_put (D := D) (ci := 9) (v := .int (0 : Int32)) (ty := .int) (C := RX9) (T := TX9) (N := 33) hx hb hts inw_X9_town_X9 tyX9 tyX9_ok nmX9 hown hK.1 hP hD hS 0 rfl rfl 24 (by decide) (hts (.fieldLink RX9 112 "PursesShareModel" "seen" "I") (by decide +kernel)) (fun _ h9 => h9) rfl (by decide +kernel) rfl rfl (Nat.le_of_ble_eq_true rfl) dX9_town_107 (fun H locs hP hD hS => ?_)
        have hP : va_P D vwCl (cw_X9_town cI cZ o o_readPurses o_readDay o_purses o_daily o_text o_row o_tried o_days o_order o_bestOrder o_seenHad o_seenShared o_isKept o_keptPurses o_keptRow o_keptHad o_keptShared o_keptRest v_readLaw_1 v_readMany_1 v_readMeetings_1 v_readLaw_1 v_readMany_1 v_readMeetings_1 v_length v_at_1 v_faultAt_1 v_one v_other (0 : Int32) v_leads v_rings (0 : Int32) a_readPurses_1 a_readDay_1 a_purses_14 a_daily_52 a_text a_isKept) H := hP
        have hD : va_D A (cw_X9_town cI cZ o o_readPurses o_readDay o_purses o_daily o_text o_row o_tried o_days o_order o_bestOrder o_seenHad o_seenShared o_isKept o_keptPurses o_keptRow o_keptHad o_keptShared o_keptRest v_readLaw_1 v_readMany_1 v_readMeetings_1 v_readLaw_1 v_readMany_1 v_readMeetings_1 v_length v_at_1 v_faultAt_1 v_one v_other (0 : Int32) v_leads v_rings (0 : Int32) a_readPurses_1 a_readDay_1 a_purses_14 a_daily_52 a_text a_isKept) := hD
        refine lv_aload_n hx hb dX9_town_110 rfl (lv_at hl 0 rfl) ?_
        refine va_get (D := D) (ci := 9) (v := .ref o_isKept) (C := RX9) (T := TX9) (N := 33) hx hb hts inw_X9_town_X9 hown hK.1 hP 0 rfl rfl 27 (by decide) (hts (.fieldLink RX9 46 "PursesShareModel" "isKept" "[Z") (by decide +kernel)) (fun _ h9 => h9) rfl dX9_town_111 ?_
        refine lv_iconst (v := 0) hx hb dX9_town_114 (by decide) ?_
        refine lv_iconst (v := 0) hx hb dX9_town_115 (by decide) ?_
        refine va_zast hx hb hK.1 hP hD hS 6 1 rfl rfl (by unfold vp_in; decide) dX9_town_116 (fun H locs hP hD hS => ?_)
        have hP : va_P D vwCl (cw_X9_town cI cZ o o_readPurses o_readDay o_purses o_daily o_text o_row o_tried o_days o_order o_bestOrder o_seenHad o_seenShared o_isKept o_keptPurses o_keptRow o_keptHad o_keptShared o_keptRest v_readLaw_1 v_readMany_1 v_readMeetings_1 v_readLaw_1 v_readMany_1 v_readMeetings_1 v_length v_at_1 v_faultAt_1 v_one v_other (0 : Int32) v_leads v_rings (0 : Int32) a_readPurses_1 a_readDay_1 a_purses_14 a_daily_52 a_text (upd a_isKept (Int32.toNatClampNeg (0 : Int32)) (0 : Int32))) H := hP
        have hD : va_D A (cw_X9_town cI cZ o o_readPurses o_readDay o_purses o_daily o_text o_row o_tried o_days o_order o_bestOrder o_seenHad o_seenShared o_isKept o_keptPurses o_keptRow o_keptHad o_keptShared o_keptRest v_readLaw_1 v_readMany_1 v_readMeetings_1 v_readLaw_1 v_readMany_1 v_readMeetings_1 v_length v_at_1 v_faultAt_1 v_one v_other (0 : Int32) v_leads v_rings (0 : Int32) a_readPurses_1 a_readDay_1 a_purses_14 a_daily_52 a_text (upd a_isKept (Int32.toNatClampNeg (0 : Int32)) (0 : Int32))) := hD
        refine lv_aload_n hx hb dX9_town_117 rfl (lv_at hl 0 rfl) ?_
        refine va_get (D := D) (ci := 9) (v := .ref o_isKept) (C := RX9) (T := TX9) (N := 33) hx hb hts inw_X9_town_X9 hown hK.1 hP 0 rfl rfl 27 (by decide) (hts (.fieldLink RX9 46 "PursesShareModel" "isKept" "[Z") (by decide +kernel)) (fun _ h9 => h9) rfl dX9_town_118 ?_
        refine lv_iconst (v := 1) hx hb dX9_town_121 (by decide) ?_
        refine lv_iconst (v := 0) hx hb dX9_town_122 (by decide) ?_
        refine va_zast hx hb hK.1 hP hD hS 6 1 rfl rfl (by unfold vp_in; decide) dX9_town_123 (fun H locs hP hD hS => ?_)
        have hP : va_P D vwCl (cw_X9_town cI cZ o o_readPurses o_readDay o_purses o_daily o_text o_row o_tried o_days o_order o_bestOrder o_seenHad o_seenShared o_isKept o_keptPurses o_keptRow o_keptHad o_keptShared o_keptRest v_readLaw_1 v_readMany_1 v_readMeetings_1 v_readLaw_1 v_readMany_1 v_readMeetings_1 v_length v_at_1 v_faultAt_1 v_one v_other (0 : Int32) v_leads v_rings (0 : Int32) a_readPurses_1 a_readDay_1 a_purses_14 a_daily_52 a_text (upd (upd a_isKept (Int32.toNatClampNeg (0 : Int32)) (0 : Int32)) (Int32.toNatClampNeg (1 : Int32)) (0 : Int32))) H := hP
        have hD : va_D A (cw_X9_town cI cZ o o_readPurses o_readDay o_purses o_daily o_text o_row o_tried o_days o_order o_bestOrder o_seenHad o_seenShared o_isKept o_keptPurses o_keptRow o_keptHad o_keptShared o_keptRest v_readLaw_1 v_readMany_1 v_readMeetings_1 v_readLaw_1 v_readMany_1 v_readMeetings_1 v_length v_at_1 v_faultAt_1 v_one v_other (0 : Int32) v_leads v_rings (0 : Int32) a_readPurses_1 a_readDay_1 a_purses_14 a_daily_52 a_text (upd (upd a_isKept (Int32.toNatClampNeg (0 : Int32)) (0 : Int32)) (Int32.toNatClampNeg (1 : Int32)) (0 : Int32))) := hD
        refine lv_aload_n hx hb dX9_town_124 rfl (lv_at hl 0 rfl) ?_
        refine va_get (D := D) (ci := 9) (v := .int v_readMany_1) (C := RX9) (T := TX9) (N := 33) hx hb hts inw_X9_town_X9 hown hK.1 hP 0 rfl rfl 8 (by decide) (hts (.fieldLink RX9 65 "PursesShareModel" "many" "I") (by decide +kernel)) (fun _ h9 => h9) rfl dX9_town_125 ?_
        exact ret_i15 hx hb hr hlocks hQ hS v_readLaw_1 v_readMany_1 v_readMeetings_1 v_readLaw_1 v_readMany_1 v_readMeetings_1 v_at_1 v_faultAt_1 (0 : Int32) (0 : Int32) a_readPurses_1 a_readDay_1 a_purses_14 a_daily_52 (upd (upd a_isKept (Int32.toNatClampNeg (0 : Int32)) (0 : Int32)) (Int32.toNatClampNeg (1 : Int32)) (0 : Int32)) hP h dX9_town_128
      · have h := h.2 c55
        refine lv_aload_n hx hb dX9_town_58 rfl (lv_at hl 0 rfl) ?_
        refine va_get (D := D) (ci := 9) (v := .ref o_daily) (C := RX9) (T := TX9) (N := 33) hx hb hts inw_X9_town_X9 hown hK.1 hP 0 rfl rfl 6 (by decide) (hts (.fieldLink RX9 19 "PursesShareModel" "daily" "[I") (by decide +kernel)) (fun _ h9 => h9) rfl dX9_town_59 ?_
        refine lv_iload_n hx hb dX9_town_62 rfl (lv_at hl 1 rfl) ?_
        refine lv_aload_n hx hb dX9_town_63 rfl (lv_at hl 0 rfl) ?_
        refine va_get (D := D) (ci := 9) (v := .ref o_readDay) (C := RX9) (T := TX9) (N := 33) hx hb hts inw_X9_town_X9 hown hK.1 hP 0 rfl rfl 1 (by decide) (hts (.fieldLink RX9 13 "PursesShareModel" "readDay" "[I") (by decide +kernel)) (fun _ h9 => h9) rfl dX9_town_64 ?_
        refine lv_iload_n hx hb dX9_town_67 rfl (lv_at hl 1 rfl) ?_
        have h0 := h.1
        have h := h.2
        refine va_iald hx hb hK.1 hP 2 0 rfl rfl h0 dX9_town_68 ?_
        have h0 := h.1
        have h := h.2
        refine va_iast hx hb hK.1 hP hD hS 4 0 rfl rfl h0 dX9_town_69 (fun H locs hP hD hS => ?_)
        have hP : va_P D vwCl (cw_X9_town cI cZ o o_readPurses o_readDay o_purses o_daily o_text o_row o_tried o_days o_order o_bestOrder o_seenHad o_seenShared o_isKept o_keptPurses o_keptRow o_keptHad o_keptShared o_keptRest v_readLaw_1 v_readMany_1 v_readMeetings_1 v_law v_many v_meetings v_length v_at_1 v_faultAt_1 v_one v_other v_made v_leads v_rings v_seen a_readPurses_1 a_readDay_1 a_purses_14 (upd a_daily_52 (Int32.toNatClampNeg x1_52) (a_readDay_1 (Int32.toNatClampNeg x1_52))) a_text a_isKept) H := hP
        have hD : va_D A (cw_X9_town cI cZ o o_readPurses o_readDay o_purses o_daily o_text o_row o_tried o_days o_order o_bestOrder o_seenHad o_seenShared o_isKept o_keptPurses o_keptRow o_keptHad o_keptShared o_keptRest v_readLaw_1 v_readMany_1 v_readMeetings_1 v_law v_many v_meetings v_length v_at_1 v_faultAt_1 v_one v_other v_made v_leads v_rings v_seen a_readPurses_1 a_readDay_1 a_purses_14 (upd a_daily_52 (Int32.toNatClampNeg x1_52) (a_readDay_1 (Int32.toNatClampNeg x1_52))) a_text a_isKept) := hD
        refine lv_iinc (v := (x1_52 + 1)) (lv' := [(1, .int (x1_52 + 1)), (0, .ref o)]) hx hb dX9_town_70 hl (k := 1) rfl rfl (by decide) rfl (fun ls hl => ?_)
        refine lv_goto (tgt := 52) hx hb dX9_town_73 (by decide) ?_
        exact h H locs ls (lv_sub hl [1, 0] rfl) hP hD hS
    · have h := h.2 c17
      refine lv_aload_n hx hb dX9_town_20 rfl (lv_at hl 0 rfl) ?_
      refine va_get (D := D) (ci := 9) (v := .ref o_purses) (C := RX9) (T := TX9) (N := 33) hx hb hts inw_X9_town_X9 hown hK.1 hP 0 rfl rfl 5 (by decide) (hts (.fieldLink RX9 16 "PursesShareModel" "purses" "[I") (by decide +kernel)) (fun _ h9 => h9) rfl dX9_town_21 ?_
      refine lv_iload_n hx hb dX9_town_24 rfl (lv_at hl 1 rfl) ?_
      refine lv_iload_n hx hb dX9_town_25 rfl (lv_at hl 1 rfl) ?_
      refine lv_aload_n hx hb dX9_town_26 rfl (lv_at hl 0 rfl) ?_
      refine va_get (D := D) (ci := 9) (v := .int v_readMany_1) (C := RX9) (T := TX9) (N := 33) hx hb hts inw_X9_town_X9 hown hK.1 hP 0 rfl rfl 3 (by decide) (hts (.fieldLink RX9 86 "PursesShareModel" "readMany" "I") (by decide +kernel)) (fun _ h9 => h9) rfl dX9_town_27 ?_
      refine lv_icmp_ge (tgt := 42) hx hb dX9_town_30 (by decide) (fun c30 => ?_) (fun c30 => ?_)
      · have h := h.1 c30
        refine lv_iconst (v := 0) hx hb dX9_town_42 (by decide) ?_
        have h0 := h.1
        have h := h.2
        refine va_iast hx hb hK.1 hP hD hS 3 0 rfl rfl h0 dX9_town_43 (fun H locs hP hD hS => ?_)
        have hP : va_P D vwCl (cw_X9_town cI cZ o o_readPurses o_readDay o_purses o_daily o_text o_row o_tried o_days o_order o_bestOrder o_seenHad o_seenShared o_isKept o_keptPurses o_keptRow o_keptHad o_keptShared o_keptRest v_readLaw_1 v_readMany_1 v_readMeetings_1 v_law v_many v_meetings v_length v_at_1 v_faultAt_1 v_one v_other v_made v_leads v_rings v_seen a_readPurses_1 a_readDay_1 (upd a_purses_14 (Int32.toNatClampNeg x1_14) (0 : Int32)) a_daily a_text a_isKept) H := hP
        have hD : va_D A (cw_X9_town cI cZ o o_readPurses o_readDay o_purses o_daily o_text o_row o_tried o_days o_order o_bestOrder o_seenHad o_seenShared o_isKept o_keptPurses o_keptRow o_keptHad o_keptShared o_keptRest v_readLaw_1 v_readMany_1 v_readMeetings_1 v_law v_many v_meetings v_length v_at_1 v_faultAt_1 v_one v_other v_made v_leads v_rings v_seen a_readPurses_1 a_readDay_1 (upd a_purses_14 (Int32.toNatClampNeg x1_14) (0 : Int32)) a_daily a_text a_isKept) := hD
        refine lv_iinc (v := (x1_14 + 1)) (lv' := [(1, .int (x1_14 + 1)), (0, .ref o)]) hx hb dX9_town_44 hl (k := 1) rfl rfl (by decide) rfl (fun ls hl => ?_)
        refine lv_goto (tgt := 14) hx hb dX9_town_47 (by decide) ?_
        exact h H locs ls (lv_sub hl [1, 0] rfl) hP hD hS
      · have h := h.2 c30
        refine lv_aload_n hx hb dX9_town_33 rfl (lv_at hl 0 rfl) ?_
        refine va_get (D := D) (ci := 9) (v := .ref o_readPurses) (C := RX9) (T := TX9) (N := 33) hx hb hts inw_X9_town_X9 hown hK.1 hP 0 rfl rfl 0 (by decide) (hts (.fieldLink RX9 7 "PursesShareModel" "readPurses" "[I") (by decide +kernel)) (fun _ h9 => h9) rfl dX9_town_34 ?_
        refine lv_iload_n hx hb dX9_town_37 rfl (lv_at hl 1 rfl) ?_
        have h0 := h.1
        have h := h.2
        refine va_iald hx hb hK.1 hP 1 0 rfl rfl h0 dX9_town_38 ?_
        refine lv_goto (tgt := 43) hx hb dX9_town_39 (by decide) ?_
        have h0 := h.1
        have h := h.2
        refine va_iast hx hb hK.1 hP hD hS 3 0 rfl rfl h0 dX9_town_43 (fun H locs hP hD hS => ?_)
        have hP : va_P D vwCl (cw_X9_town cI cZ o o_readPurses o_readDay o_purses o_daily o_text o_row o_tried o_days o_order o_bestOrder o_seenHad o_seenShared o_isKept o_keptPurses o_keptRow o_keptHad o_keptShared o_keptRest v_readLaw_1 v_readMany_1 v_readMeetings_1 v_law v_many v_meetings v_length v_at_1 v_faultAt_1 v_one v_other v_made v_leads v_rings v_seen a_readPurses_1 a_readDay_1 (upd a_purses_14 (Int32.toNatClampNeg x1_14) (a_readPurses_1 (Int32.toNatClampNeg x1_14))) a_daily a_text a_isKept) H := hP
        have hD : va_D A (cw_X9_town cI cZ o o_readPurses o_readDay o_purses o_daily o_text o_row o_tried o_days o_order o_bestOrder o_seenHad o_seenShared o_isKept o_keptPurses o_keptRow o_keptHad o_keptShared o_keptRest v_readLaw_1 v_readMany_1 v_readMeetings_1 v_law v_many v_meetings v_length v_at_1 v_faultAt_1 v_one v_other v_made v_leads v_rings v_seen a_readPurses_1 a_readDay_1 (upd a_purses_14 (Int32.toNatClampNeg x1_14) (a_readPurses_1 (Int32.toNatClampNeg x1_14))) a_daily a_text a_isKept) := hD
        refine lv_iinc (v := (x1_14 + 1)) (lv' := [(1, .int (x1_14 + 1)), (0, .ref o)]) hx hb dX9_town_44 hl (k := 1) rfl rfl (by decide) rfl (fun ls hl => ?_)
        refine lv_goto (tgt := 14) hx hb dX9_town_47 (by decide) ?_
        exact h H locs ls (lv_sub hl [1, 0] rfl) hP hD hS
  · have h := h.2 c6
    refine lv_bipush (v := -3) hx hb dX9_town_9 (by decide) ?_
    exact ret_i15 hx hb hr hlocks hQ hS v_readLaw_1 v_readMany_1 v_readMeetings_1 v_law v_many v_meetings v_at_1 v_faultAt_1 v_made v_seen a_readPurses_1 a_readDay_1 a_purses a_daily a_isKept hP h dX9_town_11
abbrev rm_X9_isPerson : Room := { frames := 1, cells := 0, slots := 0, locals := 25 }
abbrev cw_X9_isPerson (cI cZ : ClassId) (o o_readPurses o_readDay o_purses o_daily o_text o_row o_tried o_days o_order o_bestOrder o_seenHad o_seenShared o_isKept o_keptPurses o_keptRow o_keptHad o_keptShared o_keptRest : Nat) (v_readLaw : Int32) (v_readMany : Int32) (v_readMeetings : Int32) (v_law : Int32) (v_many : Int32) (v_meetings : Int32) (v_length : Int32) (v_at : Int32) (v_faultAt : Int32) (v_one : Int32) (v_other : Int32) (v_made : Int32) (v_leads : Int32) (v_rings : Int32) (v_seen : Int32) : va_W := [(o, .inr (9, [.ref o_readPurses, .ref o_readDay, .int v_readLaw, .int v_readMany, .int v_readMeetings, .ref o_purses, .ref o_daily, .int v_law, .int v_many, .int v_meetings, .ref o_text, .int v_length, .int v_at, .int v_faultAt, .int v_one, .int v_other, .int v_made, .ref o_row, .ref o_tried, .int v_leads, .int v_rings, .ref o_days, .ref o_order, .ref o_bestOrder, .int v_seen, .ref o_seenHad, .ref o_seenShared, .ref o_isKept, .ref o_keptPurses, .ref o_keptRow, .ref o_keptHad, .ref o_keptShared, .ref o_keptRest]))]
theorem inw_X9_isPerson_X9 : ∀ w ∈ u_ws RX9 TX9 33, w ∈ wsX9_isPerson := by decide +kernel
def wp_X9_isPerson (n1 : Int32) (v_many : Int32) (Post : Int32 → Prop) : Prop := (wp_X9_in (Int32.toInt64 n1) (0 : Int64) (Int32.toInt64 (v_many - (1 : Int32))) (fun (r10 : Int32) => (r10 &&& 1 = r10 ∧ (Post r10))))
set_option maxHeartbeats 4000000 in
set_option maxRecDepth 100000 in
theorem c_X9_isPerson (l : Launch) (D : va_G) (cI cZ : ClassId) (o o_readPurses o_readDay o_purses o_daily o_text o_row o_tried o_days o_order o_bestOrder o_seenHad o_seenShared o_isKept o_keptPurses o_keptRow o_keptHad o_keptShared o_keptRest : Nat) (sz : Nat) (n1 : Int32) (v_readLaw : Int32) (v_readMany : Int32) (v_readMeetings : Int32) (v_law : Int32) (v_many : Int32) (v_meetings : Int32) (v_length : Int32) (v_at : Int32) (v_faultAt : Int32) (v_one : Int32) (v_other : Int32) (v_made : Int32) (v_leads : Int32) (v_rings : Int32) (v_seen : Int32) (Post : Int32 → Prop) (h : wp_X9_isPerson n1 v_many Post) : Met l yX9_isPerson wsX9_isPerson rm_X9_isPerson (cPc D cI cZ [.ref o, .int n1] (cw_X9_isPerson cI cZ o o_readPurses o_readDay o_purses o_daily o_text o_row o_tried o_days o_order o_bestOrder o_seenHad o_seenShared o_isKept o_keptPurses o_keptRow o_keptHad o_keptShared o_keptRest v_readLaw v_readMany v_readMeetings v_law v_many v_meetings v_length v_at v_faultAt v_one v_other v_made v_leads v_rings v_seen) sz) (cQi0 D Post ((cw_X9_isPerson cI cZ o o_readPurses o_readDay o_purses o_daily o_text o_row o_tried o_days o_order o_bestOrder o_seenHad o_seenShared o_isKept o_keptPurses o_keptRow o_keptHad o_keptShared o_keptRest v_readLaw v_readMany v_readMeetings v_law v_many v_meetings v_length v_at v_faultAt v_one v_other v_made v_leads v_rings v_seen)) (va_A (cw_X9_isPerson cI cZ o o_readPurses o_readDay o_purses o_daily o_text o_row o_tried o_days o_order o_bestOrder o_seenHad o_seenShared o_isKept o_keptPurses o_keptRow o_keptHad o_keptShared o_keptRest v_readLaw v_readMany v_readMeetings v_law v_many v_meetings v_length v_at v_faultAt v_one v_other v_made v_leads v_rings v_seen) sz)) 0 0 (va_A (cw_X9_isPerson cI cZ o o_readPurses o_readDay o_purses o_daily o_text o_row o_tried o_days o_order o_bestOrder o_seenHad o_seenShared o_isKept o_keptPurses o_keptRow o_keptHad o_keptShared o_keptRest v_readLaw v_readMany v_readMeetings v_law v_many v_meetings v_length v_at v_faultAt v_one v_other v_made v_leads v_rings v_seen) sz) := by
  refine ent (cc := cX9_isPerson) (maxL := 2) (ret := (some .boolean)) (Qc := fun A => cQi0 D Post ((cw_X9_isPerson cI cZ o o_readPurses o_readDay o_purses o_daily o_text o_row o_tried o_days o_order o_bestOrder o_seenHad o_seenShared o_isKept o_keptPurses o_keptRow o_keptHad o_keptShared o_keptRest v_readLaw v_readMany v_readMeetings v_law v_many v_meetings v_length v_at v_faultAt v_one v_other v_made v_leads v_rings v_seen)) A) (by decide) rfl (Nat.le_of_ble_eq_true rfl) ?_
  intro p e s m args below meth c A ls Q hQ hsz hx hb hml hr hts hown hlocks hnm hK hP hD hA hS hl
  have hl : lv_has ls 2 [(0, .ref o), (1, .int n1)] := hl
  unfold wp_X9_isPerson at h
  refine lv_iload_n hx hb dX9_isPerson_0 rfl (lv_at hl 1 rfl) ?_
  refine lv_i2l (v := (Int32.toInt64 n1)) hx hb dX9_isPerson_1 rfl ?_
  refine lv_lconst (v := 0) hx hb dX9_isPerson_2 (by decide) ?_
  refine lv_aload_n hx hb dX9_isPerson_3 rfl (lv_at hl 0 rfl) ?_
  refine va_get (D := D) (ci := 9) (v := .int v_many) (C := RX9) (T := TX9) (N := 33) hx hb hts inw_X9_isPerson_X9 hown hK.1 hP 0 rfl rfl 8 (by decide) (hts (.fieldLink RX9 65 "PursesShareModel" "many" "I") (by decide +kernel)) (fun _ h9 => h9) rfl dX9_isPerson_4 ?_
  refine lv_iconst (v := 1) hx hb dX9_isPerson_7 (by decide) ?_
  refine lv_isub hx hb dX9_isPerson_8 ?_
  refine lv_i2l (v := (Int32.toInt64 (v_many - (1 : Int32)))) hx hb dX9_isPerson_9 rfl ?_
  refine call_i0 (va_runS (As := [.long (Int32.toInt64 n1), .long (0 : Int64), .long (Int32.toInt64 (v_many - (1 : Int32)))]) (rest := []) ⟨hx, hb, hml, hown, hts⟩ (c_X9_in l D cI cZ (Array.size s.heap) (Int32.toInt64 n1) (0 : Int64) (Int32.toInt64 (v_many - (1 : Int32))) _ h) (va_cwS 3 hts gX9_isPerson_X9_in rfl rfl rfl (by decide +kernel) ⟨Nat.le_of_ble_eq_true rfl, Nat.le_of_ble_eq_true rfl⟩) (preS_of hP hD hK [] rfl rfl) rfl rfl hl.1 rfl (lv_room (Nat.le_of_ble_eq_true rfl)) dX9_isPerson_10 ⟨Nat.zero_le _, Nat.zero_le _⟩) hP hD hS hA [] rfl ((cw_X9_isPerson cI cZ o o_readPurses o_readDay o_purses o_daily o_text o_row o_tried o_days o_order o_bestOrder o_seenHad o_seenShared o_isKept o_keptPurses o_keptRow o_keptHad o_keptShared o_keptRest v_readLaw v_readMany v_readMeetings v_law v_many v_meetings v_length v_at v_faultAt v_one v_other v_made v_leads v_rings v_seen)) (rfl) (rfl) (fun r10 H locs h hP hD hS => ?_)
  have hz := h.1
  have h := h.2
  exact ret_z0 hx hb hr hlocks hQ hS hz  hP h dX9_isPerson_13
abbrev rm_X9_purse : Room := { frames := 2, cells := 0, slots := 0, locals := 46 }
abbrev cw_X9_purse (cI cZ : ClassId) (o o_readPurses o_readDay o_purses o_daily o_text o_row o_tried o_days o_order o_bestOrder o_seenHad o_seenShared o_isKept o_keptPurses o_keptRow o_keptHad o_keptShared o_keptRest : Nat) (v_readLaw : Int32) (v_readMany : Int32) (v_readMeetings : Int32) (v_law : Int32) (v_many : Int32) (v_meetings : Int32) (v_length : Int32) (v_at : Int32) (v_faultAt : Int32) (v_one : Int32) (v_other : Int32) (v_made : Int32) (v_leads : Int32) (v_rings : Int32) (v_seen : Int32) (a_purses : Nat → Int32) : va_W := [(o, .inr (9, [.ref o_readPurses, .ref o_readDay, .int v_readLaw, .int v_readMany, .int v_readMeetings, .ref o_purses, .ref o_daily, .int v_law, .int v_many, .int v_meetings, .ref o_text, .int v_length, .int v_at, .int v_faultAt, .int v_one, .int v_other, .int v_made, .ref o_row, .ref o_tried, .int v_leads, .int v_rings, .ref o_days, .ref o_order, .ref o_bestOrder, .int v_seen, .ref o_seenHad, .ref o_seenShared, .ref o_isKept, .ref o_keptPurses, .ref o_keptRow, .ref o_keptHad, .ref o_keptShared, .ref o_keptRest])), (o_purses, .inl (cI, 8, .inl a_purses))]
theorem inw_X9_purse_X9 : ∀ w ∈ u_ws RX9 TX9 33, w ∈ wsX9_purse := by decide +kernel
def wp_X9_purse (n1 : Int32) (v_many : Int32) (a_purses : Nat → Int32) (Post : Int32 → Prop) : Prop := (wp_X9_isPerson n1 v_many (fun (r2 : Int32) => ((r2 = 0 → (Post (-1 : Int32))) ∧ (¬ r2 = 0 → (vp_in n1 8 ∧ (Post (a_purses (Int32.toNatClampNeg n1))))))))
set_option maxHeartbeats 4000000 in
set_option maxRecDepth 100000 in
theorem c_X9_purse (l : Launch) (D : va_G) (cI cZ : ClassId) (o o_readPurses o_readDay o_purses o_daily o_text o_row o_tried o_days o_order o_bestOrder o_seenHad o_seenShared o_isKept o_keptPurses o_keptRow o_keptHad o_keptShared o_keptRest : Nat) (sz : Nat) (n1 : Int32) (v_readLaw : Int32) (v_readMany : Int32) (v_readMeetings : Int32) (v_law : Int32) (v_many : Int32) (v_meetings : Int32) (v_length : Int32) (v_at : Int32) (v_faultAt : Int32) (v_one : Int32) (v_other : Int32) (v_made : Int32) (v_leads : Int32) (v_rings : Int32) (v_seen : Int32) (a_purses : Nat → Int32) (Post : Int32 → Prop) (h : wp_X9_purse n1 v_many a_purses Post) : Met l yX9_purse wsX9_purse rm_X9_purse (cPc D cI cZ [.ref o, .int n1] (cw_X9_purse cI cZ o o_readPurses o_readDay o_purses o_daily o_text o_row o_tried o_days o_order o_bestOrder o_seenHad o_seenShared o_isKept o_keptPurses o_keptRow o_keptHad o_keptShared o_keptRest v_readLaw v_readMany v_readMeetings v_law v_many v_meetings v_length v_at v_faultAt v_one v_other v_made v_leads v_rings v_seen a_purses) sz) (cQi0 D Post ((cw_X9_purse cI cZ o o_readPurses o_readDay o_purses o_daily o_text o_row o_tried o_days o_order o_bestOrder o_seenHad o_seenShared o_isKept o_keptPurses o_keptRow o_keptHad o_keptShared o_keptRest v_readLaw v_readMany v_readMeetings v_law v_many v_meetings v_length v_at v_faultAt v_one v_other v_made v_leads v_rings v_seen a_purses)) (va_A (cw_X9_purse cI cZ o o_readPurses o_readDay o_purses o_daily o_text o_row o_tried o_days o_order o_bestOrder o_seenHad o_seenShared o_isKept o_keptPurses o_keptRow o_keptHad o_keptShared o_keptRest v_readLaw v_readMany v_readMeetings v_law v_many v_meetings v_length v_at v_faultAt v_one v_other v_made v_leads v_rings v_seen a_purses) sz)) 0 0 (va_A (cw_X9_purse cI cZ o o_readPurses o_readDay o_purses o_daily o_text o_row o_tried o_days o_order o_bestOrder o_seenHad o_seenShared o_isKept o_keptPurses o_keptRow o_keptHad o_keptShared o_keptRest v_readLaw v_readMany v_readMeetings v_law v_many v_meetings v_length v_at v_faultAt v_one v_other v_made v_leads v_rings v_seen a_purses) sz) := by
  refine ent (cc := cX9_purse) (maxL := 2) (ret := (some .int)) (Qc := fun A => cQi0 D Post ((cw_X9_purse cI cZ o o_readPurses o_readDay o_purses o_daily o_text o_row o_tried o_days o_order o_bestOrder o_seenHad o_seenShared o_isKept o_keptPurses o_keptRow o_keptHad o_keptShared o_keptRest v_readLaw v_readMany v_readMeetings v_law v_many v_meetings v_length v_at v_faultAt v_one v_other v_made v_leads v_rings v_seen a_purses)) A) (by decide) rfl (Nat.le_of_ble_eq_true rfl) ?_
  intro p e s m args below meth c A ls Q hQ hsz hx hb hml hr hts hown hlocks hnm hK hP hD hA hS hl
  have hl : lv_has ls 2 [(0, .ref o), (1, .int n1)] := hl
  unfold wp_X9_purse at h
  refine lv_aload_n hx hb dX9_purse_0 rfl (lv_at hl 0 rfl) ?_
  refine lv_iload_n hx hb dX9_purse_1 rfl (lv_at hl 1 rfl) ?_
  refine call_i0 (va_runV (As := [.int n1]) (rest := []) ⟨hx, hb, hml, hown, hts⟩ (c_X9_isPerson l D cI cZ o o_readPurses o_readDay o_purses o_daily o_text o_row o_tried o_days o_order o_bestOrder o_seenHad o_seenShared o_isKept o_keptPurses o_keptRow o_keptHad o_keptShared o_keptRest (Array.size s.heap) n1 v_readLaw v_readMany v_readMeetings v_law v_many v_meetings v_length v_at v_faultAt v_one v_other v_made v_leads v_rings v_seen _ h) (cwV 1 hts gX9_purse_X9_isPerson rfl rfl rfl (by decide +kernel) ⟨Nat.le_of_ble_eq_true rfl, Nat.le_of_ble_eq_true rfl⟩) (preV_of hP hD hK [0] rfl rfl 0 9 rfl rfl rfl) rfl rfl hl.1 rfl (lv_room (Nat.le_of_ble_eq_true rfl)) dX9_purse_2 ⟨Nat.zero_le _, Nat.zero_le _⟩) hP hD hS hA [0] rfl ((cw_X9_purse cI cZ o o_readPurses o_readDay o_purses o_daily o_text o_row o_tried o_days o_order o_bestOrder o_seenHad o_seenShared o_isKept o_keptPurses o_keptRow o_keptHad o_keptShared o_keptRest v_readLaw v_readMany v_readMeetings v_law v_many v_meetings v_length v_at v_faultAt v_one v_other v_made v_leads v_rings v_seen a_purses)) (rfl) (rfl) (fun r2 H locs h hP hD hS => ?_)
  refine lv_if_eq (tgt := 17) hx hb dX9_purse_5 (by decide) (fun c5 => ?_) (fun c5 => ?_)
  · have h := h.1 c5
    refine lv_iconst (v := -1) hx hb dX9_purse_17 (by decide) ?_
    exact ret_i0 hx hb hr hlocks hQ hS  hP h dX9_purse_18
  · have h := h.2 c5
    refine lv_aload_n hx hb dX9_purse_8 rfl (lv_at hl 0 rfl) ?_
    refine va_get (D := D) (ci := 9) (v := .ref o_purses) (C := RX9) (T := TX9) (N := 33) hx hb hts inw_X9_purse_X9 hown hK.1 hP 0 rfl rfl 5 (by decide) (hts (.fieldLink RX9 16 "PursesShareModel" "purses" "[I") (by decide +kernel)) (fun _ h9 => h9) rfl dX9_purse_9 ?_
    refine lv_iload_n hx hb dX9_purse_12 rfl (lv_at hl 1 rfl) ?_
    have h0 := h.1
    have h := h.2
    refine va_iald hx hb hK.1 hP 1 0 rfl rfl h0 dX9_purse_13 ?_
    refine lv_goto (tgt := 18) hx hb dX9_purse_14 (by decide) ?_
    exact ret_i0 hx hb hr hlocks hQ hS  hP h dX9_purse_18
abbrev rm_X9_fill : Room := { frames := 2, cells := 0, slots := 0, locals := 46 }
abbrev cw_X9_fill (cI cZ : ClassId) (o o_readPurses o_readDay o_purses o_daily o_text o_row o_tried o_days o_order o_bestOrder o_seenHad o_seenShared o_isKept o_keptPurses o_keptRow o_keptHad o_keptShared o_keptRest : Nat) (v_readLaw : Int32) (v_readMany : Int32) (v_readMeetings : Int32) (v_law : Int32) (v_many : Int32) (v_meetings : Int32) (v_length : Int32) (v_at : Int32) (v_faultAt : Int32) (v_one : Int32) (v_other : Int32) (v_made : Int32) (v_leads : Int32) (v_rings : Int32) (v_seen : Int32) (a_purses : Nat → Int32) : va_W := [(o, .inr (9, [.ref o_readPurses, .ref o_readDay, .int v_readLaw, .int v_readMany, .int v_readMeetings, .ref o_purses, .ref o_daily, .int v_law, .int v_many, .int v_meetings, .ref o_text, .int v_length, .int v_at, .int v_faultAt, .int v_one, .int v_other, .int v_made, .ref o_row, .ref o_tried, .int v_leads, .int v_rings, .ref o_days, .ref o_order, .ref o_bestOrder, .int v_seen, .ref o_seenHad, .ref o_seenShared, .ref o_isKept, .ref o_keptPurses, .ref o_keptRow, .ref o_keptHad, .ref o_keptShared, .ref o_keptRest])), (o_purses, .inl (cI, 8, .inl a_purses))]
theorem inw_X9_fill_X9 : ∀ w ∈ u_ws RX9 TX9 33, w ∈ wsX9_fill := by decide +kernel
def wp_X9_fill (n1 : Int32) (n2 : Int32) (v_many : Int32) (v_made : Int32) (a_purses : Nat → Int32) (Post : Int32 → (Int32) → (Nat → Int32) → Prop) : Prop := (wp_X9_isPerson n1 v_many (fun (r2 : Int32) => ((¬ r2 = 0 → (wp_X9_in (Int32.toInt64 n2) (0 : Int64) (99999 : Int64) (fun (r16 : Int32) => ((¬ r16 = 0 → (vp_in n1 8 ∧ (vp_in n1 8 ∧ (Post (a_purses (Int32.toNatClampNeg n1)) (0 : Int32) (upd a_purses (Int32.toNatClampNeg n1) n2))))) ∧ (r16 = 0 → (Post (-2 : Int32) v_made a_purses)))))) ∧ (r2 = 0 → (Post (-1 : Int32) v_made a_purses)))))
set_option maxHeartbeats 4000000 in
set_option maxRecDepth 100000 in
theorem c_X9_fill (l : Launch) (D : va_G) (cI cZ : ClassId) (o o_readPurses o_readDay o_purses o_daily o_text o_row o_tried o_days o_order o_bestOrder o_seenHad o_seenShared o_isKept o_keptPurses o_keptRow o_keptHad o_keptShared o_keptRest : Nat) (sz : Nat) (n1 : Int32) (n2 : Int32) (v_readLaw : Int32) (v_readMany : Int32) (v_readMeetings : Int32) (v_law : Int32) (v_many : Int32) (v_meetings : Int32) (v_length : Int32) (v_at : Int32) (v_faultAt : Int32) (v_one : Int32) (v_other : Int32) (v_made : Int32) (v_leads : Int32) (v_rings : Int32) (v_seen : Int32) (a_purses : Nat → Int32) (Post : Int32 → (Int32) → (Nat → Int32) → Prop) (h : wp_X9_fill n1 n2 v_many v_made a_purses Post) : Met l yX9_fill wsX9_fill rm_X9_fill (cPc D cI cZ [.ref o, .int n1, .int n2] (cw_X9_fill cI cZ o o_readPurses o_readDay o_purses o_daily o_text o_row o_tried o_days o_order o_bestOrder o_seenHad o_seenShared o_isKept o_keptPurses o_keptRow o_keptHad o_keptShared o_keptRest v_readLaw v_readMany v_readMeetings v_law v_many v_meetings v_length v_at v_faultAt v_one v_other v_made v_leads v_rings v_seen a_purses) sz) (cQi2 D Post (fun m_v_made m_a_purses => (cw_X9_fill cI cZ o o_readPurses o_readDay o_purses o_daily o_text o_row o_tried o_days o_order o_bestOrder o_seenHad o_seenShared o_isKept o_keptPurses o_keptRow o_keptHad o_keptShared o_keptRest v_readLaw v_readMany v_readMeetings v_law v_many v_meetings v_length v_at v_faultAt v_one v_other m_v_made v_leads v_rings v_seen m_a_purses)) (va_A (cw_X9_fill cI cZ o o_readPurses o_readDay o_purses o_daily o_text o_row o_tried o_days o_order o_bestOrder o_seenHad o_seenShared o_isKept o_keptPurses o_keptRow o_keptHad o_keptShared o_keptRest v_readLaw v_readMany v_readMeetings v_law v_many v_meetings v_length v_at v_faultAt v_one v_other v_made v_leads v_rings v_seen a_purses) sz)) 0 0 (va_A (cw_X9_fill cI cZ o o_readPurses o_readDay o_purses o_daily o_text o_row o_tried o_days o_order o_bestOrder o_seenHad o_seenShared o_isKept o_keptPurses o_keptRow o_keptHad o_keptShared o_keptRest v_readLaw v_readMany v_readMeetings v_law v_many v_meetings v_length v_at v_faultAt v_one v_other v_made v_leads v_rings v_seen a_purses) sz) := by
  refine ent (cc := cX9_fill) (maxL := 4) (ret := (some .int)) (Qc := fun A => cQi2 D Post (fun m_v_made m_a_purses => (cw_X9_fill cI cZ o o_readPurses o_readDay o_purses o_daily o_text o_row o_tried o_days o_order o_bestOrder o_seenHad o_seenShared o_isKept o_keptPurses o_keptRow o_keptHad o_keptShared o_keptRest v_readLaw v_readMany v_readMeetings v_law v_many v_meetings v_length v_at v_faultAt v_one v_other m_v_made v_leads v_rings v_seen m_a_purses)) A) (by decide) rfl (Nat.le_of_ble_eq_true rfl) ?_
  intro p e s m args below meth c A ls Q hQ hsz hx hb hml hr hts hown hlocks hnm hK hP hD hA hS hl
  have hl : lv_has ls 4 [(0, .ref o), (1, .int n1), (2, .int n2)] := hl
  unfold wp_X9_fill at h
  refine lv_aload_n hx hb dX9_fill_0 rfl (lv_at hl 0 rfl) ?_
  refine lv_iload_n hx hb dX9_fill_1 rfl (lv_at hl 1 rfl) ?_
  refine call_i0 (va_runV (As := [.int n1]) (rest := []) ⟨hx, hb, hml, hown, hts⟩ (c_X9_isPerson l D cI cZ o o_readPurses o_readDay o_purses o_daily o_text o_row o_tried o_days o_order o_bestOrder o_seenHad o_seenShared o_isKept o_keptPurses o_keptRow o_keptHad o_keptShared o_keptRest (Array.size s.heap) n1 v_readLaw v_readMany v_readMeetings v_law v_many v_meetings v_length v_at v_faultAt v_one v_other v_made v_leads v_rings v_seen _ h) (cwV 1 hts gX9_fill_X9_isPerson rfl rfl rfl (by decide +kernel) ⟨Nat.le_of_ble_eq_true rfl, Nat.le_of_ble_eq_true rfl⟩) (preV_of hP hD hK [0] rfl rfl 0 9 rfl rfl rfl) rfl rfl hl.1 rfl (lv_room (Nat.le_of_ble_eq_true rfl)) dX9_fill_2 ⟨Nat.zero_le _, Nat.zero_le _⟩) hP hD hS hA [0] rfl ((cw_X9_fill cI cZ o o_readPurses o_readDay o_purses o_daily o_text o_row o_tried o_days o_order o_bestOrder o_seenHad o_seenShared o_isKept o_keptPurses o_keptRow o_keptHad o_keptShared o_keptRest v_readLaw v_readMany v_readMeetings v_law v_many v_meetings v_length v_at v_faultAt v_one v_other v_made v_leads v_rings v_seen a_purses)) (rfl) (rfl) (fun r2 H locs h hP hD hS => ?_)
  refine lv_if_ne (tgt := 10) hx hb dX9_fill_5 (by decide) (fun c5 => ?_) (fun c5 => ?_)
  · have h := h.1 c5
    refine lv_iload_n hx hb dX9_fill_10 rfl (lv_at hl 2 rfl) ?_
    refine lv_i2l (v := (Int32.toInt64 n2)) hx hb dX9_fill_11 rfl ?_
    refine lv_lconst (v := 0) hx hb dX9_fill_12 (by decide) ?_
    refine lv_ldc2 (own := RX9) (index := 119) (v := 99999) hx hb hown (hts (.constantLong RX9 119 (99999)) (by decide +kernel)) dX9_fill_13 ?_
    refine call_i0 (va_runS (As := [.long (Int32.toInt64 n2), .long (0 : Int64), .long (99999 : Int64)]) (rest := []) ⟨hx, hb, hml, hown, hts⟩ (c_X9_in l D cI cZ (Array.size H) (Int32.toInt64 n2) (0 : Int64) (99999 : Int64) _ h) (va_cwS 3 hts gX9_fill_X9_in rfl rfl rfl (by decide +kernel) ⟨Nat.le_of_ble_eq_true rfl, Nat.le_of_ble_eq_true rfl⟩) (preS_of hP hD hK [] rfl rfl) rfl rfl hl.1 rfl (lv_room (Nat.le_of_ble_eq_true rfl)) dX9_fill_16 ⟨Nat.zero_le _, Nat.zero_le _⟩) hP hD hS hA [] rfl ((cw_X9_fill cI cZ o o_readPurses o_readDay o_purses o_daily o_text o_row o_tried o_days o_order o_bestOrder o_seenHad o_seenShared o_isKept o_keptPurses o_keptRow o_keptHad o_keptShared o_keptRest v_readLaw v_readMany v_readMeetings v_law v_many v_meetings v_length v_at v_faultAt v_one v_other v_made v_leads v_rings v_seen a_purses)) (rfl) (rfl) (fun r16 H locs h hP hD hS => ?_)
    refine lv_if_ne (tgt := 25) hx hb dX9_fill_19 (by decide) (fun c19 => ?_) (fun c19 => ?_)
    · have h := h.1 c19
      refine lv_aload_n hx hb dX9_fill_25 rfl (lv_at hl 0 rfl) ?_
      refine va_get (D := D) (ci := 9) (v := .ref o_purses) (C := RX9) (T := TX9) (N := 33) hx hb hts inw_X9_fill_X9 hown hK.1 hP 0 rfl rfl 5 (by decide) (hts (.fieldLink RX9 16 "PursesShareModel" "purses" "[I") (by decide +kernel)) (fun _ h9 => h9) rfl dX9_fill_26 ?_
      refine lv_iload_n hx hb dX9_fill_29 rfl (lv_at hl 1 rfl) ?_
      have h0 := h.1
      have h := h.2
      refine va_iald hx hb hK.1 hP 1 0 rfl rfl h0 dX9_fill_30 ?_
      refine lv_istore_n (lv' := [(3, .int (a_purses (Int32.toNatClampNeg n1))), (0, .ref o), (1, .int n1), (2, .int n2)]) hx hb dX9_fill_31 rfl hl (by decide) rfl (fun ls hl => ?_)
      refine lv_aload_n hx hb dX9_fill_32 rfl (lv_at hl 1 rfl) ?_
      refine va_get (D := D) (ci := 9) (v := .ref o_purses) (C := RX9) (T := TX9) (N := 33) hx hb hts inw_X9_fill_X9 hown hK.1 hP 0 rfl rfl 5 (by decide) (hts (.fieldLink RX9 16 "PursesShareModel" "purses" "[I") (by decide +kernel)) (fun _ h9 => h9) rfl dX9_fill_33 ?_
      refine lv_iload_n hx hb dX9_fill_36 rfl (lv_at hl 2 rfl) ?_
      refine lv_iload_n hx hb dX9_fill_37 rfl (lv_at hl 3 rfl) ?_
      have h0 := h.1
      have h := h.2
      refine va_iast hx hb hK.1 hP hD hS 1 0 rfl rfl h0 dX9_fill_38 (fun H locs hP hD hS => ?_)
      have hP : va_P D vwCl (cw_X9_fill cI cZ o o_readPurses o_readDay o_purses o_daily o_text o_row o_tried o_days o_order o_bestOrder o_seenHad o_seenShared o_isKept o_keptPurses o_keptRow o_keptHad o_keptShared o_keptRest v_readLaw v_readMany v_readMeetings v_law v_many v_meetings v_length v_at v_faultAt v_one v_other v_made v_leads v_rings v_seen (upd a_purses (Int32.toNatClampNeg n1) n2)) H := hP
      have hD : va_D A (cw_X9_fill cI cZ o o_readPurses o_readDay o_purses o_daily o_text o_row o_tried o_days o_order o_bestOrder o_seenHad o_seenShared o_isKept o_keptPurses o_keptRow o_keptHad o_keptShared o_keptRest v_readLaw v_readMany v_readMeetings v_law v_many v_meetings v_length v_at v_faultAt v_one v_other v_made v_leads v_rings v_seen (upd a_purses (Int32.toNatClampNeg n1) n2)) := hD
      refine lv_aload_n hx hb dX9_fill_39 rfl (lv_at hl 1 rfl) ?_
      refine lv_iconst (v := 0) hx hb dX9_fill_40 (by decide) ?_
      refine va_put (D := D) (ci := 9) (v := .int (0 : Int32)) (ty := .int) (C := RX9) (T := TX9) (N := 33) hx hb hts inw_X9_fill_X9 tyX9 tyX9_ok nmX9 hown hK.1 hP hD hS 0 rfl rfl 16 (by decide) (hts (.fieldLink RX9 109 "PursesShareModel" "made" "I") (by decide +kernel)) (fun _ h9 => h9) rfl (by decide +kernel) rfl rfl (Nat.le_of_ble_eq_true rfl) dX9_fill_41 (fun H locs hP hD hS => ?_)
      have hP : va_P D vwCl (cw_X9_fill cI cZ o o_readPurses o_readDay o_purses o_daily o_text o_row o_tried o_days o_order o_bestOrder o_seenHad o_seenShared o_isKept o_keptPurses o_keptRow o_keptHad o_keptShared o_keptRest v_readLaw v_readMany v_readMeetings v_law v_many v_meetings v_length v_at v_faultAt v_one v_other (0 : Int32) v_leads v_rings v_seen (upd a_purses (Int32.toNatClampNeg n1) n2)) H := hP
      have hD : va_D A (cw_X9_fill cI cZ o o_readPurses o_readDay o_purses o_daily o_text o_row o_tried o_days o_order o_bestOrder o_seenHad o_seenShared o_isKept o_keptPurses o_keptRow o_keptHad o_keptShared o_keptRest v_readLaw v_readMany v_readMeetings v_law v_many v_meetings v_length v_at v_faultAt v_one v_other (0 : Int32) v_leads v_rings v_seen (upd a_purses (Int32.toNatClampNeg n1) n2)) := hD
      refine lv_iload_n hx hb dX9_fill_44 rfl (lv_at hl 0 rfl) ?_
      exact ret_i2 hx hb hr hlocks hQ hS (0 : Int32) (upd a_purses (Int32.toNatClampNeg n1) n2) hP h dX9_fill_45
    · have h := h.2 c19
      refine lv_bipush (v := -2) hx hb dX9_fill_22 (by decide) ?_
      exact ret_i2 hx hb hr hlocks hQ hS v_made a_purses hP h dX9_fill_24
  · have h := h.2 c5
    refine lv_iconst (v := -1) hx hb dX9_fill_8 (by decide) ?_
    exact ret_i2 hx hb hr hlocks hQ hS v_made a_purses hP h dX9_fill_9
abbrev rm_X9_law : Room := { frames := 1, cells := 0, slots := 0, locals := 25 }
abbrev cw_X9_law (cI cZ : ClassId) (o o_readPurses o_readDay o_purses o_daily o_text o_row o_tried o_days o_order o_bestOrder o_seenHad o_seenShared o_isKept o_keptPurses o_keptRow o_keptHad o_keptShared o_keptRest : Nat) (v_readLaw : Int32) (v_readMany : Int32) (v_readMeetings : Int32) (v_law : Int32) (v_many : Int32) (v_meetings : Int32) (v_length : Int32) (v_at : Int32) (v_faultAt : Int32) (v_one : Int32) (v_other : Int32) (v_made : Int32) (v_leads : Int32) (v_rings : Int32) (v_seen : Int32) : va_W := [(o, .inr (9, [.ref o_readPurses, .ref o_readDay, .int v_readLaw, .int v_readMany, .int v_readMeetings, .ref o_purses, .ref o_daily, .int v_law, .int v_many, .int v_meetings, .ref o_text, .int v_length, .int v_at, .int v_faultAt, .int v_one, .int v_other, .int v_made, .ref o_row, .ref o_tried, .int v_leads, .int v_rings, .ref o_days, .ref o_order, .ref o_bestOrder, .int v_seen, .ref o_seenHad, .ref o_seenShared, .ref o_isKept, .ref o_keptPurses, .ref o_keptRow, .ref o_keptHad, .ref o_keptShared, .ref o_keptRest]))]
theorem inw_X9_law_X9 : ∀ w ∈ u_ws RX9 TX9 33, w ∈ wsX9_law := by decide +kernel
def wp_X9_law (n1 : Int32) (v_law : Int32) (Post : Int32 → (Int32) → Prop) : Prop := (wp_X9_in (Int32.toInt64 n1) (0 : Int64) (3 : Int64) (fun (r6 : Int32) => ((¬ r6 = 0 → (Post v_law n1)) ∧ (r6 = 0 → (Post (-2 : Int32) v_law)))))
set_option maxHeartbeats 4000000 in
set_option maxRecDepth 100000 in
theorem c_X9_law (l : Launch) (D : va_G) (cI cZ : ClassId) (o o_readPurses o_readDay o_purses o_daily o_text o_row o_tried o_days o_order o_bestOrder o_seenHad o_seenShared o_isKept o_keptPurses o_keptRow o_keptHad o_keptShared o_keptRest : Nat) (sz : Nat) (n1 : Int32) (v_readLaw : Int32) (v_readMany : Int32) (v_readMeetings : Int32) (v_law : Int32) (v_many : Int32) (v_meetings : Int32) (v_length : Int32) (v_at : Int32) (v_faultAt : Int32) (v_one : Int32) (v_other : Int32) (v_made : Int32) (v_leads : Int32) (v_rings : Int32) (v_seen : Int32) (Post : Int32 → (Int32) → Prop) (h : wp_X9_law n1 v_law Post) : Met l yX9_law wsX9_law rm_X9_law (cPc D cI cZ [.ref o, .int n1] (cw_X9_law cI cZ o o_readPurses o_readDay o_purses o_daily o_text o_row o_tried o_days o_order o_bestOrder o_seenHad o_seenShared o_isKept o_keptPurses o_keptRow o_keptHad o_keptShared o_keptRest v_readLaw v_readMany v_readMeetings v_law v_many v_meetings v_length v_at v_faultAt v_one v_other v_made v_leads v_rings v_seen) sz) (cQi1 D Post (fun m_v_law => (cw_X9_law cI cZ o o_readPurses o_readDay o_purses o_daily o_text o_row o_tried o_days o_order o_bestOrder o_seenHad o_seenShared o_isKept o_keptPurses o_keptRow o_keptHad o_keptShared o_keptRest v_readLaw v_readMany v_readMeetings m_v_law v_many v_meetings v_length v_at v_faultAt v_one v_other v_made v_leads v_rings v_seen)) (va_A (cw_X9_law cI cZ o o_readPurses o_readDay o_purses o_daily o_text o_row o_tried o_days o_order o_bestOrder o_seenHad o_seenShared o_isKept o_keptPurses o_keptRow o_keptHad o_keptShared o_keptRest v_readLaw v_readMany v_readMeetings v_law v_many v_meetings v_length v_at v_faultAt v_one v_other v_made v_leads v_rings v_seen) sz)) 0 0 (va_A (cw_X9_law cI cZ o o_readPurses o_readDay o_purses o_daily o_text o_row o_tried o_days o_order o_bestOrder o_seenHad o_seenShared o_isKept o_keptPurses o_keptRow o_keptHad o_keptShared o_keptRest v_readLaw v_readMany v_readMeetings v_law v_many v_meetings v_length v_at v_faultAt v_one v_other v_made v_leads v_rings v_seen) sz) := by
  refine ent (cc := cX9_law) (maxL := 3) (ret := (some .int)) (Qc := fun A => cQi1 D Post (fun m_v_law => (cw_X9_law cI cZ o o_readPurses o_readDay o_purses o_daily o_text o_row o_tried o_days o_order o_bestOrder o_seenHad o_seenShared o_isKept o_keptPurses o_keptRow o_keptHad o_keptShared o_keptRest v_readLaw v_readMany v_readMeetings m_v_law v_many v_meetings v_length v_at v_faultAt v_one v_other v_made v_leads v_rings v_seen)) A) (by decide) rfl (Nat.le_of_ble_eq_true rfl) ?_
  intro p e s m args below meth c A ls Q hQ hsz hx hb hml hr hts hown hlocks hnm hK hP hD hA hS hl
  have hl : lv_has ls 3 [(0, .ref o), (1, .int n1)] := hl
  unfold wp_X9_law at h
  refine lv_iload_n hx hb dX9_law_0 rfl (lv_at hl 1 rfl) ?_
  refine lv_i2l (v := (Int32.toInt64 n1)) hx hb dX9_law_1 rfl ?_
  refine lv_lconst (v := 0) hx hb dX9_law_2 (by decide) ?_
  refine lv_ldc2 (own := RX9) (index := 121) (v := 3) hx hb hown (hts (.constantLong RX9 121 (3)) (by decide +kernel)) dX9_law_3 ?_
  refine call_i0 (va_runS (As := [.long (Int32.toInt64 n1), .long (0 : Int64), .long (3 : Int64)]) (rest := []) ⟨hx, hb, hml, hown, hts⟩ (c_X9_in l D cI cZ (Array.size s.heap) (Int32.toInt64 n1) (0 : Int64) (3 : Int64) _ h) (va_cwS 3 hts gX9_law_X9_in rfl rfl rfl (by decide +kernel) ⟨Nat.le_of_ble_eq_true rfl, Nat.le_of_ble_eq_true rfl⟩) (preS_of hP hD hK [] rfl rfl) rfl rfl hl.1 rfl (lv_room (Nat.le_of_ble_eq_true rfl)) dX9_law_6 ⟨Nat.zero_le _, Nat.zero_le _⟩) hP hD hS hA [] rfl ((cw_X9_law cI cZ o o_readPurses o_readDay o_purses o_daily o_text o_row o_tried o_days o_order o_bestOrder o_seenHad o_seenShared o_isKept o_keptPurses o_keptRow o_keptHad o_keptShared o_keptRest v_readLaw v_readMany v_readMeetings v_law v_many v_meetings v_length v_at v_faultAt v_one v_other v_made v_leads v_rings v_seen)) (rfl) (rfl) (fun r6 H locs h hP hD hS => ?_)
  refine lv_if_ne (tgt := 15) hx hb dX9_law_9 (by decide) (fun c9 => ?_) (fun c9 => ?_)
  · have h := h.1 c9
    refine lv_aload_n hx hb dX9_law_15 rfl (lv_at hl 0 rfl) ?_
    refine va_get (D := D) (ci := 9) (v := .int v_law) (C := RX9) (T := TX9) (N := 33) hx hb hts inw_X9_law_X9 hown hK.1 hP 0 rfl rfl 7 (by decide) (hts (.fieldLink RX9 103 "PursesShareModel" "law" "I") (by decide +kernel)) (fun _ h9 => h9) rfl dX9_law_16 ?_
    refine lv_istore_n (lv' := [(2, .int v_law), (0, .ref o), (1, .int n1)]) hx hb dX9_law_19 rfl hl (by decide) rfl (fun ls hl => ?_)
    refine lv_aload_n hx hb dX9_law_20 rfl (lv_at hl 1 rfl) ?_
    refine lv_iload_n hx hb dX9_law_21 rfl (lv_at hl 2 rfl) ?_
    refine va_put (D := D) (ci := 9) (v := .int n1) (ty := .int) (C := RX9) (T := TX9) (N := 33) hx hb hts inw_X9_law_X9 tyX9 tyX9_ok nmX9 hown hK.1 hP hD hS 0 rfl rfl 7 (by decide) (hts (.fieldLink RX9 103 "PursesShareModel" "law" "I") (by decide +kernel)) (fun _ h9 => h9) rfl (by decide +kernel) rfl rfl (Nat.le_of_ble_eq_true rfl) dX9_law_22 (fun H locs hP hD hS => ?_)
    have hP : va_P D vwCl (cw_X9_law cI cZ o o_readPurses o_readDay o_purses o_daily o_text o_row o_tried o_days o_order o_bestOrder o_seenHad o_seenShared o_isKept o_keptPurses o_keptRow o_keptHad o_keptShared o_keptRest v_readLaw v_readMany v_readMeetings n1 v_many v_meetings v_length v_at v_faultAt v_one v_other v_made v_leads v_rings v_seen) H := hP
    have hD : va_D A (cw_X9_law cI cZ o o_readPurses o_readDay o_purses o_daily o_text o_row o_tried o_days o_order o_bestOrder o_seenHad o_seenShared o_isKept o_keptPurses o_keptRow o_keptHad o_keptShared o_keptRest v_readLaw v_readMany v_readMeetings n1 v_many v_meetings v_length v_at v_faultAt v_one v_other v_made v_leads v_rings v_seen) := hD
    refine lv_iload_n hx hb dX9_law_25 rfl (lv_at hl 0 rfl) ?_
    exact ret_i1 hx hb hr hlocks hQ hS n1 hP h dX9_law_26
  · have h := h.2 c9
    refine lv_bipush (v := -2) hx hb dX9_law_12 (by decide) ?_
    exact ret_i1 hx hb hr hlocks hQ hS v_law hP h dX9_law_14
abbrev rm_X9_daily : Room := { frames := 1, cells := 0, slots := 0, locals := 25 }
abbrev cw_X9_daily (cI cZ : ClassId) (o o_readPurses o_readDay o_purses o_daily o_text o_row o_tried o_days o_order o_bestOrder o_seenHad o_seenShared o_isKept o_keptPurses o_keptRow o_keptHad o_keptShared o_keptRest : Nat) (v_readLaw : Int32) (v_readMany : Int32) (v_readMeetings : Int32) (v_law : Int32) (v_many : Int32) (v_meetings : Int32) (v_length : Int32) (v_at : Int32) (v_faultAt : Int32) (v_one : Int32) (v_other : Int32) (v_made : Int32) (v_leads : Int32) (v_rings : Int32) (v_seen : Int32) (a_daily : Nat → Int32) : va_W := [(o, .inr (9, [.ref o_readPurses, .ref o_readDay, .int v_readLaw, .int v_readMany, .int v_readMeetings, .ref o_purses, .ref o_daily, .int v_law, .int v_many, .int v_meetings, .ref o_text, .int v_length, .int v_at, .int v_faultAt, .int v_one, .int v_other, .int v_made, .ref o_row, .ref o_tried, .int v_leads, .int v_rings, .ref o_days, .ref o_order, .ref o_bestOrder, .int v_seen, .ref o_seenHad, .ref o_seenShared, .ref o_isKept, .ref o_keptPurses, .ref o_keptRow, .ref o_keptHad, .ref o_keptShared, .ref o_keptRest])), (o_daily, .inl (cI, 32, .inl a_daily))]
theorem inw_X9_daily_X9 : ∀ w ∈ u_ws RX9 TX9 33, w ∈ wsX9_daily := by decide +kernel
def wp_X9_daily (n1 : Int32) (n2 : Int32) (v_meetings : Int32) (a_daily : Nat → Int32) (Post : Int32 → Prop) : Prop := (wp_X9_in (Int32.toInt64 n2) (0 : Int64) (1 : Int64) (fun (r4 : Int32) => ((¬ r4 = 0 → (wp_X9_in (Int32.toInt64 n1) (0 : Int64) (Int32.toInt64 (v_meetings - (1 : Int32))) (fun (r23 : Int32) => ((r23 = 0 → (Post (-9 : Int32))) ∧ (¬ r23 = 0 → (vp_in (((2 : Int32) * n1) + n2) 32 ∧ (Post (a_daily (Int32.toNatClampNeg (((2 : Int32) * n1) + n2)))))))))) ∧ (r4 = 0 → (Post (-2 : Int32))))))
set_option maxHeartbeats 4000000 in
set_option maxRecDepth 100000 in
theorem c_X9_daily (l : Launch) (D : va_G) (cI cZ : ClassId) (o o_readPurses o_readDay o_purses o_daily o_text o_row o_tried o_days o_order o_bestOrder o_seenHad o_seenShared o_isKept o_keptPurses o_keptRow o_keptHad o_keptShared o_keptRest : Nat) (sz : Nat) (n1 : Int32) (n2 : Int32) (v_readLaw : Int32) (v_readMany : Int32) (v_readMeetings : Int32) (v_law : Int32) (v_many : Int32) (v_meetings : Int32) (v_length : Int32) (v_at : Int32) (v_faultAt : Int32) (v_one : Int32) (v_other : Int32) (v_made : Int32) (v_leads : Int32) (v_rings : Int32) (v_seen : Int32) (a_daily : Nat → Int32) (Post : Int32 → Prop) (h : wp_X9_daily n1 n2 v_meetings a_daily Post) : Met l yX9_daily wsX9_daily rm_X9_daily (cPc D cI cZ [.ref o, .int n1, .int n2] (cw_X9_daily cI cZ o o_readPurses o_readDay o_purses o_daily o_text o_row o_tried o_days o_order o_bestOrder o_seenHad o_seenShared o_isKept o_keptPurses o_keptRow o_keptHad o_keptShared o_keptRest v_readLaw v_readMany v_readMeetings v_law v_many v_meetings v_length v_at v_faultAt v_one v_other v_made v_leads v_rings v_seen a_daily) sz) (cQi0 D Post ((cw_X9_daily cI cZ o o_readPurses o_readDay o_purses o_daily o_text o_row o_tried o_days o_order o_bestOrder o_seenHad o_seenShared o_isKept o_keptPurses o_keptRow o_keptHad o_keptShared o_keptRest v_readLaw v_readMany v_readMeetings v_law v_many v_meetings v_length v_at v_faultAt v_one v_other v_made v_leads v_rings v_seen a_daily)) (va_A (cw_X9_daily cI cZ o o_readPurses o_readDay o_purses o_daily o_text o_row o_tried o_days o_order o_bestOrder o_seenHad o_seenShared o_isKept o_keptPurses o_keptRow o_keptHad o_keptShared o_keptRest v_readLaw v_readMany v_readMeetings v_law v_many v_meetings v_length v_at v_faultAt v_one v_other v_made v_leads v_rings v_seen a_daily) sz)) 0 0 (va_A (cw_X9_daily cI cZ o o_readPurses o_readDay o_purses o_daily o_text o_row o_tried o_days o_order o_bestOrder o_seenHad o_seenShared o_isKept o_keptPurses o_keptRow o_keptHad o_keptShared o_keptRest v_readLaw v_readMany v_readMeetings v_law v_many v_meetings v_length v_at v_faultAt v_one v_other v_made v_leads v_rings v_seen a_daily) sz) := by
  refine ent (cc := cX9_daily) (maxL := 3) (ret := (some .int)) (Qc := fun A => cQi0 D Post ((cw_X9_daily cI cZ o o_readPurses o_readDay o_purses o_daily o_text o_row o_tried o_days o_order o_bestOrder o_seenHad o_seenShared o_isKept o_keptPurses o_keptRow o_keptHad o_keptShared o_keptRest v_readLaw v_readMany v_readMeetings v_law v_many v_meetings v_length v_at v_faultAt v_one v_other v_made v_leads v_rings v_seen a_daily)) A) (by decide) rfl (Nat.le_of_ble_eq_true rfl) ?_
  intro p e s m args below meth c A ls Q hQ hsz hx hb hml hr hts hown hlocks hnm hK hP hD hA hS hl
  have hl : lv_has ls 3 [(0, .ref o), (1, .int n1), (2, .int n2)] := hl
  unfold wp_X9_daily at h
  refine lv_iload_n hx hb dX9_daily_0 rfl (lv_at hl 2 rfl) ?_
  refine lv_i2l (v := (Int32.toInt64 n2)) hx hb dX9_daily_1 rfl ?_
  refine lv_lconst (v := 0) hx hb dX9_daily_2 (by decide) ?_
  refine lv_lconst (v := 1) hx hb dX9_daily_3 (by decide) ?_
  refine call_i0 (va_runS (As := [.long (Int32.toInt64 n2), .long (0 : Int64), .long (1 : Int64)]) (rest := []) ⟨hx, hb, hml, hown, hts⟩ (c_X9_in l D cI cZ (Array.size s.heap) (Int32.toInt64 n2) (0 : Int64) (1 : Int64) _ h) (va_cwS 3 hts gX9_daily_X9_in rfl rfl rfl (by decide +kernel) ⟨Nat.le_of_ble_eq_true rfl, Nat.le_of_ble_eq_true rfl⟩) (preS_of hP hD hK [] rfl rfl) rfl rfl hl.1 rfl (lv_room (Nat.le_of_ble_eq_true rfl)) dX9_daily_4 ⟨Nat.zero_le _, Nat.zero_le _⟩) hP hD hS hA [] rfl ((cw_X9_daily cI cZ o o_readPurses o_readDay o_purses o_daily o_text o_row o_tried o_days o_order o_bestOrder o_seenHad o_seenShared o_isKept o_keptPurses o_keptRow o_keptHad o_keptShared o_keptRest v_readLaw v_readMany v_readMeetings v_law v_many v_meetings v_length v_at v_faultAt v_one v_other v_made v_leads v_rings v_seen a_daily)) (rfl) (rfl) (fun r4 H locs h hP hD hS => ?_)
  refine lv_if_ne (tgt := 13) hx hb dX9_daily_7 (by decide) (fun c7 => ?_) (fun c7 => ?_)
  · have h := h.1 c7
    refine lv_iload_n hx hb dX9_daily_13 rfl (lv_at hl 1 rfl) ?_
    refine lv_i2l (v := (Int32.toInt64 n1)) hx hb dX9_daily_14 rfl ?_
    refine lv_lconst (v := 0) hx hb dX9_daily_15 (by decide) ?_
    refine lv_aload_n hx hb dX9_daily_16 rfl (lv_at hl 0 rfl) ?_
    refine va_get (D := D) (ci := 9) (v := .int v_meetings) (C := RX9) (T := TX9) (N := 33) hx hb hts inw_X9_daily_X9 hown hK.1 hP 0 rfl rfl 9 (by decide) (hts (.fieldLink RX9 106 "PursesShareModel" "meetings" "I") (by decide +kernel)) (fun _ h9 => h9) rfl dX9_daily_17 ?_
    refine lv_iconst (v := 1) hx hb dX9_daily_20 (by decide) ?_
    refine lv_isub hx hb dX9_daily_21 ?_
    refine lv_i2l (v := (Int32.toInt64 (v_meetings - (1 : Int32)))) hx hb dX9_daily_22 rfl ?_
    refine call_i0 (va_runS (As := [.long (Int32.toInt64 n1), .long (0 : Int64), .long (Int32.toInt64 (v_meetings - (1 : Int32)))]) (rest := []) ⟨hx, hb, hml, hown, hts⟩ (c_X9_in l D cI cZ (Array.size H) (Int32.toInt64 n1) (0 : Int64) (Int32.toInt64 (v_meetings - (1 : Int32))) _ h) (va_cwS 3 hts gX9_daily_X9_in rfl rfl rfl (by decide +kernel) ⟨Nat.le_of_ble_eq_true rfl, Nat.le_of_ble_eq_true rfl⟩) (preS_of hP hD hK [] rfl rfl) rfl rfl hl.1 rfl (lv_room (Nat.le_of_ble_eq_true rfl)) dX9_daily_23 ⟨Nat.zero_le _, Nat.zero_le _⟩) hP hD hS hA [] rfl ((cw_X9_daily cI cZ o o_readPurses o_readDay o_purses o_daily o_text o_row o_tried o_days o_order o_bestOrder o_seenHad o_seenShared o_isKept o_keptPurses o_keptRow o_keptHad o_keptShared o_keptRest v_readLaw v_readMany v_readMeetings v_law v_many v_meetings v_length v_at v_faultAt v_one v_other v_made v_leads v_rings v_seen a_daily)) (rfl) (rfl) (fun r23 H locs h hP hD hS => ?_)
    refine lv_if_eq (tgt := 42) hx hb dX9_daily_26 (by decide) (fun c26 => ?_) (fun c26 => ?_)
    · have h := h.1 c26
      refine lv_bipush (v := -9) hx hb dX9_daily_42 (by decide) ?_
      exact ret_i0 hx hb hr hlocks hQ hS  hP h dX9_daily_44
    · have h := h.2 c26
      refine lv_aload_n hx hb dX9_daily_29 rfl (lv_at hl 0 rfl) ?_
      refine va_get (D := D) (ci := 9) (v := .ref o_daily) (C := RX9) (T := TX9) (N := 33) hx hb hts inw_X9_daily_X9 hown hK.1 hP 0 rfl rfl 6 (by decide) (hts (.fieldLink RX9 19 "PursesShareModel" "daily" "[I") (by decide +kernel)) (fun _ h9 => h9) rfl dX9_daily_30 ?_
      refine lv_iconst (v := 2) hx hb dX9_daily_33 (by decide) ?_
      refine lv_iload_n hx hb dX9_daily_34 rfl (lv_at hl 1 rfl) ?_
      refine lv_imul hx hb dX9_daily_35 ?_
      refine lv_iload_n hx hb dX9_daily_36 rfl (lv_at hl 2 rfl) ?_
      refine lv_iadd hx hb dX9_daily_37 ?_
      have h0 := h.1
      have h := h.2
      refine va_iald hx hb hK.1 hP 1 0 rfl rfl h0 dX9_daily_38 ?_
      refine lv_goto (tgt := 44) hx hb dX9_daily_39 (by decide) ?_
      exact ret_i0 hx hb hr hlocks hQ hS  hP h dX9_daily_44
  · have h := h.2 c7
    refine lv_bipush (v := -2) hx hb dX9_daily_10 (by decide) ?_
    exact ret_i0 hx hb hr hlocks hQ hS  hP h dX9_daily_12
abbrev rm_X9_sharedBy : Room := { frames := 0, cells := 0, slots := 0, locals := 0 }
abbrev cw_X9_sharedBy (cI cZ : ClassId)  : va_W := []
def wp_X9_sharedBy (n1 : Int32) (n2 : Int32) (Post : Int32 → Prop) : Prop := (∀ k4 : (Int32) → (Int32) → Prop, (∀ (x3_4 : Int32) (x2_4 : Int32), ((x2_4 ≤ 0 → ((n1 = 0 → (Post (0 : Int32))) ∧ (¬ n1 = 0 → ((¬ n2 = 0 → (Post (x2_4 + x3_4))) ∧ (n2 = 0 → (Post (0 : Int32))))))) ∧ (¬ x2_4 ≤ 0 → ((x3_4 ≤ 0 → ((n1 = 0 → (Post (0 : Int32))) ∧ (¬ n1 = 0 → ((¬ n2 = 0 → (Post (x2_4 + x3_4))) ∧ (n2 = 0 → (Post (0 : Int32))))))) ∧ (¬ x3_4 ≤ 0 → ((x2_4 ≤ x3_4 → (¬ x2_4 = 0 ∧ (k4 (x3_4 - x3_4 / x2_4 * x2_4) x2_4))) ∧ (¬ x2_4 ≤ x3_4 → (¬ x3_4 = 0 ∧ (k4 x3_4 (x2_4 - x2_4 / x3_4 * x3_4))))))))) → k4 x3_4 x2_4) → k4 n2 n1)
set_option maxHeartbeats 4000000 in
set_option maxRecDepth 100000 in
theorem c_X9_sharedBy (l : Launch) (D : va_G) (cI cZ : ClassId) (sz : Nat) (n1 : Int32) (n2 : Int32) (Post : Int32 → Prop) (h : wp_X9_sharedBy n1 n2 Post) : Met l yX9_sharedBy wsX9_sharedBy rm_X9_sharedBy (cPc D cI cZ [.int n1, .int n2] (cw_X9_sharedBy cI cZ) sz) (cQi0 D Post ((cw_X9_sharedBy cI cZ)) (va_A (cw_X9_sharedBy cI cZ) sz)) 0 0 (va_A (cw_X9_sharedBy cI cZ) sz) := by
  refine ent (cc := cX9_sharedBy) (maxL := 4) (ret := (some .int)) (Qc := fun A => cQi0 D Post ((cw_X9_sharedBy cI cZ)) A) (by decide) rfl (Nat.le_of_ble_eq_true rfl) ?_
  intro p e s m args below meth c A ls Q hQ hsz hx hb hml hr hts hown hlocks hnm hK hP hD hA hS hl
  have hl : lv_has ls 4 [(0, .int n1), (1, .int n2)] := hl
  unfold wp_X9_sharedBy at h
  refine lv_iload_n hx hb dX9_sharedBy_0 rfl (lv_at hl 0 rfl) ?_
  refine lv_istore_n (lv' := [(2, .int n1), (0, .int n1), (1, .int n2)]) hx hb dX9_sharedBy_1 rfl hl (by decide) rfl (fun ls hl => ?_)
  refine lv_iload_n hx hb dX9_sharedBy_2 rfl (lv_at hl 2 rfl) ?_
  refine lv_istore_n (lv' := [(3, .int n2), (2, .int n1), (0, .int n1), (1, .int n2)]) hx hb dX9_sharedBy_3 rfl hl (by decide) rfl (fun ls hl => ?_)
  refine h (fun x3_4 x2_4 => ∀ (H : Heap) (locs : List Loc) (ls : Array Slot), lv_has ls 4 [(0, .int n1), (1, .int n2), (2, .int x2_4), (3, .int x3_4)] → va_P D vwCl (cw_X9_sharedBy cI cZ) H → va_D A (cw_X9_sharedBy cI cZ) → va_S A s.heap H locs → W p l e rm_X9_sharedBy s m args below meth c H locs 0 0 Q (F0 m 4 ls [])) ?_ s.heap [] ls (lv_sub hl [2, 3, 1, 0] rfl) hP hD hS
  intro x3_4 x2_4 h H locs ls hl hP hD hS
  refine lv_iload_n hx hb dX9_sharedBy_4 rfl (lv_at hl 2 rfl) ?_
  refine lv_if_le (tgt := 31) hx hb dX9_sharedBy_5 (by decide) (fun c5 => ?_) (fun c5 => ?_)
  · have h := h.1 c5
    refine lv_iload_n hx hb dX9_sharedBy_31 rfl (lv_at hl 0 rfl) ?_
    refine lv_if_eq (tgt := 39) hx hb dX9_sharedBy_32 (by decide) (fun c32 => ?_) (fun c32 => ?_)
    · have h := h.1 c32
      refine lv_iconst (v := 0) hx hb dX9_sharedBy_39 (by decide) ?_
      refine lv_goto (tgt := 46) hx hb dX9_sharedBy_40 (by decide) ?_
      exact ret_i0 hx hb hr hlocks hQ hS  hP h dX9_sharedBy_46
    · have h := h.2 c32
      refine lv_iload_n hx hb dX9_sharedBy_35 rfl (lv_at hl 1 rfl) ?_
      refine lv_if_ne (tgt := 43) hx hb dX9_sharedBy_36 (by decide) (fun c36 => ?_) (fun c36 => ?_)
      · have h := h.1 c36
        refine lv_iload_n hx hb dX9_sharedBy_43 rfl (lv_at hl 2 rfl) ?_
        refine lv_iload_n hx hb dX9_sharedBy_44 rfl (lv_at hl 3 rfl) ?_
        refine lv_iadd hx hb dX9_sharedBy_45 ?_
        exact ret_i0 hx hb hr hlocks hQ hS  hP h dX9_sharedBy_46
      · have h := h.2 c36
        refine lv_iconst (v := 0) hx hb dX9_sharedBy_39 (by decide) ?_
        refine lv_goto (tgt := 46) hx hb dX9_sharedBy_40 (by decide) ?_
        exact ret_i0 hx hb hr hlocks hQ hS  hP h dX9_sharedBy_46
  · have h := h.2 c5
    refine lv_iload_n hx hb dX9_sharedBy_8 rfl (lv_at hl 3 rfl) ?_
    refine lv_if_le (tgt := 31) hx hb dX9_sharedBy_9 (by decide) (fun c9 => ?_) (fun c9 => ?_)
    · have h := h.1 c9
      refine lv_iload_n hx hb dX9_sharedBy_31 rfl (lv_at hl 0 rfl) ?_
      refine lv_if_eq (tgt := 39) hx hb dX9_sharedBy_32 (by decide) (fun c32 => ?_) (fun c32 => ?_)
      · have h := h.1 c32
        refine lv_iconst (v := 0) hx hb dX9_sharedBy_39 (by decide) ?_
        refine lv_goto (tgt := 46) hx hb dX9_sharedBy_40 (by decide) ?_
        exact ret_i0 hx hb hr hlocks hQ hS  hP h dX9_sharedBy_46
      · have h := h.2 c32
        refine lv_iload_n hx hb dX9_sharedBy_35 rfl (lv_at hl 1 rfl) ?_
        refine lv_if_ne (tgt := 43) hx hb dX9_sharedBy_36 (by decide) (fun c36 => ?_) (fun c36 => ?_)
        · have h := h.1 c36
          refine lv_iload_n hx hb dX9_sharedBy_43 rfl (lv_at hl 2 rfl) ?_
          refine lv_iload_n hx hb dX9_sharedBy_44 rfl (lv_at hl 3 rfl) ?_
          refine lv_iadd hx hb dX9_sharedBy_45 ?_
          exact ret_i0 hx hb hr hlocks hQ hS  hP h dX9_sharedBy_46
        · have h := h.2 c36
          refine lv_iconst (v := 0) hx hb dX9_sharedBy_39 (by decide) ?_
          refine lv_goto (tgt := 46) hx hb dX9_sharedBy_40 (by decide) ?_
          exact ret_i0 hx hb hr hlocks hQ hS  hP h dX9_sharedBy_46
    · have h := h.2 c9
      refine lv_iload_n hx hb dX9_sharedBy_12 rfl (lv_at hl 2 rfl) ?_
      refine lv_iload_n hx hb dX9_sharedBy_13 rfl (lv_at hl 3 rfl) ?_
      refine lv_icmp_le (tgt := 24) hx hb dX9_sharedBy_14 (by decide) (fun c14 => ?_) (fun c14 => ?_)
      · have h := h.1 c14
        refine lv_iload_n hx hb dX9_sharedBy_24 rfl (lv_at hl 3 rfl) ?_
        refine lv_iload_n hx hb dX9_sharedBy_25 rfl (lv_at hl 2 rfl) ?_
        have h0 := h.1
        have h := h.2
        refine lv_irem hx hb dX9_sharedBy_26 h0 ?_
        refine lv_istore_n (lv' := [(3, .int (x3_4 - x3_4 / x2_4 * x2_4)), (0, .int n1), (1, .int n2), (2, .int x2_4)]) hx hb dX9_sharedBy_27 rfl hl (by decide) rfl (fun ls hl => ?_)
        refine lv_goto (tgt := 4) hx hb dX9_sharedBy_28 (by decide) ?_
        exact h H locs ls (lv_sub hl [1, 2, 3, 0] rfl) hP hD hS
      · have h := h.2 c14
        refine lv_iload_n hx hb dX9_sharedBy_17 rfl (lv_at hl 2 rfl) ?_
        refine lv_iload_n hx hb dX9_sharedBy_18 rfl (lv_at hl 3 rfl) ?_
        have h0 := h.1
        have h := h.2
        refine lv_irem hx hb dX9_sharedBy_19 h0 ?_
        refine lv_istore_n (lv' := [(2, .int (x2_4 - x2_4 / x3_4 * x3_4)), (0, .int n1), (1, .int n2), (3, .int x3_4)]) hx hb dX9_sharedBy_20 rfl hl (by decide) rfl (fun ls hl => ?_)
        refine lv_goto (tgt := 4) hx hb dX9_sharedBy_21 (by decide) ?_
        exact h H locs ls (lv_sub hl [1, 2, 0, 3] rfl) hP hD hS
abbrev rm_X9_meetTwo : Room := { frames := 1, cells := 0, slots := 0, locals := 23 }
abbrev cw_X9_meetTwo (cI cZ : ClassId) (o o_readPurses o_readDay o_purses o_daily o_text o_row o_tried o_days o_order o_bestOrder o_seenHad o_seenShared o_isKept o_keptPurses o_keptRow o_keptHad o_keptShared o_keptRest : Nat) (v_readLaw : Int32) (v_readMany : Int32) (v_readMeetings : Int32) (v_law : Int32) (v_many : Int32) (v_meetings : Int32) (v_length : Int32) (v_at : Int32) (v_faultAt : Int32) (v_one : Int32) (v_other : Int32) (v_made : Int32) (v_leads : Int32) (v_rings : Int32) (v_seen : Int32) : va_W := [(o, .inr (9, [.ref o_readPurses, .ref o_readDay, .int v_readLaw, .int v_readMany, .int v_readMeetings, .ref o_purses, .ref o_daily, .int v_law, .int v_many, .int v_meetings, .ref o_text, .int v_length, .int v_at, .int v_faultAt, .int v_one, .int v_other, .int v_made, .ref o_row, .ref o_tried, .int v_leads, .int v_rings, .ref o_days, .ref o_order, .ref o_bestOrder, .int v_seen, .ref o_seenHad, .ref o_seenShared, .ref o_isKept, .ref o_keptPurses, .ref o_keptRow, .ref o_keptHad, .ref o_keptShared, .ref o_keptRest]))]
theorem inw_X9_meetTwo_X9 : ∀ w ∈ u_ws RX9 TX9 33, w ∈ wsX9_meetTwo := by decide +kernel
def wp_X9_meetTwo (n1 : Int32) (n2 : Int32) (v_law : Int32) (v_one : Int32) (v_other : Int32) (Post : (Int32) → (Int32) → Prop) : Prop := (wp_X9_sharedBy n1 n2 (fun (r12 : Int32) => ((r12 = 0 → (Post n1 n2)) ∧ (¬ r12 = 0 → ((¬ n1 = n2 → (∀ k40 : (Int32) → Prop, (∀ (s0_40 : Int32), (¬ r12 = 0 ∧ (∀ k102 : (Int32) → Prop, (∀ (s0_102 : Int32), (∀ k117 : (Int32) → Prop, (∀ (s0_117 : Int32), (∀ k138 : (Int32) → Prop, (∀ (s1_138 : Int32), (∀ k160 : (Int32) → Prop, (∀ (s1_160 : Int32), (Post s1_138 s1_160) → k160 s1_160) → (((n2 - s0_117) ≤ (99999 : Int32) → (k160 (n2 - s0_117))) ∧ (¬ (n2 - s0_117) ≤ (99999 : Int32) → (k160 (99999 : Int32))))) → k138 s1_138) → (((n1 + s0_117) ≤ (99999 : Int32) → (k138 (n1 + s0_117))) ∧ (¬ (n1 + s0_117) ≤ (99999 : Int32) → (k138 (99999 : Int32))))) → k117 s0_117) → ((n2 ≤ n1 → (k117 (-s0_102))) ∧ (¬ n2 ≤ n1 → (k117 s0_102)))) → k102 s0_102) → ((¬ v_law = 0 → ((¬ v_law = (1 : Int32) → ((¬ v_law = (2 : Int32) → (((1 : Int32) ≤ ((s0_40 / r12) / (2 : Int32)) → (k102 (r12 * ((s0_40 / r12) / (2 : Int32))))) ∧ (¬ (1 : Int32) ≤ ((s0_40 / r12) / (2 : Int32)) → (k102 (r12 * (1 : Int32)))))) ∧ (v_law = (2 : Int32) → (k102 (r12 / (2 : Int32)))))) ∧ (v_law = (1 : Int32) → (k102 (-r12))))) ∧ (v_law = 0 → (k102 r12))))) → k40 s0_40) → ((n2 ≤ n1 → (k40 (n1 - n2))) ∧ (¬ n2 ≤ n1 → (k40 (n2 - n1)))))) ∧ (n1 = n2 → (Post n1 n2)))))))
set_option maxHeartbeats 4000000 in
set_option maxRecDepth 100000 in
theorem c_X9_meetTwo (l : Launch) (D : va_G) (cI cZ : ClassId) (o o_readPurses o_readDay o_purses o_daily o_text o_row o_tried o_days o_order o_bestOrder o_seenHad o_seenShared o_isKept o_keptPurses o_keptRow o_keptHad o_keptShared o_keptRest : Nat) (sz : Nat) (n1 : Int32) (n2 : Int32) (v_readLaw : Int32) (v_readMany : Int32) (v_readMeetings : Int32) (v_law : Int32) (v_many : Int32) (v_meetings : Int32) (v_length : Int32) (v_at : Int32) (v_faultAt : Int32) (v_one : Int32) (v_other : Int32) (v_made : Int32) (v_leads : Int32) (v_rings : Int32) (v_seen : Int32) (Post : (Int32) → (Int32) → Prop) (h : wp_X9_meetTwo n1 n2 v_law v_one v_other Post) : Met l yX9_meetTwo wsX9_meetTwo rm_X9_meetTwo (cPc D cI cZ [.ref o, .int n1, .int n2] (cw_X9_meetTwo cI cZ o o_readPurses o_readDay o_purses o_daily o_text o_row o_tried o_days o_order o_bestOrder o_seenHad o_seenShared o_isKept o_keptPurses o_keptRow o_keptHad o_keptShared o_keptRest v_readLaw v_readMany v_readMeetings v_law v_many v_meetings v_length v_at v_faultAt v_one v_other v_made v_leads v_rings v_seen) sz) (cQv2 D Post (fun m_v_one m_v_other => (cw_X9_meetTwo cI cZ o o_readPurses o_readDay o_purses o_daily o_text o_row o_tried o_days o_order o_bestOrder o_seenHad o_seenShared o_isKept o_keptPurses o_keptRow o_keptHad o_keptShared o_keptRest v_readLaw v_readMany v_readMeetings v_law v_many v_meetings v_length v_at v_faultAt m_v_one m_v_other v_made v_leads v_rings v_seen)) (va_A (cw_X9_meetTwo cI cZ o o_readPurses o_readDay o_purses o_daily o_text o_row o_tried o_days o_order o_bestOrder o_seenHad o_seenShared o_isKept o_keptPurses o_keptRow o_keptHad o_keptShared o_keptRest v_readLaw v_readMany v_readMeetings v_law v_many v_meetings v_length v_at v_faultAt v_one v_other v_made v_leads v_rings v_seen) sz)) 0 0 (va_A (cw_X9_meetTwo cI cZ o o_readPurses o_readDay o_purses o_daily o_text o_row o_tried o_days o_order o_bestOrder o_seenHad o_seenShared o_isKept o_keptPurses o_keptRow o_keptHad o_keptShared o_keptRest v_readLaw v_readMany v_readMeetings v_law v_many v_meetings v_length v_at v_faultAt v_one v_other v_made v_leads v_rings v_seen) sz) := by
  refine ent (cc := cX9_meetTwo) (maxL := 7) (ret := none) (Qc := fun A => cQv2 D Post (fun m_v_one m_v_other => (cw_X9_meetTwo cI cZ o o_readPurses o_readDay o_purses o_daily o_text o_row o_tried o_days o_order o_bestOrder o_seenHad o_seenShared o_isKept o_keptPurses o_keptRow o_keptHad o_keptShared o_keptRest v_readLaw v_readMany v_readMeetings v_law v_many v_meetings v_length v_at v_faultAt m_v_one m_v_other v_made v_leads v_rings v_seen)) A) (by decide) rfl (Nat.le_of_ble_eq_true rfl) ?_
  intro p e s m args below meth c A ls Q hQ hsz hx hb hml hr hts hown hlocks hnm hK hP hD hA hS hl
  have hl : lv_has ls 7 [(0, .ref o), (1, .int n1), (2, .int n2)] := hl
  unfold wp_X9_meetTwo at h
  refine lv_aload_n hx hb dX9_meetTwo_0 rfl (lv_at hl 0 rfl) ?_
  refine lv_iload_n hx hb dX9_meetTwo_1 rfl (lv_at hl 1 rfl) ?_
  refine va_put (D := D) (ci := 9) (v := .int n1) (ty := .int) (C := RX9) (T := TX9) (N := 33) hx hb hts inw_X9_meetTwo_X9 tyX9 tyX9_ok nmX9 hown hK.1 hP hD hS 0 rfl rfl 14 (by decide) (hts (.fieldLink RX9 123 "PursesShareModel" "one" "I") (by decide +kernel)) (fun _ h9 => h9) rfl (by decide +kernel) rfl rfl (Nat.le_of_ble_eq_true rfl) dX9_meetTwo_2 (fun H locs hP hD hS => ?_)
  have hP : va_P D vwCl (cw_X9_meetTwo cI cZ o o_readPurses o_readDay o_purses o_daily o_text o_row o_tried o_days o_order o_bestOrder o_seenHad o_seenShared o_isKept o_keptPurses o_keptRow o_keptHad o_keptShared o_keptRest v_readLaw v_readMany v_readMeetings v_law v_many v_meetings v_length v_at v_faultAt n1 v_other v_made v_leads v_rings v_seen) H := hP
  have hD : va_D A (cw_X9_meetTwo cI cZ o o_readPurses o_readDay o_purses o_daily o_text o_row o_tried o_days o_order o_bestOrder o_seenHad o_seenShared o_isKept o_keptPurses o_keptRow o_keptHad o_keptShared o_keptRest v_readLaw v_readMany v_readMeetings v_law v_many v_meetings v_length v_at v_faultAt n1 v_other v_made v_leads v_rings v_seen) := hD
  refine lv_aload_n hx hb dX9_meetTwo_5 rfl (lv_at hl 0 rfl) ?_
  refine lv_iload_n hx hb dX9_meetTwo_6 rfl (lv_at hl 2 rfl) ?_
  refine va_put (D := D) (ci := 9) (v := .int n2) (ty := .int) (C := RX9) (T := TX9) (N := 33) hx hb hts inw_X9_meetTwo_X9 tyX9 tyX9_ok nmX9 hown hK.1 hP hD hS 0 rfl rfl 15 (by decide) (hts (.fieldLink RX9 126 "PursesShareModel" "other" "I") (by decide +kernel)) (fun _ h9 => h9) rfl (by decide +kernel) rfl rfl (Nat.le_of_ble_eq_true rfl) dX9_meetTwo_7 (fun H locs hP hD hS => ?_)
  have hP : va_P D vwCl (cw_X9_meetTwo cI cZ o o_readPurses o_readDay o_purses o_daily o_text o_row o_tried o_days o_order o_bestOrder o_seenHad o_seenShared o_isKept o_keptPurses o_keptRow o_keptHad o_keptShared o_keptRest v_readLaw v_readMany v_readMeetings v_law v_many v_meetings v_length v_at v_faultAt n1 n2 v_made v_leads v_rings v_seen) H := hP
  have hD : va_D A (cw_X9_meetTwo cI cZ o o_readPurses o_readDay o_purses o_daily o_text o_row o_tried o_days o_order o_bestOrder o_seenHad o_seenShared o_isKept o_keptPurses o_keptRow o_keptHad o_keptShared o_keptRest v_readLaw v_readMany v_readMeetings v_law v_many v_meetings v_length v_at v_faultAt n1 n2 v_made v_leads v_rings v_seen) := hD
  refine lv_iload_n hx hb dX9_meetTwo_10 rfl (lv_at hl 1 rfl) ?_
  refine lv_iload_n hx hb dX9_meetTwo_11 rfl (lv_at hl 2 rfl) ?_
  refine call_i0 (va_runS (As := [.int n1, .int n2]) (rest := []) ⟨hx, hb, hml, hown, hts⟩ (c_X9_sharedBy l D cI cZ (Array.size H) n1 n2 _ h) (va_cwS 2 hts gX9_meetTwo_X9_sharedBy rfl rfl rfl (by decide +kernel) ⟨Nat.le_of_ble_eq_true rfl, Nat.le_of_ble_eq_true rfl⟩) (preS_of hP hD hK [] rfl rfl) rfl rfl hl.1 rfl (lv_room (Nat.le_of_ble_eq_true rfl)) dX9_meetTwo_12 ⟨Nat.zero_le _, Nat.zero_le _⟩) hP hD hS hA [] rfl ((cw_X9_meetTwo cI cZ o o_readPurses o_readDay o_purses o_daily o_text o_row o_tried o_days o_order o_bestOrder o_seenHad o_seenShared o_isKept o_keptPurses o_keptRow o_keptHad o_keptShared o_keptRest v_readLaw v_readMany v_readMeetings v_law v_many v_meetings v_length v_at v_faultAt n1 n2 v_made v_leads v_rings v_seen)) (rfl) (rfl) (fun r12 H locs h hP hD hS => ?_)
  refine lv_istore_n (lv' := [(3, .int r12), (0, .ref o), (1, .int n1), (2, .int n2)]) hx hb dX9_meetTwo_15 rfl hl (by decide) rfl (fun ls hl => ?_)
  refine lv_iload_n hx hb dX9_meetTwo_16 rfl (lv_at hl 0 rfl) ?_
  refine lv_if_eq (tgt := 25) hx hb dX9_meetTwo_17 (by decide) (fun c17 => ?_) (fun c17 => ?_)
  · have h := h.1 c17
    exact ret_v2 hx hb hr hlocks hQ hS n1 n2 hP h dX9_meetTwo_25
  · have h := h.2 c17
    refine lv_iload_n hx hb dX9_meetTwo_20 rfl (lv_at hl 2 rfl) ?_
    refine lv_iload_n hx hb dX9_meetTwo_21 rfl (lv_at hl 3 rfl) ?_
    refine lv_icmp_ne (tgt := 26) hx hb dX9_meetTwo_22 (by decide) (fun c22 => ?_) (fun c22 => ?_)
    · have h := h.1 c22
      refine lv_iload_n hx hb dX9_meetTwo_26 rfl (lv_at hl 2 rfl) ?_
      refine lv_iload_n hx hb dX9_meetTwo_27 rfl (lv_at hl 3 rfl) ?_
      have h := h (fun s0_40 => ∀ (H : Heap) (locs : List Loc) (ls : Array Slot), lv_has ls 7 [(0, .ref o), (1, .int n1), (2, .int n2), (3, .int r12)] → va_P D vwCl (cw_X9_meetTwo cI cZ o o_readPurses o_readDay o_purses o_daily o_text o_row o_tried o_days o_order o_bestOrder o_seenHad o_seenShared o_isKept o_keptPurses o_keptRow o_keptHad o_keptShared o_keptRest v_readLaw v_readMany v_readMeetings v_law v_many v_meetings v_length v_at v_faultAt n1 n2 v_made v_leads v_rings v_seen) H → va_D A (cw_X9_meetTwo cI cZ o o_readPurses o_readDay o_purses o_daily o_text o_row o_tried o_days o_order o_bestOrder o_seenHad o_seenShared o_isKept o_keptPurses o_keptRow o_keptHad o_keptShared o_keptRest v_readLaw v_readMany v_readMeetings v_law v_many v_meetings v_length v_at v_faultAt n1 n2 v_made v_leads v_rings v_seen) → va_S A s.heap H locs → W p l e rm_X9_meetTwo s m args below meth c H locs 0 0 Q (F0 m 40 ls [.int s0_40])) (by
        intro s0_40 h H locs ls hl hP hD hS
        refine lv_istore (lv' := [(4, .int s0_40), (0, .ref o), (1, .int n1), (2, .int n2), (3, .int r12)]) hx hb dX9_meetTwo_40 hl (by decide) rfl (fun ls hl => ?_)
        refine lv_iload hx hb dX9_meetTwo_42 (lv_at hl 0 rfl) ?_
        refine lv_iload_n hx hb dX9_meetTwo_44 rfl (lv_at hl 4 rfl) ?_
        have h0 := h.1
        have h := h.2
        refine lv_idiv hx hb dX9_meetTwo_45 h0 ?_
        refine lv_iconst (v := 2) hx hb dX9_meetTwo_46 (by decide) ?_
        refine lv_idiv hx hb dX9_meetTwo_47 (by decide) ?_
        refine lv_istore (lv' := [(5, .int ((s0_40 / r12) / (2 : Int32))), (4, .int s0_40), (0, .ref o), (1, .int n1), (2, .int n2), (3, .int r12)]) hx hb dX9_meetTwo_48 hl (by decide) rfl (fun ls hl => ?_)
        refine lv_aload_n hx hb dX9_meetTwo_50 rfl (lv_at hl 2 rfl) ?_
        refine va_get (D := D) (ci := 9) (v := .int v_law) (C := RX9) (T := TX9) (N := 33) hx hb hts inw_X9_meetTwo_X9 hown hK.1 hP 0 rfl rfl 7 (by decide) (hts (.fieldLink RX9 103 "PursesShareModel" "law" "I") (by decide +kernel)) (fun _ h9 => h9) rfl dX9_meetTwo_51 ?_
        have h := h (fun s0_102 => ∀ (H : Heap) (locs : List Loc) (ls : Array Slot), lv_has ls 7 [(0, .ref o), (1, .int n1), (2, .int n2), (3, .int r12), (4, .int s0_40), (5, .int ((s0_40 / r12) / (2 : Int32)))] → va_P D vwCl (cw_X9_meetTwo cI cZ o o_readPurses o_readDay o_purses o_daily o_text o_row o_tried o_days o_order o_bestOrder o_seenHad o_seenShared o_isKept o_keptPurses o_keptRow o_keptHad o_keptShared o_keptRest v_readLaw v_readMany v_readMeetings v_law v_many v_meetings v_length v_at v_faultAt n1 n2 v_made v_leads v_rings v_seen) H → va_D A (cw_X9_meetTwo cI cZ o o_readPurses o_readDay o_purses o_daily o_text o_row o_tried o_days o_order o_bestOrder o_seenHad o_seenShared o_isKept o_keptPurses o_keptRow o_keptHad o_keptShared o_keptRest v_readLaw v_readMany v_readMeetings v_law v_many v_meetings v_length v_at v_faultAt n1 n2 v_made v_leads v_rings v_seen) → va_S A s.heap H locs → W p l e rm_X9_meetTwo s m args below meth c H locs 0 0 Q (F0 m 102 ls [.int s0_102])) (by
          intro s0_102 h H locs ls hl hP hD hS
          refine lv_istore (lv' := [(6, .int s0_102), (0, .ref o), (1, .int n1), (2, .int n2), (3, .int r12), (4, .int s0_40), (5, .int ((s0_40 / r12) / (2 : Int32)))]) hx hb dX9_meetTwo_102 hl (by decide) rfl (fun ls hl => ?_)
          refine lv_iload_n hx hb dX9_meetTwo_104 rfl (lv_at hl 2 rfl) ?_
          refine lv_iload_n hx hb dX9_meetTwo_105 rfl (lv_at hl 3 rfl) ?_
          have h := h (fun s0_117 => ∀ (H : Heap) (locs : List Loc) (ls : Array Slot), lv_has ls 7 [(0, .ref o), (1, .int n1), (2, .int n2), (3, .int r12), (4, .int s0_40), (5, .int ((s0_40 / r12) / (2 : Int32))), (6, .int s0_102)] → va_P D vwCl (cw_X9_meetTwo cI cZ o o_readPurses o_readDay o_purses o_daily o_text o_row o_tried o_days o_order o_bestOrder o_seenHad o_seenShared o_isKept o_keptPurses o_keptRow o_keptHad o_keptShared o_keptRest v_readLaw v_readMany v_readMeetings v_law v_many v_meetings v_length v_at v_faultAt n1 n2 v_made v_leads v_rings v_seen) H → va_D A (cw_X9_meetTwo cI cZ o o_readPurses o_readDay o_purses o_daily o_text o_row o_tried o_days o_order o_bestOrder o_seenHad o_seenShared o_isKept o_keptPurses o_keptRow o_keptHad o_keptShared o_keptRest v_readLaw v_readMany v_readMeetings v_law v_many v_meetings v_length v_at v_faultAt n1 n2 v_made v_leads v_rings v_seen) → va_S A s.heap H locs → W p l e rm_X9_meetTwo s m args below meth c H locs 0 0 Q (F0 m 117 ls [.int s0_117])) (by
            intro s0_117 h H locs ls hl hP hD hS
            refine lv_istore (lv' := [(6, .int s0_117), (0, .ref o), (1, .int n1), (2, .int n2), (3, .int r12), (4, .int s0_40), (5, .int ((s0_40 / r12) / (2 : Int32)))]) hx hb dX9_meetTwo_117 hl (by decide) rfl (fun ls hl => ?_)
            refine lv_aload_n hx hb dX9_meetTwo_119 rfl (lv_at hl 1 rfl) ?_
            refine lv_iload_n hx hb dX9_meetTwo_120 rfl (lv_at hl 2 rfl) ?_
            refine lv_iload hx hb dX9_meetTwo_121 (lv_at hl 0 rfl) ?_
            refine lv_iadd hx hb dX9_meetTwo_123 ?_
            refine lv_ldc (own := RX9) (index := 132) (v := 99999) hx hb hown (hts (.constant RX9 132 (99999)) (by decide +kernel)) dX9_meetTwo_124 ?_
            have h := h (fun s1_138 => ∀ (H : Heap) (locs : List Loc) (ls : Array Slot), lv_has ls 7 [(0, .ref o), (1, .int n1), (2, .int n2), (3, .int r12), (4, .int s0_40), (5, .int ((s0_40 / r12) / (2 : Int32))), (6, .int s0_117)] → va_P D vwCl (cw_X9_meetTwo cI cZ o o_readPurses o_readDay o_purses o_daily o_text o_row o_tried o_days o_order o_bestOrder o_seenHad o_seenShared o_isKept o_keptPurses o_keptRow o_keptHad o_keptShared o_keptRest v_readLaw v_readMany v_readMeetings v_law v_many v_meetings v_length v_at v_faultAt n1 n2 v_made v_leads v_rings v_seen) H → va_D A (cw_X9_meetTwo cI cZ o o_readPurses o_readDay o_purses o_daily o_text o_row o_tried o_days o_order o_bestOrder o_seenHad o_seenShared o_isKept o_keptPurses o_keptRow o_keptHad o_keptShared o_keptRest v_readLaw v_readMany v_readMeetings v_law v_many v_meetings v_length v_at v_faultAt n1 n2 v_made v_leads v_rings v_seen) → va_S A s.heap H locs → W p l e rm_X9_meetTwo s m args below meth c H locs 0 0 Q (F0 m 138 ls [.int s1_138, .ref o])) (by
              intro s1_138 h H locs ls hl hP hD hS
              refine va_put (D := D) (ci := 9) (v := .int s1_138) (ty := .int) (C := RX9) (T := TX9) (N := 33) hx hb hts inw_X9_meetTwo_X9 tyX9 tyX9_ok nmX9 hown hK.1 hP hD hS 0 rfl rfl 14 (by decide) (hts (.fieldLink RX9 123 "PursesShareModel" "one" "I") (by decide +kernel)) (fun _ h9 => h9) rfl (by decide +kernel) rfl rfl (Nat.le_of_ble_eq_true rfl) dX9_meetTwo_138 (fun H locs hP hD hS => ?_)
              have hP : va_P D vwCl (cw_X9_meetTwo cI cZ o o_readPurses o_readDay o_purses o_daily o_text o_row o_tried o_days o_order o_bestOrder o_seenHad o_seenShared o_isKept o_keptPurses o_keptRow o_keptHad o_keptShared o_keptRest v_readLaw v_readMany v_readMeetings v_law v_many v_meetings v_length v_at v_faultAt s1_138 n2 v_made v_leads v_rings v_seen) H := hP
              have hD : va_D A (cw_X9_meetTwo cI cZ o o_readPurses o_readDay o_purses o_daily o_text o_row o_tried o_days o_order o_bestOrder o_seenHad o_seenShared o_isKept o_keptPurses o_keptRow o_keptHad o_keptShared o_keptRest v_readLaw v_readMany v_readMeetings v_law v_many v_meetings v_length v_at v_faultAt s1_138 n2 v_made v_leads v_rings v_seen) := hD
              refine lv_aload_n hx hb dX9_meetTwo_141 rfl (lv_at hl 0 rfl) ?_
              refine lv_iload_n hx hb dX9_meetTwo_142 rfl (lv_at hl 2 rfl) ?_
              refine lv_iload hx hb dX9_meetTwo_143 (lv_at hl 6 rfl) ?_
              refine lv_isub hx hb dX9_meetTwo_145 ?_
              refine lv_ldc (own := RX9) (index := 132) (v := 99999) hx hb hown (hts (.constant RX9 132 (99999)) (by decide +kernel)) dX9_meetTwo_146 ?_
              have h := h (fun s1_160 => ∀ (H : Heap) (locs : List Loc) (ls : Array Slot), lv_has ls 7 [(0, .ref o), (1, .int n1), (2, .int n2), (3, .int r12), (4, .int s0_40), (5, .int ((s0_40 / r12) / (2 : Int32))), (6, .int s0_117)] → va_P D vwCl (cw_X9_meetTwo cI cZ o o_readPurses o_readDay o_purses o_daily o_text o_row o_tried o_days o_order o_bestOrder o_seenHad o_seenShared o_isKept o_keptPurses o_keptRow o_keptHad o_keptShared o_keptRest v_readLaw v_readMany v_readMeetings v_law v_many v_meetings v_length v_at v_faultAt s1_138 n2 v_made v_leads v_rings v_seen) H → va_D A (cw_X9_meetTwo cI cZ o o_readPurses o_readDay o_purses o_daily o_text o_row o_tried o_days o_order o_bestOrder o_seenHad o_seenShared o_isKept o_keptPurses o_keptRow o_keptHad o_keptShared o_keptRest v_readLaw v_readMany v_readMeetings v_law v_many v_meetings v_length v_at v_faultAt s1_138 n2 v_made v_leads v_rings v_seen) → va_S A s.heap H locs → W p l e rm_X9_meetTwo s m args below meth c H locs 0 0 Q (F0 m 160 ls [.int s1_160, .ref o])) (by
                intro s1_160 h H locs ls hl hP hD hS
                refine va_put (D := D) (ci := 9) (v := .int s1_160) (ty := .int) (C := RX9) (T := TX9) (N := 33) hx hb hts inw_X9_meetTwo_X9 tyX9 tyX9_ok nmX9 hown hK.1 hP hD hS 0 rfl rfl 15 (by decide) (hts (.fieldLink RX9 126 "PursesShareModel" "other" "I") (by decide +kernel)) (fun _ h9 => h9) rfl (by decide +kernel) rfl rfl (Nat.le_of_ble_eq_true rfl) dX9_meetTwo_160 (fun H locs hP hD hS => ?_)
                have hP : va_P D vwCl (cw_X9_meetTwo cI cZ o o_readPurses o_readDay o_purses o_daily o_text o_row o_tried o_days o_order o_bestOrder o_seenHad o_seenShared o_isKept o_keptPurses o_keptRow o_keptHad o_keptShared o_keptRest v_readLaw v_readMany v_readMeetings v_law v_many v_meetings v_length v_at v_faultAt s1_138 s1_160 v_made v_leads v_rings v_seen) H := hP
                have hD : va_D A (cw_X9_meetTwo cI cZ o o_readPurses o_readDay o_purses o_daily o_text o_row o_tried o_days o_order o_bestOrder o_seenHad o_seenShared o_isKept o_keptPurses o_keptRow o_keptHad o_keptShared o_keptRest v_readLaw v_readMany v_readMeetings v_law v_many v_meetings v_length v_at v_faultAt s1_138 s1_160 v_made v_leads v_rings v_seen) := hD
                exact ret_v2 hx hb hr hlocks hQ hS s1_138 s1_160 hP h dX9_meetTwo_163)
              refine lv_icmp_le (tgt := 156) hx hb dX9_meetTwo_148 (by decide) (fun c148 => ?_) (fun c148 => ?_)
              · have h := h.1 c148
                refine lv_iload_n hx hb dX9_meetTwo_156 rfl (lv_at hl 2 rfl) ?_
                refine lv_iload hx hb dX9_meetTwo_157 (lv_at hl 6 rfl) ?_
                refine lv_isub hx hb dX9_meetTwo_159 ?_
                exact h H locs ls (lv_sub hl [0, 1, 2, 3, 4, 5, 6] rfl) hP hD hS
              · have h := h.2 c148
                refine lv_ldc (own := RX9) (index := 132) (v := 99999) hx hb hown (hts (.constant RX9 132 (99999)) (by decide +kernel)) dX9_meetTwo_151 ?_
                refine lv_goto (tgt := 160) hx hb dX9_meetTwo_153 (by decide) ?_
                exact h H locs ls (lv_sub hl [0, 1, 2, 3, 4, 5, 6] rfl) hP hD hS)
            refine lv_icmp_le (tgt := 134) hx hb dX9_meetTwo_126 (by decide) (fun c126 => ?_) (fun c126 => ?_)
            · have h := h.1 c126
              refine lv_iload_n hx hb dX9_meetTwo_134 rfl (lv_at hl 2 rfl) ?_
              refine lv_iload hx hb dX9_meetTwo_135 (lv_at hl 0 rfl) ?_
              refine lv_iadd hx hb dX9_meetTwo_137 ?_
              exact h H locs ls (lv_sub hl [1, 2, 3, 4, 5, 6, 0] rfl) hP hD hS
            · have h := h.2 c126
              refine lv_ldc (own := RX9) (index := 132) (v := 99999) hx hb hown (hts (.constant RX9 132 (99999)) (by decide +kernel)) dX9_meetTwo_129 ?_
              refine lv_goto (tgt := 138) hx hb dX9_meetTwo_131 (by decide) ?_
              exact h H locs ls (lv_sub hl [1, 2, 3, 4, 5, 6, 0] rfl) hP hD hS)
          refine lv_icmp_ge (tgt := 114) hx hb dX9_meetTwo_106 (by decide) (fun c106 => ?_) (fun c106 => ?_)
          · have h := h.1 c106
            refine lv_iload hx hb dX9_meetTwo_114 (lv_at hl 0 rfl) ?_
            refine lv_ineg hx hb dX9_meetTwo_116 ?_
            exact h H locs ls (lv_sub hl [1, 2, 3, 4, 5, 6, 0] rfl) hP hD hS
          · have h := h.2 c106
            refine lv_iload hx hb dX9_meetTwo_109 (lv_at hl 0 rfl) ?_
            refine lv_goto (tgt := 117) hx hb dX9_meetTwo_111 (by decide) ?_
            exact h H locs ls (lv_sub hl [1, 2, 3, 4, 5, 6, 0] rfl) hP hD hS)
        refine lv_if_ne (tgt := 61) hx hb dX9_meetTwo_54 (by decide) (fun c54 => ?_) (fun c54 => ?_)
        · have h := h.1 c54
          refine lv_aload_n hx hb dX9_meetTwo_61 rfl (lv_at hl 2 rfl) ?_
          refine va_get (D := D) (ci := 9) (v := .int v_law) (C := RX9) (T := TX9) (N := 33) hx hb hts inw_X9_meetTwo_X9 hown hK.1 hP 0 rfl rfl 7 (by decide) (hts (.fieldLink RX9 103 "PursesShareModel" "law" "I") (by decide +kernel)) (fun _ h9 => h9) rfl dX9_meetTwo_62 ?_
          refine lv_iconst (v := 1) hx hb dX9_meetTwo_65 (by decide) ?_
          refine lv_icmp_ne (tgt := 74) hx hb dX9_meetTwo_66 (by decide) (fun c66 => ?_) (fun c66 => ?_)
          · have h := h.1 c66
            refine lv_aload_n hx hb dX9_meetTwo_74 rfl (lv_at hl 2 rfl) ?_
            refine va_get (D := D) (ci := 9) (v := .int v_law) (C := RX9) (T := TX9) (N := 33) hx hb hts inw_X9_meetTwo_X9 hown hK.1 hP 0 rfl rfl 7 (by decide) (hts (.fieldLink RX9 103 "PursesShareModel" "law" "I") (by decide +kernel)) (fun _ h9 => h9) rfl dX9_meetTwo_75 ?_
            refine lv_iconst (v := 2) hx hb dX9_meetTwo_78 (by decide) ?_
            refine lv_icmp_ne (tgt := 88) hx hb dX9_meetTwo_79 (by decide) (fun c79 => ?_) (fun c79 => ?_)
            · have h := h.1 c79
              refine lv_iload_n hx hb dX9_meetTwo_88 rfl (lv_at hl 5 rfl) ?_
              refine lv_iload hx hb dX9_meetTwo_89 (lv_at hl 0 rfl) ?_
              refine lv_iconst (v := 1) hx hb dX9_meetTwo_91 (by decide) ?_
              refine lv_icmp_ge (tgt := 99) hx hb dX9_meetTwo_92 (by decide) (fun c92 => ?_) (fun c92 => ?_)
              · have h := h.1 c92
                refine lv_iload hx hb dX9_meetTwo_99 (lv_at hl 0 rfl) ?_
                refine lv_imul hx hb dX9_meetTwo_101 ?_
                exact h H locs ls (lv_sub hl [2, 3, 4, 5, 1, 0] rfl) hP hD hS
              · have h := h.2 c92
                refine lv_iconst (v := 1) hx hb dX9_meetTwo_95 (by decide) ?_
                refine lv_goto (tgt := 101) hx hb dX9_meetTwo_96 (by decide) ?_
                refine lv_imul hx hb dX9_meetTwo_101 ?_
                exact h H locs ls (lv_sub hl [2, 3, 4, 5, 1, 0] rfl) hP hD hS
            · have h := h.2 c79
              refine lv_iload_n hx hb dX9_meetTwo_82 rfl (lv_at hl 5 rfl) ?_
              refine lv_iconst (v := 2) hx hb dX9_meetTwo_83 (by decide) ?_
              refine lv_idiv hx hb dX9_meetTwo_84 (by decide) ?_
              refine lv_goto (tgt := 102) hx hb dX9_meetTwo_85 (by decide) ?_
              exact h H locs ls (lv_sub hl [2, 3, 4, 5, 1, 0] rfl) hP hD hS
          · have h := h.2 c66
            refine lv_iload_n hx hb dX9_meetTwo_69 rfl (lv_at hl 5 rfl) ?_
            refine lv_ineg hx hb dX9_meetTwo_70 ?_
            refine lv_goto (tgt := 102) hx hb dX9_meetTwo_71 (by decide) ?_
            exact h H locs ls (lv_sub hl [2, 3, 4, 5, 1, 0] rfl) hP hD hS
        · have h := h.2 c54
          refine lv_iload_n hx hb dX9_meetTwo_57 rfl (lv_at hl 5 rfl) ?_
          refine lv_goto (tgt := 102) hx hb dX9_meetTwo_58 (by decide) ?_
          exact h H locs ls (lv_sub hl [2, 3, 4, 5, 1, 0] rfl) hP hD hS)
      refine lv_icmp_ge (tgt := 37) hx hb dX9_meetTwo_28 (by decide) (fun c28 => ?_) (fun c28 => ?_)
      · have h := h.1 c28
        refine lv_iload_n hx hb dX9_meetTwo_37 rfl (lv_at hl 2 rfl) ?_
        refine lv_iload_n hx hb dX9_meetTwo_38 rfl (lv_at hl 3 rfl) ?_
        refine lv_isub hx hb dX9_meetTwo_39 ?_
        exact h H locs ls (lv_sub hl [1, 2, 3, 0] rfl) hP hD hS
      · have h := h.2 c28
        refine lv_iload_n hx hb dX9_meetTwo_31 rfl (lv_at hl 3 rfl) ?_
        refine lv_iload_n hx hb dX9_meetTwo_32 rfl (lv_at hl 2 rfl) ?_
        refine lv_isub hx hb dX9_meetTwo_33 ?_
        refine lv_goto (tgt := 40) hx hb dX9_meetTwo_34 (by decide) ?_
        exact h H locs ls (lv_sub hl [1, 2, 3, 0] rfl) hP hD hS
    · have h := h.2 c22
      exact ret_v2 hx hb hr hlocks hQ hS n1 n2 hP h dX9_meetTwo_25
abbrev rm_X9_areTwo : Room := { frames := 2, cells := 0, slots := 0, locals := 46 }
abbrev cw_X9_areTwo (cI cZ : ClassId) (o o_readPurses o_readDay o_purses o_daily o_text o_row o_tried o_days o_order o_bestOrder o_seenHad o_seenShared o_isKept o_keptPurses o_keptRow o_keptHad o_keptShared o_keptRest : Nat) (v_readLaw : Int32) (v_readMany : Int32) (v_readMeetings : Int32) (v_law : Int32) (v_many : Int32) (v_meetings : Int32) (v_length : Int32) (v_at : Int32) (v_faultAt : Int32) (v_one : Int32) (v_other : Int32) (v_made : Int32) (v_leads : Int32) (v_rings : Int32) (v_seen : Int32) : va_W := [(o, .inr (9, [.ref o_readPurses, .ref o_readDay, .int v_readLaw, .int v_readMany, .int v_readMeetings, .ref o_purses, .ref o_daily, .int v_law, .int v_many, .int v_meetings, .ref o_text, .int v_length, .int v_at, .int v_faultAt, .int v_one, .int v_other, .int v_made, .ref o_row, .ref o_tried, .int v_leads, .int v_rings, .ref o_days, .ref o_order, .ref o_bestOrder, .int v_seen, .ref o_seenHad, .ref o_seenShared, .ref o_isKept, .ref o_keptPurses, .ref o_keptRow, .ref o_keptHad, .ref o_keptShared, .ref o_keptRest]))]
def wp_X9_areTwo (n1 : Int32) (n2 : Int32) (v_many : Int32) (Post : Int32 → Prop) : Prop := (wp_X9_isPerson n1 v_many (fun (r2 : Int32) => ((r2 = 0 → (Post (0 : Int32))) ∧ (¬ r2 = 0 → (wp_X9_isPerson n2 v_many (fun (r10 : Int32) => ((r10 = 0 → (Post (0 : Int32))) ∧ (¬ r10 = 0 → (Post (1 : Int32))))))))))
set_option maxHeartbeats 4000000 in
set_option maxRecDepth 100000 in
theorem c_X9_areTwo (l : Launch) (D : va_G) (cI cZ : ClassId) (o o_readPurses o_readDay o_purses o_daily o_text o_row o_tried o_days o_order o_bestOrder o_seenHad o_seenShared o_isKept o_keptPurses o_keptRow o_keptHad o_keptShared o_keptRest : Nat) (sz : Nat) (n1 : Int32) (n2 : Int32) (v_readLaw : Int32) (v_readMany : Int32) (v_readMeetings : Int32) (v_law : Int32) (v_many : Int32) (v_meetings : Int32) (v_length : Int32) (v_at : Int32) (v_faultAt : Int32) (v_one : Int32) (v_other : Int32) (v_made : Int32) (v_leads : Int32) (v_rings : Int32) (v_seen : Int32) (Post : Int32 → Prop) (h : wp_X9_areTwo n1 n2 v_many Post) : Met l yX9_areTwo wsX9_areTwo rm_X9_areTwo (cPc D cI cZ [.ref o, .int n1, .int n2] (cw_X9_areTwo cI cZ o o_readPurses o_readDay o_purses o_daily o_text o_row o_tried o_days o_order o_bestOrder o_seenHad o_seenShared o_isKept o_keptPurses o_keptRow o_keptHad o_keptShared o_keptRest v_readLaw v_readMany v_readMeetings v_law v_many v_meetings v_length v_at v_faultAt v_one v_other v_made v_leads v_rings v_seen) sz) (cQi0 D Post ((cw_X9_areTwo cI cZ o o_readPurses o_readDay o_purses o_daily o_text o_row o_tried o_days o_order o_bestOrder o_seenHad o_seenShared o_isKept o_keptPurses o_keptRow o_keptHad o_keptShared o_keptRest v_readLaw v_readMany v_readMeetings v_law v_many v_meetings v_length v_at v_faultAt v_one v_other v_made v_leads v_rings v_seen)) (va_A (cw_X9_areTwo cI cZ o o_readPurses o_readDay o_purses o_daily o_text o_row o_tried o_days o_order o_bestOrder o_seenHad o_seenShared o_isKept o_keptPurses o_keptRow o_keptHad o_keptShared o_keptRest v_readLaw v_readMany v_readMeetings v_law v_many v_meetings v_length v_at v_faultAt v_one v_other v_made v_leads v_rings v_seen) sz)) 0 0 (va_A (cw_X9_areTwo cI cZ o o_readPurses o_readDay o_purses o_daily o_text o_row o_tried o_days o_order o_bestOrder o_seenHad o_seenShared o_isKept o_keptPurses o_keptRow o_keptHad o_keptShared o_keptRest v_readLaw v_readMany v_readMeetings v_law v_many v_meetings v_length v_at v_faultAt v_one v_other v_made v_leads v_rings v_seen) sz) := by
  refine ent (cc := cX9_areTwo) (maxL := 3) (ret := (some .boolean)) (Qc := fun A => cQi0 D Post ((cw_X9_areTwo cI cZ o o_readPurses o_readDay o_purses o_daily o_text o_row o_tried o_days o_order o_bestOrder o_seenHad o_seenShared o_isKept o_keptPurses o_keptRow o_keptHad o_keptShared o_keptRest v_readLaw v_readMany v_readMeetings v_law v_many v_meetings v_length v_at v_faultAt v_one v_other v_made v_leads v_rings v_seen)) A) (by decide) rfl (Nat.le_of_ble_eq_true rfl) ?_
  intro p e s m args below meth c A ls Q hQ hsz hx hb hml hr hts hown hlocks hnm hK hP hD hA hS hl
  have hl : lv_has ls 3 [(0, .ref o), (1, .int n1), (2, .int n2)] := hl
  unfold wp_X9_areTwo at h
  refine lv_aload_n hx hb dX9_areTwo_0 rfl (lv_at hl 0 rfl) ?_
  refine lv_iload_n hx hb dX9_areTwo_1 rfl (lv_at hl 1 rfl) ?_
  refine call_i0 (va_runV (As := [.int n1]) (rest := []) ⟨hx, hb, hml, hown, hts⟩ (c_X9_isPerson l D cI cZ o o_readPurses o_readDay o_purses o_daily o_text o_row o_tried o_days o_order o_bestOrder o_seenHad o_seenShared o_isKept o_keptPurses o_keptRow o_keptHad o_keptShared o_keptRest (Array.size s.heap) n1 v_readLaw v_readMany v_readMeetings v_law v_many v_meetings v_length v_at v_faultAt v_one v_other v_made v_leads v_rings v_seen _ h) (cwV 1 hts gX9_areTwo_X9_isPerson rfl rfl rfl (by decide +kernel) ⟨Nat.le_of_ble_eq_true rfl, Nat.le_of_ble_eq_true rfl⟩) (preV_of hP hD hK [0] rfl rfl 0 9 rfl rfl rfl) rfl rfl hl.1 rfl (lv_room (Nat.le_of_ble_eq_true rfl)) dX9_areTwo_2 ⟨Nat.zero_le _, Nat.zero_le _⟩) hP hD hS hA [0] rfl ((cw_X9_areTwo cI cZ o o_readPurses o_readDay o_purses o_daily o_text o_row o_tried o_days o_order o_bestOrder o_seenHad o_seenShared o_isKept o_keptPurses o_keptRow o_keptHad o_keptShared o_keptRest v_readLaw v_readMany v_readMeetings v_law v_many v_meetings v_length v_at v_faultAt v_one v_other v_made v_leads v_rings v_seen)) (rfl) (rfl) (fun r2 H locs h hP hD hS => ?_)
  refine lv_if_eq (tgt := 20) hx hb dX9_areTwo_5 (by decide) (fun c5 => ?_) (fun c5 => ?_)
  · have h := h.1 c5
    refine lv_iconst (v := 0) hx hb dX9_areTwo_20 (by decide) ?_
    exact ret_z0 hx hb hr hlocks hQ hS (by decide)  hP h dX9_areTwo_21
  · have h := h.2 c5
    refine lv_aload_n hx hb dX9_areTwo_8 rfl (lv_at hl 0 rfl) ?_
    refine lv_iload_n hx hb dX9_areTwo_9 rfl (lv_at hl 2 rfl) ?_
    refine call_i0 (va_runV (As := [.int n2]) (rest := []) ⟨hx, hb, hml, hown, hts⟩ (c_X9_isPerson l D cI cZ o o_readPurses o_readDay o_purses o_daily o_text o_row o_tried o_days o_order o_bestOrder o_seenHad o_seenShared o_isKept o_keptPurses o_keptRow o_keptHad o_keptShared o_keptRest (Array.size H) n2 v_readLaw v_readMany v_readMeetings v_law v_many v_meetings v_length v_at v_faultAt v_one v_other v_made v_leads v_rings v_seen _ h) (cwV 1 hts gX9_areTwo_X9_isPerson rfl rfl rfl (by decide +kernel) ⟨Nat.le_of_ble_eq_true rfl, Nat.le_of_ble_eq_true rfl⟩) (preV_of hP hD hK [0] rfl rfl 0 9 rfl rfl rfl) rfl rfl hl.1 rfl (lv_room (Nat.le_of_ble_eq_true rfl)) dX9_areTwo_10 ⟨Nat.zero_le _, Nat.zero_le _⟩) hP hD hS hA [0] rfl ((cw_X9_areTwo cI cZ o o_readPurses o_readDay o_purses o_daily o_text o_row o_tried o_days o_order o_bestOrder o_seenHad o_seenShared o_isKept o_keptPurses o_keptRow o_keptHad o_keptShared o_keptRest v_readLaw v_readMany v_readMeetings v_law v_many v_meetings v_length v_at v_faultAt v_one v_other v_made v_leads v_rings v_seen)) (rfl) (rfl) (fun r10 H locs h hP hD hS => ?_)
    refine lv_if_eq (tgt := 20) hx hb dX9_areTwo_13 (by decide) (fun c13 => ?_) (fun c13 => ?_)
    · have h := h.1 c13
      refine lv_iconst (v := 0) hx hb dX9_areTwo_20 (by decide) ?_
      exact ret_z0 hx hb hr hlocks hQ hS (by decide)  hP h dX9_areTwo_21
    · have h := h.2 c13
      refine lv_iconst (v := 1) hx hb dX9_areTwo_16 (by decide) ?_
      refine lv_goto (tgt := 21) hx hb dX9_areTwo_17 (by decide) ?_
      exact ret_z0 hx hb hr hlocks hQ hS (by decide)  hP h dX9_areTwo_21
abbrev rm_X9_shared : Room := { frames := 3, cells := 0, slots := 0, locals := 68 }
abbrev cw_X9_shared (cI cZ : ClassId) (o o_readPurses o_readDay o_purses o_daily o_text o_row o_tried o_days o_order o_bestOrder o_seenHad o_seenShared o_isKept o_keptPurses o_keptRow o_keptHad o_keptShared o_keptRest : Nat) (v_readLaw : Int32) (v_readMany : Int32) (v_readMeetings : Int32) (v_law : Int32) (v_many : Int32) (v_meetings : Int32) (v_length : Int32) (v_at : Int32) (v_faultAt : Int32) (v_one : Int32) (v_other : Int32) (v_made : Int32) (v_leads : Int32) (v_rings : Int32) (v_seen : Int32) (a_purses : Nat → Int32) : va_W := [(o, .inr (9, [.ref o_readPurses, .ref o_readDay, .int v_readLaw, .int v_readMany, .int v_readMeetings, .ref o_purses, .ref o_daily, .int v_law, .int v_many, .int v_meetings, .ref o_text, .int v_length, .int v_at, .int v_faultAt, .int v_one, .int v_other, .int v_made, .ref o_row, .ref o_tried, .int v_leads, .int v_rings, .ref o_days, .ref o_order, .ref o_bestOrder, .int v_seen, .ref o_seenHad, .ref o_seenShared, .ref o_isKept, .ref o_keptPurses, .ref o_keptRow, .ref o_keptHad, .ref o_keptShared, .ref o_keptRest])), (o_purses, .inl (cI, 8, .inl a_purses))]
theorem inw_X9_shared_X9 : ∀ w ∈ u_ws RX9 TX9 33, w ∈ wsX9_shared := by decide +kernel
def wp_X9_shared (n1 : Int32) (n2 : Int32) (v_many : Int32) (a_purses : Nat → Int32) (Post : Int32 → Prop) : Prop := (wp_X9_areTwo n1 n2 v_many (fun (r3 : Int32) => ((¬ r3 = 0 → ((¬ n1 = n2 → (vp_in n1 8 ∧ (vp_in n2 8 ∧ (wp_X9_sharedBy (a_purses (Int32.toNatClampNeg n1)) (a_purses (Int32.toNatClampNeg n2)) (fun (r33 : Int32) => (Post r33)))))) ∧ (n1 = n2 → (Post (-3 : Int32))))) ∧ (r3 = 0 → (Post (-1 : Int32))))))
set_option maxHeartbeats 4000000 in
set_option maxRecDepth 100000 in
theorem c_X9_shared (l : Launch) (D : va_G) (cI cZ : ClassId) (o o_readPurses o_readDay o_purses o_daily o_text o_row o_tried o_days o_order o_bestOrder o_seenHad o_seenShared o_isKept o_keptPurses o_keptRow o_keptHad o_keptShared o_keptRest : Nat) (sz : Nat) (n1 : Int32) (n2 : Int32) (v_readLaw : Int32) (v_readMany : Int32) (v_readMeetings : Int32) (v_law : Int32) (v_many : Int32) (v_meetings : Int32) (v_length : Int32) (v_at : Int32) (v_faultAt : Int32) (v_one : Int32) (v_other : Int32) (v_made : Int32) (v_leads : Int32) (v_rings : Int32) (v_seen : Int32) (a_purses : Nat → Int32) (Post : Int32 → Prop) (h : wp_X9_shared n1 n2 v_many a_purses Post) : Met l yX9_shared wsX9_shared rm_X9_shared (cPc D cI cZ [.ref o, .int n1, .int n2] (cw_X9_shared cI cZ o o_readPurses o_readDay o_purses o_daily o_text o_row o_tried o_days o_order o_bestOrder o_seenHad o_seenShared o_isKept o_keptPurses o_keptRow o_keptHad o_keptShared o_keptRest v_readLaw v_readMany v_readMeetings v_law v_many v_meetings v_length v_at v_faultAt v_one v_other v_made v_leads v_rings v_seen a_purses) sz) (cQi0 D Post ((cw_X9_shared cI cZ o o_readPurses o_readDay o_purses o_daily o_text o_row o_tried o_days o_order o_bestOrder o_seenHad o_seenShared o_isKept o_keptPurses o_keptRow o_keptHad o_keptShared o_keptRest v_readLaw v_readMany v_readMeetings v_law v_many v_meetings v_length v_at v_faultAt v_one v_other v_made v_leads v_rings v_seen a_purses)) (va_A (cw_X9_shared cI cZ o o_readPurses o_readDay o_purses o_daily o_text o_row o_tried o_days o_order o_bestOrder o_seenHad o_seenShared o_isKept o_keptPurses o_keptRow o_keptHad o_keptShared o_keptRest v_readLaw v_readMany v_readMeetings v_law v_many v_meetings v_length v_at v_faultAt v_one v_other v_made v_leads v_rings v_seen a_purses) sz)) 0 0 (va_A (cw_X9_shared cI cZ o o_readPurses o_readDay o_purses o_daily o_text o_row o_tried o_days o_order o_bestOrder o_seenHad o_seenShared o_isKept o_keptPurses o_keptRow o_keptHad o_keptShared o_keptRest v_readLaw v_readMany v_readMeetings v_law v_many v_meetings v_length v_at v_faultAt v_one v_other v_made v_leads v_rings v_seen a_purses) sz) := by
  refine ent (cc := cX9_shared) (maxL := 3) (ret := (some .int)) (Qc := fun A => cQi0 D Post ((cw_X9_shared cI cZ o o_readPurses o_readDay o_purses o_daily o_text o_row o_tried o_days o_order o_bestOrder o_seenHad o_seenShared o_isKept o_keptPurses o_keptRow o_keptHad o_keptShared o_keptRest v_readLaw v_readMany v_readMeetings v_law v_many v_meetings v_length v_at v_faultAt v_one v_other v_made v_leads v_rings v_seen a_purses)) A) (by decide) rfl (Nat.le_of_ble_eq_true rfl) ?_
  intro p e s m args below meth c A ls Q hQ hsz hx hb hml hr hts hown hlocks hnm hK hP hD hA hS hl
  have hl : lv_has ls 3 [(0, .ref o), (1, .int n1), (2, .int n2)] := hl
  unfold wp_X9_shared at h
  refine lv_aload_n hx hb dX9_shared_0 rfl (lv_at hl 0 rfl) ?_
  refine lv_iload_n hx hb dX9_shared_1 rfl (lv_at hl 1 rfl) ?_
  refine lv_iload_n hx hb dX9_shared_2 rfl (lv_at hl 2 rfl) ?_
  refine call_i0 (va_runV (As := [.int n1, .int n2]) (rest := []) ⟨hx, hb, hml, hown, hts⟩ (c_X9_areTwo l D cI cZ o o_readPurses o_readDay o_purses o_daily o_text o_row o_tried o_days o_order o_bestOrder o_seenHad o_seenShared o_isKept o_keptPurses o_keptRow o_keptHad o_keptShared o_keptRest (Array.size s.heap) n1 n2 v_readLaw v_readMany v_readMeetings v_law v_many v_meetings v_length v_at v_faultAt v_one v_other v_made v_leads v_rings v_seen _ h) (cwV 2 hts gX9_shared_X9_areTwo rfl rfl rfl (by decide +kernel) ⟨Nat.le_of_ble_eq_true rfl, Nat.le_of_ble_eq_true rfl⟩) (preV_of hP hD hK [0] rfl rfl 0 9 rfl rfl rfl) rfl rfl hl.1 rfl (lv_room (Nat.le_of_ble_eq_true rfl)) dX9_shared_3 ⟨Nat.zero_le _, Nat.zero_le _⟩) hP hD hS hA [0] rfl ((cw_X9_shared cI cZ o o_readPurses o_readDay o_purses o_daily o_text o_row o_tried o_days o_order o_bestOrder o_seenHad o_seenShared o_isKept o_keptPurses o_keptRow o_keptHad o_keptShared o_keptRest v_readLaw v_readMany v_readMeetings v_law v_many v_meetings v_length v_at v_faultAt v_one v_other v_made v_leads v_rings v_seen a_purses)) (rfl) (rfl) (fun r3 H locs h hP hD hS => ?_)
  refine lv_if_ne (tgt := 11) hx hb dX9_shared_6 (by decide) (fun c6 => ?_) (fun c6 => ?_)
  · have h := h.1 c6
    refine lv_iload_n hx hb dX9_shared_11 rfl (lv_at hl 1 rfl) ?_
    refine lv_iload_n hx hb dX9_shared_12 rfl (lv_at hl 2 rfl) ?_
    refine lv_icmp_ne (tgt := 21) hx hb dX9_shared_13 (by decide) (fun c13 => ?_) (fun c13 => ?_)
    · have h := h.1 c13
      refine lv_aload_n hx hb dX9_shared_21 rfl (lv_at hl 0 rfl) ?_
      refine va_get (D := D) (ci := 9) (v := .ref o_purses) (C := RX9) (T := TX9) (N := 33) hx hb hts inw_X9_shared_X9 hown hK.1 hP 0 rfl rfl 5 (by decide) (hts (.fieldLink RX9 16 "PursesShareModel" "purses" "[I") (by decide +kernel)) (fun _ h9 => h9) rfl dX9_shared_22 ?_
      refine lv_iload_n hx hb dX9_shared_25 rfl (lv_at hl 1 rfl) ?_
      have h0 := h.1
      have h := h.2
      refine va_iald hx hb hK.1 hP 1 0 rfl rfl h0 dX9_shared_26 ?_
      refine lv_aload_n hx hb dX9_shared_27 rfl (lv_at hl 0 rfl) ?_
      refine va_get (D := D) (ci := 9) (v := .ref o_purses) (C := RX9) (T := TX9) (N := 33) hx hb hts inw_X9_shared_X9 hown hK.1 hP 0 rfl rfl 5 (by decide) (hts (.fieldLink RX9 16 "PursesShareModel" "purses" "[I") (by decide +kernel)) (fun _ h9 => h9) rfl dX9_shared_28 ?_
      refine lv_iload_n hx hb dX9_shared_31 rfl (lv_at hl 2 rfl) ?_
      have h0 := h.1
      have h := h.2
      refine va_iald hx hb hK.1 hP 1 0 rfl rfl h0 dX9_shared_32 ?_
      refine call_i0 (va_runS (As := [.int (a_purses (Int32.toNatClampNeg n1)), .int (a_purses (Int32.toNatClampNeg n2))]) (rest := []) ⟨hx, hb, hml, hown, hts⟩ (c_X9_sharedBy l D cI cZ (Array.size H) (a_purses (Int32.toNatClampNeg n1)) (a_purses (Int32.toNatClampNeg n2)) _ h) (va_cwS 2 hts gX9_shared_X9_sharedBy rfl rfl rfl (by decide +kernel) ⟨Nat.le_of_ble_eq_true rfl, Nat.le_of_ble_eq_true rfl⟩) (preS_of hP hD hK [] rfl rfl) rfl rfl hl.1 rfl (lv_room (Nat.le_of_ble_eq_true rfl)) dX9_shared_33 ⟨Nat.zero_le _, Nat.zero_le _⟩) hP hD hS hA [] rfl ((cw_X9_shared cI cZ o o_readPurses o_readDay o_purses o_daily o_text o_row o_tried o_days o_order o_bestOrder o_seenHad o_seenShared o_isKept o_keptPurses o_keptRow o_keptHad o_keptShared o_keptRest v_readLaw v_readMany v_readMeetings v_law v_many v_meetings v_length v_at v_faultAt v_one v_other v_made v_leads v_rings v_seen a_purses)) (rfl) (rfl) (fun r33 H locs h hP hD hS => ?_)
      exact ret_i0 hx hb hr hlocks hQ hS  hP h dX9_shared_36
    · have h := h.2 c13
      refine lv_bipush (v := -3) hx hb dX9_shared_16 (by decide) ?_
      refine lv_goto (tgt := 36) hx hb dX9_shared_18 (by decide) ?_
      exact ret_i0 hx hb hr hlocks hQ hS  hP h dX9_shared_36
  · have h := h.2 c6
    refine lv_iconst (v := -1) hx hb dX9_shared_9 (by decide) ?_
    exact ret_i0 hx hb hr hlocks hQ hS  hP h dX9_shared_10
abbrev rm_X9_meet : Room := { frames := 3, cells := 0, slots := 0, locals := 68 }
abbrev cw_X9_meet (cI cZ : ClassId) (o o_readPurses o_readDay o_purses o_daily o_text o_row o_tried o_days o_order o_bestOrder o_seenHad o_seenShared o_isKept o_keptPurses o_keptRow o_keptHad o_keptShared o_keptRest : Nat) (v_readLaw : Int32) (v_readMany : Int32) (v_readMeetings : Int32) (v_law : Int32) (v_many : Int32) (v_meetings : Int32) (v_length : Int32) (v_at : Int32) (v_faultAt : Int32) (v_one : Int32) (v_other : Int32) (v_made : Int32) (v_leads : Int32) (v_rings : Int32) (v_seen : Int32) (a_purses : Nat → Int32) (a_row : Nat → Int32) : va_W := [(o, .inr (9, [.ref o_readPurses, .ref o_readDay, .int v_readLaw, .int v_readMany, .int v_readMeetings, .ref o_purses, .ref o_daily, .int v_law, .int v_many, .int v_meetings, .ref o_text, .int v_length, .int v_at, .int v_faultAt, .int v_one, .int v_other, .int v_made, .ref o_row, .ref o_tried, .int v_leads, .int v_rings, .ref o_days, .ref o_order, .ref o_bestOrder, .int v_seen, .ref o_seenHad, .ref o_seenShared, .ref o_isKept, .ref o_keptPurses, .ref o_keptRow, .ref o_keptHad, .ref o_keptShared, .ref o_keptRest])), (o_purses, .inl (cI, 8, .inl a_purses)), (o_row, .inl (cI, 128, .inl a_row))]
theorem inw_X9_meet_X9 : ∀ w ∈ u_ws RX9 TX9 33, w ∈ wsX9_meet := by decide +kernel
def wp_X9_meet (n1 : Int32) (n2 : Int32) (v_law : Int32) (v_many : Int32) (v_one : Int32) (v_other : Int32) (v_made : Int32) (a_purses : Nat → Int32) (a_row : Nat → Int32) (Post : Int32 → (Int32) → (Int32) → (Int32) → (Nat → Int32) → (Nat → Int32) → Prop) : Prop := (wp_X9_areTwo n1 n2 v_many (fun (r3 : Int32) => ((¬ r3 = 0 → ((¬ n1 = n2 → ((¬ v_made = (32 : Int32) → (vp_in ((4 : Int32) * v_made) 128 ∧ (vp_in (((4 : Int32) * v_made) + (1 : Int32)) 128 ∧ (vp_in n1 8 ∧ (vp_in (((4 : Int32) * v_made) + (2 : Int32)) 128 ∧ (vp_in n2 8 ∧ (vp_in (((4 : Int32) * v_made) + (3 : Int32)) 128 ∧ (vp_in n1 8 ∧ (vp_in n2 8 ∧ (wp_X9_meetTwo (a_purses (Int32.toNatClampNeg n1)) (a_purses (Int32.toNatClampNeg n2)) v_law v_one v_other (fun (v_one_105 : Int32) (v_other_105 : Int32) => (vp_in n1 8 ∧ (vp_in n2 8 ∧ (vp_in (((4 : Int32) * v_made) + (2 : Int32)) 128 ∧ (Post (((100000 : Int32) + v_one_105) - ((upd (upd (upd (upd a_row (Int32.toNatClampNeg ((4 : Int32) * v_made)) n1) (Int32.toNatClampNeg (((4 : Int32) * v_made) + (1 : Int32))) n2) (Int32.toNatClampNeg (((4 : Int32) * v_made) + (2 : Int32))) (a_purses (Int32.toNatClampNeg n1))) (Int32.toNatClampNeg (((4 : Int32) * v_made) + (3 : Int32))) (a_purses (Int32.toNatClampNeg n2))) (Int32.toNatClampNeg (((4 : Int32) * v_made) + (2 : Int32))))) v_one_105 v_other_105 (v_made + (1 : Int32)) (upd (upd a_purses (Int32.toNatClampNeg n1) v_one_105) (Int32.toNatClampNeg n2) v_other_105) (upd (upd (upd (upd a_row (Int32.toNatClampNeg ((4 : Int32) * v_made)) n1) (Int32.toNatClampNeg (((4 : Int32) * v_made) + (1 : Int32))) n2) (Int32.toNatClampNeg (((4 : Int32) * v_made) + (2 : Int32))) (a_purses (Int32.toNatClampNeg n1))) (Int32.toNatClampNeg (((4 : Int32) * v_made) + (3 : Int32))) (a_purses (Int32.toNatClampNeg n2)))))))))))))))))) ∧ (v_made = (32 : Int32) → (Post (-4 : Int32) v_one v_other v_made a_purses a_row)))) ∧ (n1 = n2 → (Post (-3 : Int32) v_one v_other v_made a_purses a_row)))) ∧ (r3 = 0 → (Post (-1 : Int32) v_one v_other v_made a_purses a_row)))))
set_option maxHeartbeats 4000000 in
set_option maxRecDepth 100000 in
theorem c_X9_meet (l : Launch) (D : va_G) (cI cZ : ClassId) (o o_readPurses o_readDay o_purses o_daily o_text o_row o_tried o_days o_order o_bestOrder o_seenHad o_seenShared o_isKept o_keptPurses o_keptRow o_keptHad o_keptShared o_keptRest : Nat) (sz : Nat) (n1 : Int32) (n2 : Int32) (v_readLaw : Int32) (v_readMany : Int32) (v_readMeetings : Int32) (v_law : Int32) (v_many : Int32) (v_meetings : Int32) (v_length : Int32) (v_at : Int32) (v_faultAt : Int32) (v_one : Int32) (v_other : Int32) (v_made : Int32) (v_leads : Int32) (v_rings : Int32) (v_seen : Int32) (a_purses : Nat → Int32) (a_row : Nat → Int32) (Post : Int32 → (Int32) → (Int32) → (Int32) → (Nat → Int32) → (Nat → Int32) → Prop) (h : wp_X9_meet n1 n2 v_law v_many v_one v_other v_made a_purses a_row Post) : Met l yX9_meet wsX9_meet rm_X9_meet (cPc D cI cZ [.ref o, .int n1, .int n2] (cw_X9_meet cI cZ o o_readPurses o_readDay o_purses o_daily o_text o_row o_tried o_days o_order o_bestOrder o_seenHad o_seenShared o_isKept o_keptPurses o_keptRow o_keptHad o_keptShared o_keptRest v_readLaw v_readMany v_readMeetings v_law v_many v_meetings v_length v_at v_faultAt v_one v_other v_made v_leads v_rings v_seen a_purses a_row) sz) (cQi5 D Post (fun m_v_one m_v_other m_v_made m_a_purses m_a_row => (cw_X9_meet cI cZ o o_readPurses o_readDay o_purses o_daily o_text o_row o_tried o_days o_order o_bestOrder o_seenHad o_seenShared o_isKept o_keptPurses o_keptRow o_keptHad o_keptShared o_keptRest v_readLaw v_readMany v_readMeetings v_law v_many v_meetings v_length v_at v_faultAt m_v_one m_v_other m_v_made v_leads v_rings v_seen m_a_purses m_a_row)) (va_A (cw_X9_meet cI cZ o o_readPurses o_readDay o_purses o_daily o_text o_row o_tried o_days o_order o_bestOrder o_seenHad o_seenShared o_isKept o_keptPurses o_keptRow o_keptHad o_keptShared o_keptRest v_readLaw v_readMany v_readMeetings v_law v_many v_meetings v_length v_at v_faultAt v_one v_other v_made v_leads v_rings v_seen a_purses a_row) sz)) 0 0 (va_A (cw_X9_meet cI cZ o o_readPurses o_readDay o_purses o_daily o_text o_row o_tried o_days o_order o_bestOrder o_seenHad o_seenShared o_isKept o_keptPurses o_keptRow o_keptHad o_keptShared o_keptRest v_readLaw v_readMany v_readMeetings v_law v_many v_meetings v_length v_at v_faultAt v_one v_other v_made v_leads v_rings v_seen a_purses a_row) sz) := by
  refine ent (cc := cX9_meet) (maxL := 4) (ret := (some .int)) (Qc := fun A => cQi5 D Post (fun m_v_one m_v_other m_v_made m_a_purses m_a_row => (cw_X9_meet cI cZ o o_readPurses o_readDay o_purses o_daily o_text o_row o_tried o_days o_order o_bestOrder o_seenHad o_seenShared o_isKept o_keptPurses o_keptRow o_keptHad o_keptShared o_keptRest v_readLaw v_readMany v_readMeetings v_law v_many v_meetings v_length v_at v_faultAt m_v_one m_v_other m_v_made v_leads v_rings v_seen m_a_purses m_a_row)) A) (by decide) rfl (Nat.le_of_ble_eq_true rfl) ?_
  intro p e s m args below meth c A ls Q hQ hsz hx hb hml hr hts hown hlocks hnm hK hP hD hA hS hl
  have hl : lv_has ls 4 [(0, .ref o), (1, .int n1), (2, .int n2)] := hl
  unfold wp_X9_meet at h
  refine lv_aload_n hx hb dX9_meet_0 rfl (lv_at hl 0 rfl) ?_
  refine lv_iload_n hx hb dX9_meet_1 rfl (lv_at hl 1 rfl) ?_
  refine lv_iload_n hx hb dX9_meet_2 rfl (lv_at hl 2 rfl) ?_
  refine call_i0 (va_runV (As := [.int n1, .int n2]) (rest := []) ⟨hx, hb, hml, hown, hts⟩ (c_X9_areTwo l D cI cZ o o_readPurses o_readDay o_purses o_daily o_text o_row o_tried o_days o_order o_bestOrder o_seenHad o_seenShared o_isKept o_keptPurses o_keptRow o_keptHad o_keptShared o_keptRest (Array.size s.heap) n1 n2 v_readLaw v_readMany v_readMeetings v_law v_many v_meetings v_length v_at v_faultAt v_one v_other v_made v_leads v_rings v_seen _ h) (cwV 2 hts gX9_meet_X9_areTwo rfl rfl rfl (by decide +kernel) ⟨Nat.le_of_ble_eq_true rfl, Nat.le_of_ble_eq_true rfl⟩) (preV_of hP hD hK [0] rfl rfl 0 9 rfl rfl rfl) rfl rfl hl.1 rfl (lv_room (Nat.le_of_ble_eq_true rfl)) dX9_meet_3 ⟨Nat.zero_le _, Nat.zero_le _⟩) hP hD hS hA [0] rfl ((cw_X9_meet cI cZ o o_readPurses o_readDay o_purses o_daily o_text o_row o_tried o_days o_order o_bestOrder o_seenHad o_seenShared o_isKept o_keptPurses o_keptRow o_keptHad o_keptShared o_keptRest v_readLaw v_readMany v_readMeetings v_law v_many v_meetings v_length v_at v_faultAt v_one v_other v_made v_leads v_rings v_seen a_purses a_row)) (rfl) (rfl) (fun r3 H locs h hP hD hS => ?_)
  refine lv_if_ne (tgt := 11) hx hb dX9_meet_6 (by decide) (fun c6 => ?_) (fun c6 => ?_)
  · have h := h.1 c6
    refine lv_iload_n hx hb dX9_meet_11 rfl (lv_at hl 1 rfl) ?_
    refine lv_iload_n hx hb dX9_meet_12 rfl (lv_at hl 2 rfl) ?_
    refine lv_icmp_ne (tgt := 19) hx hb dX9_meet_13 (by decide) (fun c13 => ?_) (fun c13 => ?_)
    · have h := h.1 c13
      refine lv_aload_n hx hb dX9_meet_19 rfl (lv_at hl 0 rfl) ?_
      refine va_get (D := D) (ci := 9) (v := .int v_made) (C := RX9) (T := TX9) (N := 33) hx hb hts inw_X9_meet_X9 hown hK.1 hP 0 rfl rfl 16 (by decide) (hts (.fieldLink RX9 109 "PursesShareModel" "made" "I") (by decide +kernel)) (fun _ h9 => h9) rfl dX9_meet_20 ?_
      refine lv_bipush (v := 32) hx hb dX9_meet_23 (by decide) ?_
      refine lv_icmp_ne (tgt := 31) hx hb dX9_meet_25 (by decide) (fun c25 => ?_) (fun c25 => ?_)
      · have h := h.1 c25
        refine lv_iconst (v := 4) hx hb dX9_meet_31 (by decide) ?_
        refine lv_aload_n hx hb dX9_meet_32 rfl (lv_at hl 0 rfl) ?_
        refine va_get (D := D) (ci := 9) (v := .int v_made) (C := RX9) (T := TX9) (N := 33) hx hb hts inw_X9_meet_X9 hown hK.1 hP 0 rfl rfl 16 (by decide) (hts (.fieldLink RX9 109 "PursesShareModel" "made" "I") (by decide +kernel)) (fun _ h9 => h9) rfl dX9_meet_33 ?_
        refine lv_imul hx hb dX9_meet_36 ?_
        refine lv_istore_n (lv' := [(3, .int ((4 : Int32) * v_made)), (0, .ref o), (1, .int n1), (2, .int n2)]) hx hb dX9_meet_37 rfl hl (by decide) rfl (fun ls hl => ?_)
        refine lv_aload_n hx hb dX9_meet_38 rfl (lv_at hl 1 rfl) ?_
        refine va_get (D := D) (ci := 9) (v := .ref o_row) (C := RX9) (T := TX9) (N := 33) hx hb hts inw_X9_meet_X9 hown hK.1 hP 0 rfl rfl 17 (by decide) (hts (.fieldLink RX9 25 "PursesShareModel" "row" "[I") (by decide +kernel)) (fun _ h9 => h9) rfl dX9_meet_39 ?_
        refine lv_iload_n hx hb dX9_meet_42 rfl (lv_at hl 0 rfl) ?_
        refine lv_iload_n hx hb dX9_meet_43 rfl (lv_at hl 2 rfl) ?_
        have h0 := h.1
        have h := h.2
        refine va_iast hx hb hK.1 hP hD hS 2 0 rfl rfl h0 dX9_meet_44 (fun H locs hP hD hS => ?_)
        have hP : va_P D vwCl (cw_X9_meet cI cZ o o_readPurses o_readDay o_purses o_daily o_text o_row o_tried o_days o_order o_bestOrder o_seenHad o_seenShared o_isKept o_keptPurses o_keptRow o_keptHad o_keptShared o_keptRest v_readLaw v_readMany v_readMeetings v_law v_many v_meetings v_length v_at v_faultAt v_one v_other v_made v_leads v_rings v_seen a_purses (upd a_row (Int32.toNatClampNeg ((4 : Int32) * v_made)) n1)) H := hP
        have hD : va_D A (cw_X9_meet cI cZ o o_readPurses o_readDay o_purses o_daily o_text o_row o_tried o_days o_order o_bestOrder o_seenHad o_seenShared o_isKept o_keptPurses o_keptRow o_keptHad o_keptShared o_keptRest v_readLaw v_readMany v_readMeetings v_law v_many v_meetings v_length v_at v_faultAt v_one v_other v_made v_leads v_rings v_seen a_purses (upd a_row (Int32.toNatClampNeg ((4 : Int32) * v_made)) n1)) := hD
        refine lv_aload_n hx hb dX9_meet_45 rfl (lv_at hl 1 rfl) ?_
        refine va_get (D := D) (ci := 9) (v := .ref o_row) (C := RX9) (T := TX9) (N := 33) hx hb hts inw_X9_meet_X9 hown hK.1 hP 0 rfl rfl 17 (by decide) (hts (.fieldLink RX9 25 "PursesShareModel" "row" "[I") (by decide +kernel)) (fun _ h9 => h9) rfl dX9_meet_46 ?_
        refine lv_iload_n hx hb dX9_meet_49 rfl (lv_at hl 0 rfl) ?_
        refine lv_iconst (v := 1) hx hb dX9_meet_50 (by decide) ?_
        refine lv_iadd hx hb dX9_meet_51 ?_
        refine lv_iload_n hx hb dX9_meet_52 rfl (lv_at hl 3 rfl) ?_
        have h0 := h.1
        have h := h.2
        refine va_iast hx hb hK.1 hP hD hS 2 0 rfl rfl h0 dX9_meet_53 (fun H locs hP hD hS => ?_)
        have hP : va_P D vwCl (cw_X9_meet cI cZ o o_readPurses o_readDay o_purses o_daily o_text o_row o_tried o_days o_order o_bestOrder o_seenHad o_seenShared o_isKept o_keptPurses o_keptRow o_keptHad o_keptShared o_keptRest v_readLaw v_readMany v_readMeetings v_law v_many v_meetings v_length v_at v_faultAt v_one v_other v_made v_leads v_rings v_seen a_purses (upd (upd a_row (Int32.toNatClampNeg ((4 : Int32) * v_made)) n1) (Int32.toNatClampNeg (((4 : Int32) * v_made) + (1 : Int32))) n2)) H := hP
        have hD : va_D A (cw_X9_meet cI cZ o o_readPurses o_readDay o_purses o_daily o_text o_row o_tried o_days o_order o_bestOrder o_seenHad o_seenShared o_isKept o_keptPurses o_keptRow o_keptHad o_keptShared o_keptRest v_readLaw v_readMany v_readMeetings v_law v_many v_meetings v_length v_at v_faultAt v_one v_other v_made v_leads v_rings v_seen a_purses (upd (upd a_row (Int32.toNatClampNeg ((4 : Int32) * v_made)) n1) (Int32.toNatClampNeg (((4 : Int32) * v_made) + (1 : Int32))) n2)) := hD
        refine lv_aload_n hx hb dX9_meet_54 rfl (lv_at hl 1 rfl) ?_
        refine va_get (D := D) (ci := 9) (v := .ref o_row) (C := RX9) (T := TX9) (N := 33) hx hb hts inw_X9_meet_X9 hown hK.1 hP 0 rfl rfl 17 (by decide) (hts (.fieldLink RX9 25 "PursesShareModel" "row" "[I") (by decide +kernel)) (fun _ h9 => h9) rfl dX9_meet_55 ?_
        refine lv_iload_n hx hb dX9_meet_58 rfl (lv_at hl 0 rfl) ?_
        refine lv_iconst (v := 2) hx hb dX9_meet_59 (by decide) ?_
        refine lv_iadd hx hb dX9_meet_60 ?_
        refine lv_aload_n hx hb dX9_meet_61 rfl (lv_at hl 1 rfl) ?_
        refine va_get (D := D) (ci := 9) (v := .ref o_purses) (C := RX9) (T := TX9) (N := 33) hx hb hts inw_X9_meet_X9 hown hK.1 hP 0 rfl rfl 5 (by decide) (hts (.fieldLink RX9 16 "PursesShareModel" "purses" "[I") (by decide +kernel)) (fun _ h9 => h9) rfl dX9_meet_62 ?_
        refine lv_iload_n hx hb dX9_meet_65 rfl (lv_at hl 2 rfl) ?_
        have h0 := h.1
        have h := h.2
        refine va_iald hx hb hK.1 hP 1 0 rfl rfl h0 dX9_meet_66 ?_
        have h0 := h.1
        have h := h.2
        refine va_iast hx hb hK.1 hP hD hS 2 0 rfl rfl h0 dX9_meet_67 (fun H locs hP hD hS => ?_)
        have hP : va_P D vwCl (cw_X9_meet cI cZ o o_readPurses o_readDay o_purses o_daily o_text o_row o_tried o_days o_order o_bestOrder o_seenHad o_seenShared o_isKept o_keptPurses o_keptRow o_keptHad o_keptShared o_keptRest v_readLaw v_readMany v_readMeetings v_law v_many v_meetings v_length v_at v_faultAt v_one v_other v_made v_leads v_rings v_seen a_purses (upd (upd (upd a_row (Int32.toNatClampNeg ((4 : Int32) * v_made)) n1) (Int32.toNatClampNeg (((4 : Int32) * v_made) + (1 : Int32))) n2) (Int32.toNatClampNeg (((4 : Int32) * v_made) + (2 : Int32))) (a_purses (Int32.toNatClampNeg n1)))) H := hP
        have hD : va_D A (cw_X9_meet cI cZ o o_readPurses o_readDay o_purses o_daily o_text o_row o_tried o_days o_order o_bestOrder o_seenHad o_seenShared o_isKept o_keptPurses o_keptRow o_keptHad o_keptShared o_keptRest v_readLaw v_readMany v_readMeetings v_law v_many v_meetings v_length v_at v_faultAt v_one v_other v_made v_leads v_rings v_seen a_purses (upd (upd (upd a_row (Int32.toNatClampNeg ((4 : Int32) * v_made)) n1) (Int32.toNatClampNeg (((4 : Int32) * v_made) + (1 : Int32))) n2) (Int32.toNatClampNeg (((4 : Int32) * v_made) + (2 : Int32))) (a_purses (Int32.toNatClampNeg n1)))) := hD
        refine lv_aload_n hx hb dX9_meet_68 rfl (lv_at hl 1 rfl) ?_
        refine va_get (D := D) (ci := 9) (v := .ref o_row) (C := RX9) (T := TX9) (N := 33) hx hb hts inw_X9_meet_X9 hown hK.1 hP 0 rfl rfl 17 (by decide) (hts (.fieldLink RX9 25 "PursesShareModel" "row" "[I") (by decide +kernel)) (fun _ h9 => h9) rfl dX9_meet_69 ?_
        refine lv_iload_n hx hb dX9_meet_72 rfl (lv_at hl 0 rfl) ?_
        refine lv_iconst (v := 3) hx hb dX9_meet_73 (by decide) ?_
        refine lv_iadd hx hb dX9_meet_74 ?_
        refine lv_aload_n hx hb dX9_meet_75 rfl (lv_at hl 1 rfl) ?_
        refine va_get (D := D) (ci := 9) (v := .ref o_purses) (C := RX9) (T := TX9) (N := 33) hx hb hts inw_X9_meet_X9 hown hK.1 hP 0 rfl rfl 5 (by decide) (hts (.fieldLink RX9 16 "PursesShareModel" "purses" "[I") (by decide +kernel)) (fun _ h9 => h9) rfl dX9_meet_76 ?_
        refine lv_iload_n hx hb dX9_meet_79 rfl (lv_at hl 3 rfl) ?_
        have h0 := h.1
        have h := h.2
        refine va_iald hx hb hK.1 hP 1 0 rfl rfl h0 dX9_meet_80 ?_
        have h0 := h.1
        have h := h.2
        refine va_iast hx hb hK.1 hP hD hS 2 0 rfl rfl h0 dX9_meet_81 (fun H locs hP hD hS => ?_)
        have hP : va_P D vwCl (cw_X9_meet cI cZ o o_readPurses o_readDay o_purses o_daily o_text o_row o_tried o_days o_order o_bestOrder o_seenHad o_seenShared o_isKept o_keptPurses o_keptRow o_keptHad o_keptShared o_keptRest v_readLaw v_readMany v_readMeetings v_law v_many v_meetings v_length v_at v_faultAt v_one v_other v_made v_leads v_rings v_seen a_purses (upd (upd (upd (upd a_row (Int32.toNatClampNeg ((4 : Int32) * v_made)) n1) (Int32.toNatClampNeg (((4 : Int32) * v_made) + (1 : Int32))) n2) (Int32.toNatClampNeg (((4 : Int32) * v_made) + (2 : Int32))) (a_purses (Int32.toNatClampNeg n1))) (Int32.toNatClampNeg (((4 : Int32) * v_made) + (3 : Int32))) (a_purses (Int32.toNatClampNeg n2)))) H := hP
        have hD : va_D A (cw_X9_meet cI cZ o o_readPurses o_readDay o_purses o_daily o_text o_row o_tried o_days o_order o_bestOrder o_seenHad o_seenShared o_isKept o_keptPurses o_keptRow o_keptHad o_keptShared o_keptRest v_readLaw v_readMany v_readMeetings v_law v_many v_meetings v_length v_at v_faultAt v_one v_other v_made v_leads v_rings v_seen a_purses (upd (upd (upd (upd a_row (Int32.toNatClampNeg ((4 : Int32) * v_made)) n1) (Int32.toNatClampNeg (((4 : Int32) * v_made) + (1 : Int32))) n2) (Int32.toNatClampNeg (((4 : Int32) * v_made) + (2 : Int32))) (a_purses (Int32.toNatClampNeg n1))) (Int32.toNatClampNeg (((4 : Int32) * v_made) + (3 : Int32))) (a_purses (Int32.toNatClampNeg n2)))) := hD
        refine lv_aload_n hx hb dX9_meet_82 rfl (lv_at hl 1 rfl) ?_
        refine lv_dup hx hb dX9_meet_83 rfl ?_
        refine va_get (D := D) (ci := 9) (v := .int v_made) (C := RX9) (T := TX9) (N := 33) hx hb hts inw_X9_meet_X9 hown hK.1 hP 0 rfl rfl 16 (by decide) (hts (.fieldLink RX9 109 "PursesShareModel" "made" "I") (by decide +kernel)) (fun _ h9 => h9) rfl dX9_meet_84 ?_
        refine lv_iconst (v := 1) hx hb dX9_meet_87 (by decide) ?_
        refine lv_iadd hx hb dX9_meet_88 ?_
        refine va_put (D := D) (ci := 9) (v := .int (v_made + (1 : Int32))) (ty := .int) (C := RX9) (T := TX9) (N := 33) hx hb hts inw_X9_meet_X9 tyX9 tyX9_ok nmX9 hown hK.1 hP hD hS 0 rfl rfl 16 (by decide) (hts (.fieldLink RX9 109 "PursesShareModel" "made" "I") (by decide +kernel)) (fun _ h9 => h9) rfl (by decide +kernel) rfl rfl (Nat.le_of_ble_eq_true rfl) dX9_meet_89 (fun H locs hP hD hS => ?_)
        have hP : va_P D vwCl (cw_X9_meet cI cZ o o_readPurses o_readDay o_purses o_daily o_text o_row o_tried o_days o_order o_bestOrder o_seenHad o_seenShared o_isKept o_keptPurses o_keptRow o_keptHad o_keptShared o_keptRest v_readLaw v_readMany v_readMeetings v_law v_many v_meetings v_length v_at v_faultAt v_one v_other (v_made + (1 : Int32)) v_leads v_rings v_seen a_purses (upd (upd (upd (upd a_row (Int32.toNatClampNeg ((4 : Int32) * v_made)) n1) (Int32.toNatClampNeg (((4 : Int32) * v_made) + (1 : Int32))) n2) (Int32.toNatClampNeg (((4 : Int32) * v_made) + (2 : Int32))) (a_purses (Int32.toNatClampNeg n1))) (Int32.toNatClampNeg (((4 : Int32) * v_made) + (3 : Int32))) (a_purses (Int32.toNatClampNeg n2)))) H := hP
        have hD : va_D A (cw_X9_meet cI cZ o o_readPurses o_readDay o_purses o_daily o_text o_row o_tried o_days o_order o_bestOrder o_seenHad o_seenShared o_isKept o_keptPurses o_keptRow o_keptHad o_keptShared o_keptRest v_readLaw v_readMany v_readMeetings v_law v_many v_meetings v_length v_at v_faultAt v_one v_other (v_made + (1 : Int32)) v_leads v_rings v_seen a_purses (upd (upd (upd (upd a_row (Int32.toNatClampNeg ((4 : Int32) * v_made)) n1) (Int32.toNatClampNeg (((4 : Int32) * v_made) + (1 : Int32))) n2) (Int32.toNatClampNeg (((4 : Int32) * v_made) + (2 : Int32))) (a_purses (Int32.toNatClampNeg n1))) (Int32.toNatClampNeg (((4 : Int32) * v_made) + (3 : Int32))) (a_purses (Int32.toNatClampNeg n2)))) := hD
        refine lv_aload_n hx hb dX9_meet_92 rfl (lv_at hl 1 rfl) ?_
        refine lv_aload_n hx hb dX9_meet_93 rfl (lv_at hl 1 rfl) ?_
        refine va_get (D := D) (ci := 9) (v := .ref o_purses) (C := RX9) (T := TX9) (N := 33) hx hb hts inw_X9_meet_X9 hown hK.1 hP 0 rfl rfl 5 (by decide) (hts (.fieldLink RX9 16 "PursesShareModel" "purses" "[I") (by decide +kernel)) (fun _ h9 => h9) rfl dX9_meet_94 ?_
        refine lv_iload_n hx hb dX9_meet_97 rfl (lv_at hl 2 rfl) ?_
        have h0 := h.1
        have h := h.2
        refine va_iald hx hb hK.1 hP 1 0 rfl rfl h0 dX9_meet_98 ?_
        refine lv_aload_n hx hb dX9_meet_99 rfl (lv_at hl 1 rfl) ?_
        refine va_get (D := D) (ci := 9) (v := .ref o_purses) (C := RX9) (T := TX9) (N := 33) hx hb hts inw_X9_meet_X9 hown hK.1 hP 0 rfl rfl 5 (by decide) (hts (.fieldLink RX9 16 "PursesShareModel" "purses" "[I") (by decide +kernel)) (fun _ h9 => h9) rfl dX9_meet_100 ?_
        refine lv_iload_n hx hb dX9_meet_103 rfl (lv_at hl 3 rfl) ?_
        have h0 := h.1
        have h := h.2
        refine va_iald hx hb hK.1 hP 1 0 rfl rfl h0 dX9_meet_104 ?_
        refine call_v2 (va_runV (As := [.int (a_purses (Int32.toNatClampNeg n1)), .int (a_purses (Int32.toNatClampNeg n2))]) (rest := []) ⟨hx, hb, hml, hown, hts⟩ (c_X9_meetTwo l D cI cZ o o_readPurses o_readDay o_purses o_daily o_text o_row o_tried o_days o_order o_bestOrder o_seenHad o_seenShared o_isKept o_keptPurses o_keptRow o_keptHad o_keptShared o_keptRest (Array.size H) (a_purses (Int32.toNatClampNeg n1)) (a_purses (Int32.toNatClampNeg n2)) v_readLaw v_readMany v_readMeetings v_law v_many v_meetings v_length v_at v_faultAt v_one v_other (v_made + (1 : Int32)) v_leads v_rings v_seen _ h) (cwV 2 hts gX9_meet_X9_meetTwo rfl rfl rfl (by decide +kernel) ⟨Nat.le_of_ble_eq_true rfl, Nat.le_of_ble_eq_true rfl⟩) (preV_of hP hD hK [0] rfl rfl 0 9 rfl rfl rfl) rfl rfl hl.1 rfl (lv_room (Nat.le_of_ble_eq_true rfl)) dX9_meet_105 ⟨Nat.zero_le _, Nat.zero_le _⟩) hP hD hS hA [0] rfl (fun v_one_105 v_other_105 => (cw_X9_meet cI cZ o o_readPurses o_readDay o_purses o_daily o_text o_row o_tried o_days o_order o_bestOrder o_seenHad o_seenShared o_isKept o_keptPurses o_keptRow o_keptHad o_keptShared o_keptRest v_readLaw v_readMany v_readMeetings v_law v_many v_meetings v_length v_at v_faultAt v_one_105 v_other_105 (v_made + (1 : Int32)) v_leads v_rings v_seen a_purses (upd (upd (upd (upd a_row (Int32.toNatClampNeg ((4 : Int32) * v_made)) n1) (Int32.toNatClampNeg (((4 : Int32) * v_made) + (1 : Int32))) n2) (Int32.toNatClampNeg (((4 : Int32) * v_made) + (2 : Int32))) (a_purses (Int32.toNatClampNeg n1))) (Int32.toNatClampNeg (((4 : Int32) * v_made) + (3 : Int32))) (a_purses (Int32.toNatClampNeg n2))))) (fun _ _ => rfl) (fun _ _ => rfl) (fun v_one_105 v_other_105 H locs h hP hD hS => ?_)
        refine lv_aload_n hx hb dX9_meet_108 rfl (lv_at hl 1 rfl) ?_
        refine va_get (D := D) (ci := 9) (v := .ref o_purses) (C := RX9) (T := TX9) (N := 33) hx hb hts inw_X9_meet_X9 hown hK.1 hP 0 rfl rfl 5 (by decide) (hts (.fieldLink RX9 16 "PursesShareModel" "purses" "[I") (by decide +kernel)) (fun _ h9 => h9) rfl dX9_meet_109 ?_
        refine lv_iload_n hx hb dX9_meet_112 rfl (lv_at hl 2 rfl) ?_
        refine lv_aload_n hx hb dX9_meet_113 rfl (lv_at hl 1 rfl) ?_
        refine va_get (D := D) (ci := 9) (v := .int v_one_105) (C := RX9) (T := TX9) (N := 33) hx hb hts inw_X9_meet_X9 hown hK.1 hP 0 rfl rfl 14 (by decide) (hts (.fieldLink RX9 123 "PursesShareModel" "one" "I") (by decide +kernel)) (fun _ h9 => h9) rfl dX9_meet_114 ?_
        have h0 := h.1
        have h := h.2
        refine va_iast hx hb hK.1 hP hD hS 1 0 rfl rfl h0 dX9_meet_117 (fun H locs hP hD hS => ?_)
        have hP : va_P D vwCl (cw_X9_meet cI cZ o o_readPurses o_readDay o_purses o_daily o_text o_row o_tried o_days o_order o_bestOrder o_seenHad o_seenShared o_isKept o_keptPurses o_keptRow o_keptHad o_keptShared o_keptRest v_readLaw v_readMany v_readMeetings v_law v_many v_meetings v_length v_at v_faultAt v_one_105 v_other_105 (v_made + (1 : Int32)) v_leads v_rings v_seen (upd a_purses (Int32.toNatClampNeg n1) v_one_105) (upd (upd (upd (upd a_row (Int32.toNatClampNeg ((4 : Int32) * v_made)) n1) (Int32.toNatClampNeg (((4 : Int32) * v_made) + (1 : Int32))) n2) (Int32.toNatClampNeg (((4 : Int32) * v_made) + (2 : Int32))) (a_purses (Int32.toNatClampNeg n1))) (Int32.toNatClampNeg (((4 : Int32) * v_made) + (3 : Int32))) (a_purses (Int32.toNatClampNeg n2)))) H := hP
        have hD : va_D A (cw_X9_meet cI cZ o o_readPurses o_readDay o_purses o_daily o_text o_row o_tried o_days o_order o_bestOrder o_seenHad o_seenShared o_isKept o_keptPurses o_keptRow o_keptHad o_keptShared o_keptRest v_readLaw v_readMany v_readMeetings v_law v_many v_meetings v_length v_at v_faultAt v_one_105 v_other_105 (v_made + (1 : Int32)) v_leads v_rings v_seen (upd a_purses (Int32.toNatClampNeg n1) v_one_105) (upd (upd (upd (upd a_row (Int32.toNatClampNeg ((4 : Int32) * v_made)) n1) (Int32.toNatClampNeg (((4 : Int32) * v_made) + (1 : Int32))) n2) (Int32.toNatClampNeg (((4 : Int32) * v_made) + (2 : Int32))) (a_purses (Int32.toNatClampNeg n1))) (Int32.toNatClampNeg (((4 : Int32) * v_made) + (3 : Int32))) (a_purses (Int32.toNatClampNeg n2)))) := hD
        refine lv_aload_n hx hb dX9_meet_118 rfl (lv_at hl 1 rfl) ?_
        refine va_get (D := D) (ci := 9) (v := .ref o_purses) (C := RX9) (T := TX9) (N := 33) hx hb hts inw_X9_meet_X9 hown hK.1 hP 0 rfl rfl 5 (by decide) (hts (.fieldLink RX9 16 "PursesShareModel" "purses" "[I") (by decide +kernel)) (fun _ h9 => h9) rfl dX9_meet_119 ?_
        refine lv_iload_n hx hb dX9_meet_122 rfl (lv_at hl 3 rfl) ?_
        refine lv_aload_n hx hb dX9_meet_123 rfl (lv_at hl 1 rfl) ?_
        refine va_get (D := D) (ci := 9) (v := .int v_other_105) (C := RX9) (T := TX9) (N := 33) hx hb hts inw_X9_meet_X9 hown hK.1 hP 0 rfl rfl 15 (by decide) (hts (.fieldLink RX9 126 "PursesShareModel" "other" "I") (by decide +kernel)) (fun _ h9 => h9) rfl dX9_meet_124 ?_
        have h0 := h.1
        have h := h.2
        refine va_iast hx hb hK.1 hP hD hS 1 0 rfl rfl h0 dX9_meet_127 (fun H locs hP hD hS => ?_)
        have hP : va_P D vwCl (cw_X9_meet cI cZ o o_readPurses o_readDay o_purses o_daily o_text o_row o_tried o_days o_order o_bestOrder o_seenHad o_seenShared o_isKept o_keptPurses o_keptRow o_keptHad o_keptShared o_keptRest v_readLaw v_readMany v_readMeetings v_law v_many v_meetings v_length v_at v_faultAt v_one_105 v_other_105 (v_made + (1 : Int32)) v_leads v_rings v_seen (upd (upd a_purses (Int32.toNatClampNeg n1) v_one_105) (Int32.toNatClampNeg n2) v_other_105) (upd (upd (upd (upd a_row (Int32.toNatClampNeg ((4 : Int32) * v_made)) n1) (Int32.toNatClampNeg (((4 : Int32) * v_made) + (1 : Int32))) n2) (Int32.toNatClampNeg (((4 : Int32) * v_made) + (2 : Int32))) (a_purses (Int32.toNatClampNeg n1))) (Int32.toNatClampNeg (((4 : Int32) * v_made) + (3 : Int32))) (a_purses (Int32.toNatClampNeg n2)))) H := hP
        have hD : va_D A (cw_X9_meet cI cZ o o_readPurses o_readDay o_purses o_daily o_text o_row o_tried o_days o_order o_bestOrder o_seenHad o_seenShared o_isKept o_keptPurses o_keptRow o_keptHad o_keptShared o_keptRest v_readLaw v_readMany v_readMeetings v_law v_many v_meetings v_length v_at v_faultAt v_one_105 v_other_105 (v_made + (1 : Int32)) v_leads v_rings v_seen (upd (upd a_purses (Int32.toNatClampNeg n1) v_one_105) (Int32.toNatClampNeg n2) v_other_105) (upd (upd (upd (upd a_row (Int32.toNatClampNeg ((4 : Int32) * v_made)) n1) (Int32.toNatClampNeg (((4 : Int32) * v_made) + (1 : Int32))) n2) (Int32.toNatClampNeg (((4 : Int32) * v_made) + (2 : Int32))) (a_purses (Int32.toNatClampNeg n1))) (Int32.toNatClampNeg (((4 : Int32) * v_made) + (3 : Int32))) (a_purses (Int32.toNatClampNeg n2)))) := hD
        refine lv_ldc (own := RX9) (index := 141) (v := 100000) hx hb hown (hts (.constant RX9 141 (100000)) (by decide +kernel)) dX9_meet_128 ?_
        refine lv_aload_n hx hb dX9_meet_130 rfl (lv_at hl 1 rfl) ?_
        refine va_get (D := D) (ci := 9) (v := .int v_one_105) (C := RX9) (T := TX9) (N := 33) hx hb hts inw_X9_meet_X9 hown hK.1 hP 0 rfl rfl 14 (by decide) (hts (.fieldLink RX9 123 "PursesShareModel" "one" "I") (by decide +kernel)) (fun _ h9 => h9) rfl dX9_meet_131 ?_
        refine lv_iadd hx hb dX9_meet_134 ?_
        refine lv_aload_n hx hb dX9_meet_135 rfl (lv_at hl 1 rfl) ?_
        refine va_get (D := D) (ci := 9) (v := .ref o_row) (C := RX9) (T := TX9) (N := 33) hx hb hts inw_X9_meet_X9 hown hK.1 hP 0 rfl rfl 17 (by decide) (hts (.fieldLink RX9 25 "PursesShareModel" "row" "[I") (by decide +kernel)) (fun _ h9 => h9) rfl dX9_meet_136 ?_
        refine lv_iload_n hx hb dX9_meet_139 rfl (lv_at hl 0 rfl) ?_
        refine lv_iconst (v := 2) hx hb dX9_meet_140 (by decide) ?_
        refine lv_iadd hx hb dX9_meet_141 ?_
        have h0 := h.1
        have h := h.2
        refine va_iald hx hb hK.1 hP 2 0 rfl rfl h0 dX9_meet_142 ?_
        refine lv_isub hx hb dX9_meet_143 ?_
        exact ret_i5 hx hb hr hlocks hQ hS v_one_105 v_other_105 (v_made + (1 : Int32)) (upd (upd a_purses (Int32.toNatClampNeg n1) v_one_105) (Int32.toNatClampNeg n2) v_other_105) (upd (upd (upd (upd a_row (Int32.toNatClampNeg ((4 : Int32) * v_made)) n1) (Int32.toNatClampNeg (((4 : Int32) * v_made) + (1 : Int32))) n2) (Int32.toNatClampNeg (((4 : Int32) * v_made) + (2 : Int32))) (a_purses (Int32.toNatClampNeg n1))) (Int32.toNatClampNeg (((4 : Int32) * v_made) + (3 : Int32))) (a_purses (Int32.toNatClampNeg n2))) hP h dX9_meet_144
      · have h := h.2 c25
        refine lv_bipush (v := -4) hx hb dX9_meet_28 (by decide) ?_
        exact ret_i5 hx hb hr hlocks hQ hS v_one v_other v_made a_purses a_row hP h dX9_meet_30
    · have h := h.2 c13
      refine lv_bipush (v := -3) hx hb dX9_meet_16 (by decide) ?_
      exact ret_i5 hx hb hr hlocks hQ hS v_one v_other v_made a_purses a_row hP h dX9_meet_18
  · have h := h.2 c6
    refine lv_iconst (v := -1) hx hb dX9_meet_9 (by decide) ?_
    exact ret_i5 hx hb hr hlocks hQ hS v_one v_other v_made a_purses a_row hP h dX9_meet_10
abbrev rm_X9_back : Room := { frames := 0, cells := 0, slots := 0, locals := 0 }
abbrev cw_X9_back (cI cZ : ClassId) (o o_readPurses o_readDay o_purses o_daily o_text o_row o_tried o_days o_order o_bestOrder o_seenHad o_seenShared o_isKept o_keptPurses o_keptRow o_keptHad o_keptShared o_keptRest : Nat) (v_readLaw : Int32) (v_readMany : Int32) (v_readMeetings : Int32) (v_law : Int32) (v_many : Int32) (v_meetings : Int32) (v_length : Int32) (v_at : Int32) (v_faultAt : Int32) (v_one : Int32) (v_other : Int32) (v_made : Int32) (v_leads : Int32) (v_rings : Int32) (v_seen : Int32) (a_purses : Nat → Int32) (a_row : Nat → Int32) : va_W := [(o, .inr (9, [.ref o_readPurses, .ref o_readDay, .int v_readLaw, .int v_readMany, .int v_readMeetings, .ref o_purses, .ref o_daily, .int v_law, .int v_many, .int v_meetings, .ref o_text, .int v_length, .int v_at, .int v_faultAt, .int v_one, .int v_other, .int v_made, .ref o_row, .ref o_tried, .int v_leads, .int v_rings, .ref o_days, .ref o_order, .ref o_bestOrder, .int v_seen, .ref o_seenHad, .ref o_seenShared, .ref o_isKept, .ref o_keptPurses, .ref o_keptRow, .ref o_keptHad, .ref o_keptShared, .ref o_keptRest])), (o_purses, .inl (cI, 8, .inl a_purses)), (o_row, .inl (cI, 128, .inl a_row))]
theorem inw_X9_back_X9 : ∀ w ∈ u_ws RX9 TX9 33, w ∈ wsX9_back := by decide +kernel
def wp_X9_back (v_made : Int32) (a_purses : Nat → Int32) (a_row : Nat → Int32) (Post : Int32 → (Int32) → (Nat → Int32) → Prop) : Prop := ((¬ v_made = 0 → (vp_in ((4 : Int32) * (v_made - (1 : Int32))) 128 ∧ (vp_in (((4 : Int32) * (v_made - (1 : Int32))) + (2 : Int32)) 128 ∧ (vp_in (a_row (Int32.toNatClampNeg ((4 : Int32) * (v_made - (1 : Int32))))) 8 ∧ (vp_in (((4 : Int32) * (v_made - (1 : Int32))) + (1 : Int32)) 128 ∧ (vp_in (((4 : Int32) * (v_made - (1 : Int32))) + (3 : Int32)) 128 ∧ (vp_in (a_row (Int32.toNatClampNeg (((4 : Int32) * (v_made - (1 : Int32))) + (1 : Int32)))) 8 ∧ (Post (v_made - (1 : Int32)) (v_made - (1 : Int32)) (upd (upd a_purses (Int32.toNatClampNeg (a_row (Int32.toNatClampNeg ((4 : Int32) * (v_made - (1 : Int32)))))) (a_row (Int32.toNatClampNeg (((4 : Int32) * (v_made - (1 : Int32))) + (2 : Int32))))) (Int32.toNatClampNeg (a_row (Int32.toNatClampNeg (((4 : Int32) * (v_made - (1 : Int32))) + (1 : Int32))))) (a_row (Int32.toNatClampNeg (((4 : Int32) * (v_made - (1 : Int32))) + (3 : Int32))))))))))))) ∧ (v_made = 0 → (Post (-3 : Int32) v_made a_purses)))
set_option maxHeartbeats 4000000 in
set_option maxRecDepth 100000 in
theorem c_X9_back (l : Launch) (D : va_G) (cI cZ : ClassId) (o o_readPurses o_readDay o_purses o_daily o_text o_row o_tried o_days o_order o_bestOrder o_seenHad o_seenShared o_isKept o_keptPurses o_keptRow o_keptHad o_keptShared o_keptRest : Nat) (sz : Nat) (v_readLaw : Int32) (v_readMany : Int32) (v_readMeetings : Int32) (v_law : Int32) (v_many : Int32) (v_meetings : Int32) (v_length : Int32) (v_at : Int32) (v_faultAt : Int32) (v_one : Int32) (v_other : Int32) (v_made : Int32) (v_leads : Int32) (v_rings : Int32) (v_seen : Int32) (a_purses : Nat → Int32) (a_row : Nat → Int32) (Post : Int32 → (Int32) → (Nat → Int32) → Prop) (h : wp_X9_back v_made a_purses a_row Post) : Met l yX9_back wsX9_back rm_X9_back (cPc D cI cZ [.ref o] (cw_X9_back cI cZ o o_readPurses o_readDay o_purses o_daily o_text o_row o_tried o_days o_order o_bestOrder o_seenHad o_seenShared o_isKept o_keptPurses o_keptRow o_keptHad o_keptShared o_keptRest v_readLaw v_readMany v_readMeetings v_law v_many v_meetings v_length v_at v_faultAt v_one v_other v_made v_leads v_rings v_seen a_purses a_row) sz) (cQi2 D Post (fun m_v_made m_a_purses => (cw_X9_back cI cZ o o_readPurses o_readDay o_purses o_daily o_text o_row o_tried o_days o_order o_bestOrder o_seenHad o_seenShared o_isKept o_keptPurses o_keptRow o_keptHad o_keptShared o_keptRest v_readLaw v_readMany v_readMeetings v_law v_many v_meetings v_length v_at v_faultAt v_one v_other m_v_made v_leads v_rings v_seen m_a_purses a_row)) (va_A (cw_X9_back cI cZ o o_readPurses o_readDay o_purses o_daily o_text o_row o_tried o_days o_order o_bestOrder o_seenHad o_seenShared o_isKept o_keptPurses o_keptRow o_keptHad o_keptShared o_keptRest v_readLaw v_readMany v_readMeetings v_law v_many v_meetings v_length v_at v_faultAt v_one v_other v_made v_leads v_rings v_seen a_purses a_row) sz)) 0 0 (va_A (cw_X9_back cI cZ o o_readPurses o_readDay o_purses o_daily o_text o_row o_tried o_days o_order o_bestOrder o_seenHad o_seenShared o_isKept o_keptPurses o_keptRow o_keptHad o_keptShared o_keptRest v_readLaw v_readMany v_readMeetings v_law v_many v_meetings v_length v_at v_faultAt v_one v_other v_made v_leads v_rings v_seen a_purses a_row) sz) := by
  refine ent (cc := cX9_back) (maxL := 2) (ret := (some .int)) (Qc := fun A => cQi2 D Post (fun m_v_made m_a_purses => (cw_X9_back cI cZ o o_readPurses o_readDay o_purses o_daily o_text o_row o_tried o_days o_order o_bestOrder o_seenHad o_seenShared o_isKept o_keptPurses o_keptRow o_keptHad o_keptShared o_keptRest v_readLaw v_readMany v_readMeetings v_law v_many v_meetings v_length v_at v_faultAt v_one v_other m_v_made v_leads v_rings v_seen m_a_purses a_row)) A) (by decide) rfl (Nat.le_of_ble_eq_true rfl) ?_
  intro p e s m args below meth c A ls Q hQ hsz hx hb hml hr hts hown hlocks hnm hK hP hD hA hS hl
  have hl : lv_has ls 2 [(0, .ref o)] := hl
  unfold wp_X9_back at h
  refine lv_aload_n hx hb dX9_back_0 rfl (lv_at hl 0 rfl) ?_
  refine va_get (D := D) (ci := 9) (v := .int v_made) (C := RX9) (T := TX9) (N := 33) hx hb hts inw_X9_back_X9 hown hK.1 hP 0 rfl rfl 16 (by decide) (hts (.fieldLink RX9 109 "PursesShareModel" "made" "I") (by decide +kernel)) (fun _ h9 => h9) rfl dX9_back_1 ?_
  refine lv_if_ne (tgt := 10) hx hb dX9_back_4 (by decide) (fun c4 => ?_) (fun c4 => ?_)
  · have h := h.1 c4
    refine lv_aload_n hx hb dX9_back_10 rfl (lv_at hl 0 rfl) ?_
    refine lv_dup hx hb dX9_back_11 rfl ?_
    refine va_get (D := D) (ci := 9) (v := .int v_made) (C := RX9) (T := TX9) (N := 33) hx hb hts inw_X9_back_X9 hown hK.1 hP 0 rfl rfl 16 (by decide) (hts (.fieldLink RX9 109 "PursesShareModel" "made" "I") (by decide +kernel)) (fun _ h9 => h9) rfl dX9_back_12 ?_
    refine lv_iconst (v := 1) hx hb dX9_back_15 (by decide) ?_
    refine lv_isub hx hb dX9_back_16 ?_
    refine va_put (D := D) (ci := 9) (v := .int (v_made - (1 : Int32))) (ty := .int) (C := RX9) (T := TX9) (N := 33) hx hb hts inw_X9_back_X9 tyX9 tyX9_ok nmX9 hown hK.1 hP hD hS 0 rfl rfl 16 (by decide) (hts (.fieldLink RX9 109 "PursesShareModel" "made" "I") (by decide +kernel)) (fun _ h9 => h9) rfl (by decide +kernel) rfl rfl (Nat.le_of_ble_eq_true rfl) dX9_back_17 (fun H locs hP hD hS => ?_)
    have hP : va_P D vwCl (cw_X9_back cI cZ o o_readPurses o_readDay o_purses o_daily o_text o_row o_tried o_days o_order o_bestOrder o_seenHad o_seenShared o_isKept o_keptPurses o_keptRow o_keptHad o_keptShared o_keptRest v_readLaw v_readMany v_readMeetings v_law v_many v_meetings v_length v_at v_faultAt v_one v_other (v_made - (1 : Int32)) v_leads v_rings v_seen a_purses a_row) H := hP
    have hD : va_D A (cw_X9_back cI cZ o o_readPurses o_readDay o_purses o_daily o_text o_row o_tried o_days o_order o_bestOrder o_seenHad o_seenShared o_isKept o_keptPurses o_keptRow o_keptHad o_keptShared o_keptRest v_readLaw v_readMany v_readMeetings v_law v_many v_meetings v_length v_at v_faultAt v_one v_other (v_made - (1 : Int32)) v_leads v_rings v_seen a_purses a_row) := hD
    refine lv_iconst (v := 4) hx hb dX9_back_20 (by decide) ?_
    refine lv_aload_n hx hb dX9_back_21 rfl (lv_at hl 0 rfl) ?_
    refine va_get (D := D) (ci := 9) (v := .int (v_made - (1 : Int32))) (C := RX9) (T := TX9) (N := 33) hx hb hts inw_X9_back_X9 hown hK.1 hP 0 rfl rfl 16 (by decide) (hts (.fieldLink RX9 109 "PursesShareModel" "made" "I") (by decide +kernel)) (fun _ h9 => h9) rfl dX9_back_22 ?_
    refine lv_imul hx hb dX9_back_25 ?_
    refine lv_istore_n (lv' := [(1, .int ((4 : Int32) * (v_made - (1 : Int32)))), (0, .ref o)]) hx hb dX9_back_26 rfl hl (by decide) rfl (fun ls hl => ?_)
    refine lv_aload_n hx hb dX9_back_27 rfl (lv_at hl 1 rfl) ?_
    refine va_get (D := D) (ci := 9) (v := .ref o_purses) (C := RX9) (T := TX9) (N := 33) hx hb hts inw_X9_back_X9 hown hK.1 hP 0 rfl rfl 5 (by decide) (hts (.fieldLink RX9 16 "PursesShareModel" "purses" "[I") (by decide +kernel)) (fun _ h9 => h9) rfl dX9_back_28 ?_
    refine lv_aload_n hx hb dX9_back_31 rfl (lv_at hl 1 rfl) ?_
    refine va_get (D := D) (ci := 9) (v := .ref o_row) (C := RX9) (T := TX9) (N := 33) hx hb hts inw_X9_back_X9 hown hK.1 hP 0 rfl rfl 17 (by decide) (hts (.fieldLink RX9 25 "PursesShareModel" "row" "[I") (by decide +kernel)) (fun _ h9 => h9) rfl dX9_back_32 ?_
    refine lv_iload_n hx hb dX9_back_35 rfl (lv_at hl 0 rfl) ?_
    have h0 := h.1
    have h := h.2
    refine va_iald hx hb hK.1 hP 2 0 rfl rfl h0 dX9_back_36 ?_
    refine lv_aload_n hx hb dX9_back_37 rfl (lv_at hl 1 rfl) ?_
    refine va_get (D := D) (ci := 9) (v := .ref o_row) (C := RX9) (T := TX9) (N := 33) hx hb hts inw_X9_back_X9 hown hK.1 hP 0 rfl rfl 17 (by decide) (hts (.fieldLink RX9 25 "PursesShareModel" "row" "[I") (by decide +kernel)) (fun _ h9 => h9) rfl dX9_back_38 ?_
    refine lv_iload_n hx hb dX9_back_41 rfl (lv_at hl 0 rfl) ?_
    refine lv_iconst (v := 2) hx hb dX9_back_42 (by decide) ?_
    refine lv_iadd hx hb dX9_back_43 ?_
    have h0 := h.1
    have h := h.2
    refine va_iald hx hb hK.1 hP 2 0 rfl rfl h0 dX9_back_44 ?_
    have h0 := h.1
    have h := h.2
    refine va_iast hx hb hK.1 hP hD hS 1 0 rfl rfl h0 dX9_back_45 (fun H locs hP hD hS => ?_)
    have hP : va_P D vwCl (cw_X9_back cI cZ o o_readPurses o_readDay o_purses o_daily o_text o_row o_tried o_days o_order o_bestOrder o_seenHad o_seenShared o_isKept o_keptPurses o_keptRow o_keptHad o_keptShared o_keptRest v_readLaw v_readMany v_readMeetings v_law v_many v_meetings v_length v_at v_faultAt v_one v_other (v_made - (1 : Int32)) v_leads v_rings v_seen (upd a_purses (Int32.toNatClampNeg (a_row (Int32.toNatClampNeg ((4 : Int32) * (v_made - (1 : Int32)))))) (a_row (Int32.toNatClampNeg (((4 : Int32) * (v_made - (1 : Int32))) + (2 : Int32))))) a_row) H := hP
    have hD : va_D A (cw_X9_back cI cZ o o_readPurses o_readDay o_purses o_daily o_text o_row o_tried o_days o_order o_bestOrder o_seenHad o_seenShared o_isKept o_keptPurses o_keptRow o_keptHad o_keptShared o_keptRest v_readLaw v_readMany v_readMeetings v_law v_many v_meetings v_length v_at v_faultAt v_one v_other (v_made - (1 : Int32)) v_leads v_rings v_seen (upd a_purses (Int32.toNatClampNeg (a_row (Int32.toNatClampNeg ((4 : Int32) * (v_made - (1 : Int32)))))) (a_row (Int32.toNatClampNeg (((4 : Int32) * (v_made - (1 : Int32))) + (2 : Int32))))) a_row) := hD
    refine lv_aload_n hx hb dX9_back_46 rfl (lv_at hl 1 rfl) ?_
    refine va_get (D := D) (ci := 9) (v := .ref o_purses) (C := RX9) (T := TX9) (N := 33) hx hb hts inw_X9_back_X9 hown hK.1 hP 0 rfl rfl 5 (by decide) (hts (.fieldLink RX9 16 "PursesShareModel" "purses" "[I") (by decide +kernel)) (fun _ h9 => h9) rfl dX9_back_47 ?_
    refine lv_aload_n hx hb dX9_back_50 rfl (lv_at hl 1 rfl) ?_
    refine va_get (D := D) (ci := 9) (v := .ref o_row) (C := RX9) (T := TX9) (N := 33) hx hb hts inw_X9_back_X9 hown hK.1 hP 0 rfl rfl 17 (by decide) (hts (.fieldLink RX9 25 "PursesShareModel" "row" "[I") (by decide +kernel)) (fun _ h9 => h9) rfl dX9_back_51 ?_
    refine lv_iload_n hx hb dX9_back_54 rfl (lv_at hl 0 rfl) ?_
    refine lv_iconst (v := 1) hx hb dX9_back_55 (by decide) ?_
    refine lv_iadd hx hb dX9_back_56 ?_
    have h0 := h.1
    have h := h.2
    refine va_iald hx hb hK.1 hP 2 0 rfl rfl h0 dX9_back_57 ?_
    refine lv_aload_n hx hb dX9_back_58 rfl (lv_at hl 1 rfl) ?_
    refine va_get (D := D) (ci := 9) (v := .ref o_row) (C := RX9) (T := TX9) (N := 33) hx hb hts inw_X9_back_X9 hown hK.1 hP 0 rfl rfl 17 (by decide) (hts (.fieldLink RX9 25 "PursesShareModel" "row" "[I") (by decide +kernel)) (fun _ h9 => h9) rfl dX9_back_59 ?_
    refine lv_iload_n hx hb dX9_back_62 rfl (lv_at hl 0 rfl) ?_
    refine lv_iconst (v := 3) hx hb dX9_back_63 (by decide) ?_
    refine lv_iadd hx hb dX9_back_64 ?_
    have h0 := h.1
    have h := h.2
    refine va_iald hx hb hK.1 hP 2 0 rfl rfl h0 dX9_back_65 ?_
    have h0 := h.1
    have h := h.2
    refine va_iast hx hb hK.1 hP hD hS 1 0 rfl rfl h0 dX9_back_66 (fun H locs hP hD hS => ?_)
    have hP : va_P D vwCl (cw_X9_back cI cZ o o_readPurses o_readDay o_purses o_daily o_text o_row o_tried o_days o_order o_bestOrder o_seenHad o_seenShared o_isKept o_keptPurses o_keptRow o_keptHad o_keptShared o_keptRest v_readLaw v_readMany v_readMeetings v_law v_many v_meetings v_length v_at v_faultAt v_one v_other (v_made - (1 : Int32)) v_leads v_rings v_seen (upd (upd a_purses (Int32.toNatClampNeg (a_row (Int32.toNatClampNeg ((4 : Int32) * (v_made - (1 : Int32)))))) (a_row (Int32.toNatClampNeg (((4 : Int32) * (v_made - (1 : Int32))) + (2 : Int32))))) (Int32.toNatClampNeg (a_row (Int32.toNatClampNeg (((4 : Int32) * (v_made - (1 : Int32))) + (1 : Int32))))) (a_row (Int32.toNatClampNeg (((4 : Int32) * (v_made - (1 : Int32))) + (3 : Int32))))) a_row) H := hP
    have hD : va_D A (cw_X9_back cI cZ o o_readPurses o_readDay o_purses o_daily o_text o_row o_tried o_days o_order o_bestOrder o_seenHad o_seenShared o_isKept o_keptPurses o_keptRow o_keptHad o_keptShared o_keptRest v_readLaw v_readMany v_readMeetings v_law v_many v_meetings v_length v_at v_faultAt v_one v_other (v_made - (1 : Int32)) v_leads v_rings v_seen (upd (upd a_purses (Int32.toNatClampNeg (a_row (Int32.toNatClampNeg ((4 : Int32) * (v_made - (1 : Int32)))))) (a_row (Int32.toNatClampNeg (((4 : Int32) * (v_made - (1 : Int32))) + (2 : Int32))))) (Int32.toNatClampNeg (a_row (Int32.toNatClampNeg (((4 : Int32) * (v_made - (1 : Int32))) + (1 : Int32))))) (a_row (Int32.toNatClampNeg (((4 : Int32) * (v_made - (1 : Int32))) + (3 : Int32))))) a_row) := hD
    refine lv_aload_n hx hb dX9_back_67 rfl (lv_at hl 1 rfl) ?_
    refine va_get (D := D) (ci := 9) (v := .int (v_made - (1 : Int32))) (C := RX9) (T := TX9) (N := 33) hx hb hts inw_X9_back_X9 hown hK.1 hP 0 rfl rfl 16 (by decide) (hts (.fieldLink RX9 109 "PursesShareModel" "made" "I") (by decide +kernel)) (fun _ h9 => h9) rfl dX9_back_68 ?_
    exact ret_i2 hx hb hr hlocks hQ hS (v_made - (1 : Int32)) (upd (upd a_purses (Int32.toNatClampNeg (a_row (Int32.toNatClampNeg ((4 : Int32) * (v_made - (1 : Int32)))))) (a_row (Int32.toNatClampNeg (((4 : Int32) * (v_made - (1 : Int32))) + (2 : Int32))))) (Int32.toNatClampNeg (a_row (Int32.toNatClampNeg (((4 : Int32) * (v_made - (1 : Int32))) + (1 : Int32))))) (a_row (Int32.toNatClampNeg (((4 : Int32) * (v_made - (1 : Int32))) + (3 : Int32))))) hP h dX9_back_71
  · have h := h.2 c4
    refine lv_bipush (v := -3) hx hb dX9_back_7 (by decide) ?_
    exact ret_i2 hx hb hr hlocks hQ hS v_made a_purses hP h dX9_back_9
abbrev rm_X9_takeTried : Room := { frames := 0, cells := 0, slots := 0, locals := 0 }
abbrev cw_X9_takeTried (cI cZ : ClassId) (o o_readPurses o_readDay o_purses o_daily o_text o_row o_tried o_days o_order o_bestOrder o_seenHad o_seenShared o_isKept o_keptPurses o_keptRow o_keptHad o_keptShared o_keptRest : Nat) (v_readLaw : Int32) (v_readMany : Int32) (v_readMeetings : Int32) (v_law : Int32) (v_many : Int32) (v_meetings : Int32) (v_length : Int32) (v_at : Int32) (v_faultAt : Int32) (v_one : Int32) (v_other : Int32) (v_made : Int32) (v_leads : Int32) (v_rings : Int32) (v_seen : Int32) (a_purses : Nat → Int32) (a_tried : Nat → Int32) : va_W := [(o, .inr (9, [.ref o_readPurses, .ref o_readDay, .int v_readLaw, .int v_readMany, .int v_readMeetings, .ref o_purses, .ref o_daily, .int v_law, .int v_many, .int v_meetings, .ref o_text, .int v_length, .int v_at, .int v_faultAt, .int v_one, .int v_other, .int v_made, .ref o_row, .ref o_tried, .int v_leads, .int v_rings, .ref o_days, .ref o_order, .ref o_bestOrder, .int v_seen, .ref o_seenHad, .ref o_seenShared, .ref o_isKept, .ref o_keptPurses, .ref o_keptRow, .ref o_keptHad, .ref o_keptShared, .ref o_keptRest])), (o_purses, .inl (cI, 8, .inl a_purses)), (o_tried, .inl (cI, 8, .inl a_tried))]
theorem inw_X9_takeTried_X9 : ∀ w ∈ u_ws RX9 TX9 33, w ∈ wsX9_takeTried := by decide +kernel
def wp_X9_takeTried (a_purses : Nat → Int32) (a_tried : Nat → Int32) (Post : (Nat → Int32) → Prop) : Prop := (∀ k2 : (Int32) → (Nat → Int32) → Prop, (∀ (x1_2 : Int32) (a_tried_2 : Nat → Int32), (((8 : Int32) ≤ x1_2 → (Post a_tried_2)) ∧ (¬ (8 : Int32) ≤ x1_2 → (vp_in x1_2 8 ∧ (vp_in x1_2 8 ∧ (k2 (x1_2 + 1) (upd a_tried_2 (Int32.toNatClampNeg x1_2) (a_purses (Int32.toNatClampNeg x1_2)))))))) → k2 x1_2 a_tried_2) → k2 (0 : Int32) a_tried)
set_option maxHeartbeats 4000000 in
set_option maxRecDepth 100000 in
theorem c_X9_takeTried (l : Launch) (D : va_G) (cI cZ : ClassId) (o o_readPurses o_readDay o_purses o_daily o_text o_row o_tried o_days o_order o_bestOrder o_seenHad o_seenShared o_isKept o_keptPurses o_keptRow o_keptHad o_keptShared o_keptRest : Nat) (sz : Nat) (v_readLaw : Int32) (v_readMany : Int32) (v_readMeetings : Int32) (v_law : Int32) (v_many : Int32) (v_meetings : Int32) (v_length : Int32) (v_at : Int32) (v_faultAt : Int32) (v_one : Int32) (v_other : Int32) (v_made : Int32) (v_leads : Int32) (v_rings : Int32) (v_seen : Int32) (a_purses : Nat → Int32) (a_tried : Nat → Int32) (Post : (Nat → Int32) → Prop) (h : wp_X9_takeTried a_purses a_tried Post) : Met l yX9_takeTried wsX9_takeTried rm_X9_takeTried (cPc D cI cZ [.ref o] (cw_X9_takeTried cI cZ o o_readPurses o_readDay o_purses o_daily o_text o_row o_tried o_days o_order o_bestOrder o_seenHad o_seenShared o_isKept o_keptPurses o_keptRow o_keptHad o_keptShared o_keptRest v_readLaw v_readMany v_readMeetings v_law v_many v_meetings v_length v_at v_faultAt v_one v_other v_made v_leads v_rings v_seen a_purses a_tried) sz) (cQv1 D Post (fun m_a_tried => (cw_X9_takeTried cI cZ o o_readPurses o_readDay o_purses o_daily o_text o_row o_tried o_days o_order o_bestOrder o_seenHad o_seenShared o_isKept o_keptPurses o_keptRow o_keptHad o_keptShared o_keptRest v_readLaw v_readMany v_readMeetings v_law v_many v_meetings v_length v_at v_faultAt v_one v_other v_made v_leads v_rings v_seen a_purses m_a_tried)) (va_A (cw_X9_takeTried cI cZ o o_readPurses o_readDay o_purses o_daily o_text o_row o_tried o_days o_order o_bestOrder o_seenHad o_seenShared o_isKept o_keptPurses o_keptRow o_keptHad o_keptShared o_keptRest v_readLaw v_readMany v_readMeetings v_law v_many v_meetings v_length v_at v_faultAt v_one v_other v_made v_leads v_rings v_seen a_purses a_tried) sz)) 0 0 (va_A (cw_X9_takeTried cI cZ o o_readPurses o_readDay o_purses o_daily o_text o_row o_tried o_days o_order o_bestOrder o_seenHad o_seenShared o_isKept o_keptPurses o_keptRow o_keptHad o_keptShared o_keptRest v_readLaw v_readMany v_readMeetings v_law v_many v_meetings v_length v_at v_faultAt v_one v_other v_made v_leads v_rings v_seen a_purses a_tried) sz) := by
  refine ent (cc := cX9_takeTried) (maxL := 2) (ret := none) (Qc := fun A => cQv1 D Post (fun m_a_tried => (cw_X9_takeTried cI cZ o o_readPurses o_readDay o_purses o_daily o_text o_row o_tried o_days o_order o_bestOrder o_seenHad o_seenShared o_isKept o_keptPurses o_keptRow o_keptHad o_keptShared o_keptRest v_readLaw v_readMany v_readMeetings v_law v_many v_meetings v_length v_at v_faultAt v_one v_other v_made v_leads v_rings v_seen a_purses m_a_tried)) A) (by decide) rfl (Nat.le_of_ble_eq_true rfl) ?_
  intro p e s m args below meth c A ls Q hQ hsz hx hb hml hr hts hown hlocks hnm hK hP hD hA hS hl
  have hl : lv_has ls 2 [(0, .ref o)] := hl
  unfold wp_X9_takeTried at h
  refine lv_iconst (v := 0) hx hb dX9_takeTried_0 (by decide) ?_
  refine lv_istore_n (lv' := [(1, .int (0 : Int32)), (0, .ref o)]) hx hb dX9_takeTried_1 rfl hl (by decide) rfl (fun ls hl => ?_)
  refine h (fun x1_2 a_tried_2 => ∀ (H : Heap) (locs : List Loc) (ls : Array Slot), lv_has ls 2 [(0, .ref o), (1, .int x1_2)] → va_P D vwCl (cw_X9_takeTried cI cZ o o_readPurses o_readDay o_purses o_daily o_text o_row o_tried o_days o_order o_bestOrder o_seenHad o_seenShared o_isKept o_keptPurses o_keptRow o_keptHad o_keptShared o_keptRest v_readLaw v_readMany v_readMeetings v_law v_many v_meetings v_length v_at v_faultAt v_one v_other v_made v_leads v_rings v_seen a_purses a_tried_2) H → va_D A (cw_X9_takeTried cI cZ o o_readPurses o_readDay o_purses o_daily o_text o_row o_tried o_days o_order o_bestOrder o_seenHad o_seenShared o_isKept o_keptPurses o_keptRow o_keptHad o_keptShared o_keptRest v_readLaw v_readMany v_readMeetings v_law v_many v_meetings v_length v_at v_faultAt v_one v_other v_made v_leads v_rings v_seen a_purses a_tried_2) → va_S A s.heap H locs → W p l e rm_X9_takeTried s m args below meth c H locs 0 0 Q (F0 m 2 ls [])) ?_ s.heap [] ls (lv_sub hl [1, 0] rfl) hP hD hS
  intro x1_2 a_tried_2 h H locs ls hl hP hD hS
  refine lv_iload_n hx hb dX9_takeTried_2 rfl (lv_at hl 1 rfl) ?_
  refine lv_bipush (v := 8) hx hb dX9_takeTried_3 (by decide) ?_
  refine lv_icmp_ge (tgt := 26) hx hb dX9_takeTried_5 (by decide) (fun c5 => ?_) (fun c5 => ?_)
  · have h := h.1 c5
    exact ret_v1 hx hb hr hlocks hQ hS a_tried_2 hP h dX9_takeTried_26
  · have h := h.2 c5
    refine lv_aload_n hx hb dX9_takeTried_8 rfl (lv_at hl 0 rfl) ?_
    refine va_get (D := D) (ci := 9) (v := .ref o_tried) (C := RX9) (T := TX9) (N := 33) hx hb hts inw_X9_takeTried_X9 hown hK.1 hP 0 rfl rfl 18 (by decide) (hts (.fieldLink RX9 28 "PursesShareModel" "tried" "[I") (by decide +kernel)) (fun _ h9 => h9) rfl dX9_takeTried_9 ?_
    refine lv_iload_n hx hb dX9_takeTried_12 rfl (lv_at hl 1 rfl) ?_
    refine lv_aload_n hx hb dX9_takeTried_13 rfl (lv_at hl 0 rfl) ?_
    refine va_get (D := D) (ci := 9) (v := .ref o_purses) (C := RX9) (T := TX9) (N := 33) hx hb hts inw_X9_takeTried_X9 hown hK.1 hP 0 rfl rfl 5 (by decide) (hts (.fieldLink RX9 16 "PursesShareModel" "purses" "[I") (by decide +kernel)) (fun _ h9 => h9) rfl dX9_takeTried_14 ?_
    refine lv_iload_n hx hb dX9_takeTried_17 rfl (lv_at hl 1 rfl) ?_
    have h0 := h.1
    have h := h.2
    refine va_iald hx hb hK.1 hP 1 0 rfl rfl h0 dX9_takeTried_18 ?_
    have h0 := h.1
    have h := h.2
    refine va_iast hx hb hK.1 hP hD hS 2 0 rfl rfl h0 dX9_takeTried_19 (fun H locs hP hD hS => ?_)
    have hP : va_P D vwCl (cw_X9_takeTried cI cZ o o_readPurses o_readDay o_purses o_daily o_text o_row o_tried o_days o_order o_bestOrder o_seenHad o_seenShared o_isKept o_keptPurses o_keptRow o_keptHad o_keptShared o_keptRest v_readLaw v_readMany v_readMeetings v_law v_many v_meetings v_length v_at v_faultAt v_one v_other v_made v_leads v_rings v_seen a_purses (upd a_tried_2 (Int32.toNatClampNeg x1_2) (a_purses (Int32.toNatClampNeg x1_2)))) H := hP
    have hD : va_D A (cw_X9_takeTried cI cZ o o_readPurses o_readDay o_purses o_daily o_text o_row o_tried o_days o_order o_bestOrder o_seenHad o_seenShared o_isKept o_keptPurses o_keptRow o_keptHad o_keptShared o_keptRest v_readLaw v_readMany v_readMeetings v_law v_many v_meetings v_length v_at v_faultAt v_one v_other v_made v_leads v_rings v_seen a_purses (upd a_tried_2 (Int32.toNatClampNeg x1_2) (a_purses (Int32.toNatClampNeg x1_2)))) := hD
    refine lv_iinc (v := (x1_2 + 1)) (lv' := [(1, .int (x1_2 + 1)), (0, .ref o)]) hx hb dX9_takeTried_20 hl (k := 1) rfl rfl (by decide) rfl (fun ls hl => ?_)
    refine lv_goto (tgt := 2) hx hb dX9_takeTried_23 (by decide) ?_
    exact h H locs ls (lv_sub hl [1, 0] rfl) hP hD hS
abbrev rm_X9_tryDaily : Room := { frames := 2, cells := 0, slots := 0, locals := 49 }
abbrev cw_X9_tryDaily (cI cZ : ClassId) (o o_readPurses o_readDay o_purses o_daily o_text o_row o_tried o_days o_order o_bestOrder o_seenHad o_seenShared o_isKept o_keptPurses o_keptRow o_keptHad o_keptShared o_keptRest : Nat) (v_readLaw : Int32) (v_readMany : Int32) (v_readMeetings : Int32) (v_law : Int32) (v_many : Int32) (v_meetings : Int32) (v_length : Int32) (v_at : Int32) (v_faultAt : Int32) (v_one : Int32) (v_other : Int32) (v_made : Int32) (v_leads : Int32) (v_rings : Int32) (v_seen : Int32) (a_daily : Nat → Int32) (a_tried : Nat → Int32) : va_W := [(o, .inr (9, [.ref o_readPurses, .ref o_readDay, .int v_readLaw, .int v_readMany, .int v_readMeetings, .ref o_purses, .ref o_daily, .int v_law, .int v_many, .int v_meetings, .ref o_text, .int v_length, .int v_at, .int v_faultAt, .int v_one, .int v_other, .int v_made, .ref o_row, .ref o_tried, .int v_leads, .int v_rings, .ref o_days, .ref o_order, .ref o_bestOrder, .int v_seen, .ref o_seenHad, .ref o_seenShared, .ref o_isKept, .ref o_keptPurses, .ref o_keptRow, .ref o_keptHad, .ref o_keptShared, .ref o_keptRest])), (o_daily, .inl (cI, 32, .inl a_daily)), (o_tried, .inl (cI, 8, .inl a_tried))]
theorem inw_X9_tryDaily_X9 : ∀ w ∈ u_ws RX9 TX9 33, w ∈ wsX9_tryDaily := by decide +kernel
def wp_X9_tryDaily (n1 : Int32) (v_law : Int32) (v_one : Int32) (v_other : Int32) (a_daily : Nat → Int32) (a_tried : Nat → Int32) (Post : Int32 → (Int32) → (Int32) → (Nat → Int32) → Prop) : Prop := (vp_in ((2 : Int32) * n1) 32 ∧ (vp_in (((2 : Int32) * n1) + (1 : Int32)) 32 ∧ (vp_in (a_daily (Int32.toNatClampNeg ((2 : Int32) * n1))) 8 ∧ (vp_in (a_daily (Int32.toNatClampNeg (((2 : Int32) * n1) + (1 : Int32)))) 8 ∧ (wp_X9_meetTwo (a_tried (Int32.toNatClampNeg (a_daily (Int32.toNatClampNeg ((2 : Int32) * n1))))) (a_tried (Int32.toNatClampNeg (a_daily (Int32.toNatClampNeg (((2 : Int32) * n1) + (1 : Int32)))))) v_law v_one v_other (fun (v_one_33 : Int32) (v_other_33 : Int32) => (vp_in (a_daily (Int32.toNatClampNeg ((2 : Int32) * n1))) 8 ∧ ((¬ v_one_33 = (a_tried (Int32.toNatClampNeg (a_daily (Int32.toNatClampNeg ((2 : Int32) * n1))))) → (vp_in (a_daily (Int32.toNatClampNeg ((2 : Int32) * n1))) 8 ∧ (vp_in (a_daily (Int32.toNatClampNeg (((2 : Int32) * n1) + (1 : Int32)))) 8 ∧ (Post (1 : Int32) v_one_33 v_other_33 (upd (upd a_tried (Int32.toNatClampNeg (a_daily (Int32.toNatClampNeg ((2 : Int32) * n1)))) v_one_33) (Int32.toNatClampNeg (a_daily (Int32.toNatClampNeg (((2 : Int32) * n1) + (1 : Int32))))) v_other_33))))) ∧ (v_one_33 = (a_tried (Int32.toNatClampNeg (a_daily (Int32.toNatClampNeg ((2 : Int32) * n1))))) → (vp_in (a_daily (Int32.toNatClampNeg (((2 : Int32) * n1) + (1 : Int32)))) 8 ∧ ((v_other_33 = (a_tried (Int32.toNatClampNeg (a_daily (Int32.toNatClampNeg (((2 : Int32) * n1) + (1 : Int32)))))) → (vp_in (a_daily (Int32.toNatClampNeg ((2 : Int32) * n1))) 8 ∧ (vp_in (a_daily (Int32.toNatClampNeg (((2 : Int32) * n1) + (1 : Int32)))) 8 ∧ (Post (0 : Int32) v_one_33 v_other_33 (upd (upd a_tried (Int32.toNatClampNeg (a_daily (Int32.toNatClampNeg ((2 : Int32) * n1)))) v_one_33) (Int32.toNatClampNeg (a_daily (Int32.toNatClampNeg (((2 : Int32) * n1) + (1 : Int32))))) v_other_33))))) ∧ (¬ v_other_33 = (a_tried (Int32.toNatClampNeg (a_daily (Int32.toNatClampNeg (((2 : Int32) * n1) + (1 : Int32)))))) → (vp_in (a_daily (Int32.toNatClampNeg ((2 : Int32) * n1))) 8 ∧ (vp_in (a_daily (Int32.toNatClampNeg (((2 : Int32) * n1) + (1 : Int32)))) 8 ∧ (Post (1 : Int32) v_one_33 v_other_33 (upd (upd a_tried (Int32.toNatClampNeg (a_daily (Int32.toNatClampNeg ((2 : Int32) * n1)))) v_one_33) (Int32.toNatClampNeg (a_daily (Int32.toNatClampNeg (((2 : Int32) * n1) + (1 : Int32))))) v_other_33))))))))))))))))
set_option maxHeartbeats 4000000 in
set_option maxRecDepth 100000 in
theorem c_X9_tryDaily (l : Launch) (D : va_G) (cI cZ : ClassId) (o o_readPurses o_readDay o_purses o_daily o_text o_row o_tried o_days o_order o_bestOrder o_seenHad o_seenShared o_isKept o_keptPurses o_keptRow o_keptHad o_keptShared o_keptRest : Nat) (sz : Nat) (n1 : Int32) (v_readLaw : Int32) (v_readMany : Int32) (v_readMeetings : Int32) (v_law : Int32) (v_many : Int32) (v_meetings : Int32) (v_length : Int32) (v_at : Int32) (v_faultAt : Int32) (v_one : Int32) (v_other : Int32) (v_made : Int32) (v_leads : Int32) (v_rings : Int32) (v_seen : Int32) (a_daily : Nat → Int32) (a_tried : Nat → Int32) (Post : Int32 → (Int32) → (Int32) → (Nat → Int32) → Prop) (h : wp_X9_tryDaily n1 v_law v_one v_other a_daily a_tried Post) : Met l yX9_tryDaily wsX9_tryDaily rm_X9_tryDaily (cPc D cI cZ [.ref o, .int n1] (cw_X9_tryDaily cI cZ o o_readPurses o_readDay o_purses o_daily o_text o_row o_tried o_days o_order o_bestOrder o_seenHad o_seenShared o_isKept o_keptPurses o_keptRow o_keptHad o_keptShared o_keptRest v_readLaw v_readMany v_readMeetings v_law v_many v_meetings v_length v_at v_faultAt v_one v_other v_made v_leads v_rings v_seen a_daily a_tried) sz) (cQi3 D Post (fun m_v_one m_v_other m_a_tried => (cw_X9_tryDaily cI cZ o o_readPurses o_readDay o_purses o_daily o_text o_row o_tried o_days o_order o_bestOrder o_seenHad o_seenShared o_isKept o_keptPurses o_keptRow o_keptHad o_keptShared o_keptRest v_readLaw v_readMany v_readMeetings v_law v_many v_meetings v_length v_at v_faultAt m_v_one m_v_other v_made v_leads v_rings v_seen a_daily m_a_tried)) (va_A (cw_X9_tryDaily cI cZ o o_readPurses o_readDay o_purses o_daily o_text o_row o_tried o_days o_order o_bestOrder o_seenHad o_seenShared o_isKept o_keptPurses o_keptRow o_keptHad o_keptShared o_keptRest v_readLaw v_readMany v_readMeetings v_law v_many v_meetings v_length v_at v_faultAt v_one v_other v_made v_leads v_rings v_seen a_daily a_tried) sz)) 0 0 (va_A (cw_X9_tryDaily cI cZ o o_readPurses o_readDay o_purses o_daily o_text o_row o_tried o_days o_order o_bestOrder o_seenHad o_seenShared o_isKept o_keptPurses o_keptRow o_keptHad o_keptShared o_keptRest v_readLaw v_readMany v_readMeetings v_law v_many v_meetings v_length v_at v_faultAt v_one v_other v_made v_leads v_rings v_seen a_daily a_tried) sz) := by
  refine ent (cc := cX9_tryDaily) (maxL := 5) (ret := (some .boolean)) (Qc := fun A => cQi3 D Post (fun m_v_one m_v_other m_a_tried => (cw_X9_tryDaily cI cZ o o_readPurses o_readDay o_purses o_daily o_text o_row o_tried o_days o_order o_bestOrder o_seenHad o_seenShared o_isKept o_keptPurses o_keptRow o_keptHad o_keptShared o_keptRest v_readLaw v_readMany v_readMeetings v_law v_many v_meetings v_length v_at v_faultAt m_v_one m_v_other v_made v_leads v_rings v_seen a_daily m_a_tried)) A) (by decide) rfl (Nat.le_of_ble_eq_true rfl) ?_
  intro p e s m args below meth c A ls Q hQ hsz hx hb hml hr hts hown hlocks hnm hK hP hD hA hS hl
  have hl : lv_has ls 5 [(0, .ref o), (1, .int n1)] := hl
  unfold wp_X9_tryDaily at h
  refine lv_aload_n hx hb dX9_tryDaily_0 rfl (lv_at hl 0 rfl) ?_
  refine va_get (D := D) (ci := 9) (v := .ref o_daily) (C := RX9) (T := TX9) (N := 33) hx hb hts inw_X9_tryDaily_X9 hown hK.1 hP 0 rfl rfl 6 (by decide) (hts (.fieldLink RX9 19 "PursesShareModel" "daily" "[I") (by decide +kernel)) (fun _ h9 => h9) rfl dX9_tryDaily_1 ?_
  refine lv_iconst (v := 2) hx hb dX9_tryDaily_4 (by decide) ?_
  refine lv_iload_n hx hb dX9_tryDaily_5 rfl (lv_at hl 1 rfl) ?_
  refine lv_imul hx hb dX9_tryDaily_6 ?_
  have h0 := h.1
  have h := h.2
  refine va_iald hx hb hK.1 hP 1 0 rfl rfl h0 dX9_tryDaily_7 ?_
  refine lv_istore_n (lv' := [(2, .int (a_daily (Int32.toNatClampNeg ((2 : Int32) * n1)))), (0, .ref o), (1, .int n1)]) hx hb dX9_tryDaily_8 rfl hl (by decide) rfl (fun ls hl => ?_)
  refine lv_aload_n hx hb dX9_tryDaily_9 rfl (lv_at hl 1 rfl) ?_
  refine va_get (D := D) (ci := 9) (v := .ref o_daily) (C := RX9) (T := TX9) (N := 33) hx hb hts inw_X9_tryDaily_X9 hown hK.1 hP 0 rfl rfl 6 (by decide) (hts (.fieldLink RX9 19 "PursesShareModel" "daily" "[I") (by decide +kernel)) (fun _ h9 => h9) rfl dX9_tryDaily_10 ?_
  refine lv_iconst (v := 2) hx hb dX9_tryDaily_13 (by decide) ?_
  refine lv_iload_n hx hb dX9_tryDaily_14 rfl (lv_at hl 2 rfl) ?_
  refine lv_imul hx hb dX9_tryDaily_15 ?_
  refine lv_iconst (v := 1) hx hb dX9_tryDaily_16 (by decide) ?_
  refine lv_iadd hx hb dX9_tryDaily_17 ?_
  have h0 := h.1
  have h := h.2
  refine va_iald hx hb hK.1 hP 1 0 rfl rfl h0 dX9_tryDaily_18 ?_
  refine lv_istore_n (lv' := [(3, .int (a_daily (Int32.toNatClampNeg (((2 : Int32) * n1) + (1 : Int32))))), (2, .int (a_daily (Int32.toNatClampNeg ((2 : Int32) * n1)))), (0, .ref o), (1, .int n1)]) hx hb dX9_tryDaily_19 rfl hl (by decide) rfl (fun ls hl => ?_)
  refine lv_aload_n hx hb dX9_tryDaily_20 rfl (lv_at hl 2 rfl) ?_
  refine lv_aload_n hx hb dX9_tryDaily_21 rfl (lv_at hl 2 rfl) ?_
  refine va_get (D := D) (ci := 9) (v := .ref o_tried) (C := RX9) (T := TX9) (N := 33) hx hb hts inw_X9_tryDaily_X9 hown hK.1 hP 0 rfl rfl 18 (by decide) (hts (.fieldLink RX9 28 "PursesShareModel" "tried" "[I") (by decide +kernel)) (fun _ h9 => h9) rfl dX9_tryDaily_22 ?_
  refine lv_iload_n hx hb dX9_tryDaily_25 rfl (lv_at hl 1 rfl) ?_
  have h0 := h.1
  have h := h.2
  refine va_iald hx hb hK.1 hP 2 0 rfl rfl h0 dX9_tryDaily_26 ?_
  refine lv_aload_n hx hb dX9_tryDaily_27 rfl (lv_at hl 2 rfl) ?_
  refine va_get (D := D) (ci := 9) (v := .ref o_tried) (C := RX9) (T := TX9) (N := 33) hx hb hts inw_X9_tryDaily_X9 hown hK.1 hP 0 rfl rfl 18 (by decide) (hts (.fieldLink RX9 28 "PursesShareModel" "tried" "[I") (by decide +kernel)) (fun _ h9 => h9) rfl dX9_tryDaily_28 ?_
  refine lv_iload_n hx hb dX9_tryDaily_31 rfl (lv_at hl 0 rfl) ?_
  have h0 := h.1
  have h := h.2
  refine va_iald hx hb hK.1 hP 2 0 rfl rfl h0 dX9_tryDaily_32 ?_
  refine call_v2 (va_runV (As := [.int (a_tried (Int32.toNatClampNeg (a_daily (Int32.toNatClampNeg ((2 : Int32) * n1))))), .int (a_tried (Int32.toNatClampNeg (a_daily (Int32.toNatClampNeg (((2 : Int32) * n1) + (1 : Int32))))))]) (rest := []) ⟨hx, hb, hml, hown, hts⟩ (c_X9_meetTwo l D cI cZ o o_readPurses o_readDay o_purses o_daily o_text o_row o_tried o_days o_order o_bestOrder o_seenHad o_seenShared o_isKept o_keptPurses o_keptRow o_keptHad o_keptShared o_keptRest (Array.size s.heap) (a_tried (Int32.toNatClampNeg (a_daily (Int32.toNatClampNeg ((2 : Int32) * n1))))) (a_tried (Int32.toNatClampNeg (a_daily (Int32.toNatClampNeg (((2 : Int32) * n1) + (1 : Int32)))))) v_readLaw v_readMany v_readMeetings v_law v_many v_meetings v_length v_at v_faultAt v_one v_other v_made v_leads v_rings v_seen _ h) (cwV 2 hts gX9_tryDaily_X9_meetTwo rfl rfl rfl (by decide +kernel) ⟨Nat.le_of_ble_eq_true rfl, Nat.le_of_ble_eq_true rfl⟩) (preV_of hP hD hK [0] rfl rfl 0 9 rfl rfl rfl) rfl rfl hl.1 rfl (lv_room (Nat.le_of_ble_eq_true rfl)) dX9_tryDaily_33 ⟨Nat.zero_le _, Nat.zero_le _⟩) hP hD hS hA [0] rfl (fun v_one_33 v_other_33 => (cw_X9_tryDaily cI cZ o o_readPurses o_readDay o_purses o_daily o_text o_row o_tried o_days o_order o_bestOrder o_seenHad o_seenShared o_isKept o_keptPurses o_keptRow o_keptHad o_keptShared o_keptRest v_readLaw v_readMany v_readMeetings v_law v_many v_meetings v_length v_at v_faultAt v_one_33 v_other_33 v_made v_leads v_rings v_seen a_daily a_tried)) (fun _ _ => rfl) (fun _ _ => rfl) (fun v_one_33 v_other_33 H locs h hP hD hS => ?_)
  refine lv_aload_n hx hb dX9_tryDaily_36 rfl (lv_at hl 2 rfl) ?_
  refine va_get (D := D) (ci := 9) (v := .int v_one_33) (C := RX9) (T := TX9) (N := 33) hx hb hts inw_X9_tryDaily_X9 hown hK.1 hP 0 rfl rfl 14 (by decide) (hts (.fieldLink RX9 123 "PursesShareModel" "one" "I") (by decide +kernel)) (fun _ h9 => h9) rfl dX9_tryDaily_37 ?_
  refine lv_aload_n hx hb dX9_tryDaily_40 rfl (lv_at hl 2 rfl) ?_
  refine va_get (D := D) (ci := 9) (v := .ref o_tried) (C := RX9) (T := TX9) (N := 33) hx hb hts inw_X9_tryDaily_X9 hown hK.1 hP 0 rfl rfl 18 (by decide) (hts (.fieldLink RX9 28 "PursesShareModel" "tried" "[I") (by decide +kernel)) (fun _ h9 => h9) rfl dX9_tryDaily_41 ?_
  refine lv_iload_n hx hb dX9_tryDaily_44 rfl (lv_at hl 1 rfl) ?_
  have h0 := h.1
  have h := h.2
  refine va_iald hx hb hK.1 hP 2 0 rfl rfl h0 dX9_tryDaily_45 ?_
  refine lv_icmp_ne (tgt := 62) hx hb dX9_tryDaily_46 (by decide) (fun c46 => ?_) (fun c46 => ?_)
  · have h := h.1 c46
    refine lv_iconst (v := 1) hx hb dX9_tryDaily_62 (by decide) ?_
    refine lv_goto (tgt := 67) hx hb dX9_tryDaily_63 (by decide) ?_
    refine lv_istore (lv' := [(4, .int (1 : Int32)), (3, .int (a_daily (Int32.toNatClampNeg (((2 : Int32) * n1) + (1 : Int32))))), (2, .int (a_daily (Int32.toNatClampNeg ((2 : Int32) * n1)))), (0, .ref o), (1, .int n1)]) hx hb dX9_tryDaily_67 hl (by decide) rfl (fun ls hl => ?_)
    refine lv_aload_n hx hb dX9_tryDaily_69 rfl (lv_at hl 3 rfl) ?_
    refine va_get (D := D) (ci := 9) (v := .ref o_tried) (C := RX9) (T := TX9) (N := 33) hx hb hts inw_X9_tryDaily_X9 hown hK.1 hP 0 rfl rfl 18 (by decide) (hts (.fieldLink RX9 28 "PursesShareModel" "tried" "[I") (by decide +kernel)) (fun _ h9 => h9) rfl dX9_tryDaily_70 ?_
    refine lv_iload_n hx hb dX9_tryDaily_73 rfl (lv_at hl 2 rfl) ?_
    refine lv_aload_n hx hb dX9_tryDaily_74 rfl (lv_at hl 3 rfl) ?_
    refine va_get (D := D) (ci := 9) (v := .int v_one_33) (C := RX9) (T := TX9) (N := 33) hx hb hts inw_X9_tryDaily_X9 hown hK.1 hP 0 rfl rfl 14 (by decide) (hts (.fieldLink RX9 123 "PursesShareModel" "one" "I") (by decide +kernel)) (fun _ h9 => h9) rfl dX9_tryDaily_75 ?_
    have h0 := h.1
    have h := h.2
    refine va_iast hx hb hK.1 hP hD hS 2 0 rfl rfl h0 dX9_tryDaily_78 (fun H locs hP hD hS => ?_)
    have hP : va_P D vwCl (cw_X9_tryDaily cI cZ o o_readPurses o_readDay o_purses o_daily o_text o_row o_tried o_days o_order o_bestOrder o_seenHad o_seenShared o_isKept o_keptPurses o_keptRow o_keptHad o_keptShared o_keptRest v_readLaw v_readMany v_readMeetings v_law v_many v_meetings v_length v_at v_faultAt v_one_33 v_other_33 v_made v_leads v_rings v_seen a_daily (upd a_tried (Int32.toNatClampNeg (a_daily (Int32.toNatClampNeg ((2 : Int32) * n1)))) v_one_33)) H := hP
    have hD : va_D A (cw_X9_tryDaily cI cZ o o_readPurses o_readDay o_purses o_daily o_text o_row o_tried o_days o_order o_bestOrder o_seenHad o_seenShared o_isKept o_keptPurses o_keptRow o_keptHad o_keptShared o_keptRest v_readLaw v_readMany v_readMeetings v_law v_many v_meetings v_length v_at v_faultAt v_one_33 v_other_33 v_made v_leads v_rings v_seen a_daily (upd a_tried (Int32.toNatClampNeg (a_daily (Int32.toNatClampNeg ((2 : Int32) * n1)))) v_one_33)) := hD
    refine lv_aload_n hx hb dX9_tryDaily_79 rfl (lv_at hl 3 rfl) ?_
    refine va_get (D := D) (ci := 9) (v := .ref o_tried) (C := RX9) (T := TX9) (N := 33) hx hb hts inw_X9_tryDaily_X9 hown hK.1 hP 0 rfl rfl 18 (by decide) (hts (.fieldLink RX9 28 "PursesShareModel" "tried" "[I") (by decide +kernel)) (fun _ h9 => h9) rfl dX9_tryDaily_80 ?_
    refine lv_iload_n hx hb dX9_tryDaily_83 rfl (lv_at hl 1 rfl) ?_
    refine lv_aload_n hx hb dX9_tryDaily_84 rfl (lv_at hl 3 rfl) ?_
    refine va_get (D := D) (ci := 9) (v := .int v_other_33) (C := RX9) (T := TX9) (N := 33) hx hb hts inw_X9_tryDaily_X9 hown hK.1 hP 0 rfl rfl 15 (by decide) (hts (.fieldLink RX9 126 "PursesShareModel" "other" "I") (by decide +kernel)) (fun _ h9 => h9) rfl dX9_tryDaily_85 ?_
    have h0 := h.1
    have h := h.2
    refine va_iast hx hb hK.1 hP hD hS 2 0 rfl rfl h0 dX9_tryDaily_88 (fun H locs hP hD hS => ?_)
    have hP : va_P D vwCl (cw_X9_tryDaily cI cZ o o_readPurses o_readDay o_purses o_daily o_text o_row o_tried o_days o_order o_bestOrder o_seenHad o_seenShared o_isKept o_keptPurses o_keptRow o_keptHad o_keptShared o_keptRest v_readLaw v_readMany v_readMeetings v_law v_many v_meetings v_length v_at v_faultAt v_one_33 v_other_33 v_made v_leads v_rings v_seen a_daily (upd (upd a_tried (Int32.toNatClampNeg (a_daily (Int32.toNatClampNeg ((2 : Int32) * n1)))) v_one_33) (Int32.toNatClampNeg (a_daily (Int32.toNatClampNeg (((2 : Int32) * n1) + (1 : Int32))))) v_other_33)) H := hP
    have hD : va_D A (cw_X9_tryDaily cI cZ o o_readPurses o_readDay o_purses o_daily o_text o_row o_tried o_days o_order o_bestOrder o_seenHad o_seenShared o_isKept o_keptPurses o_keptRow o_keptHad o_keptShared o_keptRest v_readLaw v_readMany v_readMeetings v_law v_many v_meetings v_length v_at v_faultAt v_one_33 v_other_33 v_made v_leads v_rings v_seen a_daily (upd (upd a_tried (Int32.toNatClampNeg (a_daily (Int32.toNatClampNeg ((2 : Int32) * n1)))) v_one_33) (Int32.toNatClampNeg (a_daily (Int32.toNatClampNeg (((2 : Int32) * n1) + (1 : Int32))))) v_other_33)) := hD
    refine lv_iload hx hb dX9_tryDaily_89 (lv_at hl 0 rfl) ?_
    exact ret_z3 hx hb hr hlocks hQ hS (by decide) v_one_33 v_other_33 (upd (upd a_tried (Int32.toNatClampNeg (a_daily (Int32.toNatClampNeg ((2 : Int32) * n1)))) v_one_33) (Int32.toNatClampNeg (a_daily (Int32.toNatClampNeg (((2 : Int32) * n1) + (1 : Int32))))) v_other_33) hP h dX9_tryDaily_91
  · have h := h.2 c46
    refine lv_aload_n hx hb dX9_tryDaily_49 rfl (lv_at hl 2 rfl) ?_
    refine va_get (D := D) (ci := 9) (v := .int v_other_33) (C := RX9) (T := TX9) (N := 33) hx hb hts inw_X9_tryDaily_X9 hown hK.1 hP 0 rfl rfl 15 (by decide) (hts (.fieldLink RX9 126 "PursesShareModel" "other" "I") (by decide +kernel)) (fun _ h9 => h9) rfl dX9_tryDaily_50 ?_
    refine lv_aload_n hx hb dX9_tryDaily_53 rfl (lv_at hl 2 rfl) ?_
    refine va_get (D := D) (ci := 9) (v := .ref o_tried) (C := RX9) (T := TX9) (N := 33) hx hb hts inw_X9_tryDaily_X9 hown hK.1 hP 0 rfl rfl 18 (by decide) (hts (.fieldLink RX9 28 "PursesShareModel" "tried" "[I") (by decide +kernel)) (fun _ h9 => h9) rfl dX9_tryDaily_54 ?_
    refine lv_iload_n hx hb dX9_tryDaily_57 rfl (lv_at hl 0 rfl) ?_
    have h0 := h.1
    have h := h.2
    refine va_iald hx hb hK.1 hP 2 0 rfl rfl h0 dX9_tryDaily_58 ?_
    refine lv_icmp_eq (tgt := 66) hx hb dX9_tryDaily_59 (by decide) (fun c59 => ?_) (fun c59 => ?_)
    · have h := h.1 c59
      refine lv_iconst (v := 0) hx hb dX9_tryDaily_66 (by decide) ?_
      refine lv_istore (lv' := [(4, .int (0 : Int32)), (3, .int (a_daily (Int32.toNatClampNeg (((2 : Int32) * n1) + (1 : Int32))))), (2, .int (a_daily (Int32.toNatClampNeg ((2 : Int32) * n1)))), (0, .ref o), (1, .int n1)]) hx hb dX9_tryDaily_67 hl (by decide) rfl (fun ls hl => ?_)
      refine lv_aload_n hx hb dX9_tryDaily_69 rfl (lv_at hl 3 rfl) ?_
      refine va_get (D := D) (ci := 9) (v := .ref o_tried) (C := RX9) (T := TX9) (N := 33) hx hb hts inw_X9_tryDaily_X9 hown hK.1 hP 0 rfl rfl 18 (by decide) (hts (.fieldLink RX9 28 "PursesShareModel" "tried" "[I") (by decide +kernel)) (fun _ h9 => h9) rfl dX9_tryDaily_70 ?_
      refine lv_iload_n hx hb dX9_tryDaily_73 rfl (lv_at hl 2 rfl) ?_
      refine lv_aload_n hx hb dX9_tryDaily_74 rfl (lv_at hl 3 rfl) ?_
      refine va_get (D := D) (ci := 9) (v := .int v_one_33) (C := RX9) (T := TX9) (N := 33) hx hb hts inw_X9_tryDaily_X9 hown hK.1 hP 0 rfl rfl 14 (by decide) (hts (.fieldLink RX9 123 "PursesShareModel" "one" "I") (by decide +kernel)) (fun _ h9 => h9) rfl dX9_tryDaily_75 ?_
      have h0 := h.1
      have h := h.2
      refine va_iast hx hb hK.1 hP hD hS 2 0 rfl rfl h0 dX9_tryDaily_78 (fun H locs hP hD hS => ?_)
      have hP : va_P D vwCl (cw_X9_tryDaily cI cZ o o_readPurses o_readDay o_purses o_daily o_text o_row o_tried o_days o_order o_bestOrder o_seenHad o_seenShared o_isKept o_keptPurses o_keptRow o_keptHad o_keptShared o_keptRest v_readLaw v_readMany v_readMeetings v_law v_many v_meetings v_length v_at v_faultAt v_one_33 v_other_33 v_made v_leads v_rings v_seen a_daily (upd a_tried (Int32.toNatClampNeg (a_daily (Int32.toNatClampNeg ((2 : Int32) * n1)))) v_one_33)) H := hP
      have hD : va_D A (cw_X9_tryDaily cI cZ o o_readPurses o_readDay o_purses o_daily o_text o_row o_tried o_days o_order o_bestOrder o_seenHad o_seenShared o_isKept o_keptPurses o_keptRow o_keptHad o_keptShared o_keptRest v_readLaw v_readMany v_readMeetings v_law v_many v_meetings v_length v_at v_faultAt v_one_33 v_other_33 v_made v_leads v_rings v_seen a_daily (upd a_tried (Int32.toNatClampNeg (a_daily (Int32.toNatClampNeg ((2 : Int32) * n1)))) v_one_33)) := hD
      refine lv_aload_n hx hb dX9_tryDaily_79 rfl (lv_at hl 3 rfl) ?_
      refine va_get (D := D) (ci := 9) (v := .ref o_tried) (C := RX9) (T := TX9) (N := 33) hx hb hts inw_X9_tryDaily_X9 hown hK.1 hP 0 rfl rfl 18 (by decide) (hts (.fieldLink RX9 28 "PursesShareModel" "tried" "[I") (by decide +kernel)) (fun _ h9 => h9) rfl dX9_tryDaily_80 ?_
      refine lv_iload_n hx hb dX9_tryDaily_83 rfl (lv_at hl 1 rfl) ?_
      refine lv_aload_n hx hb dX9_tryDaily_84 rfl (lv_at hl 3 rfl) ?_
      refine va_get (D := D) (ci := 9) (v := .int v_other_33) (C := RX9) (T := TX9) (N := 33) hx hb hts inw_X9_tryDaily_X9 hown hK.1 hP 0 rfl rfl 15 (by decide) (hts (.fieldLink RX9 126 "PursesShareModel" "other" "I") (by decide +kernel)) (fun _ h9 => h9) rfl dX9_tryDaily_85 ?_
      have h0 := h.1
      have h := h.2
      refine va_iast hx hb hK.1 hP hD hS 2 0 rfl rfl h0 dX9_tryDaily_88 (fun H locs hP hD hS => ?_)
      have hP : va_P D vwCl (cw_X9_tryDaily cI cZ o o_readPurses o_readDay o_purses o_daily o_text o_row o_tried o_days o_order o_bestOrder o_seenHad o_seenShared o_isKept o_keptPurses o_keptRow o_keptHad o_keptShared o_keptRest v_readLaw v_readMany v_readMeetings v_law v_many v_meetings v_length v_at v_faultAt v_one_33 v_other_33 v_made v_leads v_rings v_seen a_daily (upd (upd a_tried (Int32.toNatClampNeg (a_daily (Int32.toNatClampNeg ((2 : Int32) * n1)))) v_one_33) (Int32.toNatClampNeg (a_daily (Int32.toNatClampNeg (((2 : Int32) * n1) + (1 : Int32))))) v_other_33)) H := hP
      have hD : va_D A (cw_X9_tryDaily cI cZ o o_readPurses o_readDay o_purses o_daily o_text o_row o_tried o_days o_order o_bestOrder o_seenHad o_seenShared o_isKept o_keptPurses o_keptRow o_keptHad o_keptShared o_keptRest v_readLaw v_readMany v_readMeetings v_law v_many v_meetings v_length v_at v_faultAt v_one_33 v_other_33 v_made v_leads v_rings v_seen a_daily (upd (upd a_tried (Int32.toNatClampNeg (a_daily (Int32.toNatClampNeg ((2 : Int32) * n1)))) v_one_33) (Int32.toNatClampNeg (a_daily (Int32.toNatClampNeg (((2 : Int32) * n1) + (1 : Int32))))) v_other_33)) := hD
      refine lv_iload hx hb dX9_tryDaily_89 (lv_at hl 0 rfl) ?_
      exact ret_z3 hx hb hr hlocks hQ hS (by decide) v_one_33 v_other_33 (upd (upd a_tried (Int32.toNatClampNeg (a_daily (Int32.toNatClampNeg ((2 : Int32) * n1)))) v_one_33) (Int32.toNatClampNeg (a_daily (Int32.toNatClampNeg (((2 : Int32) * n1) + (1 : Int32))))) v_other_33) hP h dX9_tryDaily_91
    · have h := h.2 c59
      refine lv_iconst (v := 1) hx hb dX9_tryDaily_62 (by decide) ?_
      refine lv_goto (tgt := 67) hx hb dX9_tryDaily_63 (by decide) ?_
      refine lv_istore (lv' := [(4, .int (1 : Int32)), (3, .int (a_daily (Int32.toNatClampNeg (((2 : Int32) * n1) + (1 : Int32))))), (2, .int (a_daily (Int32.toNatClampNeg ((2 : Int32) * n1)))), (0, .ref o), (1, .int n1)]) hx hb dX9_tryDaily_67 hl (by decide) rfl (fun ls hl => ?_)
      refine lv_aload_n hx hb dX9_tryDaily_69 rfl (lv_at hl 3 rfl) ?_
      refine va_get (D := D) (ci := 9) (v := .ref o_tried) (C := RX9) (T := TX9) (N := 33) hx hb hts inw_X9_tryDaily_X9 hown hK.1 hP 0 rfl rfl 18 (by decide) (hts (.fieldLink RX9 28 "PursesShareModel" "tried" "[I") (by decide +kernel)) (fun _ h9 => h9) rfl dX9_tryDaily_70 ?_
      refine lv_iload_n hx hb dX9_tryDaily_73 rfl (lv_at hl 2 rfl) ?_
      refine lv_aload_n hx hb dX9_tryDaily_74 rfl (lv_at hl 3 rfl) ?_
      refine va_get (D := D) (ci := 9) (v := .int v_one_33) (C := RX9) (T := TX9) (N := 33) hx hb hts inw_X9_tryDaily_X9 hown hK.1 hP 0 rfl rfl 14 (by decide) (hts (.fieldLink RX9 123 "PursesShareModel" "one" "I") (by decide +kernel)) (fun _ h9 => h9) rfl dX9_tryDaily_75 ?_
      have h0 := h.1
      have h := h.2
      refine va_iast hx hb hK.1 hP hD hS 2 0 rfl rfl h0 dX9_tryDaily_78 (fun H locs hP hD hS => ?_)
      have hP : va_P D vwCl (cw_X9_tryDaily cI cZ o o_readPurses o_readDay o_purses o_daily o_text o_row o_tried o_days o_order o_bestOrder o_seenHad o_seenShared o_isKept o_keptPurses o_keptRow o_keptHad o_keptShared o_keptRest v_readLaw v_readMany v_readMeetings v_law v_many v_meetings v_length v_at v_faultAt v_one_33 v_other_33 v_made v_leads v_rings v_seen a_daily (upd a_tried (Int32.toNatClampNeg (a_daily (Int32.toNatClampNeg ((2 : Int32) * n1)))) v_one_33)) H := hP
      have hD : va_D A (cw_X9_tryDaily cI cZ o o_readPurses o_readDay o_purses o_daily o_text o_row o_tried o_days o_order o_bestOrder o_seenHad o_seenShared o_isKept o_keptPurses o_keptRow o_keptHad o_keptShared o_keptRest v_readLaw v_readMany v_readMeetings v_law v_many v_meetings v_length v_at v_faultAt v_one_33 v_other_33 v_made v_leads v_rings v_seen a_daily (upd a_tried (Int32.toNatClampNeg (a_daily (Int32.toNatClampNeg ((2 : Int32) * n1)))) v_one_33)) := hD
      refine lv_aload_n hx hb dX9_tryDaily_79 rfl (lv_at hl 3 rfl) ?_
      refine va_get (D := D) (ci := 9) (v := .ref o_tried) (C := RX9) (T := TX9) (N := 33) hx hb hts inw_X9_tryDaily_X9 hown hK.1 hP 0 rfl rfl 18 (by decide) (hts (.fieldLink RX9 28 "PursesShareModel" "tried" "[I") (by decide +kernel)) (fun _ h9 => h9) rfl dX9_tryDaily_80 ?_
      refine lv_iload_n hx hb dX9_tryDaily_83 rfl (lv_at hl 1 rfl) ?_
      refine lv_aload_n hx hb dX9_tryDaily_84 rfl (lv_at hl 3 rfl) ?_
      refine va_get (D := D) (ci := 9) (v := .int v_other_33) (C := RX9) (T := TX9) (N := 33) hx hb hts inw_X9_tryDaily_X9 hown hK.1 hP 0 rfl rfl 15 (by decide) (hts (.fieldLink RX9 126 "PursesShareModel" "other" "I") (by decide +kernel)) (fun _ h9 => h9) rfl dX9_tryDaily_85 ?_
      have h0 := h.1
      have h := h.2
      refine va_iast hx hb hK.1 hP hD hS 2 0 rfl rfl h0 dX9_tryDaily_88 (fun H locs hP hD hS => ?_)
      have hP : va_P D vwCl (cw_X9_tryDaily cI cZ o o_readPurses o_readDay o_purses o_daily o_text o_row o_tried o_days o_order o_bestOrder o_seenHad o_seenShared o_isKept o_keptPurses o_keptRow o_keptHad o_keptShared o_keptRest v_readLaw v_readMany v_readMeetings v_law v_many v_meetings v_length v_at v_faultAt v_one_33 v_other_33 v_made v_leads v_rings v_seen a_daily (upd (upd a_tried (Int32.toNatClampNeg (a_daily (Int32.toNatClampNeg ((2 : Int32) * n1)))) v_one_33) (Int32.toNatClampNeg (a_daily (Int32.toNatClampNeg (((2 : Int32) * n1) + (1 : Int32))))) v_other_33)) H := hP
      have hD : va_D A (cw_X9_tryDaily cI cZ o o_readPurses o_readDay o_purses o_daily o_text o_row o_tried o_days o_order o_bestOrder o_seenHad o_seenShared o_isKept o_keptPurses o_keptRow o_keptHad o_keptShared o_keptRest v_readLaw v_readMany v_readMeetings v_law v_many v_meetings v_length v_at v_faultAt v_one_33 v_other_33 v_made v_leads v_rings v_seen a_daily (upd (upd a_tried (Int32.toNatClampNeg (a_daily (Int32.toNatClampNeg ((2 : Int32) * n1)))) v_one_33) (Int32.toNatClampNeg (a_daily (Int32.toNatClampNeg (((2 : Int32) * n1) + (1 : Int32))))) v_other_33)) := hD
      refine lv_iload hx hb dX9_tryDaily_89 (lv_at hl 0 rfl) ?_
      exact ret_z3 hx hb hr hlocks hQ hS (by decide) v_one_33 v_other_33 (upd (upd a_tried (Int32.toNatClampNeg (a_daily (Int32.toNatClampNeg ((2 : Int32) * n1)))) v_one_33) (Int32.toNatClampNeg (a_daily (Int32.toNatClampNeg (((2 : Int32) * n1) + (1 : Int32))))) v_other_33) hP h dX9_tryDaily_91
abbrev rm_X9_tryDay : Room := { frames := 3, cells := 0, slots := 0, locals := 73 }
abbrev cw_X9_tryDay (cI cZ : ClassId) (o o_readPurses o_readDay o_purses o_daily o_text o_row o_tried o_days o_order o_bestOrder o_seenHad o_seenShared o_isKept o_keptPurses o_keptRow o_keptHad o_keptShared o_keptRest : Nat) (v_readLaw : Int32) (v_readMany : Int32) (v_readMeetings : Int32) (v_law : Int32) (v_many : Int32) (v_meetings : Int32) (v_length : Int32) (v_at : Int32) (v_faultAt : Int32) (v_one : Int32) (v_other : Int32) (v_made : Int32) (v_leads : Int32) (v_rings : Int32) (v_seen : Int32) (a_daily : Nat → Int32) (a_tried : Nat → Int32) : va_W := [(o, .inr (9, [.ref o_readPurses, .ref o_readDay, .int v_readLaw, .int v_readMany, .int v_readMeetings, .ref o_purses, .ref o_daily, .int v_law, .int v_many, .int v_meetings, .ref o_text, .int v_length, .int v_at, .int v_faultAt, .int v_one, .int v_other, .int v_made, .ref o_row, .ref o_tried, .int v_leads, .int v_rings, .ref o_days, .ref o_order, .ref o_bestOrder, .int v_seen, .ref o_seenHad, .ref o_seenShared, .ref o_isKept, .ref o_keptPurses, .ref o_keptRow, .ref o_keptHad, .ref o_keptShared, .ref o_keptRest])), (o_daily, .inl (cI, 32, .inl a_daily)), (o_tried, .inl (cI, 8, .inl a_tried))]
theorem inw_X9_tryDay_X9 : ∀ w ∈ u_ws RX9 TX9 33, w ∈ wsX9_tryDay := by decide +kernel
def wp_X9_tryDay (v_law : Int32) (v_meetings : Int32) (v_one : Int32) (v_other : Int32) (a_daily : Nat → Int32) (a_tried : Nat → Int32) (Post : Int32 → (Int32) → (Int32) → (Nat → Int32) → Prop) : Prop := (∀ k4 : (Int32) → (Int32) → (Int32) → (Int32) → (Nat → Int32) → Prop, (∀ (x2_4 : Int32) (x1_4 : Int32) (v_one_4 : Int32) (v_other_4 : Int32) (a_tried_4 : Nat → Int32), ((v_meetings ≤ x2_4 → (Post x1_4 v_one_4 v_other_4 a_tried_4)) ∧ (¬ v_meetings ≤ x2_4 → (wp_X9_tryDaily x2_4 v_law v_one_4 v_other_4 a_daily a_tried_4 (fun (r15 : Int32) (v_one_15 : Int32) (v_other_15 : Int32) (a_tried_15 : Nat → Int32) => ((r15 = 0 → (k4 (x2_4 + 1) (x1_4 + (0 : Int32)) v_one_15 v_other_15 a_tried_15)) ∧ (¬ r15 = 0 → (k4 (x2_4 + 1) (x1_4 + (1 : Int32)) v_one_15 v_other_15 a_tried_15))))))) → k4 x2_4 x1_4 v_one_4 v_other_4 a_tried_4) → k4 (0 : Int32) (0 : Int32) v_one v_other a_tried)
set_option maxHeartbeats 4000000 in
set_option maxRecDepth 100000 in
theorem c_X9_tryDay (l : Launch) (D : va_G) (cI cZ : ClassId) (o o_readPurses o_readDay o_purses o_daily o_text o_row o_tried o_days o_order o_bestOrder o_seenHad o_seenShared o_isKept o_keptPurses o_keptRow o_keptHad o_keptShared o_keptRest : Nat) (sz : Nat) (v_readLaw : Int32) (v_readMany : Int32) (v_readMeetings : Int32) (v_law : Int32) (v_many : Int32) (v_meetings : Int32) (v_length : Int32) (v_at : Int32) (v_faultAt : Int32) (v_one : Int32) (v_other : Int32) (v_made : Int32) (v_leads : Int32) (v_rings : Int32) (v_seen : Int32) (a_daily : Nat → Int32) (a_tried : Nat → Int32) (Post : Int32 → (Int32) → (Int32) → (Nat → Int32) → Prop) (h : wp_X9_tryDay v_law v_meetings v_one v_other a_daily a_tried Post) : Met l yX9_tryDay wsX9_tryDay rm_X9_tryDay (cPc D cI cZ [.ref o] (cw_X9_tryDay cI cZ o o_readPurses o_readDay o_purses o_daily o_text o_row o_tried o_days o_order o_bestOrder o_seenHad o_seenShared o_isKept o_keptPurses o_keptRow o_keptHad o_keptShared o_keptRest v_readLaw v_readMany v_readMeetings v_law v_many v_meetings v_length v_at v_faultAt v_one v_other v_made v_leads v_rings v_seen a_daily a_tried) sz) (cQi3 D Post (fun m_v_one m_v_other m_a_tried => (cw_X9_tryDay cI cZ o o_readPurses o_readDay o_purses o_daily o_text o_row o_tried o_days o_order o_bestOrder o_seenHad o_seenShared o_isKept o_keptPurses o_keptRow o_keptHad o_keptShared o_keptRest v_readLaw v_readMany v_readMeetings v_law v_many v_meetings v_length v_at v_faultAt m_v_one m_v_other v_made v_leads v_rings v_seen a_daily m_a_tried)) (va_A (cw_X9_tryDay cI cZ o o_readPurses o_readDay o_purses o_daily o_text o_row o_tried o_days o_order o_bestOrder o_seenHad o_seenShared o_isKept o_keptPurses o_keptRow o_keptHad o_keptShared o_keptRest v_readLaw v_readMany v_readMeetings v_law v_many v_meetings v_length v_at v_faultAt v_one v_other v_made v_leads v_rings v_seen a_daily a_tried) sz)) 0 0 (va_A (cw_X9_tryDay cI cZ o o_readPurses o_readDay o_purses o_daily o_text o_row o_tried o_days o_order o_bestOrder o_seenHad o_seenShared o_isKept o_keptPurses o_keptRow o_keptHad o_keptShared o_keptRest v_readLaw v_readMany v_readMeetings v_law v_many v_meetings v_length v_at v_faultAt v_one v_other v_made v_leads v_rings v_seen a_daily a_tried) sz) := by
  refine ent (cc := cX9_tryDay) (maxL := 3) (ret := (some .int)) (Qc := fun A => cQi3 D Post (fun m_v_one m_v_other m_a_tried => (cw_X9_tryDay cI cZ o o_readPurses o_readDay o_purses o_daily o_text o_row o_tried o_days o_order o_bestOrder o_seenHad o_seenShared o_isKept o_keptPurses o_keptRow o_keptHad o_keptShared o_keptRest v_readLaw v_readMany v_readMeetings v_law v_many v_meetings v_length v_at v_faultAt m_v_one m_v_other v_made v_leads v_rings v_seen a_daily m_a_tried)) A) (by decide) rfl (Nat.le_of_ble_eq_true rfl) ?_
  intro p e s m args below meth c A ls Q hQ hsz hx hb hml hr hts hown hlocks hnm hK hP hD hA hS hl
  have hl : lv_has ls 3 [(0, .ref o)] := hl
  unfold wp_X9_tryDay at h
  refine lv_iconst (v := 0) hx hb dX9_tryDay_0 (by decide) ?_
  refine lv_istore_n (lv' := [(1, .int (0 : Int32)), (0, .ref o)]) hx hb dX9_tryDay_1 rfl hl (by decide) rfl (fun ls hl => ?_)
  refine lv_iconst (v := 0) hx hb dX9_tryDay_2 (by decide) ?_
  refine lv_istore_n (lv' := [(2, .int (0 : Int32)), (1, .int (0 : Int32)), (0, .ref o)]) hx hb dX9_tryDay_3 rfl hl (by decide) rfl (fun ls hl => ?_)
  refine h (fun x2_4 x1_4 v_one_4 v_other_4 a_tried_4 => ∀ (H : Heap) (locs : List Loc) (ls : Array Slot), lv_has ls 3 [(0, .ref o), (1, .int x1_4), (2, .int x2_4)] → va_P D vwCl (cw_X9_tryDay cI cZ o o_readPurses o_readDay o_purses o_daily o_text o_row o_tried o_days o_order o_bestOrder o_seenHad o_seenShared o_isKept o_keptPurses o_keptRow o_keptHad o_keptShared o_keptRest v_readLaw v_readMany v_readMeetings v_law v_many v_meetings v_length v_at v_faultAt v_one_4 v_other_4 v_made v_leads v_rings v_seen a_daily a_tried_4) H → va_D A (cw_X9_tryDay cI cZ o o_readPurses o_readDay o_purses o_daily o_text o_row o_tried o_days o_order o_bestOrder o_seenHad o_seenShared o_isKept o_keptPurses o_keptRow o_keptHad o_keptShared o_keptRest v_readLaw v_readMany v_readMeetings v_law v_many v_meetings v_length v_at v_faultAt v_one_4 v_other_4 v_made v_leads v_rings v_seen a_daily a_tried_4) → va_S A s.heap H locs → W p l e rm_X9_tryDay s m args below meth c H locs 0 0 Q (F0 m 4 ls [])) ?_ s.heap [] ls (lv_sub hl [2, 1, 0] rfl) hP hD hS
  intro x2_4 x1_4 v_one_4 v_other_4 a_tried_4 h H locs ls hl hP hD hS
  refine lv_iload_n hx hb dX9_tryDay_4 rfl (lv_at hl 2 rfl) ?_
  refine lv_aload_n hx hb dX9_tryDay_5 rfl (lv_at hl 0 rfl) ?_
  refine va_get (D := D) (ci := 9) (v := .int v_meetings) (C := RX9) (T := TX9) (N := 33) hx hb hts inw_X9_tryDay_X9 hown hK.1 hP 0 rfl rfl 9 (by decide) (hts (.fieldLink RX9 106 "PursesShareModel" "meetings" "I") (by decide +kernel)) (fun _ h9 => h9) rfl dX9_tryDay_6 ?_
  refine lv_icmp_ge (tgt := 34) hx hb dX9_tryDay_9 (by decide) (fun c9 => ?_) (fun c9 => ?_)
  · have h := h.1 c9
    refine lv_iload_n hx hb dX9_tryDay_34 rfl (lv_at hl 1 rfl) ?_
    exact ret_i3 hx hb hr hlocks hQ hS v_one_4 v_other_4 a_tried_4 hP h dX9_tryDay_35
  · have h := h.2 c9
    refine lv_iload_n hx hb dX9_tryDay_12 rfl (lv_at hl 1 rfl) ?_
    refine lv_aload_n hx hb dX9_tryDay_13 rfl (lv_at hl 0 rfl) ?_
    refine lv_iload_n hx hb dX9_tryDay_14 rfl (lv_at hl 2 rfl) ?_
    refine call_i3 (va_runV (As := [.int x2_4]) (rest := [.int x1_4]) ⟨hx, hb, hml, hown, hts⟩ (c_X9_tryDaily l D cI cZ o o_readPurses o_readDay o_purses o_daily o_text o_row o_tried o_days o_order o_bestOrder o_seenHad o_seenShared o_isKept o_keptPurses o_keptRow o_keptHad o_keptShared o_keptRest (Array.size H) x2_4 v_readLaw v_readMany v_readMeetings v_law v_many v_meetings v_length v_at v_faultAt v_one_4 v_other_4 v_made v_leads v_rings v_seen a_daily a_tried_4 _ h) (cwV 1 hts gX9_tryDay_X9_tryDaily rfl rfl rfl (by decide +kernel) ⟨Nat.le_of_ble_eq_true rfl, Nat.le_of_ble_eq_true rfl⟩) (preV_of hP hD hK [0, 1, 2] rfl rfl 0 9 rfl rfl rfl) rfl rfl hl.1 rfl (lv_room (Nat.le_of_ble_eq_true rfl)) dX9_tryDay_15 ⟨Nat.zero_le _, Nat.zero_le _⟩) hP hD hS hA [0, 1, 2] rfl (fun v_one_15 v_other_15 a_tried_15 => (cw_X9_tryDay cI cZ o o_readPurses o_readDay o_purses o_daily o_text o_row o_tried o_days o_order o_bestOrder o_seenHad o_seenShared o_isKept o_keptPurses o_keptRow o_keptHad o_keptShared o_keptRest v_readLaw v_readMany v_readMeetings v_law v_many v_meetings v_length v_at v_faultAt v_one_15 v_other_15 v_made v_leads v_rings v_seen a_daily a_tried_15)) (fun _ _ _ => rfl) (fun _ _ _ => rfl) (fun r15 v_one_15 v_other_15 a_tried_15 H locs h hP hD hS => ?_)
    refine lv_if_eq (tgt := 25) hx hb dX9_tryDay_18 (by decide) (fun c18 => ?_) (fun c18 => ?_)
    · have h := h.1 c18
      refine lv_iconst (v := 0) hx hb dX9_tryDay_25 (by decide) ?_
      refine lv_iadd hx hb dX9_tryDay_26 ?_
      refine lv_istore_n (lv' := [(1, .int (x1_4 + (0 : Int32))), (0, .ref o), (2, .int x2_4)]) hx hb dX9_tryDay_27 rfl hl (by decide) rfl (fun ls hl => ?_)
      refine lv_iinc (v := (x2_4 + 1)) (lv' := [(2, .int (x2_4 + 1)), (1, .int (x1_4 + (0 : Int32))), (0, .ref o)]) hx hb dX9_tryDay_28 hl (k := 2) rfl rfl (by decide) rfl (fun ls hl => ?_)
      refine lv_goto (tgt := 4) hx hb dX9_tryDay_31 (by decide) ?_
      exact h H locs ls (lv_sub hl [2, 1, 0] rfl) hP hD hS
    · have h := h.2 c18
      refine lv_iconst (v := 1) hx hb dX9_tryDay_21 (by decide) ?_
      refine lv_goto (tgt := 26) hx hb dX9_tryDay_22 (by decide) ?_
      refine lv_iadd hx hb dX9_tryDay_26 ?_
      refine lv_istore_n (lv' := [(1, .int (x1_4 + (1 : Int32))), (0, .ref o), (2, .int x2_4)]) hx hb dX9_tryDay_27 rfl hl (by decide) rfl (fun ls hl => ?_)
      refine lv_iinc (v := (x2_4 + 1)) (lv' := [(2, .int (x2_4 + 1)), (1, .int (x1_4 + (1 : Int32))), (0, .ref o)]) hx hb dX9_tryDay_28 hl (k := 2) rfl rfl (by decide) rfl (fun ls hl => ?_)
      refine lv_goto (tgt := 4) hx hb dX9_tryDay_31 (by decide) ?_
      exact h H locs ls (lv_sub hl [2, 1, 0] rfl) hP hD hS
abbrev rm_X9_day : Room := { frames := 4, cells := 0, slots := 0, locals := 95 }
abbrev cw_X9_day (cI cZ : ClassId) (o o_readPurses o_readDay o_purses o_daily o_text o_row o_tried o_days o_order o_bestOrder o_seenHad o_seenShared o_isKept o_keptPurses o_keptRow o_keptHad o_keptShared o_keptRest : Nat) (v_readLaw : Int32) (v_readMany : Int32) (v_readMeetings : Int32) (v_law : Int32) (v_many : Int32) (v_meetings : Int32) (v_length : Int32) (v_at : Int32) (v_faultAt : Int32) (v_one : Int32) (v_other : Int32) (v_made : Int32) (v_leads : Int32) (v_rings : Int32) (v_seen : Int32) (a_purses : Nat → Int32) (a_daily : Nat → Int32) (a_tried : Nat → Int32) : va_W := [(o, .inr (9, [.ref o_readPurses, .ref o_readDay, .int v_readLaw, .int v_readMany, .int v_readMeetings, .ref o_purses, .ref o_daily, .int v_law, .int v_many, .int v_meetings, .ref o_text, .int v_length, .int v_at, .int v_faultAt, .int v_one, .int v_other, .int v_made, .ref o_row, .ref o_tried, .int v_leads, .int v_rings, .ref o_days, .ref o_order, .ref o_bestOrder, .int v_seen, .ref o_seenHad, .ref o_seenShared, .ref o_isKept, .ref o_keptPurses, .ref o_keptRow, .ref o_keptHad, .ref o_keptShared, .ref o_keptRest])), (o_purses, .inl (cI, 8, .inl a_purses)), (o_daily, .inl (cI, 32, .inl a_daily)), (o_tried, .inl (cI, 8, .inl a_tried))]
theorem inw_X9_day_X9 : ∀ w ∈ u_ws RX9 TX9 33, w ∈ wsX9_day := by decide +kernel
def wp_X9_day (v_law : Int32) (v_meetings : Int32) (v_one : Int32) (v_other : Int32) (v_made : Int32) (a_purses : Nat → Int32) (a_daily : Nat → Int32) (a_tried : Nat → Int32) (Post : Int32 → (Int32) → (Int32) → (Int32) → (Nat → Int32) → (Nat → Int32) → Prop) : Prop := (wp_X9_takeTried a_purses a_tried (fun (a_tried_1 : Nat → Int32) => (wp_X9_tryDay v_law v_meetings v_one v_other a_daily a_tried_1 (fun (r5 : Int32) (v_one_5 : Int32) (v_other_5 : Int32) (a_tried_5 : Nat → Int32) => (∀ k11 : (Int32) → (Nat → Int32) → Prop, (∀ (x2_11 : Int32) (a_purses_11 : Nat → Int32), (((8 : Int32) ≤ x2_11 → (Post r5 v_one_5 v_other_5 (0 : Int32) a_purses_11 a_tried_5)) ∧ (¬ (8 : Int32) ≤ x2_11 → (vp_in x2_11 8 ∧ (vp_in x2_11 8 ∧ (k11 (x2_11 + 1) (upd a_purses_11 (Int32.toNatClampNeg x2_11) (a_tried_5 (Int32.toNatClampNeg x2_11)))))))) → k11 x2_11 a_purses_11) → k11 (0 : Int32) a_purses)))))
set_option maxHeartbeats 4000000 in
set_option maxRecDepth 100000 in
theorem c_X9_day (l : Launch) (D : va_G) (cI cZ : ClassId) (o o_readPurses o_readDay o_purses o_daily o_text o_row o_tried o_days o_order o_bestOrder o_seenHad o_seenShared o_isKept o_keptPurses o_keptRow o_keptHad o_keptShared o_keptRest : Nat) (sz : Nat) (v_readLaw : Int32) (v_readMany : Int32) (v_readMeetings : Int32) (v_law : Int32) (v_many : Int32) (v_meetings : Int32) (v_length : Int32) (v_at : Int32) (v_faultAt : Int32) (v_one : Int32) (v_other : Int32) (v_made : Int32) (v_leads : Int32) (v_rings : Int32) (v_seen : Int32) (a_purses : Nat → Int32) (a_daily : Nat → Int32) (a_tried : Nat → Int32) (Post : Int32 → (Int32) → (Int32) → (Int32) → (Nat → Int32) → (Nat → Int32) → Prop) (h : wp_X9_day v_law v_meetings v_one v_other v_made a_purses a_daily a_tried Post) : Met l yX9_day wsX9_day rm_X9_day (cPc D cI cZ [.ref o] (cw_X9_day cI cZ o o_readPurses o_readDay o_purses o_daily o_text o_row o_tried o_days o_order o_bestOrder o_seenHad o_seenShared o_isKept o_keptPurses o_keptRow o_keptHad o_keptShared o_keptRest v_readLaw v_readMany v_readMeetings v_law v_many v_meetings v_length v_at v_faultAt v_one v_other v_made v_leads v_rings v_seen a_purses a_daily a_tried) sz) (cQi5 D Post (fun m_v_one m_v_other m_v_made m_a_purses m_a_tried => (cw_X9_day cI cZ o o_readPurses o_readDay o_purses o_daily o_text o_row o_tried o_days o_order o_bestOrder o_seenHad o_seenShared o_isKept o_keptPurses o_keptRow o_keptHad o_keptShared o_keptRest v_readLaw v_readMany v_readMeetings v_law v_many v_meetings v_length v_at v_faultAt m_v_one m_v_other m_v_made v_leads v_rings v_seen m_a_purses a_daily m_a_tried)) (va_A (cw_X9_day cI cZ o o_readPurses o_readDay o_purses o_daily o_text o_row o_tried o_days o_order o_bestOrder o_seenHad o_seenShared o_isKept o_keptPurses o_keptRow o_keptHad o_keptShared o_keptRest v_readLaw v_readMany v_readMeetings v_law v_many v_meetings v_length v_at v_faultAt v_one v_other v_made v_leads v_rings v_seen a_purses a_daily a_tried) sz)) 0 0 (va_A (cw_X9_day cI cZ o o_readPurses o_readDay o_purses o_daily o_text o_row o_tried o_days o_order o_bestOrder o_seenHad o_seenShared o_isKept o_keptPurses o_keptRow o_keptHad o_keptShared o_keptRest v_readLaw v_readMany v_readMeetings v_law v_many v_meetings v_length v_at v_faultAt v_one v_other v_made v_leads v_rings v_seen a_purses a_daily a_tried) sz) := by
  refine ent (cc := cX9_day) (maxL := 3) (ret := (some .int)) (Qc := fun A => cQi5 D Post (fun m_v_one m_v_other m_v_made m_a_purses m_a_tried => (cw_X9_day cI cZ o o_readPurses o_readDay o_purses o_daily o_text o_row o_tried o_days o_order o_bestOrder o_seenHad o_seenShared o_isKept o_keptPurses o_keptRow o_keptHad o_keptShared o_keptRest v_readLaw v_readMany v_readMeetings v_law v_many v_meetings v_length v_at v_faultAt m_v_one m_v_other m_v_made v_leads v_rings v_seen m_a_purses a_daily m_a_tried)) A) (by decide) rfl (Nat.le_of_ble_eq_true rfl) ?_
  intro p e s m args below meth c A ls Q hQ hsz hx hb hml hr hts hown hlocks hnm hK hP hD hA hS hl
  have hl : lv_has ls 3 [(0, .ref o)] := hl
  unfold wp_X9_day at h
  refine lv_aload_n hx hb dX9_day_0 rfl (lv_at hl 0 rfl) ?_
  refine call_v1 (va_runV (As := []) (rest := []) ⟨hx, hb, hml, hown, hts⟩ (c_X9_takeTried l D cI cZ o o_readPurses o_readDay o_purses o_daily o_text o_row o_tried o_days o_order o_bestOrder o_seenHad o_seenShared o_isKept o_keptPurses o_keptRow o_keptHad o_keptShared o_keptRest (Array.size s.heap) v_readLaw v_readMany v_readMeetings v_law v_many v_meetings v_length v_at v_faultAt v_one v_other v_made v_leads v_rings v_seen a_purses a_tried _ h) (cwV 0 hts gX9_day_X9_takeTried rfl rfl rfl (by decide +kernel) ⟨Nat.le_of_ble_eq_true rfl, Nat.le_of_ble_eq_true rfl⟩) (preV_of hP hD hK [0, 1, 3] rfl rfl 0 9 rfl rfl rfl) rfl rfl hl.1 rfl (lv_room (Nat.le_of_ble_eq_true rfl)) dX9_day_1 ⟨Nat.zero_le _, Nat.zero_le _⟩) hP hD hS hA [0, 1, 3] rfl (fun a_tried_1 => (cw_X9_day cI cZ o o_readPurses o_readDay o_purses o_daily o_text o_row o_tried o_days o_order o_bestOrder o_seenHad o_seenShared o_isKept o_keptPurses o_keptRow o_keptHad o_keptShared o_keptRest v_readLaw v_readMany v_readMeetings v_law v_many v_meetings v_length v_at v_faultAt v_one v_other v_made v_leads v_rings v_seen a_purses a_daily a_tried_1)) (fun _ => rfl) (fun _ => rfl) (fun a_tried_1 H locs h hP hD hS => ?_)
  refine lv_aload_n hx hb dX9_day_4 rfl (lv_at hl 0 rfl) ?_
  refine call_i3 (va_runV (As := []) (rest := []) ⟨hx, hb, hml, hown, hts⟩ (c_X9_tryDay l D cI cZ o o_readPurses o_readDay o_purses o_daily o_text o_row o_tried o_days o_order o_bestOrder o_seenHad o_seenShared o_isKept o_keptPurses o_keptRow o_keptHad o_keptShared o_keptRest (Array.size H) v_readLaw v_readMany v_readMeetings v_law v_many v_meetings v_length v_at v_faultAt v_one v_other v_made v_leads v_rings v_seen a_daily a_tried_1 _ h) (cwV 0 hts gX9_day_X9_tryDay rfl rfl rfl (by decide +kernel) ⟨Nat.le_of_ble_eq_true rfl, Nat.le_of_ble_eq_true rfl⟩) (preV_of hP hD hK [0, 2, 3] rfl rfl 0 9 rfl rfl rfl) rfl rfl hl.1 rfl (lv_room (Nat.le_of_ble_eq_true rfl)) dX9_day_5 ⟨Nat.zero_le _, Nat.zero_le _⟩) hP hD hS hA [0, 2, 3] rfl (fun v_one_5 v_other_5 a_tried_5 => (cw_X9_day cI cZ o o_readPurses o_readDay o_purses o_daily o_text o_row o_tried o_days o_order o_bestOrder o_seenHad o_seenShared o_isKept o_keptPurses o_keptRow o_keptHad o_keptShared o_keptRest v_readLaw v_readMany v_readMeetings v_law v_many v_meetings v_length v_at v_faultAt v_one_5 v_other_5 v_made v_leads v_rings v_seen a_purses a_daily a_tried_5)) (fun _ _ _ => rfl) (fun _ _ _ => rfl) (fun r5 v_one_5 v_other_5 a_tried_5 H locs h hP hD hS => ?_)
  refine lv_istore_n (lv' := [(1, .int r5), (0, .ref o)]) hx hb dX9_day_8 rfl hl (by decide) rfl (fun ls hl => ?_)
  refine lv_iconst (v := 0) hx hb dX9_day_9 (by decide) ?_
  refine lv_istore_n (lv' := [(2, .int (0 : Int32)), (1, .int r5), (0, .ref o)]) hx hb dX9_day_10 rfl hl (by decide) rfl (fun ls hl => ?_)
  refine h (fun x2_11 a_purses_11 => ∀ (H : Heap) (locs : List Loc) (ls : Array Slot), lv_has ls 3 [(0, .ref o), (1, .int r5), (2, .int x2_11)] → va_P D vwCl (cw_X9_day cI cZ o o_readPurses o_readDay o_purses o_daily o_text o_row o_tried o_days o_order o_bestOrder o_seenHad o_seenShared o_isKept o_keptPurses o_keptRow o_keptHad o_keptShared o_keptRest v_readLaw v_readMany v_readMeetings v_law v_many v_meetings v_length v_at v_faultAt v_one_5 v_other_5 v_made v_leads v_rings v_seen a_purses_11 a_daily a_tried_5) H → va_D A (cw_X9_day cI cZ o o_readPurses o_readDay o_purses o_daily o_text o_row o_tried o_days o_order o_bestOrder o_seenHad o_seenShared o_isKept o_keptPurses o_keptRow o_keptHad o_keptShared o_keptRest v_readLaw v_readMany v_readMeetings v_law v_many v_meetings v_length v_at v_faultAt v_one_5 v_other_5 v_made v_leads v_rings v_seen a_purses_11 a_daily a_tried_5) → va_S A s.heap H locs → W p l e rm_X9_day s m args below meth c H locs 0 0 Q (F0 m 11 ls [])) ?_ H locs ls (lv_sub hl [2, 1, 0] rfl) hP hD hS
  intro x2_11 a_purses_11 h H locs ls hl hP hD hS
  refine lv_iload_n hx hb dX9_day_11 rfl (lv_at hl 2 rfl) ?_
  refine lv_bipush (v := 8) hx hb dX9_day_12 (by decide) ?_
  refine lv_icmp_ge (tgt := 35) hx hb dX9_day_14 (by decide) (fun c14 => ?_) (fun c14 => ?_)
  · have h := h.1 c14
    refine lv_aload_n hx hb dX9_day_35 rfl (lv_at hl 0 rfl) ?_
    refine lv_iconst (v := 0) hx hb dX9_day_36 (by decide) ?_
    refine va_put (D := D) (ci := 9) (v := .int (0 : Int32)) (ty := .int) (C := RX9) (T := TX9) (N := 33) hx hb hts inw_X9_day_X9 tyX9 tyX9_ok nmX9 hown hK.1 hP hD hS 0 rfl rfl 16 (by decide) (hts (.fieldLink RX9 109 "PursesShareModel" "made" "I") (by decide +kernel)) (fun _ h9 => h9) rfl (by decide +kernel) rfl rfl (Nat.le_of_ble_eq_true rfl) dX9_day_37 (fun H locs hP hD hS => ?_)
    have hP : va_P D vwCl (cw_X9_day cI cZ o o_readPurses o_readDay o_purses o_daily o_text o_row o_tried o_days o_order o_bestOrder o_seenHad o_seenShared o_isKept o_keptPurses o_keptRow o_keptHad o_keptShared o_keptRest v_readLaw v_readMany v_readMeetings v_law v_many v_meetings v_length v_at v_faultAt v_one_5 v_other_5 (0 : Int32) v_leads v_rings v_seen a_purses_11 a_daily a_tried_5) H := hP
    have hD : va_D A (cw_X9_day cI cZ o o_readPurses o_readDay o_purses o_daily o_text o_row o_tried o_days o_order o_bestOrder o_seenHad o_seenShared o_isKept o_keptPurses o_keptRow o_keptHad o_keptShared o_keptRest v_readLaw v_readMany v_readMeetings v_law v_many v_meetings v_length v_at v_faultAt v_one_5 v_other_5 (0 : Int32) v_leads v_rings v_seen a_purses_11 a_daily a_tried_5) := hD
    refine lv_iload_n hx hb dX9_day_40 rfl (lv_at hl 1 rfl) ?_
    exact ret_i5 hx hb hr hlocks hQ hS v_one_5 v_other_5 (0 : Int32) a_purses_11 a_tried_5 hP h dX9_day_41
  · have h := h.2 c14
    refine lv_aload_n hx hb dX9_day_17 rfl (lv_at hl 0 rfl) ?_
    refine va_get (D := D) (ci := 9) (v := .ref o_purses) (C := RX9) (T := TX9) (N := 33) hx hb hts inw_X9_day_X9 hown hK.1 hP 0 rfl rfl 5 (by decide) (hts (.fieldLink RX9 16 "PursesShareModel" "purses" "[I") (by decide +kernel)) (fun _ h9 => h9) rfl dX9_day_18 ?_
    refine lv_iload_n hx hb dX9_day_21 rfl (lv_at hl 2 rfl) ?_
    refine lv_aload_n hx hb dX9_day_22 rfl (lv_at hl 0 rfl) ?_
    refine va_get (D := D) (ci := 9) (v := .ref o_tried) (C := RX9) (T := TX9) (N := 33) hx hb hts inw_X9_day_X9 hown hK.1 hP 0 rfl rfl 18 (by decide) (hts (.fieldLink RX9 28 "PursesShareModel" "tried" "[I") (by decide +kernel)) (fun _ h9 => h9) rfl dX9_day_23 ?_
    refine lv_iload_n hx hb dX9_day_26 rfl (lv_at hl 2 rfl) ?_
    have h0 := h.1
    have h := h.2
    refine va_iald hx hb hK.1 hP 3 0 rfl rfl h0 dX9_day_27 ?_
    have h0 := h.1
    have h := h.2
    refine va_iast hx hb hK.1 hP hD hS 1 0 rfl rfl h0 dX9_day_28 (fun H locs hP hD hS => ?_)
    have hP : va_P D vwCl (cw_X9_day cI cZ o o_readPurses o_readDay o_purses o_daily o_text o_row o_tried o_days o_order o_bestOrder o_seenHad o_seenShared o_isKept o_keptPurses o_keptRow o_keptHad o_keptShared o_keptRest v_readLaw v_readMany v_readMeetings v_law v_many v_meetings v_length v_at v_faultAt v_one_5 v_other_5 v_made v_leads v_rings v_seen (upd a_purses_11 (Int32.toNatClampNeg x2_11) (a_tried_5 (Int32.toNatClampNeg x2_11))) a_daily a_tried_5) H := hP
    have hD : va_D A (cw_X9_day cI cZ o o_readPurses o_readDay o_purses o_daily o_text o_row o_tried o_days o_order o_bestOrder o_seenHad o_seenShared o_isKept o_keptPurses o_keptRow o_keptHad o_keptShared o_keptRest v_readLaw v_readMany v_readMeetings v_law v_many v_meetings v_length v_at v_faultAt v_one_5 v_other_5 v_made v_leads v_rings v_seen (upd a_purses_11 (Int32.toNatClampNeg x2_11) (a_tried_5 (Int32.toNatClampNeg x2_11))) a_daily a_tried_5) := hD
    refine lv_iinc (v := (x2_11 + 1)) (lv' := [(2, .int (x2_11 + 1)), (0, .ref o), (1, .int r5)]) hx hb dX9_day_29 hl (k := 2) rfl rfl (by decide) rfl (fun ls hl => ?_)
    refine lv_goto (tgt := 11) hx hb dX9_day_32 (by decide) ?_
    exact h H locs ls (lv_sub hl [1, 2, 0] rfl) hP hD hS
abbrev rm_X9_goOn : Room := { frames := 2, cells := 0, slots := 0, locals := 49 }
abbrev cw_X9_goOn (cI cZ : ClassId) (o o_readPurses o_readDay o_purses o_daily o_text o_row o_tried o_days o_order o_bestOrder o_seenHad o_seenShared o_isKept o_keptPurses o_keptRow o_keptHad o_keptShared o_keptRest : Nat) (v_readLaw : Int32) (v_readMany : Int32) (v_readMeetings : Int32) (v_law : Int32) (v_many : Int32) (v_meetings : Int32) (v_length : Int32) (v_at : Int32) (v_faultAt : Int32) (v_one : Int32) (v_other : Int32) (v_made : Int32) (v_leads : Int32) (v_rings : Int32) (v_seen : Int32) (a_purses : Nat → Int32) : va_W := [(o, .inr (9, [.ref o_readPurses, .ref o_readDay, .int v_readLaw, .int v_readMany, .int v_readMeetings, .ref o_purses, .ref o_daily, .int v_law, .int v_many, .int v_meetings, .ref o_text, .int v_length, .int v_at, .int v_faultAt, .int v_one, .int v_other, .int v_made, .ref o_row, .ref o_tried, .int v_leads, .int v_rings, .ref o_days, .ref o_order, .ref o_bestOrder, .int v_seen, .ref o_seenHad, .ref o_seenShared, .ref o_isKept, .ref o_keptPurses, .ref o_keptRow, .ref o_keptHad, .ref o_keptShared, .ref o_keptRest])), (o_purses, .inl (cI, 8, .inl a_purses))]
theorem inw_X9_goOn_X9 : ∀ w ∈ u_ws RX9 TX9 33, w ∈ wsX9_goOn := by decide +kernel
def wp_X9_goOn (n1 : Int32) (n2 : Int32) (n3 : Int32) (v_law : Int32) (v_one : Int32) (v_other : Int32) (v_leads : Int32) (v_rings : Int32) (a_purses : Nat → Int32) (Post : Int32 → (Int32) → (Int32) → (Int32) → (Int32) → Prop) : Prop := (vp_in n1 8 ∧ (vp_in n2 8 ∧ (∀ k26 : (Int32) → (Int32) → (Int32) → (Int32) → (Int32) → (Int32) → Prop, (∀ (x5_26 : Int32) (x4_26 : Int32) (v_one_26 : Int32) (v_other_26 : Int32) (v_leads_26 : Int32) (v_rings_26 : Int32), ((¬ v_rings_26 = 0 → (Post v_leads_26 v_one_26 v_other_26 v_leads_26 v_rings_26)) ∧ (v_rings_26 = 0 → (wp_X9_meetTwo x4_26 x5_26 v_law v_one_26 v_other_26 (fun (v_one_38 : Int32) (v_other_38 : Int32) => (wp_X9_meetTwo v_one_38 v_other_38 v_law v_one_38 v_other_38 (fun (v_one_58 : Int32) (v_other_58 : Int32) => (∀ k103 : (Int32) → Prop, (∀ (s1_103 : Int32), ((v_leads_26 = n3 → (Post v_leads_26 x4_26 x5_26 v_leads_26 s1_103)) ∧ (¬ v_leads_26 = n3 → ((s1_103 ≤ 0 → (k26 v_other_38 v_one_38 v_one_58 v_other_58 (v_leads_26 + (1 : Int32)) s1_103)) ∧ (¬ s1_103 ≤ 0 → (Post v_leads_26 x4_26 x5_26 v_leads_26 s1_103))))) → k103 s1_103) → ((¬ v_one_38 = x4_26 → ((¬ v_one_58 = x4_26 → (k103 (0 : Int32))) ∧ (v_one_58 = x4_26 → ((¬ v_other_58 = x5_26 → (k103 (0 : Int32))) ∧ (v_other_58 = x5_26 → (k103 (2 : Int32))))))) ∧ (v_one_38 = x4_26 → ((¬ v_other_38 = x5_26 → ((¬ v_one_58 = x4_26 → (k103 (0 : Int32))) ∧ (v_one_58 = x4_26 → ((¬ v_other_58 = x5_26 → (k103 (0 : Int32))) ∧ (v_other_58 = x5_26 → (k103 (2 : Int32))))))) ∧ (v_other_38 = x5_26 → (k103 (1 : Int32))))))))))))) → k26 x5_26 x4_26 v_one_26 v_other_26 v_leads_26 v_rings_26) → k26 (a_purses (Int32.toNatClampNeg n2)) (a_purses (Int32.toNatClampNeg n1)) v_one v_other (0 : Int32) (0 : Int32))))
set_option maxHeartbeats 4000000 in
set_option maxRecDepth 100000 in
theorem c_X9_goOn (l : Launch) (D : va_G) (cI cZ : ClassId) (o o_readPurses o_readDay o_purses o_daily o_text o_row o_tried o_days o_order o_bestOrder o_seenHad o_seenShared o_isKept o_keptPurses o_keptRow o_keptHad o_keptShared o_keptRest : Nat) (sz : Nat) (n1 : Int32) (n2 : Int32) (n3 : Int32) (v_readLaw : Int32) (v_readMany : Int32) (v_readMeetings : Int32) (v_law : Int32) (v_many : Int32) (v_meetings : Int32) (v_length : Int32) (v_at : Int32) (v_faultAt : Int32) (v_one : Int32) (v_other : Int32) (v_made : Int32) (v_leads : Int32) (v_rings : Int32) (v_seen : Int32) (a_purses : Nat → Int32) (Post : Int32 → (Int32) → (Int32) → (Int32) → (Int32) → Prop) (h : wp_X9_goOn n1 n2 n3 v_law v_one v_other v_leads v_rings a_purses Post) : Met l yX9_goOn wsX9_goOn rm_X9_goOn (cPc D cI cZ [.ref o, .int n1, .int n2, .int n3] (cw_X9_goOn cI cZ o o_readPurses o_readDay o_purses o_daily o_text o_row o_tried o_days o_order o_bestOrder o_seenHad o_seenShared o_isKept o_keptPurses o_keptRow o_keptHad o_keptShared o_keptRest v_readLaw v_readMany v_readMeetings v_law v_many v_meetings v_length v_at v_faultAt v_one v_other v_made v_leads v_rings v_seen a_purses) sz) (cQi4 D Post (fun m_v_one m_v_other m_v_leads m_v_rings => (cw_X9_goOn cI cZ o o_readPurses o_readDay o_purses o_daily o_text o_row o_tried o_days o_order o_bestOrder o_seenHad o_seenShared o_isKept o_keptPurses o_keptRow o_keptHad o_keptShared o_keptRest v_readLaw v_readMany v_readMeetings v_law v_many v_meetings v_length v_at v_faultAt m_v_one m_v_other v_made m_v_leads m_v_rings v_seen a_purses)) (va_A (cw_X9_goOn cI cZ o o_readPurses o_readDay o_purses o_daily o_text o_row o_tried o_days o_order o_bestOrder o_seenHad o_seenShared o_isKept o_keptPurses o_keptRow o_keptHad o_keptShared o_keptRest v_readLaw v_readMany v_readMeetings v_law v_many v_meetings v_length v_at v_faultAt v_one v_other v_made v_leads v_rings v_seen a_purses) sz)) 0 0 (va_A (cw_X9_goOn cI cZ o o_readPurses o_readDay o_purses o_daily o_text o_row o_tried o_days o_order o_bestOrder o_seenHad o_seenShared o_isKept o_keptPurses o_keptRow o_keptHad o_keptShared o_keptRest v_readLaw v_readMany v_readMeetings v_law v_many v_meetings v_length v_at v_faultAt v_one v_other v_made v_leads v_rings v_seen a_purses) sz) := by
  refine ent (cc := cX9_goOn) (maxL := 8) (ret := (some .int)) (Qc := fun A => cQi4 D Post (fun m_v_one m_v_other m_v_leads m_v_rings => (cw_X9_goOn cI cZ o o_readPurses o_readDay o_purses o_daily o_text o_row o_tried o_days o_order o_bestOrder o_seenHad o_seenShared o_isKept o_keptPurses o_keptRow o_keptHad o_keptShared o_keptRest v_readLaw v_readMany v_readMeetings v_law v_many v_meetings v_length v_at v_faultAt m_v_one m_v_other v_made m_v_leads m_v_rings v_seen a_purses)) A) (by decide) rfl (Nat.le_of_ble_eq_true rfl) ?_
  intro p e s m args below meth c A ls Q hQ hsz hx hb hml hr hts hown hlocks hnm hK hP hD hA hS hl
  have hl : lv_has ls 8 [(0, .ref o), (1, .int n1), (2, .int n2), (3, .int n3)] := hl
  unfold wp_X9_goOn at h
  refine lv_aload_n hx hb dX9_goOn_0 rfl (lv_at hl 0 rfl) ?_
  refine va_get (D := D) (ci := 9) (v := .ref o_purses) (C := RX9) (T := TX9) (N := 33) hx hb hts inw_X9_goOn_X9 hown hK.1 hP 0 rfl rfl 5 (by decide) (hts (.fieldLink RX9 16 "PursesShareModel" "purses" "[I") (by decide +kernel)) (fun _ h9 => h9) rfl dX9_goOn_1 ?_
  refine lv_iload_n hx hb dX9_goOn_4 rfl (lv_at hl 1 rfl) ?_
  have h0 := h.1
  have h := h.2
  refine va_iald hx hb hK.1 hP 1 0 rfl rfl h0 dX9_goOn_5 ?_
  refine lv_istore (lv' := [(4, .int (a_purses (Int32.toNatClampNeg n1))), (0, .ref o), (1, .int n1), (2, .int n2), (3, .int n3)]) hx hb dX9_goOn_6 hl (by decide) rfl (fun ls hl => ?_)
  refine lv_aload_n hx hb dX9_goOn_8 rfl (lv_at hl 1 rfl) ?_
  refine va_get (D := D) (ci := 9) (v := .ref o_purses) (C := RX9) (T := TX9) (N := 33) hx hb hts inw_X9_goOn_X9 hown hK.1 hP 0 rfl rfl 5 (by decide) (hts (.fieldLink RX9 16 "PursesShareModel" "purses" "[I") (by decide +kernel)) (fun _ h9 => h9) rfl dX9_goOn_9 ?_
  refine lv_iload_n hx hb dX9_goOn_12 rfl (lv_at hl 3 rfl) ?_
  have h0 := h.1
  have h := h.2
  refine va_iald hx hb hK.1 hP 1 0 rfl rfl h0 dX9_goOn_13 ?_
  refine lv_istore (lv' := [(5, .int (a_purses (Int32.toNatClampNeg n2))), (4, .int (a_purses (Int32.toNatClampNeg n1))), (0, .ref o), (1, .int n1), (2, .int n2), (3, .int n3)]) hx hb dX9_goOn_14 hl (by decide) rfl (fun ls hl => ?_)
  refine lv_aload_n hx hb dX9_goOn_16 rfl (lv_at hl 2 rfl) ?_
  refine lv_iconst (v := 0) hx hb dX9_goOn_17 (by decide) ?_
  refine va_put (D := D) (ci := 9) (v := .int (0 : Int32)) (ty := .int) (C := RX9) (T := TX9) (N := 33) hx hb hts inw_X9_goOn_X9 tyX9 tyX9_ok nmX9 hown hK.1 hP hD hS 0 rfl rfl 19 (by decide) (hts (.fieldLink RX9 151 "PursesShareModel" "leads" "I") (by decide +kernel)) (fun _ h9 => h9) rfl (by decide +kernel) rfl rfl (Nat.le_of_ble_eq_true rfl) dX9_goOn_18 (fun H locs hP hD hS => ?_)
  have hP : va_P D vwCl (cw_X9_goOn cI cZ o o_readPurses o_readDay o_purses o_daily o_text o_row o_tried o_days o_order o_bestOrder o_seenHad o_seenShared o_isKept o_keptPurses o_keptRow o_keptHad o_keptShared o_keptRest v_readLaw v_readMany v_readMeetings v_law v_many v_meetings v_length v_at v_faultAt v_one v_other v_made (0 : Int32) v_rings v_seen a_purses) H := hP
  have hD : va_D A (cw_X9_goOn cI cZ o o_readPurses o_readDay o_purses o_daily o_text o_row o_tried o_days o_order o_bestOrder o_seenHad o_seenShared o_isKept o_keptPurses o_keptRow o_keptHad o_keptShared o_keptRest v_readLaw v_readMany v_readMeetings v_law v_many v_meetings v_length v_at v_faultAt v_one v_other v_made (0 : Int32) v_rings v_seen a_purses) := hD
  refine lv_aload_n hx hb dX9_goOn_21 rfl (lv_at hl 2 rfl) ?_
  refine lv_iconst (v := 0) hx hb dX9_goOn_22 (by decide) ?_
  refine va_put (D := D) (ci := 9) (v := .int (0 : Int32)) (ty := .int) (C := RX9) (T := TX9) (N := 33) hx hb hts inw_X9_goOn_X9 tyX9 tyX9_ok nmX9 hown hK.1 hP hD hS 0 rfl rfl 20 (by decide) (hts (.fieldLink RX9 154 "PursesShareModel" "rings" "I") (by decide +kernel)) (fun _ h9 => h9) rfl (by decide +kernel) rfl rfl (Nat.le_of_ble_eq_true rfl) dX9_goOn_23 (fun H locs hP hD hS => ?_)
  have hP : va_P D vwCl (cw_X9_goOn cI cZ o o_readPurses o_readDay o_purses o_daily o_text o_row o_tried o_days o_order o_bestOrder o_seenHad o_seenShared o_isKept o_keptPurses o_keptRow o_keptHad o_keptShared o_keptRest v_readLaw v_readMany v_readMeetings v_law v_many v_meetings v_length v_at v_faultAt v_one v_other v_made (0 : Int32) (0 : Int32) v_seen a_purses) H := hP
  have hD : va_D A (cw_X9_goOn cI cZ o o_readPurses o_readDay o_purses o_daily o_text o_row o_tried o_days o_order o_bestOrder o_seenHad o_seenShared o_isKept o_keptPurses o_keptRow o_keptHad o_keptShared o_keptRest v_readLaw v_readMany v_readMeetings v_law v_many v_meetings v_length v_at v_faultAt v_one v_other v_made (0 : Int32) (0 : Int32) v_seen a_purses) := hD
  refine h (fun x5_26 x4_26 v_one_26 v_other_26 v_leads_26 v_rings_26 => ∀ (H : Heap) (locs : List Loc) (ls : Array Slot), lv_has ls 8 [(0, .ref o), (1, .int n1), (2, .int n2), (3, .int n3), (4, .int x4_26), (5, .int x5_26)] → va_P D vwCl (cw_X9_goOn cI cZ o o_readPurses o_readDay o_purses o_daily o_text o_row o_tried o_days o_order o_bestOrder o_seenHad o_seenShared o_isKept o_keptPurses o_keptRow o_keptHad o_keptShared o_keptRest v_readLaw v_readMany v_readMeetings v_law v_many v_meetings v_length v_at v_faultAt v_one_26 v_other_26 v_made v_leads_26 v_rings_26 v_seen a_purses) H → va_D A (cw_X9_goOn cI cZ o o_readPurses o_readDay o_purses o_daily o_text o_row o_tried o_days o_order o_bestOrder o_seenHad o_seenShared o_isKept o_keptPurses o_keptRow o_keptHad o_keptShared o_keptRest v_readLaw v_readMany v_readMeetings v_law v_many v_meetings v_length v_at v_faultAt v_one_26 v_other_26 v_made v_leads_26 v_rings_26 v_seen a_purses) → va_S A s.heap H locs → W p l e rm_X9_goOn s m args below meth c H locs 0 0 Q (F0 m 26 ls [])) ?_ H locs ls (lv_sub hl [2, 3, 4, 5, 1, 0] rfl) hP hD hS
  intro x5_26 x4_26 v_one_26 v_other_26 v_leads_26 v_rings_26 h H locs ls hl hP hD hS
  refine lv_aload_n hx hb dX9_goOn_26 rfl (lv_at hl 0 rfl) ?_
  refine va_get (D := D) (ci := 9) (v := .int v_rings_26) (C := RX9) (T := TX9) (N := 33) hx hb hts inw_X9_goOn_X9 hown hK.1 hP 0 rfl rfl 20 (by decide) (hts (.fieldLink RX9 154 "PursesShareModel" "rings" "I") (by decide +kernel)) (fun _ h9 => h9) rfl dX9_goOn_27 ?_
  refine lv_if_ne (tgt := 159) hx hb dX9_goOn_30 (by decide) (fun c30 => ?_) (fun c30 => ?_)
  · have h := h.1 c30
    refine lv_aload_n hx hb dX9_goOn_159 rfl (lv_at hl 0 rfl) ?_
    refine va_get (D := D) (ci := 9) (v := .int v_leads_26) (C := RX9) (T := TX9) (N := 33) hx hb hts inw_X9_goOn_X9 hown hK.1 hP 0 rfl rfl 19 (by decide) (hts (.fieldLink RX9 151 "PursesShareModel" "leads" "I") (by decide +kernel)) (fun _ h9 => h9) rfl dX9_goOn_160 ?_
    exact ret_i4 hx hb hr hlocks hQ hS v_one_26 v_other_26 v_leads_26 v_rings_26 hP h dX9_goOn_163
  · have h := h.2 c30
    refine lv_aload_n hx hb dX9_goOn_33 rfl (lv_at hl 0 rfl) ?_
    refine lv_iload hx hb dX9_goOn_34 (lv_at hl 4 rfl) ?_
    refine lv_iload hx hb dX9_goOn_36 (lv_at hl 5 rfl) ?_
    refine call_v2 (va_runV (As := [.int x4_26, .int x5_26]) (rest := []) ⟨hx, hb, hml, hown, hts⟩ (c_X9_meetTwo l D cI cZ o o_readPurses o_readDay o_purses o_daily o_text o_row o_tried o_days o_order o_bestOrder o_seenHad o_seenShared o_isKept o_keptPurses o_keptRow o_keptHad o_keptShared o_keptRest (Array.size H) x4_26 x5_26 v_readLaw v_readMany v_readMeetings v_law v_many v_meetings v_length v_at v_faultAt v_one_26 v_other_26 v_made v_leads_26 v_rings_26 v_seen _ h) (cwV 2 hts gX9_goOn_X9_meetTwo rfl rfl rfl (by decide +kernel) ⟨Nat.le_of_ble_eq_true rfl, Nat.le_of_ble_eq_true rfl⟩) (preV_of hP hD hK [0] rfl rfl 0 9 rfl rfl rfl) rfl rfl hl.1 rfl (lv_room (Nat.le_of_ble_eq_true rfl)) dX9_goOn_38 ⟨Nat.zero_le _, Nat.zero_le _⟩) hP hD hS hA [0] rfl (fun v_one_38 v_other_38 => (cw_X9_goOn cI cZ o o_readPurses o_readDay o_purses o_daily o_text o_row o_tried o_days o_order o_bestOrder o_seenHad o_seenShared o_isKept o_keptPurses o_keptRow o_keptHad o_keptShared o_keptRest v_readLaw v_readMany v_readMeetings v_law v_many v_meetings v_length v_at v_faultAt v_one_38 v_other_38 v_made v_leads_26 v_rings_26 v_seen a_purses)) (fun _ _ => rfl) (fun _ _ => rfl) (fun v_one_38 v_other_38 H locs h hP hD hS => ?_)
    refine lv_aload_n hx hb dX9_goOn_41 rfl (lv_at hl 0 rfl) ?_
    refine va_get (D := D) (ci := 9) (v := .int v_one_38) (C := RX9) (T := TX9) (N := 33) hx hb hts inw_X9_goOn_X9 hown hK.1 hP 0 rfl rfl 14 (by decide) (hts (.fieldLink RX9 123 "PursesShareModel" "one" "I") (by decide +kernel)) (fun _ h9 => h9) rfl dX9_goOn_42 ?_
    refine lv_istore (lv' := [(6, .int v_one_38), (0, .ref o), (1, .int n1), (2, .int n2), (3, .int n3), (4, .int x4_26), (5, .int x5_26)]) hx hb dX9_goOn_45 hl (by decide) rfl (fun ls hl => ?_)
    refine lv_aload_n hx hb dX9_goOn_47 rfl (lv_at hl 1 rfl) ?_
    refine va_get (D := D) (ci := 9) (v := .int v_other_38) (C := RX9) (T := TX9) (N := 33) hx hb hts inw_X9_goOn_X9 hown hK.1 hP 0 rfl rfl 15 (by decide) (hts (.fieldLink RX9 126 "PursesShareModel" "other" "I") (by decide +kernel)) (fun _ h9 => h9) rfl dX9_goOn_48 ?_
    refine lv_istore (lv' := [(7, .int v_other_38), (6, .int v_one_38), (0, .ref o), (1, .int n1), (2, .int n2), (3, .int n3), (4, .int x4_26), (5, .int x5_26)]) hx hb dX9_goOn_51 hl (by decide) rfl (fun ls hl => ?_)
    refine lv_aload_n hx hb dX9_goOn_53 rfl (lv_at hl 2 rfl) ?_
    refine lv_iload hx hb dX9_goOn_54 (lv_at hl 1 rfl) ?_
    refine lv_iload hx hb dX9_goOn_56 (lv_at hl 0 rfl) ?_
    refine call_v2 (va_runV (As := [.int v_one_38, .int v_other_38]) (rest := []) ⟨hx, hb, hml, hown, hts⟩ (c_X9_meetTwo l D cI cZ o o_readPurses o_readDay o_purses o_daily o_text o_row o_tried o_days o_order o_bestOrder o_seenHad o_seenShared o_isKept o_keptPurses o_keptRow o_keptHad o_keptShared o_keptRest (Array.size H) v_one_38 v_other_38 v_readLaw v_readMany v_readMeetings v_law v_many v_meetings v_length v_at v_faultAt v_one_38 v_other_38 v_made v_leads_26 v_rings_26 v_seen _ h) (cwV 2 hts gX9_goOn_X9_meetTwo rfl rfl rfl (by decide +kernel) ⟨Nat.le_of_ble_eq_true rfl, Nat.le_of_ble_eq_true rfl⟩) (preV_of hP hD hK [0] rfl rfl 0 9 rfl rfl rfl) rfl rfl hl.1 rfl (lv_room (Nat.le_of_ble_eq_true rfl)) dX9_goOn_58 ⟨Nat.zero_le _, Nat.zero_le _⟩) hP hD hS hA [0] rfl (fun v_one_58 v_other_58 => (cw_X9_goOn cI cZ o o_readPurses o_readDay o_purses o_daily o_text o_row o_tried o_days o_order o_bestOrder o_seenHad o_seenShared o_isKept o_keptPurses o_keptRow o_keptHad o_keptShared o_keptRest v_readLaw v_readMany v_readMeetings v_law v_many v_meetings v_length v_at v_faultAt v_one_58 v_other_58 v_made v_leads_26 v_rings_26 v_seen a_purses)) (fun _ _ => rfl) (fun _ _ => rfl) (fun v_one_58 v_other_58 H locs h hP hD hS => ?_)
    refine lv_aload_n hx hb dX9_goOn_61 rfl (lv_at hl 2 rfl) ?_
    refine lv_iload hx hb dX9_goOn_62 (lv_at hl 1 rfl) ?_
    refine lv_iload hx hb dX9_goOn_64 (lv_at hl 6 rfl) ?_
    have h := h (fun s1_103 => ∀ (H : Heap) (locs : List Loc) (ls : Array Slot), lv_has ls 8 [(0, .ref o), (1, .int n1), (2, .int n2), (3, .int n3), (4, .int x4_26), (5, .int x5_26), (6, .int v_one_38), (7, .int v_other_38)] → va_P D vwCl (cw_X9_goOn cI cZ o o_readPurses o_readDay o_purses o_daily o_text o_row o_tried o_days o_order o_bestOrder o_seenHad o_seenShared o_isKept o_keptPurses o_keptRow o_keptHad o_keptShared o_keptRest v_readLaw v_readMany v_readMeetings v_law v_many v_meetings v_length v_at v_faultAt v_one_58 v_other_58 v_made v_leads_26 v_rings_26 v_seen a_purses) H → va_D A (cw_X9_goOn cI cZ o o_readPurses o_readDay o_purses o_daily o_text o_row o_tried o_days o_order o_bestOrder o_seenHad o_seenShared o_isKept o_keptPurses o_keptRow o_keptHad o_keptShared o_keptRest v_readLaw v_readMany v_readMeetings v_law v_many v_meetings v_length v_at v_faultAt v_one_58 v_other_58 v_made v_leads_26 v_rings_26 v_seen a_purses) → va_S A s.heap H locs → W p l e rm_X9_goOn s m args below meth c H locs 0 0 Q (F0 m 103 ls [.int s1_103, .ref o])) (by
      intro s1_103 h H locs ls hl hP hD hS
      refine va_put (D := D) (ci := 9) (v := .int s1_103) (ty := .int) (C := RX9) (T := TX9) (N := 33) hx hb hts inw_X9_goOn_X9 tyX9 tyX9_ok nmX9 hown hK.1 hP hD hS 0 rfl rfl 20 (by decide) (hts (.fieldLink RX9 154 "PursesShareModel" "rings" "I") (by decide +kernel)) (fun _ h9 => h9) rfl (by decide +kernel) rfl rfl (Nat.le_of_ble_eq_true rfl) dX9_goOn_103 (fun H locs hP hD hS => ?_)
      have hP : va_P D vwCl (cw_X9_goOn cI cZ o o_readPurses o_readDay o_purses o_daily o_text o_row o_tried o_days o_order o_bestOrder o_seenHad o_seenShared o_isKept o_keptPurses o_keptRow o_keptHad o_keptShared o_keptRest v_readLaw v_readMany v_readMeetings v_law v_many v_meetings v_length v_at v_faultAt v_one_58 v_other_58 v_made v_leads_26 s1_103 v_seen a_purses) H := hP
      have hD : va_D A (cw_X9_goOn cI cZ o o_readPurses o_readDay o_purses o_daily o_text o_row o_tried o_days o_order o_bestOrder o_seenHad o_seenShared o_isKept o_keptPurses o_keptRow o_keptHad o_keptShared o_keptRest v_readLaw v_readMany v_readMeetings v_law v_many v_meetings v_length v_at v_faultAt v_one_58 v_other_58 v_made v_leads_26 s1_103 v_seen a_purses) := hD
      refine lv_aload_n hx hb dX9_goOn_106 rfl (lv_at hl 0 rfl) ?_
      refine va_get (D := D) (ci := 9) (v := .int v_leads_26) (C := RX9) (T := TX9) (N := 33) hx hb hts inw_X9_goOn_X9 hown hK.1 hP 0 rfl rfl 19 (by decide) (hts (.fieldLink RX9 151 "PursesShareModel" "leads" "I") (by decide +kernel)) (fun _ h9 => h9) rfl dX9_goOn_107 ?_
      refine lv_iload_n hx hb dX9_goOn_110 rfl (lv_at hl 3 rfl) ?_
      refine lv_icmp_eq (tgt := 121) hx hb dX9_goOn_111 (by decide) (fun c111 => ?_) (fun c111 => ?_)
      · have h := h.1 c111
        refine lv_aload_n hx hb dX9_goOn_121 rfl (lv_at hl 0 rfl) ?_
        refine lv_iload hx hb dX9_goOn_122 (lv_at hl 4 rfl) ?_
        refine va_put (D := D) (ci := 9) (v := .int x4_26) (ty := .int) (C := RX9) (T := TX9) (N := 33) hx hb hts inw_X9_goOn_X9 tyX9 tyX9_ok nmX9 hown hK.1 hP hD hS 0 rfl rfl 14 (by decide) (hts (.fieldLink RX9 123 "PursesShareModel" "one" "I") (by decide +kernel)) (fun _ h9 => h9) rfl (by decide +kernel) rfl rfl (Nat.le_of_ble_eq_true rfl) dX9_goOn_124 (fun H locs hP hD hS => ?_)
        have hP : va_P D vwCl (cw_X9_goOn cI cZ o o_readPurses o_readDay o_purses o_daily o_text o_row o_tried o_days o_order o_bestOrder o_seenHad o_seenShared o_isKept o_keptPurses o_keptRow o_keptHad o_keptShared o_keptRest v_readLaw v_readMany v_readMeetings v_law v_many v_meetings v_length v_at v_faultAt x4_26 v_other_58 v_made v_leads_26 s1_103 v_seen a_purses) H := hP
        have hD : va_D A (cw_X9_goOn cI cZ o o_readPurses o_readDay o_purses o_daily o_text o_row o_tried o_days o_order o_bestOrder o_seenHad o_seenShared o_isKept o_keptPurses o_keptRow o_keptHad o_keptShared o_keptRest v_readLaw v_readMany v_readMeetings v_law v_many v_meetings v_length v_at v_faultAt x4_26 v_other_58 v_made v_leads_26 s1_103 v_seen a_purses) := hD
        refine lv_aload_n hx hb dX9_goOn_127 rfl (lv_at hl 0 rfl) ?_
        refine lv_iload hx hb dX9_goOn_128 (lv_at hl 5 rfl) ?_
        refine va_put (D := D) (ci := 9) (v := .int x5_26) (ty := .int) (C := RX9) (T := TX9) (N := 33) hx hb hts inw_X9_goOn_X9 tyX9 tyX9_ok nmX9 hown hK.1 hP hD hS 0 rfl rfl 15 (by decide) (hts (.fieldLink RX9 126 "PursesShareModel" "other" "I") (by decide +kernel)) (fun _ h9 => h9) rfl (by decide +kernel) rfl rfl (Nat.le_of_ble_eq_true rfl) dX9_goOn_130 (fun H locs hP hD hS => ?_)
        have hP : va_P D vwCl (cw_X9_goOn cI cZ o o_readPurses o_readDay o_purses o_daily o_text o_row o_tried o_days o_order o_bestOrder o_seenHad o_seenShared o_isKept o_keptPurses o_keptRow o_keptHad o_keptShared o_keptRest v_readLaw v_readMany v_readMeetings v_law v_many v_meetings v_length v_at v_faultAt x4_26 x5_26 v_made v_leads_26 s1_103 v_seen a_purses) H := hP
        have hD : va_D A (cw_X9_goOn cI cZ o o_readPurses o_readDay o_purses o_daily o_text o_row o_tried o_days o_order o_bestOrder o_seenHad o_seenShared o_isKept o_keptPurses o_keptRow o_keptHad o_keptShared o_keptRest v_readLaw v_readMany v_readMeetings v_law v_many v_meetings v_length v_at v_faultAt x4_26 x5_26 v_made v_leads_26 s1_103 v_seen a_purses) := hD
        refine lv_aload_n hx hb dX9_goOn_133 rfl (lv_at hl 0 rfl) ?_
        refine va_get (D := D) (ci := 9) (v := .int v_leads_26) (C := RX9) (T := TX9) (N := 33) hx hb hts inw_X9_goOn_X9 hown hK.1 hP 0 rfl rfl 19 (by decide) (hts (.fieldLink RX9 151 "PursesShareModel" "leads" "I") (by decide +kernel)) (fun _ h9 => h9) rfl dX9_goOn_134 ?_
        exact ret_i4 hx hb hr hlocks hQ hS x4_26 x5_26 v_leads_26 s1_103 hP h dX9_goOn_137
      · have h := h.2 c111
        refine lv_aload_n hx hb dX9_goOn_114 rfl (lv_at hl 0 rfl) ?_
        refine va_get (D := D) (ci := 9) (v := .int s1_103) (C := RX9) (T := TX9) (N := 33) hx hb hts inw_X9_goOn_X9 hown hK.1 hP 0 rfl rfl 20 (by decide) (hts (.fieldLink RX9 154 "PursesShareModel" "rings" "I") (by decide +kernel)) (fun _ h9 => h9) rfl dX9_goOn_115 ?_
        refine lv_if_le (tgt := 138) hx hb dX9_goOn_118 (by decide) (fun c118 => ?_) (fun c118 => ?_)
        · have h := h.1 c118
          refine lv_iload hx hb dX9_goOn_138 (lv_at hl 6 rfl) ?_
          refine lv_istore (lv' := [(4, .int v_one_38), (0, .ref o), (1, .int n1), (2, .int n2), (3, .int n3), (5, .int x5_26), (6, .int v_one_38), (7, .int v_other_38)]) hx hb dX9_goOn_140 hl (by decide) rfl (fun ls hl => ?_)
          refine lv_iload hx hb dX9_goOn_142 (lv_at hl 7 rfl) ?_
          refine lv_istore (lv' := [(5, .int v_other_38), (4, .int v_one_38), (0, .ref o), (1, .int n1), (2, .int n2), (3, .int n3), (6, .int v_one_38), (7, .int v_other_38)]) hx hb dX9_goOn_144 hl (by decide) rfl (fun ls hl => ?_)
          refine lv_aload_n hx hb dX9_goOn_146 rfl (lv_at hl 2 rfl) ?_
          refine lv_dup hx hb dX9_goOn_147 rfl ?_
          refine va_get (D := D) (ci := 9) (v := .int v_leads_26) (C := RX9) (T := TX9) (N := 33) hx hb hts inw_X9_goOn_X9 hown hK.1 hP 0 rfl rfl 19 (by decide) (hts (.fieldLink RX9 151 "PursesShareModel" "leads" "I") (by decide +kernel)) (fun _ h9 => h9) rfl dX9_goOn_148 ?_
          refine lv_iconst (v := 1) hx hb dX9_goOn_151 (by decide) ?_
          refine lv_iadd hx hb dX9_goOn_152 ?_
          refine va_put (D := D) (ci := 9) (v := .int (v_leads_26 + (1 : Int32))) (ty := .int) (C := RX9) (T := TX9) (N := 33) hx hb hts inw_X9_goOn_X9 tyX9 tyX9_ok nmX9 hown hK.1 hP hD hS 0 rfl rfl 19 (by decide) (hts (.fieldLink RX9 151 "PursesShareModel" "leads" "I") (by decide +kernel)) (fun _ h9 => h9) rfl (by decide +kernel) rfl rfl (Nat.le_of_ble_eq_true rfl) dX9_goOn_153 (fun H locs hP hD hS => ?_)
          have hP : va_P D vwCl (cw_X9_goOn cI cZ o o_readPurses o_readDay o_purses o_daily o_text o_row o_tried o_days o_order o_bestOrder o_seenHad o_seenShared o_isKept o_keptPurses o_keptRow o_keptHad o_keptShared o_keptRest v_readLaw v_readMany v_readMeetings v_law v_many v_meetings v_length v_at v_faultAt v_one_58 v_other_58 v_made (v_leads_26 + (1 : Int32)) s1_103 v_seen a_purses) H := hP
          have hD : va_D A (cw_X9_goOn cI cZ o o_readPurses o_readDay o_purses o_daily o_text o_row o_tried o_days o_order o_bestOrder o_seenHad o_seenShared o_isKept o_keptPurses o_keptRow o_keptHad o_keptShared o_keptRest v_readLaw v_readMany v_readMeetings v_law v_many v_meetings v_length v_at v_faultAt v_one_58 v_other_58 v_made (v_leads_26 + (1 : Int32)) s1_103 v_seen a_purses) := hD
          refine lv_goto (tgt := 26) hx hb dX9_goOn_156 (by decide) ?_
          exact h H locs ls (lv_sub hl [2, 3, 4, 5, 1, 0] rfl) hP hD hS
        · have h := h.2 c118
          refine lv_aload_n hx hb dX9_goOn_121 rfl (lv_at hl 0 rfl) ?_
          refine lv_iload hx hb dX9_goOn_122 (lv_at hl 4 rfl) ?_
          refine va_put (D := D) (ci := 9) (v := .int x4_26) (ty := .int) (C := RX9) (T := TX9) (N := 33) hx hb hts inw_X9_goOn_X9 tyX9 tyX9_ok nmX9 hown hK.1 hP hD hS 0 rfl rfl 14 (by decide) (hts (.fieldLink RX9 123 "PursesShareModel" "one" "I") (by decide +kernel)) (fun _ h9 => h9) rfl (by decide +kernel) rfl rfl (Nat.le_of_ble_eq_true rfl) dX9_goOn_124 (fun H locs hP hD hS => ?_)
          have hP : va_P D vwCl (cw_X9_goOn cI cZ o o_readPurses o_readDay o_purses o_daily o_text o_row o_tried o_days o_order o_bestOrder o_seenHad o_seenShared o_isKept o_keptPurses o_keptRow o_keptHad o_keptShared o_keptRest v_readLaw v_readMany v_readMeetings v_law v_many v_meetings v_length v_at v_faultAt x4_26 v_other_58 v_made v_leads_26 s1_103 v_seen a_purses) H := hP
          have hD : va_D A (cw_X9_goOn cI cZ o o_readPurses o_readDay o_purses o_daily o_text o_row o_tried o_days o_order o_bestOrder o_seenHad o_seenShared o_isKept o_keptPurses o_keptRow o_keptHad o_keptShared o_keptRest v_readLaw v_readMany v_readMeetings v_law v_many v_meetings v_length v_at v_faultAt x4_26 v_other_58 v_made v_leads_26 s1_103 v_seen a_purses) := hD
          refine lv_aload_n hx hb dX9_goOn_127 rfl (lv_at hl 0 rfl) ?_
          refine lv_iload hx hb dX9_goOn_128 (lv_at hl 5 rfl) ?_
          refine va_put (D := D) (ci := 9) (v := .int x5_26) (ty := .int) (C := RX9) (T := TX9) (N := 33) hx hb hts inw_X9_goOn_X9 tyX9 tyX9_ok nmX9 hown hK.1 hP hD hS 0 rfl rfl 15 (by decide) (hts (.fieldLink RX9 126 "PursesShareModel" "other" "I") (by decide +kernel)) (fun _ h9 => h9) rfl (by decide +kernel) rfl rfl (Nat.le_of_ble_eq_true rfl) dX9_goOn_130 (fun H locs hP hD hS => ?_)
          have hP : va_P D vwCl (cw_X9_goOn cI cZ o o_readPurses o_readDay o_purses o_daily o_text o_row o_tried o_days o_order o_bestOrder o_seenHad o_seenShared o_isKept o_keptPurses o_keptRow o_keptHad o_keptShared o_keptRest v_readLaw v_readMany v_readMeetings v_law v_many v_meetings v_length v_at v_faultAt x4_26 x5_26 v_made v_leads_26 s1_103 v_seen a_purses) H := hP
          have hD : va_D A (cw_X9_goOn cI cZ o o_readPurses o_readDay o_purses o_daily o_text o_row o_tried o_days o_order o_bestOrder o_seenHad o_seenShared o_isKept o_keptPurses o_keptRow o_keptHad o_keptShared o_keptRest v_readLaw v_readMany v_readMeetings v_law v_many v_meetings v_length v_at v_faultAt x4_26 x5_26 v_made v_leads_26 s1_103 v_seen a_purses) := hD
          refine lv_aload_n hx hb dX9_goOn_133 rfl (lv_at hl 0 rfl) ?_
          refine va_get (D := D) (ci := 9) (v := .int v_leads_26) (C := RX9) (T := TX9) (N := 33) hx hb hts inw_X9_goOn_X9 hown hK.1 hP 0 rfl rfl 19 (by decide) (hts (.fieldLink RX9 151 "PursesShareModel" "leads" "I") (by decide +kernel)) (fun _ h9 => h9) rfl dX9_goOn_134 ?_
          exact ret_i4 hx hb hr hlocks hQ hS x4_26 x5_26 v_leads_26 s1_103 hP h dX9_goOn_137)
    refine lv_icmp_ne (tgt := 80) hx hb dX9_goOn_66 (by decide) (fun c66 => ?_) (fun c66 => ?_)
    · have h := h.1 c66
      refine lv_aload_n hx hb dX9_goOn_80 rfl (lv_at hl 2 rfl) ?_
      refine va_get (D := D) (ci := 9) (v := .int v_one_58) (C := RX9) (T := TX9) (N := 33) hx hb hts inw_X9_goOn_X9 hown hK.1 hP 0 rfl rfl 14 (by decide) (hts (.fieldLink RX9 123 "PursesShareModel" "one" "I") (by decide +kernel)) (fun _ h9 => h9) rfl dX9_goOn_81 ?_
      refine lv_iload hx hb dX9_goOn_84 (lv_at hl 6 rfl) ?_
      refine lv_icmp_ne (tgt := 102) hx hb dX9_goOn_86 (by decide) (fun c86 => ?_) (fun c86 => ?_)
      · have h := h.1 c86
        refine lv_iconst (v := 0) hx hb dX9_goOn_102 (by decide) ?_
        exact h H locs ls (lv_sub hl [2, 3, 4, 5, 6, 7, 1, 0] rfl) hP hD hS
      · have h := h.2 c86
        refine lv_aload_n hx hb dX9_goOn_89 rfl (lv_at hl 2 rfl) ?_
        refine va_get (D := D) (ci := 9) (v := .int v_other_58) (C := RX9) (T := TX9) (N := 33) hx hb hts inw_X9_goOn_X9 hown hK.1 hP 0 rfl rfl 15 (by decide) (hts (.fieldLink RX9 126 "PursesShareModel" "other" "I") (by decide +kernel)) (fun _ h9 => h9) rfl dX9_goOn_90 ?_
        refine lv_iload hx hb dX9_goOn_93 (lv_at hl 7 rfl) ?_
        refine lv_icmp_ne (tgt := 102) hx hb dX9_goOn_95 (by decide) (fun c95 => ?_) (fun c95 => ?_)
        · have h := h.1 c95
          refine lv_iconst (v := 0) hx hb dX9_goOn_102 (by decide) ?_
          exact h H locs ls (lv_sub hl [2, 3, 4, 5, 6, 7, 1, 0] rfl) hP hD hS
        · have h := h.2 c95
          refine lv_iconst (v := 2) hx hb dX9_goOn_98 (by decide) ?_
          refine lv_goto (tgt := 103) hx hb dX9_goOn_99 (by decide) ?_
          exact h H locs ls (lv_sub hl [2, 3, 4, 5, 6, 7, 1, 0] rfl) hP hD hS
    · have h := h.2 c66
      refine lv_iload hx hb dX9_goOn_69 (lv_at hl 0 rfl) ?_
      refine lv_iload hx hb dX9_goOn_71 (lv_at hl 7 rfl) ?_
      refine lv_icmp_ne (tgt := 80) hx hb dX9_goOn_73 (by decide) (fun c73 => ?_) (fun c73 => ?_)
      · have h := h.1 c73
        refine lv_aload_n hx hb dX9_goOn_80 rfl (lv_at hl 2 rfl) ?_
        refine va_get (D := D) (ci := 9) (v := .int v_one_58) (C := RX9) (T := TX9) (N := 33) hx hb hts inw_X9_goOn_X9 hown hK.1 hP 0 rfl rfl 14 (by decide) (hts (.fieldLink RX9 123 "PursesShareModel" "one" "I") (by decide +kernel)) (fun _ h9 => h9) rfl dX9_goOn_81 ?_
        refine lv_iload hx hb dX9_goOn_84 (lv_at hl 6 rfl) ?_
        refine lv_icmp_ne (tgt := 102) hx hb dX9_goOn_86 (by decide) (fun c86 => ?_) (fun c86 => ?_)
        · have h := h.1 c86
          refine lv_iconst (v := 0) hx hb dX9_goOn_102 (by decide) ?_
          exact h H locs ls (lv_sub hl [2, 3, 4, 5, 6, 7, 1, 0] rfl) hP hD hS
        · have h := h.2 c86
          refine lv_aload_n hx hb dX9_goOn_89 rfl (lv_at hl 2 rfl) ?_
          refine va_get (D := D) (ci := 9) (v := .int v_other_58) (C := RX9) (T := TX9) (N := 33) hx hb hts inw_X9_goOn_X9 hown hK.1 hP 0 rfl rfl 15 (by decide) (hts (.fieldLink RX9 126 "PursesShareModel" "other" "I") (by decide +kernel)) (fun _ h9 => h9) rfl dX9_goOn_90 ?_
          refine lv_iload hx hb dX9_goOn_93 (lv_at hl 7 rfl) ?_
          refine lv_icmp_ne (tgt := 102) hx hb dX9_goOn_95 (by decide) (fun c95 => ?_) (fun c95 => ?_)
          · have h := h.1 c95
            refine lv_iconst (v := 0) hx hb dX9_goOn_102 (by decide) ?_
            exact h H locs ls (lv_sub hl [2, 3, 4, 5, 6, 7, 1, 0] rfl) hP hD hS
          · have h := h.2 c95
            refine lv_iconst (v := 2) hx hb dX9_goOn_98 (by decide) ?_
            refine lv_goto (tgt := 103) hx hb dX9_goOn_99 (by decide) ?_
            exact h H locs ls (lv_sub hl [2, 3, 4, 5, 6, 7, 1, 0] rfl) hP hD hS
      · have h := h.2 c73
        refine lv_iconst (v := 1) hx hb dX9_goOn_76 (by decide) ?_
        refine lv_goto (tgt := 103) hx hb dX9_goOn_77 (by decide) ?_
        exact h H locs ls (lv_sub hl [2, 3, 4, 5, 6, 7, 1, 0] rfl) hP hD hS
abbrev rm_X9_after : Room := { frames := 3, cells := 0, slots := 0, locals := 76 }
abbrev cw_X9_after (cI cZ : ClassId) (o o_readPurses o_readDay o_purses o_daily o_text o_row o_tried o_days o_order o_bestOrder o_seenHad o_seenShared o_isKept o_keptPurses o_keptRow o_keptHad o_keptShared o_keptRest : Nat) (v_readLaw : Int32) (v_readMany : Int32) (v_readMeetings : Int32) (v_law : Int32) (v_many : Int32) (v_meetings : Int32) (v_length : Int32) (v_at : Int32) (v_faultAt : Int32) (v_one : Int32) (v_other : Int32) (v_made : Int32) (v_leads : Int32) (v_rings : Int32) (v_seen : Int32) (a_purses : Nat → Int32) : va_W := [(o, .inr (9, [.ref o_readPurses, .ref o_readDay, .int v_readLaw, .int v_readMany, .int v_readMeetings, .ref o_purses, .ref o_daily, .int v_law, .int v_many, .int v_meetings, .ref o_text, .int v_length, .int v_at, .int v_faultAt, .int v_one, .int v_other, .int v_made, .ref o_row, .ref o_tried, .int v_leads, .int v_rings, .ref o_days, .ref o_order, .ref o_bestOrder, .int v_seen, .ref o_seenHad, .ref o_seenShared, .ref o_isKept, .ref o_keptPurses, .ref o_keptRow, .ref o_keptHad, .ref o_keptShared, .ref o_keptRest])), (o_purses, .inl (cI, 8, .inl a_purses))]
theorem inw_X9_after_X9 : ∀ w ∈ u_ws RX9 TX9 33, w ∈ wsX9_after := by decide +kernel
def wp_X9_after (n1 : Int32) (n2 : Int32) (n3 : Int32) (v_law : Int32) (v_many : Int32) (v_one : Int32) (v_other : Int32) (v_leads : Int32) (v_rings : Int32) (a_purses : Nat → Int32) (Post : Int32 → (Int32) → (Int32) → (Int32) → (Int32) → Prop) : Prop := (wp_X9_areTwo n1 n2 v_many (fun (r3 : Int32) => ((¬ r3 = 0 → (wp_X9_in (Int32.toInt64 n3) (0 : Int64) (999999999 : Int64) (fun (r17 : Int32) => ((¬ r17 = 0 → ((¬ n1 = n2 → (wp_X9_goOn n1 n2 n3 v_law v_one v_other v_leads v_rings a_purses (fun (r38 : Int32) (v_one_38 : Int32) (v_other_38 : Int32) (v_leads_38 : Int32) (v_rings_38 : Int32) => ((¬ v_rings_38 = (2 : Int32) → (Post v_one_38 v_one_38 v_other_38 v_leads_38 v_rings_38)) ∧ (v_rings_38 = (2 : Int32) → ((¬ ((n3 - r38) - (n3 - r38) / (2 : Int32) * (2 : Int32)) = (1 : Int32) → (Post v_one_38 v_one_38 v_other_38 v_leads_38 v_rings_38)) ∧ (((n3 - r38) - (n3 - r38) / (2 : Int32) * (2 : Int32)) = (1 : Int32) → (wp_X9_meetTwo v_one_38 v_other_38 v_law v_one_38 v_other_38 (fun (v_one_70 : Int32) (v_other_70 : Int32) => (Post v_one_70 v_one_70 v_other_70 v_leads_38 v_rings_38)))))))))) ∧ (n1 = n2 → (Post (-3 : Int32) v_one v_other v_leads v_rings)))) ∧ (r17 = 0 → (Post (-2 : Int32) v_one v_other v_leads v_rings)))))) ∧ (r3 = 0 → (Post (-1 : Int32) v_one v_other v_leads v_rings)))))
set_option maxHeartbeats 4000000 in
set_option maxRecDepth 100000 in
theorem c_X9_after (l : Launch) (D : va_G) (cI cZ : ClassId) (o o_readPurses o_readDay o_purses o_daily o_text o_row o_tried o_days o_order o_bestOrder o_seenHad o_seenShared o_isKept o_keptPurses o_keptRow o_keptHad o_keptShared o_keptRest : Nat) (sz : Nat) (n1 : Int32) (n2 : Int32) (n3 : Int32) (v_readLaw : Int32) (v_readMany : Int32) (v_readMeetings : Int32) (v_law : Int32) (v_many : Int32) (v_meetings : Int32) (v_length : Int32) (v_at : Int32) (v_faultAt : Int32) (v_one : Int32) (v_other : Int32) (v_made : Int32) (v_leads : Int32) (v_rings : Int32) (v_seen : Int32) (a_purses : Nat → Int32) (Post : Int32 → (Int32) → (Int32) → (Int32) → (Int32) → Prop) (h : wp_X9_after n1 n2 n3 v_law v_many v_one v_other v_leads v_rings a_purses Post) : Met l yX9_after wsX9_after rm_X9_after (cPc D cI cZ [.ref o, .int n1, .int n2, .int n3] (cw_X9_after cI cZ o o_readPurses o_readDay o_purses o_daily o_text o_row o_tried o_days o_order o_bestOrder o_seenHad o_seenShared o_isKept o_keptPurses o_keptRow o_keptHad o_keptShared o_keptRest v_readLaw v_readMany v_readMeetings v_law v_many v_meetings v_length v_at v_faultAt v_one v_other v_made v_leads v_rings v_seen a_purses) sz) (cQi4 D Post (fun m_v_one m_v_other m_v_leads m_v_rings => (cw_X9_after cI cZ o o_readPurses o_readDay o_purses o_daily o_text o_row o_tried o_days o_order o_bestOrder o_seenHad o_seenShared o_isKept o_keptPurses o_keptRow o_keptHad o_keptShared o_keptRest v_readLaw v_readMany v_readMeetings v_law v_many v_meetings v_length v_at v_faultAt m_v_one m_v_other v_made m_v_leads m_v_rings v_seen a_purses)) (va_A (cw_X9_after cI cZ o o_readPurses o_readDay o_purses o_daily o_text o_row o_tried o_days o_order o_bestOrder o_seenHad o_seenShared o_isKept o_keptPurses o_keptRow o_keptHad o_keptShared o_keptRest v_readLaw v_readMany v_readMeetings v_law v_many v_meetings v_length v_at v_faultAt v_one v_other v_made v_leads v_rings v_seen a_purses) sz)) 0 0 (va_A (cw_X9_after cI cZ o o_readPurses o_readDay o_purses o_daily o_text o_row o_tried o_days o_order o_bestOrder o_seenHad o_seenShared o_isKept o_keptPurses o_keptRow o_keptHad o_keptShared o_keptRest v_readLaw v_readMany v_readMeetings v_law v_many v_meetings v_length v_at v_faultAt v_one v_other v_made v_leads v_rings v_seen a_purses) sz) := by
  refine ent (cc := cX9_after) (maxL := 5) (ret := (some .int)) (Qc := fun A => cQi4 D Post (fun m_v_one m_v_other m_v_leads m_v_rings => (cw_X9_after cI cZ o o_readPurses o_readDay o_purses o_daily o_text o_row o_tried o_days o_order o_bestOrder o_seenHad o_seenShared o_isKept o_keptPurses o_keptRow o_keptHad o_keptShared o_keptRest v_readLaw v_readMany v_readMeetings v_law v_many v_meetings v_length v_at v_faultAt m_v_one m_v_other v_made m_v_leads m_v_rings v_seen a_purses)) A) (by decide) rfl (Nat.le_of_ble_eq_true rfl) ?_
  intro p e s m args below meth c A ls Q hQ hsz hx hb hml hr hts hown hlocks hnm hK hP hD hA hS hl
  have hl : lv_has ls 5 [(0, .ref o), (1, .int n1), (2, .int n2), (3, .int n3)] := hl
  unfold wp_X9_after at h
  refine lv_aload_n hx hb dX9_after_0 rfl (lv_at hl 0 rfl) ?_
  refine lv_iload_n hx hb dX9_after_1 rfl (lv_at hl 1 rfl) ?_
  refine lv_iload_n hx hb dX9_after_2 rfl (lv_at hl 2 rfl) ?_
  refine call_i0 (va_runV (As := [.int n1, .int n2]) (rest := []) ⟨hx, hb, hml, hown, hts⟩ (c_X9_areTwo l D cI cZ o o_readPurses o_readDay o_purses o_daily o_text o_row o_tried o_days o_order o_bestOrder o_seenHad o_seenShared o_isKept o_keptPurses o_keptRow o_keptHad o_keptShared o_keptRest (Array.size s.heap) n1 n2 v_readLaw v_readMany v_readMeetings v_law v_many v_meetings v_length v_at v_faultAt v_one v_other v_made v_leads v_rings v_seen _ h) (cwV 2 hts gX9_after_X9_areTwo rfl rfl rfl (by decide +kernel) ⟨Nat.le_of_ble_eq_true rfl, Nat.le_of_ble_eq_true rfl⟩) (preV_of hP hD hK [0] rfl rfl 0 9 rfl rfl rfl) rfl rfl hl.1 rfl (lv_room (Nat.le_of_ble_eq_true rfl)) dX9_after_3 ⟨Nat.zero_le _, Nat.zero_le _⟩) hP hD hS hA [0] rfl ((cw_X9_after cI cZ o o_readPurses o_readDay o_purses o_daily o_text o_row o_tried o_days o_order o_bestOrder o_seenHad o_seenShared o_isKept o_keptPurses o_keptRow o_keptHad o_keptShared o_keptRest v_readLaw v_readMany v_readMeetings v_law v_many v_meetings v_length v_at v_faultAt v_one v_other v_made v_leads v_rings v_seen a_purses)) (rfl) (rfl) (fun r3 H locs h hP hD hS => ?_)
  refine lv_if_ne (tgt := 11) hx hb dX9_after_6 (by decide) (fun c6 => ?_) (fun c6 => ?_)
  · have h := h.1 c6
    refine lv_iload_n hx hb dX9_after_11 rfl (lv_at hl 3 rfl) ?_
    refine lv_i2l (v := (Int32.toInt64 n3)) hx hb dX9_after_12 rfl ?_
    refine lv_lconst (v := 0) hx hb dX9_after_13 (by decide) ?_
    refine lv_ldc2 (own := RX9) (index := 157) (v := 999999999) hx hb hown (hts (.constantLong RX9 157 (999999999)) (by decide +kernel)) dX9_after_14 ?_
    refine call_i0 (va_runS (As := [.long (Int32.toInt64 n3), .long (0 : Int64), .long (999999999 : Int64)]) (rest := []) ⟨hx, hb, hml, hown, hts⟩ (c_X9_in l D cI cZ (Array.size H) (Int32.toInt64 n3) (0 : Int64) (999999999 : Int64) _ h) (va_cwS 3 hts gX9_after_X9_in rfl rfl rfl (by decide +kernel) ⟨Nat.le_of_ble_eq_true rfl, Nat.le_of_ble_eq_true rfl⟩) (preS_of hP hD hK [] rfl rfl) rfl rfl hl.1 rfl (lv_room (Nat.le_of_ble_eq_true rfl)) dX9_after_17 ⟨Nat.zero_le _, Nat.zero_le _⟩) hP hD hS hA [] rfl ((cw_X9_after cI cZ o o_readPurses o_readDay o_purses o_daily o_text o_row o_tried o_days o_order o_bestOrder o_seenHad o_seenShared o_isKept o_keptPurses o_keptRow o_keptHad o_keptShared o_keptRest v_readLaw v_readMany v_readMeetings v_law v_many v_meetings v_length v_at v_faultAt v_one v_other v_made v_leads v_rings v_seen a_purses)) (rfl) (rfl) (fun r17 H locs h hP hD hS => ?_)
    refine lv_if_ne (tgt := 26) hx hb dX9_after_20 (by decide) (fun c20 => ?_) (fun c20 => ?_)
    · have h := h.1 c20
      refine lv_iload_n hx hb dX9_after_26 rfl (lv_at hl 1 rfl) ?_
      refine lv_iload_n hx hb dX9_after_27 rfl (lv_at hl 2 rfl) ?_
      refine lv_icmp_ne (tgt := 34) hx hb dX9_after_28 (by decide) (fun c28 => ?_) (fun c28 => ?_)
      · have h := h.1 c28
        refine lv_aload_n hx hb dX9_after_34 rfl (lv_at hl 0 rfl) ?_
        refine lv_iload_n hx hb dX9_after_35 rfl (lv_at hl 1 rfl) ?_
        refine lv_iload_n hx hb dX9_after_36 rfl (lv_at hl 2 rfl) ?_
        refine lv_iload_n hx hb dX9_after_37 rfl (lv_at hl 3 rfl) ?_
        refine call_i4 (va_runV (As := [.int n1, .int n2, .int n3]) (rest := []) ⟨hx, hb, hml, hown, hts⟩ (c_X9_goOn l D cI cZ o o_readPurses o_readDay o_purses o_daily o_text o_row o_tried o_days o_order o_bestOrder o_seenHad o_seenShared o_isKept o_keptPurses o_keptRow o_keptHad o_keptShared o_keptRest (Array.size H) n1 n2 n3 v_readLaw v_readMany v_readMeetings v_law v_many v_meetings v_length v_at v_faultAt v_one v_other v_made v_leads v_rings v_seen a_purses _ h) (cwV 3 hts gX9_after_X9_goOn rfl rfl rfl (by decide +kernel) ⟨Nat.le_of_ble_eq_true rfl, Nat.le_of_ble_eq_true rfl⟩) (preV_of hP hD hK [0, 1] rfl rfl 0 9 rfl rfl rfl) rfl rfl hl.1 rfl (lv_room (Nat.le_of_ble_eq_true rfl)) dX9_after_38 ⟨Nat.zero_le _, Nat.zero_le _⟩) hP hD hS hA [0, 1] rfl (fun v_one_38 v_other_38 v_leads_38 v_rings_38 => (cw_X9_after cI cZ o o_readPurses o_readDay o_purses o_daily o_text o_row o_tried o_days o_order o_bestOrder o_seenHad o_seenShared o_isKept o_keptPurses o_keptRow o_keptHad o_keptShared o_keptRest v_readLaw v_readMany v_readMeetings v_law v_many v_meetings v_length v_at v_faultAt v_one_38 v_other_38 v_made v_leads_38 v_rings_38 v_seen a_purses)) (fun _ _ _ _ => rfl) (fun _ _ _ _ => rfl) (fun r38 v_one_38 v_other_38 v_leads_38 v_rings_38 H locs h hP hD hS => ?_)
        refine lv_istore (lv' := [(4, .int r38), (0, .ref o), (1, .int n1), (2, .int n2), (3, .int n3)]) hx hb dX9_after_41 hl (by decide) rfl (fun ls hl => ?_)
        refine lv_aload_n hx hb dX9_after_43 rfl (lv_at hl 1 rfl) ?_
        refine va_get (D := D) (ci := 9) (v := .int v_rings_38) (C := RX9) (T := TX9) (N := 33) hx hb hts inw_X9_after_X9 hown hK.1 hP 0 rfl rfl 20 (by decide) (hts (.fieldLink RX9 154 "PursesShareModel" "rings" "I") (by decide +kernel)) (fun _ h9 => h9) rfl dX9_after_44 ?_
        refine lv_iconst (v := 2) hx hb dX9_after_47 (by decide) ?_
        refine lv_icmp_ne (tgt := 73) hx hb dX9_after_48 (by decide) (fun c48 => ?_) (fun c48 => ?_)
        · have h := h.1 c48
          refine lv_aload_n hx hb dX9_after_73 rfl (lv_at hl 1 rfl) ?_
          refine va_get (D := D) (ci := 9) (v := .int v_one_38) (C := RX9) (T := TX9) (N := 33) hx hb hts inw_X9_after_X9 hown hK.1 hP 0 rfl rfl 14 (by decide) (hts (.fieldLink RX9 123 "PursesShareModel" "one" "I") (by decide +kernel)) (fun _ h9 => h9) rfl dX9_after_74 ?_
          exact ret_i4 hx hb hr hlocks hQ hS v_one_38 v_other_38 v_leads_38 v_rings_38 hP h dX9_after_77
        · have h := h.2 c48
          refine lv_iload_n hx hb dX9_after_51 rfl (lv_at hl 4 rfl) ?_
          refine lv_iload hx hb dX9_after_52 (lv_at hl 0 rfl) ?_
          refine lv_isub hx hb dX9_after_54 ?_
          refine lv_iconst (v := 2) hx hb dX9_after_55 (by decide) ?_
          refine lv_irem hx hb dX9_after_56 (by decide) ?_
          refine lv_iconst (v := 1) hx hb dX9_after_57 (by decide) ?_
          refine lv_icmp_ne (tgt := 73) hx hb dX9_after_58 (by decide) (fun c58 => ?_) (fun c58 => ?_)
          · have h := h.1 c58
            refine lv_aload_n hx hb dX9_after_73 rfl (lv_at hl 1 rfl) ?_
            refine va_get (D := D) (ci := 9) (v := .int v_one_38) (C := RX9) (T := TX9) (N := 33) hx hb hts inw_X9_after_X9 hown hK.1 hP 0 rfl rfl 14 (by decide) (hts (.fieldLink RX9 123 "PursesShareModel" "one" "I") (by decide +kernel)) (fun _ h9 => h9) rfl dX9_after_74 ?_
            exact ret_i4 hx hb hr hlocks hQ hS v_one_38 v_other_38 v_leads_38 v_rings_38 hP h dX9_after_77
          · have h := h.2 c58
            refine lv_aload_n hx hb dX9_after_61 rfl (lv_at hl 1 rfl) ?_
            refine lv_aload_n hx hb dX9_after_62 rfl (lv_at hl 1 rfl) ?_
            refine va_get (D := D) (ci := 9) (v := .int v_one_38) (C := RX9) (T := TX9) (N := 33) hx hb hts inw_X9_after_X9 hown hK.1 hP 0 rfl rfl 14 (by decide) (hts (.fieldLink RX9 123 "PursesShareModel" "one" "I") (by decide +kernel)) (fun _ h9 => h9) rfl dX9_after_63 ?_
            refine lv_aload_n hx hb dX9_after_66 rfl (lv_at hl 1 rfl) ?_
            refine va_get (D := D) (ci := 9) (v := .int v_other_38) (C := RX9) (T := TX9) (N := 33) hx hb hts inw_X9_after_X9 hown hK.1 hP 0 rfl rfl 15 (by decide) (hts (.fieldLink RX9 126 "PursesShareModel" "other" "I") (by decide +kernel)) (fun _ h9 => h9) rfl dX9_after_67 ?_
            refine call_v2 (va_runV (As := [.int v_one_38, .int v_other_38]) (rest := []) ⟨hx, hb, hml, hown, hts⟩ (c_X9_meetTwo l D cI cZ o o_readPurses o_readDay o_purses o_daily o_text o_row o_tried o_days o_order o_bestOrder o_seenHad o_seenShared o_isKept o_keptPurses o_keptRow o_keptHad o_keptShared o_keptRest (Array.size H) v_one_38 v_other_38 v_readLaw v_readMany v_readMeetings v_law v_many v_meetings v_length v_at v_faultAt v_one_38 v_other_38 v_made v_leads_38 v_rings_38 v_seen _ h) (cwV 2 hts gX9_after_X9_meetTwo rfl rfl rfl (by decide +kernel) ⟨Nat.le_of_ble_eq_true rfl, Nat.le_of_ble_eq_true rfl⟩) (preV_of hP hD hK [0] rfl rfl 0 9 rfl rfl rfl) rfl rfl hl.1 rfl (lv_room (Nat.le_of_ble_eq_true rfl)) dX9_after_70 ⟨Nat.zero_le _, Nat.zero_le _⟩) hP hD hS hA [0] rfl (fun v_one_70 v_other_70 => (cw_X9_after cI cZ o o_readPurses o_readDay o_purses o_daily o_text o_row o_tried o_days o_order o_bestOrder o_seenHad o_seenShared o_isKept o_keptPurses o_keptRow o_keptHad o_keptShared o_keptRest v_readLaw v_readMany v_readMeetings v_law v_many v_meetings v_length v_at v_faultAt v_one_70 v_other_70 v_made v_leads_38 v_rings_38 v_seen a_purses)) (fun _ _ => rfl) (fun _ _ => rfl) (fun v_one_70 v_other_70 H locs h hP hD hS => ?_)
            refine lv_aload_n hx hb dX9_after_73 rfl (lv_at hl 1 rfl) ?_
            refine va_get (D := D) (ci := 9) (v := .int v_one_70) (C := RX9) (T := TX9) (N := 33) hx hb hts inw_X9_after_X9 hown hK.1 hP 0 rfl rfl 14 (by decide) (hts (.fieldLink RX9 123 "PursesShareModel" "one" "I") (by decide +kernel)) (fun _ h9 => h9) rfl dX9_after_74 ?_
            exact ret_i4 hx hb hr hlocks hQ hS v_one_70 v_other_70 v_leads_38 v_rings_38 hP h dX9_after_77
      · have h := h.2 c28
        refine lv_bipush (v := -3) hx hb dX9_after_31 (by decide) ?_
        exact ret_i4 hx hb hr hlocks hQ hS v_one v_other v_leads v_rings hP h dX9_after_33
    · have h := h.2 c20
      refine lv_bipush (v := -2) hx hb dX9_after_23 (by decide) ?_
      exact ret_i4 hx hb hr hlocks hQ hS v_one v_other v_leads v_rings hP h dX9_after_25
  · have h := h.2 c6
    refine lv_iconst (v := -1) hx hb dX9_after_9 (by decide) ?_
    exact ret_i4 hx hb hr hlocks hQ hS v_one v_other v_leads v_rings hP h dX9_after_10
abbrev rm_X9_ring : Room := { frames := 3, cells := 0, slots := 0, locals := 76 }
abbrev cw_X9_ring (cI cZ : ClassId) (o o_readPurses o_readDay o_purses o_daily o_text o_row o_tried o_days o_order o_bestOrder o_seenHad o_seenShared o_isKept o_keptPurses o_keptRow o_keptHad o_keptShared o_keptRest : Nat) (v_readLaw : Int32) (v_readMany : Int32) (v_readMeetings : Int32) (v_law : Int32) (v_many : Int32) (v_meetings : Int32) (v_length : Int32) (v_at : Int32) (v_faultAt : Int32) (v_one : Int32) (v_other : Int32) (v_made : Int32) (v_leads : Int32) (v_rings : Int32) (v_seen : Int32) (a_purses : Nat → Int32) : va_W := [(o, .inr (9, [.ref o_readPurses, .ref o_readDay, .int v_readLaw, .int v_readMany, .int v_readMeetings, .ref o_purses, .ref o_daily, .int v_law, .int v_many, .int v_meetings, .ref o_text, .int v_length, .int v_at, .int v_faultAt, .int v_one, .int v_other, .int v_made, .ref o_row, .ref o_tried, .int v_leads, .int v_rings, .ref o_days, .ref o_order, .ref o_bestOrder, .int v_seen, .ref o_seenHad, .ref o_seenShared, .ref o_isKept, .ref o_keptPurses, .ref o_keptRow, .ref o_keptHad, .ref o_keptShared, .ref o_keptRest])), (o_purses, .inl (cI, 8, .inl a_purses))]
theorem inw_X9_ring_X9 : ∀ w ∈ u_ws RX9 TX9 33, w ∈ wsX9_ring := by decide +kernel
def wp_X9_ring (n1 : Int32) (n2 : Int32) (v_law : Int32) (v_many : Int32) (v_one : Int32) (v_other : Int32) (v_leads : Int32) (v_rings : Int32) (a_purses : Nat → Int32) (Post : Int32 → (Int32) → (Int32) → (Int32) → (Int32) → Prop) : Prop := (wp_X9_areTwo n1 n2 v_many (fun (r3 : Int32) => ((¬ r3 = 0 → ((¬ n1 = n2 → (wp_X9_goOn n1 n2 (1000000000 : Int32) v_law v_one v_other v_leads v_rings a_purses (fun (r24 : Int32) (v_one_24 : Int32) (v_other_24 : Int32) (v_leads_24 : Int32) (v_rings_24 : Int32) => (Post v_rings_24 v_one_24 v_other_24 v_leads_24 v_rings_24)))) ∧ (n1 = n2 → (Post (-3 : Int32) v_one v_other v_leads v_rings)))) ∧ (r3 = 0 → (Post (-1 : Int32) v_one v_other v_leads v_rings)))))
set_option maxHeartbeats 4000000 in
set_option maxRecDepth 100000 in
theorem c_X9_ring (l : Launch) (D : va_G) (cI cZ : ClassId) (o o_readPurses o_readDay o_purses o_daily o_text o_row o_tried o_days o_order o_bestOrder o_seenHad o_seenShared o_isKept o_keptPurses o_keptRow o_keptHad o_keptShared o_keptRest : Nat) (sz : Nat) (n1 : Int32) (n2 : Int32) (v_readLaw : Int32) (v_readMany : Int32) (v_readMeetings : Int32) (v_law : Int32) (v_many : Int32) (v_meetings : Int32) (v_length : Int32) (v_at : Int32) (v_faultAt : Int32) (v_one : Int32) (v_other : Int32) (v_made : Int32) (v_leads : Int32) (v_rings : Int32) (v_seen : Int32) (a_purses : Nat → Int32) (Post : Int32 → (Int32) → (Int32) → (Int32) → (Int32) → Prop) (h : wp_X9_ring n1 n2 v_law v_many v_one v_other v_leads v_rings a_purses Post) : Met l yX9_ring wsX9_ring rm_X9_ring (cPc D cI cZ [.ref o, .int n1, .int n2] (cw_X9_ring cI cZ o o_readPurses o_readDay o_purses o_daily o_text o_row o_tried o_days o_order o_bestOrder o_seenHad o_seenShared o_isKept o_keptPurses o_keptRow o_keptHad o_keptShared o_keptRest v_readLaw v_readMany v_readMeetings v_law v_many v_meetings v_length v_at v_faultAt v_one v_other v_made v_leads v_rings v_seen a_purses) sz) (cQi4 D Post (fun m_v_one m_v_other m_v_leads m_v_rings => (cw_X9_ring cI cZ o o_readPurses o_readDay o_purses o_daily o_text o_row o_tried o_days o_order o_bestOrder o_seenHad o_seenShared o_isKept o_keptPurses o_keptRow o_keptHad o_keptShared o_keptRest v_readLaw v_readMany v_readMeetings v_law v_many v_meetings v_length v_at v_faultAt m_v_one m_v_other v_made m_v_leads m_v_rings v_seen a_purses)) (va_A (cw_X9_ring cI cZ o o_readPurses o_readDay o_purses o_daily o_text o_row o_tried o_days o_order o_bestOrder o_seenHad o_seenShared o_isKept o_keptPurses o_keptRow o_keptHad o_keptShared o_keptRest v_readLaw v_readMany v_readMeetings v_law v_many v_meetings v_length v_at v_faultAt v_one v_other v_made v_leads v_rings v_seen a_purses) sz)) 0 0 (va_A (cw_X9_ring cI cZ o o_readPurses o_readDay o_purses o_daily o_text o_row o_tried o_days o_order o_bestOrder o_seenHad o_seenShared o_isKept o_keptPurses o_keptRow o_keptHad o_keptShared o_keptRest v_readLaw v_readMany v_readMeetings v_law v_many v_meetings v_length v_at v_faultAt v_one v_other v_made v_leads v_rings v_seen a_purses) sz) := by
  refine ent (cc := cX9_ring) (maxL := 3) (ret := (some .int)) (Qc := fun A => cQi4 D Post (fun m_v_one m_v_other m_v_leads m_v_rings => (cw_X9_ring cI cZ o o_readPurses o_readDay o_purses o_daily o_text o_row o_tried o_days o_order o_bestOrder o_seenHad o_seenShared o_isKept o_keptPurses o_keptRow o_keptHad o_keptShared o_keptRest v_readLaw v_readMany v_readMeetings v_law v_many v_meetings v_length v_at v_faultAt m_v_one m_v_other v_made m_v_leads m_v_rings v_seen a_purses)) A) (by decide) rfl (Nat.le_of_ble_eq_true rfl) ?_
  intro p e s m args below meth c A ls Q hQ hsz hx hb hml hr hts hown hlocks hnm hK hP hD hA hS hl
  have hl : lv_has ls 3 [(0, .ref o), (1, .int n1), (2, .int n2)] := hl
  unfold wp_X9_ring at h
  refine lv_aload_n hx hb dX9_ring_0 rfl (lv_at hl 0 rfl) ?_
  refine lv_iload_n hx hb dX9_ring_1 rfl (lv_at hl 1 rfl) ?_
  refine lv_iload_n hx hb dX9_ring_2 rfl (lv_at hl 2 rfl) ?_
  refine call_i0 (va_runV (As := [.int n1, .int n2]) (rest := []) ⟨hx, hb, hml, hown, hts⟩ (c_X9_areTwo l D cI cZ o o_readPurses o_readDay o_purses o_daily o_text o_row o_tried o_days o_order o_bestOrder o_seenHad o_seenShared o_isKept o_keptPurses o_keptRow o_keptHad o_keptShared o_keptRest (Array.size s.heap) n1 n2 v_readLaw v_readMany v_readMeetings v_law v_many v_meetings v_length v_at v_faultAt v_one v_other v_made v_leads v_rings v_seen _ h) (cwV 2 hts gX9_ring_X9_areTwo rfl rfl rfl (by decide +kernel) ⟨Nat.le_of_ble_eq_true rfl, Nat.le_of_ble_eq_true rfl⟩) (preV_of hP hD hK [0] rfl rfl 0 9 rfl rfl rfl) rfl rfl hl.1 rfl (lv_room (Nat.le_of_ble_eq_true rfl)) dX9_ring_3 ⟨Nat.zero_le _, Nat.zero_le _⟩) hP hD hS hA [0] rfl ((cw_X9_ring cI cZ o o_readPurses o_readDay o_purses o_daily o_text o_row o_tried o_days o_order o_bestOrder o_seenHad o_seenShared o_isKept o_keptPurses o_keptRow o_keptHad o_keptShared o_keptRest v_readLaw v_readMany v_readMeetings v_law v_many v_meetings v_length v_at v_faultAt v_one v_other v_made v_leads v_rings v_seen a_purses)) (rfl) (rfl) (fun r3 H locs h hP hD hS => ?_)
  refine lv_if_ne (tgt := 11) hx hb dX9_ring_6 (by decide) (fun c6 => ?_) (fun c6 => ?_)
  · have h := h.1 c6
    refine lv_iload_n hx hb dX9_ring_11 rfl (lv_at hl 1 rfl) ?_
    refine lv_iload_n hx hb dX9_ring_12 rfl (lv_at hl 2 rfl) ?_
    refine lv_icmp_ne (tgt := 19) hx hb dX9_ring_13 (by decide) (fun c13 => ?_) (fun c13 => ?_)
    · have h := h.1 c13
      refine lv_aload_n hx hb dX9_ring_19 rfl (lv_at hl 0 rfl) ?_
      refine lv_iload_n hx hb dX9_ring_20 rfl (lv_at hl 1 rfl) ?_
      refine lv_iload_n hx hb dX9_ring_21 rfl (lv_at hl 2 rfl) ?_
      refine lv_ldc (own := RX9) (index := 163) (v := 1000000000) hx hb hown (hts (.constant RX9 163 (1000000000)) (by decide +kernel)) dX9_ring_22 ?_
      refine call_i4 (va_runV (As := [.int n1, .int n2, .int (1000000000 : Int32)]) (rest := []) ⟨hx, hb, hml, hown, hts⟩ (c_X9_goOn l D cI cZ o o_readPurses o_readDay o_purses o_daily o_text o_row o_tried o_days o_order o_bestOrder o_seenHad o_seenShared o_isKept o_keptPurses o_keptRow o_keptHad o_keptShared o_keptRest (Array.size H) n1 n2 (1000000000 : Int32) v_readLaw v_readMany v_readMeetings v_law v_many v_meetings v_length v_at v_faultAt v_one v_other v_made v_leads v_rings v_seen a_purses _ h) (cwV 3 hts gX9_ring_X9_goOn rfl rfl rfl (by decide +kernel) ⟨Nat.le_of_ble_eq_true rfl, Nat.le_of_ble_eq_true rfl⟩) (preV_of hP hD hK [0, 1] rfl rfl 0 9 rfl rfl rfl) rfl rfl hl.1 rfl (lv_room (Nat.le_of_ble_eq_true rfl)) dX9_ring_24 ⟨Nat.zero_le _, Nat.zero_le _⟩) hP hD hS hA [0, 1] rfl (fun v_one_24 v_other_24 v_leads_24 v_rings_24 => (cw_X9_ring cI cZ o o_readPurses o_readDay o_purses o_daily o_text o_row o_tried o_days o_order o_bestOrder o_seenHad o_seenShared o_isKept o_keptPurses o_keptRow o_keptHad o_keptShared o_keptRest v_readLaw v_readMany v_readMeetings v_law v_many v_meetings v_length v_at v_faultAt v_one_24 v_other_24 v_made v_leads_24 v_rings_24 v_seen a_purses)) (fun _ _ _ _ => rfl) (fun _ _ _ _ => rfl) (fun r24 v_one_24 v_other_24 v_leads_24 v_rings_24 H locs h hP hD hS => ?_)
      refine lv_pop hx hb dX9_ring_27 rfl ?_
      refine lv_aload_n hx hb dX9_ring_28 rfl (lv_at hl 0 rfl) ?_
      refine va_get (D := D) (ci := 9) (v := .int v_rings_24) (C := RX9) (T := TX9) (N := 33) hx hb hts inw_X9_ring_X9 hown hK.1 hP 0 rfl rfl 20 (by decide) (hts (.fieldLink RX9 154 "PursesShareModel" "rings" "I") (by decide +kernel)) (fun _ h9 => h9) rfl dX9_ring_29 ?_
      exact ret_i4 hx hb hr hlocks hQ hS v_one_24 v_other_24 v_leads_24 v_rings_24 hP h dX9_ring_32
    · have h := h.2 c13
      refine lv_bipush (v := -3) hx hb dX9_ring_16 (by decide) ?_
      exact ret_i4 hx hb hr hlocks hQ hS v_one v_other v_leads v_rings hP h dX9_ring_18
  · have h := h.2 c6
    refine lv_iconst (v := -1) hx hb dX9_ring_9 (by decide) ?_
    exact ret_i4 hx hb hr hlocks hQ hS v_one v_other v_leads v_rings hP h dX9_ring_10
abbrev rm_X9_lead : Room := { frames := 3, cells := 0, slots := 0, locals := 76 }
abbrev cw_X9_lead (cI cZ : ClassId) (o o_readPurses o_readDay o_purses o_daily o_text o_row o_tried o_days o_order o_bestOrder o_seenHad o_seenShared o_isKept o_keptPurses o_keptRow o_keptHad o_keptShared o_keptRest : Nat) (v_readLaw : Int32) (v_readMany : Int32) (v_readMeetings : Int32) (v_law : Int32) (v_many : Int32) (v_meetings : Int32) (v_length : Int32) (v_at : Int32) (v_faultAt : Int32) (v_one : Int32) (v_other : Int32) (v_made : Int32) (v_leads : Int32) (v_rings : Int32) (v_seen : Int32) (a_purses : Nat → Int32) : va_W := [(o, .inr (9, [.ref o_readPurses, .ref o_readDay, .int v_readLaw, .int v_readMany, .int v_readMeetings, .ref o_purses, .ref o_daily, .int v_law, .int v_many, .int v_meetings, .ref o_text, .int v_length, .int v_at, .int v_faultAt, .int v_one, .int v_other, .int v_made, .ref o_row, .ref o_tried, .int v_leads, .int v_rings, .ref o_days, .ref o_order, .ref o_bestOrder, .int v_seen, .ref o_seenHad, .ref o_seenShared, .ref o_isKept, .ref o_keptPurses, .ref o_keptRow, .ref o_keptHad, .ref o_keptShared, .ref o_keptRest])), (o_purses, .inl (cI, 8, .inl a_purses))]
def wp_X9_lead (n1 : Int32) (n2 : Int32) (v_law : Int32) (v_many : Int32) (v_one : Int32) (v_other : Int32) (v_leads : Int32) (v_rings : Int32) (a_purses : Nat → Int32) (Post : Int32 → (Int32) → (Int32) → (Int32) → (Int32) → Prop) : Prop := (wp_X9_areTwo n1 n2 v_many (fun (r3 : Int32) => ((¬ r3 = 0 → ((¬ n1 = n2 → (wp_X9_goOn n1 n2 (1000000000 : Int32) v_law v_one v_other v_leads v_rings a_purses (fun (r26 : Int32) (v_one_26 : Int32) (v_other_26 : Int32) (v_leads_26 : Int32) (v_rings_26 : Int32) => (Post r26 v_one_26 v_other_26 v_leads_26 v_rings_26)))) ∧ (n1 = n2 → (Post (-3 : Int32) v_one v_other v_leads v_rings)))) ∧ (r3 = 0 → (Post (-1 : Int32) v_one v_other v_leads v_rings)))))
set_option maxHeartbeats 4000000 in
set_option maxRecDepth 100000 in
theorem c_X9_lead (l : Launch) (D : va_G) (cI cZ : ClassId) (o o_readPurses o_readDay o_purses o_daily o_text o_row o_tried o_days o_order o_bestOrder o_seenHad o_seenShared o_isKept o_keptPurses o_keptRow o_keptHad o_keptShared o_keptRest : Nat) (sz : Nat) (n1 : Int32) (n2 : Int32) (v_readLaw : Int32) (v_readMany : Int32) (v_readMeetings : Int32) (v_law : Int32) (v_many : Int32) (v_meetings : Int32) (v_length : Int32) (v_at : Int32) (v_faultAt : Int32) (v_one : Int32) (v_other : Int32) (v_made : Int32) (v_leads : Int32) (v_rings : Int32) (v_seen : Int32) (a_purses : Nat → Int32) (Post : Int32 → (Int32) → (Int32) → (Int32) → (Int32) → Prop) (h : wp_X9_lead n1 n2 v_law v_many v_one v_other v_leads v_rings a_purses Post) : Met l yX9_lead wsX9_lead rm_X9_lead (cPc D cI cZ [.ref o, .int n1, .int n2] (cw_X9_lead cI cZ o o_readPurses o_readDay o_purses o_daily o_text o_row o_tried o_days o_order o_bestOrder o_seenHad o_seenShared o_isKept o_keptPurses o_keptRow o_keptHad o_keptShared o_keptRest v_readLaw v_readMany v_readMeetings v_law v_many v_meetings v_length v_at v_faultAt v_one v_other v_made v_leads v_rings v_seen a_purses) sz) (cQi4 D Post (fun m_v_one m_v_other m_v_leads m_v_rings => (cw_X9_lead cI cZ o o_readPurses o_readDay o_purses o_daily o_text o_row o_tried o_days o_order o_bestOrder o_seenHad o_seenShared o_isKept o_keptPurses o_keptRow o_keptHad o_keptShared o_keptRest v_readLaw v_readMany v_readMeetings v_law v_many v_meetings v_length v_at v_faultAt m_v_one m_v_other v_made m_v_leads m_v_rings v_seen a_purses)) (va_A (cw_X9_lead cI cZ o o_readPurses o_readDay o_purses o_daily o_text o_row o_tried o_days o_order o_bestOrder o_seenHad o_seenShared o_isKept o_keptPurses o_keptRow o_keptHad o_keptShared o_keptRest v_readLaw v_readMany v_readMeetings v_law v_many v_meetings v_length v_at v_faultAt v_one v_other v_made v_leads v_rings v_seen a_purses) sz)) 0 0 (va_A (cw_X9_lead cI cZ o o_readPurses o_readDay o_purses o_daily o_text o_row o_tried o_days o_order o_bestOrder o_seenHad o_seenShared o_isKept o_keptPurses o_keptRow o_keptHad o_keptShared o_keptRest v_readLaw v_readMany v_readMeetings v_law v_many v_meetings v_length v_at v_faultAt v_one v_other v_made v_leads v_rings v_seen a_purses) sz) := by
  refine ent (cc := cX9_lead) (maxL := 3) (ret := (some .int)) (Qc := fun A => cQi4 D Post (fun m_v_one m_v_other m_v_leads m_v_rings => (cw_X9_lead cI cZ o o_readPurses o_readDay o_purses o_daily o_text o_row o_tried o_days o_order o_bestOrder o_seenHad o_seenShared o_isKept o_keptPurses o_keptRow o_keptHad o_keptShared o_keptRest v_readLaw v_readMany v_readMeetings v_law v_many v_meetings v_length v_at v_faultAt m_v_one m_v_other v_made m_v_leads m_v_rings v_seen a_purses)) A) (by decide) rfl (Nat.le_of_ble_eq_true rfl) ?_
  intro p e s m args below meth c A ls Q hQ hsz hx hb hml hr hts hown hlocks hnm hK hP hD hA hS hl
  have hl : lv_has ls 3 [(0, .ref o), (1, .int n1), (2, .int n2)] := hl
  unfold wp_X9_lead at h
  refine lv_aload_n hx hb dX9_lead_0 rfl (lv_at hl 0 rfl) ?_
  refine lv_iload_n hx hb dX9_lead_1 rfl (lv_at hl 1 rfl) ?_
  refine lv_iload_n hx hb dX9_lead_2 rfl (lv_at hl 2 rfl) ?_
  refine call_i0 (va_runV (As := [.int n1, .int n2]) (rest := []) ⟨hx, hb, hml, hown, hts⟩ (c_X9_areTwo l D cI cZ o o_readPurses o_readDay o_purses o_daily o_text o_row o_tried o_days o_order o_bestOrder o_seenHad o_seenShared o_isKept o_keptPurses o_keptRow o_keptHad o_keptShared o_keptRest (Array.size s.heap) n1 n2 v_readLaw v_readMany v_readMeetings v_law v_many v_meetings v_length v_at v_faultAt v_one v_other v_made v_leads v_rings v_seen _ h) (cwV 2 hts gX9_lead_X9_areTwo rfl rfl rfl (by decide +kernel) ⟨Nat.le_of_ble_eq_true rfl, Nat.le_of_ble_eq_true rfl⟩) (preV_of hP hD hK [0] rfl rfl 0 9 rfl rfl rfl) rfl rfl hl.1 rfl (lv_room (Nat.le_of_ble_eq_true rfl)) dX9_lead_3 ⟨Nat.zero_le _, Nat.zero_le _⟩) hP hD hS hA [0] rfl ((cw_X9_lead cI cZ o o_readPurses o_readDay o_purses o_daily o_text o_row o_tried o_days o_order o_bestOrder o_seenHad o_seenShared o_isKept o_keptPurses o_keptRow o_keptHad o_keptShared o_keptRest v_readLaw v_readMany v_readMeetings v_law v_many v_meetings v_length v_at v_faultAt v_one v_other v_made v_leads v_rings v_seen a_purses)) (rfl) (rfl) (fun r3 H locs h hP hD hS => ?_)
  refine lv_if_ne (tgt := 11) hx hb dX9_lead_6 (by decide) (fun c6 => ?_) (fun c6 => ?_)
  · have h := h.1 c6
    refine lv_iload_n hx hb dX9_lead_11 rfl (lv_at hl 1 rfl) ?_
    refine lv_iload_n hx hb dX9_lead_12 rfl (lv_at hl 2 rfl) ?_
    refine lv_icmp_ne (tgt := 21) hx hb dX9_lead_13 (by decide) (fun c13 => ?_) (fun c13 => ?_)
    · have h := h.1 c13
      refine lv_aload_n hx hb dX9_lead_21 rfl (lv_at hl 0 rfl) ?_
      refine lv_iload_n hx hb dX9_lead_22 rfl (lv_at hl 1 rfl) ?_
      refine lv_iload_n hx hb dX9_lead_23 rfl (lv_at hl 2 rfl) ?_
      refine lv_ldc (own := RX9) (index := 163) (v := 1000000000) hx hb hown (hts (.constant RX9 163 (1000000000)) (by decide +kernel)) dX9_lead_24 ?_
      refine call_i4 (va_runV (As := [.int n1, .int n2, .int (1000000000 : Int32)]) (rest := []) ⟨hx, hb, hml, hown, hts⟩ (c_X9_goOn l D cI cZ o o_readPurses o_readDay o_purses o_daily o_text o_row o_tried o_days o_order o_bestOrder o_seenHad o_seenShared o_isKept o_keptPurses o_keptRow o_keptHad o_keptShared o_keptRest (Array.size H) n1 n2 (1000000000 : Int32) v_readLaw v_readMany v_readMeetings v_law v_many v_meetings v_length v_at v_faultAt v_one v_other v_made v_leads v_rings v_seen a_purses _ h) (cwV 3 hts gX9_lead_X9_goOn rfl rfl rfl (by decide +kernel) ⟨Nat.le_of_ble_eq_true rfl, Nat.le_of_ble_eq_true rfl⟩) (preV_of hP hD hK [0, 1] rfl rfl 0 9 rfl rfl rfl) rfl rfl hl.1 rfl (lv_room (Nat.le_of_ble_eq_true rfl)) dX9_lead_26 ⟨Nat.zero_le _, Nat.zero_le _⟩) hP hD hS hA [0, 1] rfl (fun v_one_26 v_other_26 v_leads_26 v_rings_26 => (cw_X9_lead cI cZ o o_readPurses o_readDay o_purses o_daily o_text o_row o_tried o_days o_order o_bestOrder o_seenHad o_seenShared o_isKept o_keptPurses o_keptRow o_keptHad o_keptShared o_keptRest v_readLaw v_readMany v_readMeetings v_law v_many v_meetings v_length v_at v_faultAt v_one_26 v_other_26 v_made v_leads_26 v_rings_26 v_seen a_purses)) (fun _ _ _ _ => rfl) (fun _ _ _ _ => rfl) (fun r26 v_one_26 v_other_26 v_leads_26 v_rings_26 H locs h hP hD hS => ?_)
      exact ret_i4 hx hb hr hlocks hQ hS v_one_26 v_other_26 v_leads_26 v_rings_26 hP h dX9_lead_29
    · have h := h.2 c13
      refine lv_bipush (v := -3) hx hb dX9_lead_16 (by decide) ?_
      refine lv_goto (tgt := 29) hx hb dX9_lead_18 (by decide) ?_
      exact ret_i4 hx hb hr hlocks hQ hS v_one v_other v_leads v_rings hP h dX9_lead_29
  · have h := h.2 c6
    refine lv_iconst (v := -1) hx hb dX9_lead_9 (by decide) ?_
    exact ret_i4 hx hb hr hlocks hQ hS v_one v_other v_leads v_rings hP h dX9_lead_10
abbrev rm_X9_later : Room := { frames := 4, cells := 0, slots := 0, locals := 95 }
abbrev cw_X9_later (cI cZ : ClassId) (o o_readPurses o_readDay o_purses o_daily o_text o_row o_tried o_days o_order o_bestOrder o_seenHad o_seenShared o_isKept o_keptPurses o_keptRow o_keptHad o_keptShared o_keptRest : Nat) (v_readLaw : Int32) (v_readMany : Int32) (v_readMeetings : Int32) (v_law : Int32) (v_many : Int32) (v_meetings : Int32) (v_length : Int32) (v_at : Int32) (v_faultAt : Int32) (v_one : Int32) (v_other : Int32) (v_made : Int32) (v_leads : Int32) (v_rings : Int32) (v_seen : Int32) (a_purses : Nat → Int32) (a_daily : Nat → Int32) (a_tried : Nat → Int32) : va_W := [(o, .inr (9, [.ref o_readPurses, .ref o_readDay, .int v_readLaw, .int v_readMany, .int v_readMeetings, .ref o_purses, .ref o_daily, .int v_law, .int v_many, .int v_meetings, .ref o_text, .int v_length, .int v_at, .int v_faultAt, .int v_one, .int v_other, .int v_made, .ref o_row, .ref o_tried, .int v_leads, .int v_rings, .ref o_days, .ref o_order, .ref o_bestOrder, .int v_seen, .ref o_seenHad, .ref o_seenShared, .ref o_isKept, .ref o_keptPurses, .ref o_keptRow, .ref o_keptHad, .ref o_keptShared, .ref o_keptRest])), (o_purses, .inl (cI, 8, .inl a_purses)), (o_daily, .inl (cI, 32, .inl a_daily)), (o_tried, .inl (cI, 8, .inl a_tried))]
theorem inw_X9_later_X9 : ∀ w ∈ u_ws RX9 TX9 33, w ∈ wsX9_later := by decide +kernel
def wp_X9_later (n1 : Int32) (n2 : Int32) (v_law : Int32) (v_many : Int32) (v_meetings : Int32) (v_one : Int32) (v_other : Int32) (a_purses : Nat → Int32) (a_daily : Nat → Int32) (a_tried : Nat → Int32) (Post : Int32 → (Int32) → (Int32) → (Nat → Int32) → Prop) : Prop := (wp_X9_isPerson n1 v_many (fun (r2 : Int32) => ((¬ r2 = 0 → (wp_X9_in (Int32.toInt64 n2) (0 : Int64) (300 : Int64) (fun (r16 : Int32) => ((¬ r16 = 0 → (wp_X9_takeTried a_purses a_tried (fun (a_tried_26 : Nat → Int32) => (∀ k31 : (Int32) → (Int32) → (Int32) → (Nat → Int32) → Prop, (∀ (x3_31 : Int32) (v_one_31 : Int32) (v_other_31 : Int32) (a_tried_31 : Nat → Int32), ((n2 ≤ x3_31 → (vp_in n1 8 ∧ (Post (a_tried_31 (Int32.toNatClampNeg n1)) v_one_31 v_other_31 a_tried_31))) ∧ (¬ n2 ≤ x3_31 → (wp_X9_tryDay v_law v_meetings v_one_31 v_other_31 a_daily a_tried_31 (fun (r37 : Int32) (v_one_37 : Int32) (v_other_37 : Int32) (a_tried_37 : Nat → Int32) => (k31 (x3_31 + 1) v_one_37 v_other_37 a_tried_37))))) → k31 x3_31 v_one_31 v_other_31 a_tried_31) → k31 (0 : Int32) v_one v_other a_tried_26)))) ∧ (r16 = 0 → (Post (-2 : Int32) v_one v_other a_tried)))))) ∧ (r2 = 0 → (Post (-1 : Int32) v_one v_other a_tried)))))
set_option maxHeartbeats 4000000 in
set_option maxRecDepth 100000 in
theorem c_X9_later (l : Launch) (D : va_G) (cI cZ : ClassId) (o o_readPurses o_readDay o_purses o_daily o_text o_row o_tried o_days o_order o_bestOrder o_seenHad o_seenShared o_isKept o_keptPurses o_keptRow o_keptHad o_keptShared o_keptRest : Nat) (sz : Nat) (n1 : Int32) (n2 : Int32) (v_readLaw : Int32) (v_readMany : Int32) (v_readMeetings : Int32) (v_law : Int32) (v_many : Int32) (v_meetings : Int32) (v_length : Int32) (v_at : Int32) (v_faultAt : Int32) (v_one : Int32) (v_other : Int32) (v_made : Int32) (v_leads : Int32) (v_rings : Int32) (v_seen : Int32) (a_purses : Nat → Int32) (a_daily : Nat → Int32) (a_tried : Nat → Int32) (Post : Int32 → (Int32) → (Int32) → (Nat → Int32) → Prop) (h : wp_X9_later n1 n2 v_law v_many v_meetings v_one v_other a_purses a_daily a_tried Post) : Met l yX9_later wsX9_later rm_X9_later (cPc D cI cZ [.ref o, .int n1, .int n2] (cw_X9_later cI cZ o o_readPurses o_readDay o_purses o_daily o_text o_row o_tried o_days o_order o_bestOrder o_seenHad o_seenShared o_isKept o_keptPurses o_keptRow o_keptHad o_keptShared o_keptRest v_readLaw v_readMany v_readMeetings v_law v_many v_meetings v_length v_at v_faultAt v_one v_other v_made v_leads v_rings v_seen a_purses a_daily a_tried) sz) (cQi3 D Post (fun m_v_one m_v_other m_a_tried => (cw_X9_later cI cZ o o_readPurses o_readDay o_purses o_daily o_text o_row o_tried o_days o_order o_bestOrder o_seenHad o_seenShared o_isKept o_keptPurses o_keptRow o_keptHad o_keptShared o_keptRest v_readLaw v_readMany v_readMeetings v_law v_many v_meetings v_length v_at v_faultAt m_v_one m_v_other v_made v_leads v_rings v_seen a_purses a_daily m_a_tried)) (va_A (cw_X9_later cI cZ o o_readPurses o_readDay o_purses o_daily o_text o_row o_tried o_days o_order o_bestOrder o_seenHad o_seenShared o_isKept o_keptPurses o_keptRow o_keptHad o_keptShared o_keptRest v_readLaw v_readMany v_readMeetings v_law v_many v_meetings v_length v_at v_faultAt v_one v_other v_made v_leads v_rings v_seen a_purses a_daily a_tried) sz)) 0 0 (va_A (cw_X9_later cI cZ o o_readPurses o_readDay o_purses o_daily o_text o_row o_tried o_days o_order o_bestOrder o_seenHad o_seenShared o_isKept o_keptPurses o_keptRow o_keptHad o_keptShared o_keptRest v_readLaw v_readMany v_readMeetings v_law v_many v_meetings v_length v_at v_faultAt v_one v_other v_made v_leads v_rings v_seen a_purses a_daily a_tried) sz) := by
  refine ent (cc := cX9_later) (maxL := 4) (ret := (some .int)) (Qc := fun A => cQi3 D Post (fun m_v_one m_v_other m_a_tried => (cw_X9_later cI cZ o o_readPurses o_readDay o_purses o_daily o_text o_row o_tried o_days o_order o_bestOrder o_seenHad o_seenShared o_isKept o_keptPurses o_keptRow o_keptHad o_keptShared o_keptRest v_readLaw v_readMany v_readMeetings v_law v_many v_meetings v_length v_at v_faultAt m_v_one m_v_other v_made v_leads v_rings v_seen a_purses a_daily m_a_tried)) A) (by decide) rfl (Nat.le_of_ble_eq_true rfl) ?_
  intro p e s m args below meth c A ls Q hQ hsz hx hb hml hr hts hown hlocks hnm hK hP hD hA hS hl
  have hl : lv_has ls 4 [(0, .ref o), (1, .int n1), (2, .int n2)] := hl
  unfold wp_X9_later at h
  refine lv_aload_n hx hb dX9_later_0 rfl (lv_at hl 0 rfl) ?_
  refine lv_iload_n hx hb dX9_later_1 rfl (lv_at hl 1 rfl) ?_
  refine call_i0 (va_runV (As := [.int n1]) (rest := []) ⟨hx, hb, hml, hown, hts⟩ (c_X9_isPerson l D cI cZ o o_readPurses o_readDay o_purses o_daily o_text o_row o_tried o_days o_order o_bestOrder o_seenHad o_seenShared o_isKept o_keptPurses o_keptRow o_keptHad o_keptShared o_keptRest (Array.size s.heap) n1 v_readLaw v_readMany v_readMeetings v_law v_many v_meetings v_length v_at v_faultAt v_one v_other v_made v_leads v_rings v_seen _ h) (cwV 1 hts gX9_later_X9_isPerson rfl rfl rfl (by decide +kernel) ⟨Nat.le_of_ble_eq_true rfl, Nat.le_of_ble_eq_true rfl⟩) (preV_of hP hD hK [0] rfl rfl 0 9 rfl rfl rfl) rfl rfl hl.1 rfl (lv_room (Nat.le_of_ble_eq_true rfl)) dX9_later_2 ⟨Nat.zero_le _, Nat.zero_le _⟩) hP hD hS hA [0] rfl ((cw_X9_later cI cZ o o_readPurses o_readDay o_purses o_daily o_text o_row o_tried o_days o_order o_bestOrder o_seenHad o_seenShared o_isKept o_keptPurses o_keptRow o_keptHad o_keptShared o_keptRest v_readLaw v_readMany v_readMeetings v_law v_many v_meetings v_length v_at v_faultAt v_one v_other v_made v_leads v_rings v_seen a_purses a_daily a_tried)) (rfl) (rfl) (fun r2 H locs h hP hD hS => ?_)
  refine lv_if_ne (tgt := 10) hx hb dX9_later_5 (by decide) (fun c5 => ?_) (fun c5 => ?_)
  · have h := h.1 c5
    refine lv_iload_n hx hb dX9_later_10 rfl (lv_at hl 2 rfl) ?_
    refine lv_i2l (v := (Int32.toInt64 n2)) hx hb dX9_later_11 rfl ?_
    refine lv_lconst (v := 0) hx hb dX9_later_12 (by decide) ?_
    refine lv_ldc2 (own := RX9) (index := 164) (v := 300) hx hb hown (hts (.constantLong RX9 164 (300)) (by decide +kernel)) dX9_later_13 ?_
    refine call_i0 (va_runS (As := [.long (Int32.toInt64 n2), .long (0 : Int64), .long (300 : Int64)]) (rest := []) ⟨hx, hb, hml, hown, hts⟩ (c_X9_in l D cI cZ (Array.size H) (Int32.toInt64 n2) (0 : Int64) (300 : Int64) _ h) (va_cwS 3 hts gX9_later_X9_in rfl rfl rfl (by decide +kernel) ⟨Nat.le_of_ble_eq_true rfl, Nat.le_of_ble_eq_true rfl⟩) (preS_of hP hD hK [] rfl rfl) rfl rfl hl.1 rfl (lv_room (Nat.le_of_ble_eq_true rfl)) dX9_later_16 ⟨Nat.zero_le _, Nat.zero_le _⟩) hP hD hS hA [] rfl ((cw_X9_later cI cZ o o_readPurses o_readDay o_purses o_daily o_text o_row o_tried o_days o_order o_bestOrder o_seenHad o_seenShared o_isKept o_keptPurses o_keptRow o_keptHad o_keptShared o_keptRest v_readLaw v_readMany v_readMeetings v_law v_many v_meetings v_length v_at v_faultAt v_one v_other v_made v_leads v_rings v_seen a_purses a_daily a_tried)) (rfl) (rfl) (fun r16 H locs h hP hD hS => ?_)
    refine lv_if_ne (tgt := 25) hx hb dX9_later_19 (by decide) (fun c19 => ?_) (fun c19 => ?_)
    · have h := h.1 c19
      refine lv_aload_n hx hb dX9_later_25 rfl (lv_at hl 0 rfl) ?_
      refine call_v1 (va_runV (As := []) (rest := []) ⟨hx, hb, hml, hown, hts⟩ (c_X9_takeTried l D cI cZ o o_readPurses o_readDay o_purses o_daily o_text o_row o_tried o_days o_order o_bestOrder o_seenHad o_seenShared o_isKept o_keptPurses o_keptRow o_keptHad o_keptShared o_keptRest (Array.size H) v_readLaw v_readMany v_readMeetings v_law v_many v_meetings v_length v_at v_faultAt v_one v_other v_made v_leads v_rings v_seen a_purses a_tried _ h) (cwV 0 hts gX9_later_X9_takeTried rfl rfl rfl (by decide +kernel) ⟨Nat.le_of_ble_eq_true rfl, Nat.le_of_ble_eq_true rfl⟩) (preV_of hP hD hK [0, 1, 3] rfl rfl 0 9 rfl rfl rfl) rfl rfl hl.1 rfl (lv_room (Nat.le_of_ble_eq_true rfl)) dX9_later_26 ⟨Nat.zero_le _, Nat.zero_le _⟩) hP hD hS hA [0, 1, 3] rfl (fun a_tried_26 => (cw_X9_later cI cZ o o_readPurses o_readDay o_purses o_daily o_text o_row o_tried o_days o_order o_bestOrder o_seenHad o_seenShared o_isKept o_keptPurses o_keptRow o_keptHad o_keptShared o_keptRest v_readLaw v_readMany v_readMeetings v_law v_many v_meetings v_length v_at v_faultAt v_one v_other v_made v_leads v_rings v_seen a_purses a_daily a_tried_26)) (fun _ => rfl) (fun _ => rfl) (fun a_tried_26 H locs h hP hD hS => ?_)
      refine lv_iconst (v := 0) hx hb dX9_later_29 (by decide) ?_
      refine lv_istore_n (lv' := [(3, .int (0 : Int32)), (0, .ref o), (1, .int n1), (2, .int n2)]) hx hb dX9_later_30 rfl hl (by decide) rfl (fun ls hl => ?_)
      refine h (fun x3_31 v_one_31 v_other_31 a_tried_31 => ∀ (H : Heap) (locs : List Loc) (ls : Array Slot), lv_has ls 4 [(0, .ref o), (1, .int n1), (2, .int n2), (3, .int x3_31)] → va_P D vwCl (cw_X9_later cI cZ o o_readPurses o_readDay o_purses o_daily o_text o_row o_tried o_days o_order o_bestOrder o_seenHad o_seenShared o_isKept o_keptPurses o_keptRow o_keptHad o_keptShared o_keptRest v_readLaw v_readMany v_readMeetings v_law v_many v_meetings v_length v_at v_faultAt v_one_31 v_other_31 v_made v_leads v_rings v_seen a_purses a_daily a_tried_31) H → va_D A (cw_X9_later cI cZ o o_readPurses o_readDay o_purses o_daily o_text o_row o_tried o_days o_order o_bestOrder o_seenHad o_seenShared o_isKept o_keptPurses o_keptRow o_keptHad o_keptShared o_keptRest v_readLaw v_readMany v_readMeetings v_law v_many v_meetings v_length v_at v_faultAt v_one_31 v_other_31 v_made v_leads v_rings v_seen a_purses a_daily a_tried_31) → va_S A s.heap H locs → W p l e rm_X9_later s m args below meth c H locs 0 0 Q (F0 m 31 ls [])) ?_ H locs ls (lv_sub hl [1, 2, 3, 0] rfl) hP hD hS
      intro x3_31 v_one_31 v_other_31 a_tried_31 h H locs ls hl hP hD hS
      refine lv_iload_n hx hb dX9_later_31 rfl (lv_at hl 3 rfl) ?_
      refine lv_iload_n hx hb dX9_later_32 rfl (lv_at hl 2 rfl) ?_
      refine lv_icmp_ge (tgt := 47) hx hb dX9_later_33 (by decide) (fun c33 => ?_) (fun c33 => ?_)
      · have h := h.1 c33
        refine lv_aload_n hx hb dX9_later_47 rfl (lv_at hl 0 rfl) ?_
        refine va_get (D := D) (ci := 9) (v := .ref o_tried) (C := RX9) (T := TX9) (N := 33) hx hb hts inw_X9_later_X9 hown hK.1 hP 0 rfl rfl 18 (by decide) (hts (.fieldLink RX9 28 "PursesShareModel" "tried" "[I") (by decide +kernel)) (fun _ h9 => h9) rfl dX9_later_48 ?_
        refine lv_iload_n hx hb dX9_later_51 rfl (lv_at hl 1 rfl) ?_
        have h0 := h.1
        have h := h.2
        refine va_iald hx hb hK.1 hP 3 0 rfl rfl h0 dX9_later_52 ?_
        exact ret_i3 hx hb hr hlocks hQ hS v_one_31 v_other_31 a_tried_31 hP h dX9_later_53
      · have h := h.2 c33
        refine lv_aload_n hx hb dX9_later_36 rfl (lv_at hl 0 rfl) ?_
        refine call_i3 (va_runV (As := []) (rest := []) ⟨hx, hb, hml, hown, hts⟩ (c_X9_tryDay l D cI cZ o o_readPurses o_readDay o_purses o_daily o_text o_row o_tried o_days o_order o_bestOrder o_seenHad o_seenShared o_isKept o_keptPurses o_keptRow o_keptHad o_keptShared o_keptRest (Array.size H) v_readLaw v_readMany v_readMeetings v_law v_many v_meetings v_length v_at v_faultAt v_one_31 v_other_31 v_made v_leads v_rings v_seen a_daily a_tried_31 _ h) (cwV 0 hts gX9_later_X9_tryDay rfl rfl rfl (by decide +kernel) ⟨Nat.le_of_ble_eq_true rfl, Nat.le_of_ble_eq_true rfl⟩) (preV_of hP hD hK [0, 2, 3] rfl rfl 0 9 rfl rfl rfl) rfl rfl hl.1 rfl (lv_room (Nat.le_of_ble_eq_true rfl)) dX9_later_37 ⟨Nat.zero_le _, Nat.zero_le _⟩) hP hD hS hA [0, 2, 3] rfl (fun v_one_37 v_other_37 a_tried_37 => (cw_X9_later cI cZ o o_readPurses o_readDay o_purses o_daily o_text o_row o_tried o_days o_order o_bestOrder o_seenHad o_seenShared o_isKept o_keptPurses o_keptRow o_keptHad o_keptShared o_keptRest v_readLaw v_readMany v_readMeetings v_law v_many v_meetings v_length v_at v_faultAt v_one_37 v_other_37 v_made v_leads v_rings v_seen a_purses a_daily a_tried_37)) (fun _ _ _ => rfl) (fun _ _ _ => rfl) (fun r37 v_one_37 v_other_37 a_tried_37 H locs h hP hD hS => ?_)
        refine lv_pop hx hb dX9_later_40 rfl ?_
        refine lv_iinc (v := (x3_31 + 1)) (lv' := [(3, .int (x3_31 + 1)), (0, .ref o), (1, .int n1), (2, .int n2)]) hx hb dX9_later_41 hl (k := 3) rfl rfl (by decide) rfl (fun ls hl => ?_)
        refine lv_goto (tgt := 31) hx hb dX9_later_44 (by decide) ?_
        exact h H locs ls (lv_sub hl [1, 2, 3, 0] rfl) hP hD hS
    · have h := h.2 c19
      refine lv_bipush (v := -2) hx hb dX9_later_22 (by decide) ?_
      exact ret_i3 hx hb hr hlocks hQ hS v_one v_other a_tried hP h dX9_later_24
  · have h := h.2 c5
    refine lv_iconst (v := -1) hx hb dX9_later_8 (by decide) ?_
    exact ret_i3 hx hb hr hlocks hQ hS v_one v_other a_tried hP h dX9_later_9
abbrev rm_X9_isLike : Room := { frames := 0, cells := 0, slots := 0, locals := 0 }
abbrev cw_X9_isLike (cI cZ : ClassId) (o o_readPurses o_readDay o_purses o_daily o_text o_row o_tried o_days o_order o_bestOrder o_seenHad o_seenShared o_isKept o_keptPurses o_keptRow o_keptHad o_keptShared o_keptRest : Nat) (v_readLaw : Int32) (v_readMany : Int32) (v_readMeetings : Int32) (v_law : Int32) (v_many : Int32) (v_meetings : Int32) (v_length : Int32) (v_at : Int32) (v_faultAt : Int32) (v_one : Int32) (v_other : Int32) (v_made : Int32) (v_leads : Int32) (v_rings : Int32) (v_seen : Int32) (a_days : Nat → Int32) : va_W := [(o, .inr (9, [.ref o_readPurses, .ref o_readDay, .int v_readLaw, .int v_readMany, .int v_readMeetings, .ref o_purses, .ref o_daily, .int v_law, .int v_many, .int v_meetings, .ref o_text, .int v_length, .int v_at, .int v_faultAt, .int v_one, .int v_other, .int v_made, .ref o_row, .ref o_tried, .int v_leads, .int v_rings, .ref o_days, .ref o_order, .ref o_bestOrder, .int v_seen, .ref o_seenHad, .ref o_seenShared, .ref o_isKept, .ref o_keptPurses, .ref o_keptRow, .ref o_keptHad, .ref o_keptShared, .ref o_keptRest])), (o_days, .inl (cI, 2408, .inl a_days))]
theorem inw_X9_isLike_X9 : ∀ w ∈ u_ws RX9 TX9 33, w ∈ wsX9_isLike := by decide +kernel
def wp_X9_isLike (n1 : Int32) (n2 : Int32) (a_days : Nat → Int32) (Post : Int32 → Prop) : Prop := (∀ k5 : (Int32) → (Int32) → Prop, (∀ (x4_5 : Int32) (x3_5 : Int32), (((8 : Int32) ≤ x4_5 → (x3_5 &&& 1 = x3_5 ∧ (Post x3_5))) ∧ (¬ (8 : Int32) ≤ x4_5 → ((x3_5 = 0 → (x3_5 &&& 1 = x3_5 ∧ (Post x3_5))) ∧ (¬ x3_5 = 0 → (vp_in (((8 : Int32) * n1) + x4_5) 2408 ∧ (vp_in (((8 : Int32) * n2) + x4_5) 2408 ∧ ((¬ (a_days (Int32.toNatClampNeg (((8 : Int32) * n1) + x4_5))) = (a_days (Int32.toNatClampNeg (((8 : Int32) * n2) + x4_5))) → (k5 (x4_5 + 1) (0 : Int32))) ∧ ((a_days (Int32.toNatClampNeg (((8 : Int32) * n1) + x4_5))) = (a_days (Int32.toNatClampNeg (((8 : Int32) * n2) + x4_5))) → (k5 (x4_5 + 1) (1 : Int32)))))))))) → k5 x4_5 x3_5) → k5 (0 : Int32) (1 : Int32))
set_option maxHeartbeats 4000000 in
set_option maxRecDepth 100000 in
theorem c_X9_isLike (l : Launch) (D : va_G) (cI cZ : ClassId) (o o_readPurses o_readDay o_purses o_daily o_text o_row o_tried o_days o_order o_bestOrder o_seenHad o_seenShared o_isKept o_keptPurses o_keptRow o_keptHad o_keptShared o_keptRest : Nat) (sz : Nat) (n1 : Int32) (n2 : Int32) (v_readLaw : Int32) (v_readMany : Int32) (v_readMeetings : Int32) (v_law : Int32) (v_many : Int32) (v_meetings : Int32) (v_length : Int32) (v_at : Int32) (v_faultAt : Int32) (v_one : Int32) (v_other : Int32) (v_made : Int32) (v_leads : Int32) (v_rings : Int32) (v_seen : Int32) (a_days : Nat → Int32) (Post : Int32 → Prop) (h : wp_X9_isLike n1 n2 a_days Post) : Met l yX9_isLike wsX9_isLike rm_X9_isLike (cPc D cI cZ [.ref o, .int n1, .int n2] (cw_X9_isLike cI cZ o o_readPurses o_readDay o_purses o_daily o_text o_row o_tried o_days o_order o_bestOrder o_seenHad o_seenShared o_isKept o_keptPurses o_keptRow o_keptHad o_keptShared o_keptRest v_readLaw v_readMany v_readMeetings v_law v_many v_meetings v_length v_at v_faultAt v_one v_other v_made v_leads v_rings v_seen a_days) sz) (cQi0 D Post ((cw_X9_isLike cI cZ o o_readPurses o_readDay o_purses o_daily o_text o_row o_tried o_days o_order o_bestOrder o_seenHad o_seenShared o_isKept o_keptPurses o_keptRow o_keptHad o_keptShared o_keptRest v_readLaw v_readMany v_readMeetings v_law v_many v_meetings v_length v_at v_faultAt v_one v_other v_made v_leads v_rings v_seen a_days)) (va_A (cw_X9_isLike cI cZ o o_readPurses o_readDay o_purses o_daily o_text o_row o_tried o_days o_order o_bestOrder o_seenHad o_seenShared o_isKept o_keptPurses o_keptRow o_keptHad o_keptShared o_keptRest v_readLaw v_readMany v_readMeetings v_law v_many v_meetings v_length v_at v_faultAt v_one v_other v_made v_leads v_rings v_seen a_days) sz)) 0 0 (va_A (cw_X9_isLike cI cZ o o_readPurses o_readDay o_purses o_daily o_text o_row o_tried o_days o_order o_bestOrder o_seenHad o_seenShared o_isKept o_keptPurses o_keptRow o_keptHad o_keptShared o_keptRest v_readLaw v_readMany v_readMeetings v_law v_many v_meetings v_length v_at v_faultAt v_one v_other v_made v_leads v_rings v_seen a_days) sz) := by
  refine ent (cc := cX9_isLike) (maxL := 5) (ret := (some .boolean)) (Qc := fun A => cQi0 D Post ((cw_X9_isLike cI cZ o o_readPurses o_readDay o_purses o_daily o_text o_row o_tried o_days o_order o_bestOrder o_seenHad o_seenShared o_isKept o_keptPurses o_keptRow o_keptHad o_keptShared o_keptRest v_readLaw v_readMany v_readMeetings v_law v_many v_meetings v_length v_at v_faultAt v_one v_other v_made v_leads v_rings v_seen a_days)) A) (by decide) rfl (Nat.le_of_ble_eq_true rfl) ?_
  intro p e s m args below meth c A ls Q hQ hsz hx hb hml hr hts hown hlocks hnm hK hP hD hA hS hl
  have hl : lv_has ls 5 [(0, .ref o), (1, .int n1), (2, .int n2)] := hl
  unfold wp_X9_isLike at h
  refine lv_iconst (v := 1) hx hb dX9_isLike_0 (by decide) ?_
  refine lv_istore_n (lv' := [(3, .int (1 : Int32)), (0, .ref o), (1, .int n1), (2, .int n2)]) hx hb dX9_isLike_1 rfl hl (by decide) rfl (fun ls hl => ?_)
  refine lv_iconst (v := 0) hx hb dX9_isLike_2 (by decide) ?_
  refine lv_istore (lv' := [(4, .int (0 : Int32)), (3, .int (1 : Int32)), (0, .ref o), (1, .int n1), (2, .int n2)]) hx hb dX9_isLike_3 hl (by decide) rfl (fun ls hl => ?_)
  refine h (fun x4_5 x3_5 => ∀ (H : Heap) (locs : List Loc) (ls : Array Slot), lv_has ls 5 [(0, .ref o), (1, .int n1), (2, .int n2), (3, .int x3_5), (4, .int x4_5)] → va_P D vwCl (cw_X9_isLike cI cZ o o_readPurses o_readDay o_purses o_daily o_text o_row o_tried o_days o_order o_bestOrder o_seenHad o_seenShared o_isKept o_keptPurses o_keptRow o_keptHad o_keptShared o_keptRest v_readLaw v_readMany v_readMeetings v_law v_many v_meetings v_length v_at v_faultAt v_one v_other v_made v_leads v_rings v_seen a_days) H → va_D A (cw_X9_isLike cI cZ o o_readPurses o_readDay o_purses o_daily o_text o_row o_tried o_days o_order o_bestOrder o_seenHad o_seenShared o_isKept o_keptPurses o_keptRow o_keptHad o_keptShared o_keptRest v_readLaw v_readMany v_readMeetings v_law v_many v_meetings v_length v_at v_faultAt v_one v_other v_made v_leads v_rings v_seen a_days) → va_S A s.heap H locs → W p l e rm_X9_isLike s m args below meth c H locs 0 0 Q (F0 m 5 ls [])) ?_ s.heap [] ls (lv_sub hl [2, 3, 4, 1, 0] rfl) hP hD hS
  intro x4_5 x3_5 h H locs ls hl hP hD hS
  refine lv_iload hx hb dX9_isLike_5 (lv_at hl 4 rfl) ?_
  refine lv_bipush (v := 8) hx hb dX9_isLike_7 (by decide) ?_
  refine lv_icmp_ge (tgt := 55) hx hb dX9_isLike_9 (by decide) (fun c9 => ?_) (fun c9 => ?_)
  · have h := h.1 c9
    refine lv_iload_n hx hb dX9_isLike_55 rfl (lv_at hl 3 rfl) ?_
    have hz := h.1
    have h := h.2
    exact ret_z0 hx hb hr hlocks hQ hS hz  hP h dX9_isLike_56
  · have h := h.2 c9
    refine lv_iload_n hx hb dX9_isLike_12 rfl (lv_at hl 3 rfl) ?_
    refine lv_if_eq (tgt := 55) hx hb dX9_isLike_13 (by decide) (fun c13 => ?_) (fun c13 => ?_)
    · have h := h.1 c13
      refine lv_iload_n hx hb dX9_isLike_55 rfl (lv_at hl 3 rfl) ?_
      have hz := h.1
      have h := h.2
      exact ret_z0 hx hb hr hlocks hQ hS hz  hP h dX9_isLike_56
    · have h := h.2 c13
      refine lv_aload_n hx hb dX9_isLike_16 rfl (lv_at hl 0 rfl) ?_
      refine va_get (D := D) (ci := 9) (v := .ref o_days) (C := RX9) (T := TX9) (N := 33) hx hb hts inw_X9_isLike_X9 hown hK.1 hP 0 rfl rfl 21 (by decide) (hts (.fieldLink RX9 31 "PursesShareModel" "days" "[I") (by decide +kernel)) (fun _ h9 => h9) rfl dX9_isLike_17 ?_
      refine lv_bipush (v := 8) hx hb dX9_isLike_20 (by decide) ?_
      refine lv_iload_n hx hb dX9_isLike_22 rfl (lv_at hl 1 rfl) ?_
      refine lv_imul hx hb dX9_isLike_23 ?_
      refine lv_iload hx hb dX9_isLike_24 (lv_at hl 4 rfl) ?_
      refine lv_iadd hx hb dX9_isLike_26 ?_
      have h0 := h.1
      have h := h.2
      refine va_iald hx hb hK.1 hP 1 0 rfl rfl h0 dX9_isLike_27 ?_
      refine lv_aload_n hx hb dX9_isLike_28 rfl (lv_at hl 0 rfl) ?_
      refine va_get (D := D) (ci := 9) (v := .ref o_days) (C := RX9) (T := TX9) (N := 33) hx hb hts inw_X9_isLike_X9 hown hK.1 hP 0 rfl rfl 21 (by decide) (hts (.fieldLink RX9 31 "PursesShareModel" "days" "[I") (by decide +kernel)) (fun _ h9 => h9) rfl dX9_isLike_29 ?_
      refine lv_bipush (v := 8) hx hb dX9_isLike_32 (by decide) ?_
      refine lv_iload_n hx hb dX9_isLike_34 rfl (lv_at hl 2 rfl) ?_
      refine lv_imul hx hb dX9_isLike_35 ?_
      refine lv_iload hx hb dX9_isLike_36 (lv_at hl 4 rfl) ?_
      refine lv_iadd hx hb dX9_isLike_38 ?_
      have h0 := h.1
      have h := h.2
      refine va_iald hx hb hK.1 hP 1 0 rfl rfl h0 dX9_isLike_39 ?_
      refine lv_icmp_ne (tgt := 47) hx hb dX9_isLike_40 (by decide) (fun c40 => ?_) (fun c40 => ?_)
      · have h := h.1 c40
        refine lv_iconst (v := 0) hx hb dX9_isLike_47 (by decide) ?_
        refine lv_istore_n (lv' := [(3, .int (0 : Int32)), (0, .ref o), (1, .int n1), (2, .int n2), (4, .int x4_5)]) hx hb dX9_isLike_48 rfl hl (by decide) rfl (fun ls hl => ?_)
        refine lv_iinc (v := (x4_5 + 1)) (lv' := [(4, .int (x4_5 + 1)), (3, .int (0 : Int32)), (0, .ref o), (1, .int n1), (2, .int n2)]) hx hb dX9_isLike_49 hl (k := 4) rfl rfl (by decide) rfl (fun ls hl => ?_)
        refine lv_goto (tgt := 5) hx hb dX9_isLike_52 (by decide) ?_
        exact h H locs ls (lv_sub hl [2, 3, 4, 1, 0] rfl) hP hD hS
      · have h := h.2 c40
        refine lv_iconst (v := 1) hx hb dX9_isLike_43 (by decide) ?_
        refine lv_goto (tgt := 48) hx hb dX9_isLike_44 (by decide) ?_
        refine lv_istore_n (lv' := [(3, .int (1 : Int32)), (0, .ref o), (1, .int n1), (2, .int n2), (4, .int x4_5)]) hx hb dX9_isLike_48 rfl hl (by decide) rfl (fun ls hl => ?_)
        refine lv_iinc (v := (x4_5 + 1)) (lv' := [(4, .int (x4_5 + 1)), (3, .int (1 : Int32)), (0, .ref o), (1, .int n1), (2, .int n2)]) hx hb dX9_isLike_49 hl (k := 4) rfl rfl (by decide) rfl (fun ls hl => ?_)
        refine lv_goto (tgt := 5) hx hb dX9_isLike_52 (by decide) ?_
        exact h H locs ls (lv_sub hl [2, 3, 4, 1, 0] rfl) hP hD hS
abbrev rm_X9_dayRing : Room := { frames := 4, cells := 0, slots := 0, locals := 95 }
abbrev cw_X9_dayRing (cI cZ : ClassId) (o o_readPurses o_readDay o_purses o_daily o_text o_row o_tried o_days o_order o_bestOrder o_seenHad o_seenShared o_isKept o_keptPurses o_keptRow o_keptHad o_keptShared o_keptRest : Nat) (v_readLaw : Int32) (v_readMany : Int32) (v_readMeetings : Int32) (v_law : Int32) (v_many : Int32) (v_meetings : Int32) (v_length : Int32) (v_at : Int32) (v_faultAt : Int32) (v_one : Int32) (v_other : Int32) (v_made : Int32) (v_leads : Int32) (v_rings : Int32) (v_seen : Int32) (a_purses : Nat → Int32) (a_daily : Nat → Int32) (a_tried : Nat → Int32) (a_days : Nat → Int32) : va_W := [(o, .inr (9, [.ref o_readPurses, .ref o_readDay, .int v_readLaw, .int v_readMany, .int v_readMeetings, .ref o_purses, .ref o_daily, .int v_law, .int v_many, .int v_meetings, .ref o_text, .int v_length, .int v_at, .int v_faultAt, .int v_one, .int v_other, .int v_made, .ref o_row, .ref o_tried, .int v_leads, .int v_rings, .ref o_days, .ref o_order, .ref o_bestOrder, .int v_seen, .ref o_seenHad, .ref o_seenShared, .ref o_isKept, .ref o_keptPurses, .ref o_keptRow, .ref o_keptHad, .ref o_keptShared, .ref o_keptRest])), (o_purses, .inl (cI, 8, .inl a_purses)), (o_daily, .inl (cI, 32, .inl a_daily)), (o_tried, .inl (cI, 8, .inl a_tried)), (o_days, .inl (cI, 2408, .inl a_days))]
theorem inw_X9_dayRing_X9 : ∀ w ∈ u_ws RX9 TX9 33, w ∈ wsX9_dayRing := by decide +kernel
def wp_X9_dayRing (n1 : Int32) (v_law : Int32) (v_meetings : Int32) (v_one : Int32) (v_other : Int32) (a_purses : Nat → Int32) (a_daily : Nat → Int32) (a_tried : Nat → Int32) (a_days : Nat → Int32) (Post : Int32 → (Int32) → (Int32) → (Nat → Int32) → (Nat → Int32) → Prop) : Prop := (wp_X9_takeTried a_purses a_tried (fun (a_tried_1 : Nat → Int32) => (∀ k6 : (Int32) → (Int32) → (Int32) → (Int32) → (Nat → Int32) → (Nat → Int32) → Prop, (∀ (x2_6 : Int32) (x1_6 : Int32) (v_one_6 : Int32) (v_other_6 : Int32) (a_tried_6 : Nat → Int32) (a_days_6 : Nat → Int32), (((301 : Int32) ≤ x2_6 → (Post (-9 : Int32) v_one_6 v_other_6 a_tried_6 a_days_6)) ∧ (¬ (301 : Int32) ≤ x2_6 → (∀ k15 : (Int32) → (Nat → Int32) → Prop, (∀ (x3_15 : Int32) (a_days_15 : Nat → Int32), (((8 : Int32) ≤ x3_15 → (∀ k46 : (Int32) → Prop, (∀ (x3_46 : Int32), ((x2_6 ≤ x3_46 → (wp_X9_tryDay v_law v_meetings v_one_6 v_other_6 a_daily a_tried_6 (fun (r79 : Int32) (v_one_79 : Int32) (v_other_79 : Int32) (a_tried_79 : Nat → Int32) => (k6 (x2_6 + 1) x1_6 v_one_79 v_other_79 a_tried_79 a_days_15)))) ∧ (¬ x2_6 ≤ x3_46 → (wp_X9_isLike x2_6 x3_46 a_days_15 (fun (r54 : Int32) => ((r54 = 0 → (k46 (x3_46 + 1))) ∧ (¬ r54 = 0 → ((x1_6 = 0 → (Post (x2_6 - x3_46) v_one_6 v_other_6 a_tried_6 a_days_15)) ∧ (¬ x1_6 = 0 → (Post x3_46 v_one_6 v_other_6 a_tried_6 a_days_15))))))))) → k46 x3_46) → k46 (0 : Int32))) ∧ (¬ (8 : Int32) ≤ x3_15 → (vp_in x3_15 8 ∧ (vp_in (((8 : Int32) * x2_6) + x3_15) 2408 ∧ (k15 (x3_15 + 1) (upd a_days_15 (Int32.toNatClampNeg (((8 : Int32) * x2_6) + x3_15)) (a_tried_6 (Int32.toNatClampNeg x3_15)))))))) → k15 x3_15 a_days_15) → k15 (0 : Int32) a_days_6))) → k6 x2_6 x1_6 v_one_6 v_other_6 a_tried_6 a_days_6) → k6 (0 : Int32) n1 v_one v_other a_tried_1 a_days)))
set_option maxHeartbeats 4000000 in
set_option maxRecDepth 100000 in
theorem c_X9_dayRing (l : Launch) (D : va_G) (cI cZ : ClassId) (o o_readPurses o_readDay o_purses o_daily o_text o_row o_tried o_days o_order o_bestOrder o_seenHad o_seenShared o_isKept o_keptPurses o_keptRow o_keptHad o_keptShared o_keptRest : Nat) (sz : Nat) (n1 : Int32) (v_readLaw : Int32) (v_readMany : Int32) (v_readMeetings : Int32) (v_law : Int32) (v_many : Int32) (v_meetings : Int32) (v_length : Int32) (v_at : Int32) (v_faultAt : Int32) (v_one : Int32) (v_other : Int32) (v_made : Int32) (v_leads : Int32) (v_rings : Int32) (v_seen : Int32) (a_purses : Nat → Int32) (a_daily : Nat → Int32) (a_tried : Nat → Int32) (a_days : Nat → Int32) (Post : Int32 → (Int32) → (Int32) → (Nat → Int32) → (Nat → Int32) → Prop) (h : wp_X9_dayRing n1 v_law v_meetings v_one v_other a_purses a_daily a_tried a_days Post) : Met l yX9_dayRing wsX9_dayRing rm_X9_dayRing (cPc D cI cZ [.ref o, .int n1] (cw_X9_dayRing cI cZ o o_readPurses o_readDay o_purses o_daily o_text o_row o_tried o_days o_order o_bestOrder o_seenHad o_seenShared o_isKept o_keptPurses o_keptRow o_keptHad o_keptShared o_keptRest v_readLaw v_readMany v_readMeetings v_law v_many v_meetings v_length v_at v_faultAt v_one v_other v_made v_leads v_rings v_seen a_purses a_daily a_tried a_days) sz) (cQi4 D Post (fun m_v_one m_v_other m_a_tried m_a_days => (cw_X9_dayRing cI cZ o o_readPurses o_readDay o_purses o_daily o_text o_row o_tried o_days o_order o_bestOrder o_seenHad o_seenShared o_isKept o_keptPurses o_keptRow o_keptHad o_keptShared o_keptRest v_readLaw v_readMany v_readMeetings v_law v_many v_meetings v_length v_at v_faultAt m_v_one m_v_other v_made v_leads v_rings v_seen a_purses a_daily m_a_tried m_a_days)) (va_A (cw_X9_dayRing cI cZ o o_readPurses o_readDay o_purses o_daily o_text o_row o_tried o_days o_order o_bestOrder o_seenHad o_seenShared o_isKept o_keptPurses o_keptRow o_keptHad o_keptShared o_keptRest v_readLaw v_readMany v_readMeetings v_law v_many v_meetings v_length v_at v_faultAt v_one v_other v_made v_leads v_rings v_seen a_purses a_daily a_tried a_days) sz)) 0 0 (va_A (cw_X9_dayRing cI cZ o o_readPurses o_readDay o_purses o_daily o_text o_row o_tried o_days o_order o_bestOrder o_seenHad o_seenShared o_isKept o_keptPurses o_keptRow o_keptHad o_keptShared o_keptRest v_readLaw v_readMany v_readMeetings v_law v_many v_meetings v_length v_at v_faultAt v_one v_other v_made v_leads v_rings v_seen a_purses a_daily a_tried a_days) sz) := by
  refine ent (cc := cX9_dayRing) (maxL := 4) (ret := (some .int)) (Qc := fun A => cQi4 D Post (fun m_v_one m_v_other m_a_tried m_a_days => (cw_X9_dayRing cI cZ o o_readPurses o_readDay o_purses o_daily o_text o_row o_tried o_days o_order o_bestOrder o_seenHad o_seenShared o_isKept o_keptPurses o_keptRow o_keptHad o_keptShared o_keptRest v_readLaw v_readMany v_readMeetings v_law v_many v_meetings v_length v_at v_faultAt m_v_one m_v_other v_made v_leads v_rings v_seen a_purses a_daily m_a_tried m_a_days)) A) (by decide) rfl (Nat.le_of_ble_eq_true rfl) ?_
  intro p e s m args below meth c A ls Q hQ hsz hx hb hml hr hts hown hlocks hnm hK hP hD hA hS hl
  have hl : lv_has ls 4 [(0, .ref o), (1, .int n1)] := hl
  unfold wp_X9_dayRing at h
  refine lv_aload_n hx hb dX9_dayRing_0 rfl (lv_at hl 0 rfl) ?_
  refine call_v1 (va_runV (As := []) (rest := []) ⟨hx, hb, hml, hown, hts⟩ (c_X9_takeTried l D cI cZ o o_readPurses o_readDay o_purses o_daily o_text o_row o_tried o_days o_order o_bestOrder o_seenHad o_seenShared o_isKept o_keptPurses o_keptRow o_keptHad o_keptShared o_keptRest (Array.size s.heap) v_readLaw v_readMany v_readMeetings v_law v_many v_meetings v_length v_at v_faultAt v_one v_other v_made v_leads v_rings v_seen a_purses a_tried _ h) (cwV 0 hts gX9_dayRing_X9_takeTried rfl rfl rfl (by decide +kernel) ⟨Nat.le_of_ble_eq_true rfl, Nat.le_of_ble_eq_true rfl⟩) (preV_of hP hD hK [0, 1, 3] rfl rfl 0 9 rfl rfl rfl) rfl rfl hl.1 rfl (lv_room (Nat.le_of_ble_eq_true rfl)) dX9_dayRing_1 ⟨Nat.zero_le _, Nat.zero_le _⟩) hP hD hS hA [0, 1, 3] rfl (fun a_tried_1 => (cw_X9_dayRing cI cZ o o_readPurses o_readDay o_purses o_daily o_text o_row o_tried o_days o_order o_bestOrder o_seenHad o_seenShared o_isKept o_keptPurses o_keptRow o_keptHad o_keptShared o_keptRest v_readLaw v_readMany v_readMeetings v_law v_many v_meetings v_length v_at v_faultAt v_one v_other v_made v_leads v_rings v_seen a_purses a_daily a_tried_1 a_days)) (fun _ => rfl) (fun _ => rfl) (fun a_tried_1 H locs h hP hD hS => ?_)
  refine lv_iconst (v := 0) hx hb dX9_dayRing_4 (by decide) ?_
  refine lv_istore_n (lv' := [(2, .int (0 : Int32)), (0, .ref o), (1, .int n1)]) hx hb dX9_dayRing_5 rfl hl (by decide) rfl (fun ls hl => ?_)
  refine h (fun x2_6 x1_6 v_one_6 v_other_6 a_tried_6 a_days_6 => ∀ (H : Heap) (locs : List Loc) (ls : Array Slot), lv_has ls 4 [(0, .ref o), (1, .int x1_6), (2, .int x2_6)] → va_P D vwCl (cw_X9_dayRing cI cZ o o_readPurses o_readDay o_purses o_daily o_text o_row o_tried o_days o_order o_bestOrder o_seenHad o_seenShared o_isKept o_keptPurses o_keptRow o_keptHad o_keptShared o_keptRest v_readLaw v_readMany v_readMeetings v_law v_many v_meetings v_length v_at v_faultAt v_one_6 v_other_6 v_made v_leads v_rings v_seen a_purses a_daily a_tried_6 a_days_6) H → va_D A (cw_X9_dayRing cI cZ o o_readPurses o_readDay o_purses o_daily o_text o_row o_tried o_days o_order o_bestOrder o_seenHad o_seenShared o_isKept o_keptPurses o_keptRow o_keptHad o_keptShared o_keptRest v_readLaw v_readMany v_readMeetings v_law v_many v_meetings v_length v_at v_faultAt v_one_6 v_other_6 v_made v_leads v_rings v_seen a_purses a_daily a_tried_6 a_days_6) → va_S A s.heap H locs → W p l e rm_X9_dayRing s m args below meth c H locs 0 0 Q (F0 m 6 ls [])) ?_ H locs ls (lv_sub hl [1, 2, 0] rfl) hP hD hS
  intro x2_6 x1_6 v_one_6 v_other_6 a_tried_6 a_days_6 h H locs ls hl hP hD hS
  refine lv_iload_n hx hb dX9_dayRing_6 rfl (lv_at hl 2 rfl) ?_
  refine lv_sipush (v := 301) hx hb dX9_dayRing_7 (by decide) ?_
  refine lv_icmp_ge (tgt := 89) hx hb dX9_dayRing_10 (by decide) (fun c10 => ?_) (fun c10 => ?_)
  · have h := h.1 c10
    refine lv_bipush (v := -9) hx hb dX9_dayRing_89 (by decide) ?_
    exact ret_i4 hx hb hr hlocks hQ hS v_one_6 v_other_6 a_tried_6 a_days_6 hP h dX9_dayRing_91
  · have h := h.2 c10
    refine lv_iconst (v := 0) hx hb dX9_dayRing_13 (by decide) ?_
    refine lv_istore_n (lv' := [(3, .int (0 : Int32)), (0, .ref o), (1, .int x1_6), (2, .int x2_6)]) hx hb dX9_dayRing_14 rfl hl (by decide) rfl (fun ls hl => ?_)
    refine h (fun x3_15 a_days_15 => ∀ (H : Heap) (locs : List Loc) (ls : Array Slot), lv_has ls 4 [(0, .ref o), (1, .int x1_6), (2, .int x2_6), (3, .int x3_15)] → va_P D vwCl (cw_X9_dayRing cI cZ o o_readPurses o_readDay o_purses o_daily o_text o_row o_tried o_days o_order o_bestOrder o_seenHad o_seenShared o_isKept o_keptPurses o_keptRow o_keptHad o_keptShared o_keptRest v_readLaw v_readMany v_readMeetings v_law v_many v_meetings v_length v_at v_faultAt v_one_6 v_other_6 v_made v_leads v_rings v_seen a_purses a_daily a_tried_6 a_days_15) H → va_D A (cw_X9_dayRing cI cZ o o_readPurses o_readDay o_purses o_daily o_text o_row o_tried o_days o_order o_bestOrder o_seenHad o_seenShared o_isKept o_keptPurses o_keptRow o_keptHad o_keptShared o_keptRest v_readLaw v_readMany v_readMeetings v_law v_many v_meetings v_length v_at v_faultAt v_one_6 v_other_6 v_made v_leads v_rings v_seen a_purses a_daily a_tried_6 a_days_15) → va_S A s.heap H locs → W p l e rm_X9_dayRing s m args below meth c H locs 0 0 Q (F0 m 15 ls [])) ?_ H locs ls (lv_sub hl [1, 2, 3, 0] rfl) hP hD hS
    intro x3_15 a_days_15 h H locs ls hl hP hD hS
    refine lv_iload_n hx hb dX9_dayRing_15 rfl (lv_at hl 3 rfl) ?_
    refine lv_bipush (v := 8) hx hb dX9_dayRing_16 (by decide) ?_
    refine lv_icmp_ge (tgt := 44) hx hb dX9_dayRing_18 (by decide) (fun c18 => ?_) (fun c18 => ?_)
    · have h := h.1 c18
      refine lv_iconst (v := 0) hx hb dX9_dayRing_44 (by decide) ?_
      refine lv_istore_n (lv' := [(3, .int (0 : Int32)), (0, .ref o), (1, .int x1_6), (2, .int x2_6)]) hx hb dX9_dayRing_45 rfl hl (by decide) rfl (fun ls hl => ?_)
      refine h (fun x3_46 => ∀ (H : Heap) (locs : List Loc) (ls : Array Slot), lv_has ls 4 [(0, .ref o), (1, .int x1_6), (2, .int x2_6), (3, .int x3_46)] → va_P D vwCl (cw_X9_dayRing cI cZ o o_readPurses o_readDay o_purses o_daily o_text o_row o_tried o_days o_order o_bestOrder o_seenHad o_seenShared o_isKept o_keptPurses o_keptRow o_keptHad o_keptShared o_keptRest v_readLaw v_readMany v_readMeetings v_law v_many v_meetings v_length v_at v_faultAt v_one_6 v_other_6 v_made v_leads v_rings v_seen a_purses a_daily a_tried_6 a_days_15) H → va_D A (cw_X9_dayRing cI cZ o o_readPurses o_readDay o_purses o_daily o_text o_row o_tried o_days o_order o_bestOrder o_seenHad o_seenShared o_isKept o_keptPurses o_keptRow o_keptHad o_keptShared o_keptRest v_readLaw v_readMany v_readMeetings v_law v_many v_meetings v_length v_at v_faultAt v_one_6 v_other_6 v_made v_leads v_rings v_seen a_purses a_daily a_tried_6 a_days_15) → va_S A s.heap H locs → W p l e rm_X9_dayRing s m args below meth c H locs 0 0 Q (F0 m 46 ls [])) ?_ H locs ls (lv_sub hl [1, 2, 3, 0] rfl) hP hD hS
      intro x3_46 h H locs ls hl hP hD hS
      refine lv_iload_n hx hb dX9_dayRing_46 rfl (lv_at hl 3 rfl) ?_
      refine lv_iload_n hx hb dX9_dayRing_47 rfl (lv_at hl 2 rfl) ?_
      refine lv_icmp_ge (tgt := 78) hx hb dX9_dayRing_48 (by decide) (fun c48 => ?_) (fun c48 => ?_)
      · have h := h.1 c48
        refine lv_aload_n hx hb dX9_dayRing_78 rfl (lv_at hl 0 rfl) ?_
        refine call_i3 (va_runV (As := []) (rest := []) ⟨hx, hb, hml, hown, hts⟩ (c_X9_tryDay l D cI cZ o o_readPurses o_readDay o_purses o_daily o_text o_row o_tried o_days o_order o_bestOrder o_seenHad o_seenShared o_isKept o_keptPurses o_keptRow o_keptHad o_keptShared o_keptRest (Array.size H) v_readLaw v_readMany v_readMeetings v_law v_many v_meetings v_length v_at v_faultAt v_one_6 v_other_6 v_made v_leads v_rings v_seen a_daily a_tried_6 _ h) (cwV 0 hts gX9_dayRing_X9_tryDay rfl rfl rfl (by decide +kernel) ⟨Nat.le_of_ble_eq_true rfl, Nat.le_of_ble_eq_true rfl⟩) (preV_of hP hD hK [0, 2, 3] rfl rfl 0 9 rfl rfl rfl) rfl rfl hl.1 rfl (lv_room (Nat.le_of_ble_eq_true rfl)) dX9_dayRing_79 ⟨Nat.zero_le _, Nat.zero_le _⟩) hP hD hS hA [0, 2, 3] rfl (fun v_one_79 v_other_79 a_tried_79 => (cw_X9_dayRing cI cZ o o_readPurses o_readDay o_purses o_daily o_text o_row o_tried o_days o_order o_bestOrder o_seenHad o_seenShared o_isKept o_keptPurses o_keptRow o_keptHad o_keptShared o_keptRest v_readLaw v_readMany v_readMeetings v_law v_many v_meetings v_length v_at v_faultAt v_one_79 v_other_79 v_made v_leads v_rings v_seen a_purses a_daily a_tried_79 a_days_15)) (fun _ _ _ => rfl) (fun _ _ _ => rfl) (fun r79 v_one_79 v_other_79 a_tried_79 H locs h hP hD hS => ?_)
        refine lv_pop hx hb dX9_dayRing_82 rfl ?_
        refine lv_iinc (v := (x2_6 + 1)) (lv' := [(2, .int (x2_6 + 1)), (0, .ref o), (1, .int x1_6), (3, .int x3_46)]) hx hb dX9_dayRing_83 hl (k := 2) rfl rfl (by decide) rfl (fun ls hl => ?_)
        refine lv_goto (tgt := 6) hx hb dX9_dayRing_86 (by decide) ?_
        exact h H locs ls (lv_sub hl [1, 2, 0] rfl) hP hD hS
      · have h := h.2 c48
        refine lv_aload_n hx hb dX9_dayRing_51 rfl (lv_at hl 0 rfl) ?_
        refine lv_iload_n hx hb dX9_dayRing_52 rfl (lv_at hl 2 rfl) ?_
        refine lv_iload_n hx hb dX9_dayRing_53 rfl (lv_at hl 3 rfl) ?_
        refine call_i0 (va_runV (As := [.int x2_6, .int x3_46]) (rest := []) ⟨hx, hb, hml, hown, hts⟩ (c_X9_isLike l D cI cZ o o_readPurses o_readDay o_purses o_daily o_text o_row o_tried o_days o_order o_bestOrder o_seenHad o_seenShared o_isKept o_keptPurses o_keptRow o_keptHad o_keptShared o_keptRest (Array.size H) x2_6 x3_46 v_readLaw v_readMany v_readMeetings v_law v_many v_meetings v_length v_at v_faultAt v_one_6 v_other_6 v_made v_leads v_rings v_seen a_days_15 _ h) (cwV 2 hts gX9_dayRing_X9_isLike rfl rfl rfl (by decide +kernel) ⟨Nat.le_of_ble_eq_true rfl, Nat.le_of_ble_eq_true rfl⟩) (preV_of hP hD hK [0, 4] rfl rfl 0 9 rfl rfl rfl) rfl rfl hl.1 rfl (lv_room (Nat.le_of_ble_eq_true rfl)) dX9_dayRing_54 ⟨Nat.zero_le _, Nat.zero_le _⟩) hP hD hS hA [0, 4] rfl ((cw_X9_dayRing cI cZ o o_readPurses o_readDay o_purses o_daily o_text o_row o_tried o_days o_order o_bestOrder o_seenHad o_seenShared o_isKept o_keptPurses o_keptRow o_keptHad o_keptShared o_keptRest v_readLaw v_readMany v_readMeetings v_law v_many v_meetings v_length v_at v_faultAt v_one_6 v_other_6 v_made v_leads v_rings v_seen a_purses a_daily a_tried_6 a_days_15)) (rfl) (rfl) (fun r54 H locs h hP hD hS => ?_)
        refine lv_if_eq (tgt := 72) hx hb dX9_dayRing_57 (by decide) (fun c57 => ?_) (fun c57 => ?_)
        · have h := h.1 c57
          refine lv_iinc (v := (x3_46 + 1)) (lv' := [(3, .int (x3_46 + 1)), (0, .ref o), (1, .int x1_6), (2, .int x2_6)]) hx hb dX9_dayRing_72 hl (k := 3) rfl rfl (by decide) rfl (fun ls hl => ?_)
          refine lv_goto (tgt := 46) hx hb dX9_dayRing_75 (by decide) ?_
          exact h H locs ls (lv_sub hl [1, 2, 3, 0] rfl) hP hD hS
        · have h := h.2 c57
          refine lv_iload_n hx hb dX9_dayRing_60 rfl (lv_at hl 1 rfl) ?_
          refine lv_if_eq (tgt := 68) hx hb dX9_dayRing_61 (by decide) (fun c61 => ?_) (fun c61 => ?_)
          · have h := h.1 c61
            refine lv_iload_n hx hb dX9_dayRing_68 rfl (lv_at hl 2 rfl) ?_
            refine lv_iload_n hx hb dX9_dayRing_69 rfl (lv_at hl 3 rfl) ?_
            refine lv_isub hx hb dX9_dayRing_70 ?_
            exact ret_i4 hx hb hr hlocks hQ hS v_one_6 v_other_6 a_tried_6 a_days_15 hP h dX9_dayRing_71
          · have h := h.2 c61
            refine lv_iload_n hx hb dX9_dayRing_64 rfl (lv_at hl 3 rfl) ?_
            refine lv_goto (tgt := 71) hx hb dX9_dayRing_65 (by decide) ?_
            exact ret_i4 hx hb hr hlocks hQ hS v_one_6 v_other_6 a_tried_6 a_days_15 hP h dX9_dayRing_71
    · have h := h.2 c18
      refine lv_aload_n hx hb dX9_dayRing_21 rfl (lv_at hl 0 rfl) ?_
      refine va_get (D := D) (ci := 9) (v := .ref o_days) (C := RX9) (T := TX9) (N := 33) hx hb hts inw_X9_dayRing_X9 hown hK.1 hP 0 rfl rfl 21 (by decide) (hts (.fieldLink RX9 31 "PursesShareModel" "days" "[I") (by decide +kernel)) (fun _ h9 => h9) rfl dX9_dayRing_22 ?_
      refine lv_bipush (v := 8) hx hb dX9_dayRing_25 (by decide) ?_
      refine lv_iload_n hx hb dX9_dayRing_27 rfl (lv_at hl 2 rfl) ?_
      refine lv_imul hx hb dX9_dayRing_28 ?_
      refine lv_iload_n hx hb dX9_dayRing_29 rfl (lv_at hl 3 rfl) ?_
      refine lv_iadd hx hb dX9_dayRing_30 ?_
      refine lv_aload_n hx hb dX9_dayRing_31 rfl (lv_at hl 0 rfl) ?_
      refine va_get (D := D) (ci := 9) (v := .ref o_tried) (C := RX9) (T := TX9) (N := 33) hx hb hts inw_X9_dayRing_X9 hown hK.1 hP 0 rfl rfl 18 (by decide) (hts (.fieldLink RX9 28 "PursesShareModel" "tried" "[I") (by decide +kernel)) (fun _ h9 => h9) rfl dX9_dayRing_32 ?_
      refine lv_iload_n hx hb dX9_dayRing_35 rfl (lv_at hl 3 rfl) ?_
      have h0 := h.1
      have h := h.2
      refine va_iald hx hb hK.1 hP 3 0 rfl rfl h0 dX9_dayRing_36 ?_
      have h0 := h.1
      have h := h.2
      refine va_iast hx hb hK.1 hP hD hS 4 0 rfl rfl h0 dX9_dayRing_37 (fun H locs hP hD hS => ?_)
      have hP : va_P D vwCl (cw_X9_dayRing cI cZ o o_readPurses o_readDay o_purses o_daily o_text o_row o_tried o_days o_order o_bestOrder o_seenHad o_seenShared o_isKept o_keptPurses o_keptRow o_keptHad o_keptShared o_keptRest v_readLaw v_readMany v_readMeetings v_law v_many v_meetings v_length v_at v_faultAt v_one_6 v_other_6 v_made v_leads v_rings v_seen a_purses a_daily a_tried_6 (upd a_days_15 (Int32.toNatClampNeg (((8 : Int32) * x2_6) + x3_15)) (a_tried_6 (Int32.toNatClampNeg x3_15)))) H := hP
      have hD : va_D A (cw_X9_dayRing cI cZ o o_readPurses o_readDay o_purses o_daily o_text o_row o_tried o_days o_order o_bestOrder o_seenHad o_seenShared o_isKept o_keptPurses o_keptRow o_keptHad o_keptShared o_keptRest v_readLaw v_readMany v_readMeetings v_law v_many v_meetings v_length v_at v_faultAt v_one_6 v_other_6 v_made v_leads v_rings v_seen a_purses a_daily a_tried_6 (upd a_days_15 (Int32.toNatClampNeg (((8 : Int32) * x2_6) + x3_15)) (a_tried_6 (Int32.toNatClampNeg x3_15)))) := hD
      refine lv_iinc (v := (x3_15 + 1)) (lv' := [(3, .int (x3_15 + 1)), (0, .ref o), (1, .int x1_6), (2, .int x2_6)]) hx hb dX9_dayRing_38 hl (k := 3) rfl rfl (by decide) rfl (fun ls hl => ?_)
      refine lv_goto (tgt := 15) hx hb dX9_dayRing_41 (by decide) ?_
      exact h H locs ls (lv_sub hl [1, 2, 3, 0] rfl) hP hD hS
abbrev rm_X9_layOrder : Room := { frames := 0, cells := 0, slots := 0, locals := 0 }
abbrev cw_X9_layOrder (cI cZ : ClassId) (o o_readPurses o_readDay o_purses o_daily o_text o_row o_tried o_days o_order o_bestOrder o_seenHad o_seenShared o_isKept o_keptPurses o_keptRow o_keptHad o_keptShared o_keptRest : Nat) (v_readLaw : Int32) (v_readMany : Int32) (v_readMeetings : Int32) (v_law : Int32) (v_many : Int32) (v_meetings : Int32) (v_length : Int32) (v_at : Int32) (v_faultAt : Int32) (v_one : Int32) (v_other : Int32) (v_made : Int32) (v_leads : Int32) (v_rings : Int32) (v_seen : Int32) (a_order : Nat → Int32) : va_W := [(o, .inr (9, [.ref o_readPurses, .ref o_readDay, .int v_readLaw, .int v_readMany, .int v_readMeetings, .ref o_purses, .ref o_daily, .int v_law, .int v_many, .int v_meetings, .ref o_text, .int v_length, .int v_at, .int v_faultAt, .int v_one, .int v_other, .int v_made, .ref o_row, .ref o_tried, .int v_leads, .int v_rings, .ref o_days, .ref o_order, .ref o_bestOrder, .int v_seen, .ref o_seenHad, .ref o_seenShared, .ref o_isKept, .ref o_keptPurses, .ref o_keptRow, .ref o_keptHad, .ref o_keptShared, .ref o_keptRest])), (o_order, .inl (cI, 8, .inl a_order))]
theorem inw_X9_layOrder_X9 : ∀ w ∈ u_ws RX9 TX9 33, w ∈ wsX9_layOrder := by decide +kernel
def wp_X9_layOrder (n1 : Int32) (n2 : Int32) (n3 : Int32) (a_order : Nat → Int32) (Post : (Nat → Int32) → Prop) : Prop := (∀ k6 : (Int32) → (Int32) → Prop, (∀ (x5_6 : Int32) (x4_6 : Int32), ((n3 ≤ x5_6 → (∀ k36 : (Int32) → (Int32) → (Int32) → (Int32) → (Int32) → (Int32) → (Int32) → (Nat → Int32) → Prop, (∀ (x7_36 : Int32) (x6_36 : Int32) (x5_36 : Int32) (x1_36 : Int32) (x2_36 : Int32) (x3_36 : Int32) (x4_36 : Int32) (a_order_36 : Nat → Int32), ((x3_36 ≤ x7_36 → (Post a_order_36)) ∧ (¬ x3_36 ≤ x7_36 → (¬ (x2_36 - x7_36) = 0 ∧ (¬ (x4_36 / (x2_36 - x7_36)) = 0 ∧ (¬ (x4_36 / (x2_36 - x7_36)) = 0 ∧ (∀ k68 : (Int32) → (Int32) → Prop, (∀ (x9_68 : Int32) (x8_68 : Int32), ((((x6_36 >>> (x9_68 &&& 31)) &&& (1 : Int32)) = (1 : Int32) → ((¬ ((x6_36 >>> (x9_68 &&& 31)) &&& (1 : Int32)) = (1 : Int32) → (k68 (x9_68 + 1) (x8_68 - (1 : Int32)))) ∧ (((x6_36 >>> (x9_68 &&& 31)) &&& (1 : Int32)) = (1 : Int32) → (k68 (x9_68 + 1) (x8_68 - (0 : Int32)))))) ∧ (¬ ((x6_36 >>> (x9_68 &&& 31)) &&& (1 : Int32)) = (1 : Int32) → ((x8_68 ≤ 0 → (vp_in x7_36 8 ∧ (k36 (x7_36 + 1) (x6_36 ||| ((1 : Int32) <<< (x9_68 &&& 31))) (x5_36 - x5_36 / (x4_36 / (x2_36 - x7_36)) * (x4_36 / (x2_36 - x7_36))) x1_36 x2_36 x3_36 (x4_36 / (x2_36 - x7_36)) (upd a_order_36 (Int32.toNatClampNeg x7_36) x9_68)))) ∧ (¬ x8_68 ≤ 0 → ((¬ ((x6_36 >>> (x9_68 &&& 31)) &&& (1 : Int32)) = (1 : Int32) → (k68 (x9_68 + 1) (x8_68 - (1 : Int32)))) ∧ (((x6_36 >>> (x9_68 &&& 31)) &&& (1 : Int32)) = (1 : Int32) → (k68 (x9_68 + 1) (x8_68 - (0 : Int32))))))))) → k68 x9_68 x8_68) → k68 (0 : Int32) (x5_36 / (x4_36 / (x2_36 - x7_36))))))))) → k36 x7_36 x6_36 x5_36 x1_36 x2_36 x3_36 x4_36 a_order_36) → k36 (0 : Int32) (0 : Int32) n1 n1 n2 n3 x4_6 a_order)) ∧ (¬ n3 ≤ x5_6 → (k6 (x5_6 + 1) (x4_6 * (n2 - x5_6))))) → k6 x5_6 x4_6) → k6 (0 : Int32) (1 : Int32))
set_option maxHeartbeats 4000000 in
set_option maxRecDepth 100000 in
theorem c_X9_layOrder (l : Launch) (D : va_G) (cI cZ : ClassId) (o o_readPurses o_readDay o_purses o_daily o_text o_row o_tried o_days o_order o_bestOrder o_seenHad o_seenShared o_isKept o_keptPurses o_keptRow o_keptHad o_keptShared o_keptRest : Nat) (sz : Nat) (n1 : Int32) (n2 : Int32) (n3 : Int32) (v_readLaw : Int32) (v_readMany : Int32) (v_readMeetings : Int32) (v_law : Int32) (v_many : Int32) (v_meetings : Int32) (v_length : Int32) (v_at : Int32) (v_faultAt : Int32) (v_one : Int32) (v_other : Int32) (v_made : Int32) (v_leads : Int32) (v_rings : Int32) (v_seen : Int32) (a_order : Nat → Int32) (Post : (Nat → Int32) → Prop) (h : wp_X9_layOrder n1 n2 n3 a_order Post) : Met l yX9_layOrder wsX9_layOrder rm_X9_layOrder (cPc D cI cZ [.ref o, .int n1, .int n2, .int n3] (cw_X9_layOrder cI cZ o o_readPurses o_readDay o_purses o_daily o_text o_row o_tried o_days o_order o_bestOrder o_seenHad o_seenShared o_isKept o_keptPurses o_keptRow o_keptHad o_keptShared o_keptRest v_readLaw v_readMany v_readMeetings v_law v_many v_meetings v_length v_at v_faultAt v_one v_other v_made v_leads v_rings v_seen a_order) sz) (cQv1 D Post (fun m_a_order => (cw_X9_layOrder cI cZ o o_readPurses o_readDay o_purses o_daily o_text o_row o_tried o_days o_order o_bestOrder o_seenHad o_seenShared o_isKept o_keptPurses o_keptRow o_keptHad o_keptShared o_keptRest v_readLaw v_readMany v_readMeetings v_law v_many v_meetings v_length v_at v_faultAt v_one v_other v_made v_leads v_rings v_seen m_a_order)) (va_A (cw_X9_layOrder cI cZ o o_readPurses o_readDay o_purses o_daily o_text o_row o_tried o_days o_order o_bestOrder o_seenHad o_seenShared o_isKept o_keptPurses o_keptRow o_keptHad o_keptShared o_keptRest v_readLaw v_readMany v_readMeetings v_law v_many v_meetings v_length v_at v_faultAt v_one v_other v_made v_leads v_rings v_seen a_order) sz)) 0 0 (va_A (cw_X9_layOrder cI cZ o o_readPurses o_readDay o_purses o_daily o_text o_row o_tried o_days o_order o_bestOrder o_seenHad o_seenShared o_isKept o_keptPurses o_keptRow o_keptHad o_keptShared o_keptRest v_readLaw v_readMany v_readMeetings v_law v_many v_meetings v_length v_at v_faultAt v_one v_other v_made v_leads v_rings v_seen a_order) sz) := by
  refine ent (cc := cX9_layOrder) (maxL := 10) (ret := none) (Qc := fun A => cQv1 D Post (fun m_a_order => (cw_X9_layOrder cI cZ o o_readPurses o_readDay o_purses o_daily o_text o_row o_tried o_days o_order o_bestOrder o_seenHad o_seenShared o_isKept o_keptPurses o_keptRow o_keptHad o_keptShared o_keptRest v_readLaw v_readMany v_readMeetings v_law v_many v_meetings v_length v_at v_faultAt v_one v_other v_made v_leads v_rings v_seen m_a_order)) A) (by decide) rfl (Nat.le_of_ble_eq_true rfl) ?_
  intro p e s m args below meth c A ls Q hQ hsz hx hb hml hr hts hown hlocks hnm hK hP hD hA hS hl
  have hl : lv_has ls 10 [(0, .ref o), (1, .int n1), (2, .int n2), (3, .int n3)] := hl
  unfold wp_X9_layOrder at h
  refine lv_iconst (v := 1) hx hb dX9_layOrder_0 (by decide) ?_
  refine lv_istore (lv' := [(4, .int (1 : Int32)), (0, .ref o), (1, .int n1), (2, .int n2), (3, .int n3)]) hx hb dX9_layOrder_1 hl (by decide) rfl (fun ls hl => ?_)
  refine lv_iconst (v := 0) hx hb dX9_layOrder_3 (by decide) ?_
  refine lv_istore (lv' := [(5, .int (0 : Int32)), (4, .int (1 : Int32)), (0, .ref o), (1, .int n1), (2, .int n2), (3, .int n3)]) hx hb dX9_layOrder_4 hl (by decide) rfl (fun ls hl => ?_)
  refine h (fun x5_6 x4_6 => ∀ (H : Heap) (locs : List Loc) (ls : Array Slot), lv_has ls 10 [(0, .ref o), (1, .int n1), (2, .int n2), (3, .int n3), (4, .int x4_6), (5, .int x5_6)] → va_P D vwCl (cw_X9_layOrder cI cZ o o_readPurses o_readDay o_purses o_daily o_text o_row o_tried o_days o_order o_bestOrder o_seenHad o_seenShared o_isKept o_keptPurses o_keptRow o_keptHad o_keptShared o_keptRest v_readLaw v_readMany v_readMeetings v_law v_many v_meetings v_length v_at v_faultAt v_one v_other v_made v_leads v_rings v_seen a_order) H → va_D A (cw_X9_layOrder cI cZ o o_readPurses o_readDay o_purses o_daily o_text o_row o_tried o_days o_order o_bestOrder o_seenHad o_seenShared o_isKept o_keptPurses o_keptRow o_keptHad o_keptShared o_keptRest v_readLaw v_readMany v_readMeetings v_law v_many v_meetings v_length v_at v_faultAt v_one v_other v_made v_leads v_rings v_seen a_order) → va_S A s.heap H locs → W p l e rm_X9_layOrder s m args below meth c H locs 0 0 Q (F0 m 6 ls [])) ?_ s.heap [] ls (lv_sub hl [2, 3, 4, 5, 1, 0] rfl) hP hD hS
  intro x5_6 x4_6 h H locs ls hl hP hD hS
  refine lv_iload hx hb dX9_layOrder_6 (lv_at hl 5 rfl) ?_
  refine lv_iload_n hx hb dX9_layOrder_8 rfl (lv_at hl 3 rfl) ?_
  refine lv_icmp_ge (tgt := 27) hx hb dX9_layOrder_9 (by decide) (fun c9 => ?_) (fun c9 => ?_)
  · have h := h.1 c9
    refine lv_iload_n hx hb dX9_layOrder_27 rfl (lv_at hl 1 rfl) ?_
    refine lv_istore (lv' := [(5, .int n1), (0, .ref o), (1, .int n1), (2, .int n2), (3, .int n3), (4, .int x4_6)]) hx hb dX9_layOrder_28 hl (by decide) rfl (fun ls hl => ?_)
    refine lv_iconst (v := 0) hx hb dX9_layOrder_30 (by decide) ?_
    refine lv_istore (lv' := [(6, .int (0 : Int32)), (5, .int n1), (0, .ref o), (1, .int n1), (2, .int n2), (3, .int n3), (4, .int x4_6)]) hx hb dX9_layOrder_31 hl (by decide) rfl (fun ls hl => ?_)
    refine lv_iconst (v := 0) hx hb dX9_layOrder_33 (by decide) ?_
    refine lv_istore (lv' := [(7, .int (0 : Int32)), (6, .int (0 : Int32)), (5, .int n1), (0, .ref o), (1, .int n1), (2, .int n2), (3, .int n3), (4, .int x4_6)]) hx hb dX9_layOrder_34 hl (by decide) rfl (fun ls hl => ?_)
    refine h (fun x7_36 x6_36 x5_36 x1_36 x2_36 x3_36 x4_36 a_order_36 => ∀ (H : Heap) (locs : List Loc) (ls : Array Slot), lv_has ls 10 [(0, .ref o), (1, .int x1_36), (2, .int x2_36), (3, .int x3_36), (4, .int x4_36), (5, .int x5_36), (6, .int x6_36), (7, .int x7_36)] → va_P D vwCl (cw_X9_layOrder cI cZ o o_readPurses o_readDay o_purses o_daily o_text o_row o_tried o_days o_order o_bestOrder o_seenHad o_seenShared o_isKept o_keptPurses o_keptRow o_keptHad o_keptShared o_keptRest v_readLaw v_readMany v_readMeetings v_law v_many v_meetings v_length v_at v_faultAt v_one v_other v_made v_leads v_rings v_seen a_order_36) H → va_D A (cw_X9_layOrder cI cZ o o_readPurses o_readDay o_purses o_daily o_text o_row o_tried o_days o_order o_bestOrder o_seenHad o_seenShared o_isKept o_keptPurses o_keptRow o_keptHad o_keptShared o_keptRest v_readLaw v_readMany v_readMeetings v_law v_many v_meetings v_length v_at v_faultAt v_one v_other v_made v_leads v_rings v_seen a_order_36) → va_S A s.heap H locs → W p l e rm_X9_layOrder s m args below meth c H locs 0 0 Q (F0 m 36 ls [])) ?_ H locs ls (lv_sub hl [3, 4, 5, 6, 7, 2, 1, 0] rfl) hP hD hS
    intro x7_36 x6_36 x5_36 x1_36 x2_36 x3_36 x4_36 a_order_36 h H locs ls hl hP hD hS
    refine lv_iload hx hb dX9_layOrder_36 (lv_at hl 7 rfl) ?_
    refine lv_iload_n hx hb dX9_layOrder_38 rfl (lv_at hl 3 rfl) ?_
    refine lv_icmp_ge (tgt := 135) hx hb dX9_layOrder_39 (by decide) (fun c39 => ?_) (fun c39 => ?_)
    · have h := h.1 c39
      exact ret_v1 hx hb hr hlocks hQ hS a_order_36 hP h dX9_layOrder_135
    · have h := h.2 c39
      refine lv_iload hx hb dX9_layOrder_42 (lv_at hl 4 rfl) ?_
      refine lv_iload_n hx hb dX9_layOrder_44 rfl (lv_at hl 2 rfl) ?_
      refine lv_iload hx hb dX9_layOrder_45 (lv_at hl 7 rfl) ?_
      refine lv_isub hx hb dX9_layOrder_47 ?_
      have h0 := h.1
      have h := h.2
      refine lv_idiv hx hb dX9_layOrder_48 h0 ?_
      refine lv_istore (lv' := [(4, .int (x4_36 / (x2_36 - x7_36))), (0, .ref o), (1, .int x1_36), (2, .int x2_36), (3, .int x3_36), (5, .int x5_36), (6, .int x6_36), (7, .int x7_36)]) hx hb dX9_layOrder_49 hl (by decide) rfl (fun ls hl => ?_)
      refine lv_iload hx hb dX9_layOrder_51 (lv_at hl 5 rfl) ?_
      refine lv_iload hx hb dX9_layOrder_53 (lv_at hl 0 rfl) ?_
      have h0 := h.1
      have h := h.2
      refine lv_idiv hx hb dX9_layOrder_55 h0 ?_
      refine lv_istore (lv' := [(8, .int (x5_36 / (x4_36 / (x2_36 - x7_36)))), (4, .int (x4_36 / (x2_36 - x7_36))), (0, .ref o), (1, .int x1_36), (2, .int x2_36), (3, .int x3_36), (5, .int x5_36), (6, .int x6_36), (7, .int x7_36)]) hx hb dX9_layOrder_56 hl (by decide) rfl (fun ls hl => ?_)
      refine lv_iload hx hb dX9_layOrder_58 (lv_at hl 6 rfl) ?_
      refine lv_iload hx hb dX9_layOrder_60 (lv_at hl 1 rfl) ?_
      have h0 := h.1
      have h := h.2
      refine lv_irem hx hb dX9_layOrder_62 h0 ?_
      refine lv_istore (lv' := [(5, .int (x5_36 - x5_36 / (x4_36 / (x2_36 - x7_36)) * (x4_36 / (x2_36 - x7_36)))), (8, .int (x5_36 / (x4_36 / (x2_36 - x7_36)))), (4, .int (x4_36 / (x2_36 - x7_36))), (0, .ref o), (1, .int x1_36), (2, .int x2_36), (3, .int x3_36), (6, .int x6_36), (7, .int x7_36)]) hx hb dX9_layOrder_63 hl (by decide) rfl (fun ls hl => ?_)
      refine lv_iconst (v := 0) hx hb dX9_layOrder_65 (by decide) ?_
      refine lv_istore (lv' := [(9, .int (0 : Int32)), (5, .int (x5_36 - x5_36 / (x4_36 / (x2_36 - x7_36)) * (x4_36 / (x2_36 - x7_36)))), (8, .int (x5_36 / (x4_36 / (x2_36 - x7_36)))), (4, .int (x4_36 / (x2_36 - x7_36))), (0, .ref o), (1, .int x1_36), (2, .int x2_36), (3, .int x3_36), (6, .int x6_36), (7, .int x7_36)]) hx hb dX9_layOrder_66 hl (by decide) rfl (fun ls hl => ?_)
      refine h (fun x9_68 x8_68 => ∀ (H : Heap) (locs : List Loc) (ls : Array Slot), lv_has ls 10 [(0, .ref o), (1, .int x1_36), (2, .int x2_36), (3, .int x3_36), (4, .int (x4_36 / (x2_36 - x7_36))), (5, .int (x5_36 - x5_36 / (x4_36 / (x2_36 - x7_36)) * (x4_36 / (x2_36 - x7_36)))), (6, .int x6_36), (7, .int x7_36), (8, .int x8_68), (9, .int x9_68)] → va_P D vwCl (cw_X9_layOrder cI cZ o o_readPurses o_readDay o_purses o_daily o_text o_row o_tried o_days o_order o_bestOrder o_seenHad o_seenShared o_isKept o_keptPurses o_keptRow o_keptHad o_keptShared o_keptRest v_readLaw v_readMany v_readMeetings v_law v_many v_meetings v_length v_at v_faultAt v_one v_other v_made v_leads v_rings v_seen a_order_36) H → va_D A (cw_X9_layOrder cI cZ o o_readPurses o_readDay o_purses o_daily o_text o_row o_tried o_days o_order o_bestOrder o_seenHad o_seenShared o_isKept o_keptPurses o_keptRow o_keptHad o_keptShared o_keptRest v_readLaw v_readMany v_readMeetings v_law v_many v_meetings v_length v_at v_faultAt v_one v_other v_made v_leads v_rings v_seen a_order_36) → va_S A s.heap H locs → W p l e rm_X9_layOrder s m args below meth c H locs 0 0 Q (F0 m 68 ls [])) ?_ H locs ls (lv_sub hl [4, 5, 6, 7, 3, 1, 8, 9, 2, 0] rfl) hP hD hS
      intro x9_68 x8_68 h H locs ls hl hP hD hS
      refine lv_iload hx hb dX9_layOrder_68 (lv_at hl 6 rfl) ?_
      refine lv_iload hx hb dX9_layOrder_70 (lv_at hl 9 rfl) ?_
      refine lv_ishr hx hb dX9_layOrder_72 ?_
      refine lv_iconst (v := 1) hx hb dX9_layOrder_73 (by decide) ?_
      refine lv_iand hx hb dX9_layOrder_74 ?_
      refine lv_iconst (v := 1) hx hb dX9_layOrder_75 (by decide) ?_
      refine lv_icmp_eq (tgt := 84) hx hb dX9_layOrder_76 (by decide) (fun c76 => ?_) (fun c76 => ?_)
      · have h := h.1 c76
        refine lv_iload hx hb dX9_layOrder_84 (lv_at hl 8 rfl) ?_
        refine lv_iload hx hb dX9_layOrder_86 (lv_at hl 6 rfl) ?_
        refine lv_iload hx hb dX9_layOrder_88 (lv_at hl 9 rfl) ?_
        refine lv_ishr hx hb dX9_layOrder_90 ?_
        refine lv_iconst (v := 1) hx hb dX9_layOrder_91 (by decide) ?_
        refine lv_iand hx hb dX9_layOrder_92 ?_
        refine lv_iconst (v := 1) hx hb dX9_layOrder_93 (by decide) ?_
        refine lv_icmp_ne (tgt := 101) hx hb dX9_layOrder_94 (by decide) (fun c94 => ?_) (fun c94 => ?_)
        · have h := h.1 c94
          refine lv_iconst (v := 1) hx hb dX9_layOrder_101 (by decide) ?_
          refine lv_isub hx hb dX9_layOrder_102 ?_
          refine lv_istore (lv' := [(8, .int (x8_68 - (1 : Int32))), (0, .ref o), (1, .int x1_36), (2, .int x2_36), (3, .int x3_36), (4, .int (x4_36 / (x2_36 - x7_36))), (5, .int (x5_36 - x5_36 / (x4_36 / (x2_36 - x7_36)) * (x4_36 / (x2_36 - x7_36)))), (6, .int x6_36), (7, .int x7_36), (9, .int x9_68)]) hx hb dX9_layOrder_103 hl (by decide) rfl (fun ls hl => ?_)
          refine lv_iinc (v := (x9_68 + 1)) (lv' := [(9, .int (x9_68 + 1)), (8, .int (x8_68 - (1 : Int32))), (0, .ref o), (1, .int x1_36), (2, .int x2_36), (3, .int x3_36), (4, .int (x4_36 / (x2_36 - x7_36))), (5, .int (x5_36 - x5_36 / (x4_36 / (x2_36 - x7_36)) * (x4_36 / (x2_36 - x7_36)))), (6, .int x6_36), (7, .int x7_36)]) hx hb dX9_layOrder_105 hl (k := 9) rfl rfl (by decide) rfl (fun ls hl => ?_)
          refine lv_goto (tgt := 68) hx hb dX9_layOrder_108 (by decide) ?_
          exact h H locs ls (lv_sub hl [2, 3, 4, 5, 6, 7, 8, 9, 1, 0] rfl) hP hD hS
        · have h := h.2 c94
          refine lv_iconst (v := 0) hx hb dX9_layOrder_97 (by decide) ?_
          refine lv_goto (tgt := 102) hx hb dX9_layOrder_98 (by decide) ?_
          refine lv_isub hx hb dX9_layOrder_102 ?_
          refine lv_istore (lv' := [(8, .int (x8_68 - (0 : Int32))), (0, .ref o), (1, .int x1_36), (2, .int x2_36), (3, .int x3_36), (4, .int (x4_36 / (x2_36 - x7_36))), (5, .int (x5_36 - x5_36 / (x4_36 / (x2_36 - x7_36)) * (x4_36 / (x2_36 - x7_36)))), (6, .int x6_36), (7, .int x7_36), (9, .int x9_68)]) hx hb dX9_layOrder_103 hl (by decide) rfl (fun ls hl => ?_)
          refine lv_iinc (v := (x9_68 + 1)) (lv' := [(9, .int (x9_68 + 1)), (8, .int (x8_68 - (0 : Int32))), (0, .ref o), (1, .int x1_36), (2, .int x2_36), (3, .int x3_36), (4, .int (x4_36 / (x2_36 - x7_36))), (5, .int (x5_36 - x5_36 / (x4_36 / (x2_36 - x7_36)) * (x4_36 / (x2_36 - x7_36)))), (6, .int x6_36), (7, .int x7_36)]) hx hb dX9_layOrder_105 hl (k := 9) rfl rfl (by decide) rfl (fun ls hl => ?_)
          refine lv_goto (tgt := 68) hx hb dX9_layOrder_108 (by decide) ?_
          exact h H locs ls (lv_sub hl [2, 3, 4, 5, 6, 7, 8, 9, 1, 0] rfl) hP hD hS
      · have h := h.2 c76
        refine lv_iload hx hb dX9_layOrder_79 (lv_at hl 8 rfl) ?_
        refine lv_if_le (tgt := 111) hx hb dX9_layOrder_81 (by decide) (fun c81 => ?_) (fun c81 => ?_)
        · have h := h.1 c81
          refine lv_aload_n hx hb dX9_layOrder_111 rfl (lv_at hl 0 rfl) ?_
          refine va_get (D := D) (ci := 9) (v := .ref o_order) (C := RX9) (T := TX9) (N := 33) hx hb hts inw_X9_layOrder_X9 hown hK.1 hP 0 rfl rfl 22 (by decide) (hts (.fieldLink RX9 34 "PursesShareModel" "order" "[I") (by decide +kernel)) (fun _ h9 => h9) rfl dX9_layOrder_112 ?_
          refine lv_iload hx hb dX9_layOrder_115 (lv_at hl 7 rfl) ?_
          refine lv_iload hx hb dX9_layOrder_117 (lv_at hl 9 rfl) ?_
          have h0 := h.1
          have h := h.2
          refine va_iast hx hb hK.1 hP hD hS 1 0 rfl rfl h0 dX9_layOrder_119 (fun H locs hP hD hS => ?_)
          have hP : va_P D vwCl (cw_X9_layOrder cI cZ o o_readPurses o_readDay o_purses o_daily o_text o_row o_tried o_days o_order o_bestOrder o_seenHad o_seenShared o_isKept o_keptPurses o_keptRow o_keptHad o_keptShared o_keptRest v_readLaw v_readMany v_readMeetings v_law v_many v_meetings v_length v_at v_faultAt v_one v_other v_made v_leads v_rings v_seen (upd a_order_36 (Int32.toNatClampNeg x7_36) x9_68)) H := hP
          have hD : va_D A (cw_X9_layOrder cI cZ o o_readPurses o_readDay o_purses o_daily o_text o_row o_tried o_days o_order o_bestOrder o_seenHad o_seenShared o_isKept o_keptPurses o_keptRow o_keptHad o_keptShared o_keptRest v_readLaw v_readMany v_readMeetings v_law v_many v_meetings v_length v_at v_faultAt v_one v_other v_made v_leads v_rings v_seen (upd a_order_36 (Int32.toNatClampNeg x7_36) x9_68)) := hD
          refine lv_iload hx hb dX9_layOrder_120 (lv_at hl 6 rfl) ?_
          refine lv_iconst (v := 1) hx hb dX9_layOrder_122 (by decide) ?_
          refine lv_iload hx hb dX9_layOrder_123 (lv_at hl 9 rfl) ?_
          refine lv_ishl hx hb dX9_layOrder_125 ?_
          refine lv_ior hx hb dX9_layOrder_126 ?_
          refine lv_istore (lv' := [(6, .int (x6_36 ||| ((1 : Int32) <<< (x9_68 &&& 31)))), (0, .ref o), (1, .int x1_36), (2, .int x2_36), (3, .int x3_36), (4, .int (x4_36 / (x2_36 - x7_36))), (5, .int (x5_36 - x5_36 / (x4_36 / (x2_36 - x7_36)) * (x4_36 / (x2_36 - x7_36)))), (7, .int x7_36), (8, .int x8_68), (9, .int x9_68)]) hx hb dX9_layOrder_127 hl (by decide) rfl (fun ls hl => ?_)
          refine lv_iinc (v := (x7_36 + 1)) (lv' := [(7, .int (x7_36 + 1)), (6, .int (x6_36 ||| ((1 : Int32) <<< (x9_68 &&& 31)))), (0, .ref o), (1, .int x1_36), (2, .int x2_36), (3, .int x3_36), (4, .int (x4_36 / (x2_36 - x7_36))), (5, .int (x5_36 - x5_36 / (x4_36 / (x2_36 - x7_36)) * (x4_36 / (x2_36 - x7_36)))), (8, .int x8_68), (9, .int x9_68)]) hx hb dX9_layOrder_129 hl (k := 7) rfl rfl (by decide) rfl (fun ls hl => ?_)
          refine lv_goto (tgt := 36) hx hb dX9_layOrder_132 (by decide) ?_
          exact h H locs ls (lv_sub hl [2, 3, 4, 5, 6, 7, 1, 0] rfl) hP hD hS
        · have h := h.2 c81
          refine lv_iload hx hb dX9_layOrder_84 (lv_at hl 8 rfl) ?_
          refine lv_iload hx hb dX9_layOrder_86 (lv_at hl 6 rfl) ?_
          refine lv_iload hx hb dX9_layOrder_88 (lv_at hl 9 rfl) ?_
          refine lv_ishr hx hb dX9_layOrder_90 ?_
          refine lv_iconst (v := 1) hx hb dX9_layOrder_91 (by decide) ?_
          refine lv_iand hx hb dX9_layOrder_92 ?_
          refine lv_iconst (v := 1) hx hb dX9_layOrder_93 (by decide) ?_
          refine lv_icmp_ne (tgt := 101) hx hb dX9_layOrder_94 (by decide) (fun c94 => ?_) (fun c94 => ?_)
          · have h := h.1 c94
            refine lv_iconst (v := 1) hx hb dX9_layOrder_101 (by decide) ?_
            refine lv_isub hx hb dX9_layOrder_102 ?_
            refine lv_istore (lv' := [(8, .int (x8_68 - (1 : Int32))), (0, .ref o), (1, .int x1_36), (2, .int x2_36), (3, .int x3_36), (4, .int (x4_36 / (x2_36 - x7_36))), (5, .int (x5_36 - x5_36 / (x4_36 / (x2_36 - x7_36)) * (x4_36 / (x2_36 - x7_36)))), (6, .int x6_36), (7, .int x7_36), (9, .int x9_68)]) hx hb dX9_layOrder_103 hl (by decide) rfl (fun ls hl => ?_)
            refine lv_iinc (v := (x9_68 + 1)) (lv' := [(9, .int (x9_68 + 1)), (8, .int (x8_68 - (1 : Int32))), (0, .ref o), (1, .int x1_36), (2, .int x2_36), (3, .int x3_36), (4, .int (x4_36 / (x2_36 - x7_36))), (5, .int (x5_36 - x5_36 / (x4_36 / (x2_36 - x7_36)) * (x4_36 / (x2_36 - x7_36)))), (6, .int x6_36), (7, .int x7_36)]) hx hb dX9_layOrder_105 hl (k := 9) rfl rfl (by decide) rfl (fun ls hl => ?_)
            refine lv_goto (tgt := 68) hx hb dX9_layOrder_108 (by decide) ?_
            exact h H locs ls (lv_sub hl [2, 3, 4, 5, 6, 7, 8, 9, 1, 0] rfl) hP hD hS
          · have h := h.2 c94
            refine lv_iconst (v := 0) hx hb dX9_layOrder_97 (by decide) ?_
            refine lv_goto (tgt := 102) hx hb dX9_layOrder_98 (by decide) ?_
            refine lv_isub hx hb dX9_layOrder_102 ?_
            refine lv_istore (lv' := [(8, .int (x8_68 - (0 : Int32))), (0, .ref o), (1, .int x1_36), (2, .int x2_36), (3, .int x3_36), (4, .int (x4_36 / (x2_36 - x7_36))), (5, .int (x5_36 - x5_36 / (x4_36 / (x2_36 - x7_36)) * (x4_36 / (x2_36 - x7_36)))), (6, .int x6_36), (7, .int x7_36), (9, .int x9_68)]) hx hb dX9_layOrder_103 hl (by decide) rfl (fun ls hl => ?_)
            refine lv_iinc (v := (x9_68 + 1)) (lv' := [(9, .int (x9_68 + 1)), (8, .int (x8_68 - (0 : Int32))), (0, .ref o), (1, .int x1_36), (2, .int x2_36), (3, .int x3_36), (4, .int (x4_36 / (x2_36 - x7_36))), (5, .int (x5_36 - x5_36 / (x4_36 / (x2_36 - x7_36)) * (x4_36 / (x2_36 - x7_36)))), (6, .int x6_36), (7, .int x7_36)]) hx hb dX9_layOrder_105 hl (k := 9) rfl rfl (by decide) rfl (fun ls hl => ?_)
            refine lv_goto (tgt := 68) hx hb dX9_layOrder_108 (by decide) ?_
            exact h H locs ls (lv_sub hl [2, 3, 4, 5, 6, 7, 8, 9, 1, 0] rfl) hP hD hS
  · have h := h.2 c9
    refine lv_iload hx hb dX9_layOrder_12 (lv_at hl 4 rfl) ?_
    refine lv_iload_n hx hb dX9_layOrder_14 rfl (lv_at hl 2 rfl) ?_
    refine lv_iload hx hb dX9_layOrder_15 (lv_at hl 5 rfl) ?_
    refine lv_isub hx hb dX9_layOrder_17 ?_
    refine lv_imul hx hb dX9_layOrder_18 ?_
    refine lv_istore (lv' := [(4, .int (x4_6 * (n2 - x5_6))), (0, .ref o), (1, .int n1), (2, .int n2), (3, .int n3), (5, .int x5_6)]) hx hb dX9_layOrder_19 hl (by decide) rfl (fun ls hl => ?_)
    refine lv_iinc (v := (x5_6 + 1)) (lv' := [(5, .int (x5_6 + 1)), (4, .int (x4_6 * (n2 - x5_6))), (0, .ref o), (1, .int n1), (2, .int n2), (3, .int n3)]) hx hb dX9_layOrder_21 hl (k := 5) rfl rfl (by decide) rfl (fun ls hl => ?_)
    refine lv_goto (tgt := 6) hx hb dX9_layOrder_24 (by decide) ?_
    exact h H locs ls (lv_sub hl [2, 3, 4, 5, 1, 0] rfl) hP hD hS
abbrev rm_X9_rows : Room := { frames := 0, cells := 0, slots := 0, locals := 0 }
abbrev cw_X9_rows (cI cZ : ClassId)  : va_W := []
def wp_X9_rows (n1 : Int32) (n2 : Int32) (Post : Int32 → Prop) : Prop := (∀ k4 : (Int32) → (Int32) → Prop, (∀ (x3_4 : Int32) (x2_4 : Int32), ((n2 ≤ x3_4 → (Post x2_4)) ∧ (¬ n2 ≤ x3_4 → (k4 (x3_4 + 1) (x2_4 * (n1 - x3_4))))) → k4 x3_4 x2_4) → k4 (0 : Int32) (1 : Int32))
set_option maxHeartbeats 4000000 in
set_option maxRecDepth 100000 in
theorem c_X9_rows (l : Launch) (D : va_G) (cI cZ : ClassId) (sz : Nat) (n1 : Int32) (n2 : Int32) (Post : Int32 → Prop) (h : wp_X9_rows n1 n2 Post) : Met l yX9_rows wsX9_rows rm_X9_rows (cPc D cI cZ [.int n1, .int n2] (cw_X9_rows cI cZ) sz) (cQi0 D Post ((cw_X9_rows cI cZ)) (va_A (cw_X9_rows cI cZ) sz)) 0 0 (va_A (cw_X9_rows cI cZ) sz) := by
  refine ent (cc := cX9_rows) (maxL := 4) (ret := (some .int)) (Qc := fun A => cQi0 D Post ((cw_X9_rows cI cZ)) A) (by decide) rfl (Nat.le_of_ble_eq_true rfl) ?_
  intro p e s m args below meth c A ls Q hQ hsz hx hb hml hr hts hown hlocks hnm hK hP hD hA hS hl
  have hl : lv_has ls 4 [(0, .int n1), (1, .int n2)] := hl
  unfold wp_X9_rows at h
  refine lv_iconst (v := 1) hx hb dX9_rows_0 (by decide) ?_
  refine lv_istore_n (lv' := [(2, .int (1 : Int32)), (0, .int n1), (1, .int n2)]) hx hb dX9_rows_1 rfl hl (by decide) rfl (fun ls hl => ?_)
  refine lv_iconst (v := 0) hx hb dX9_rows_2 (by decide) ?_
  refine lv_istore_n (lv' := [(3, .int (0 : Int32)), (2, .int (1 : Int32)), (0, .int n1), (1, .int n2)]) hx hb dX9_rows_3 rfl hl (by decide) rfl (fun ls hl => ?_)
  refine h (fun x3_4 x2_4 => ∀ (H : Heap) (locs : List Loc) (ls : Array Slot), lv_has ls 4 [(0, .int n1), (1, .int n2), (2, .int x2_4), (3, .int x3_4)] → va_P D vwCl (cw_X9_rows cI cZ) H → va_D A (cw_X9_rows cI cZ) → va_S A s.heap H locs → W p l e rm_X9_rows s m args below meth c H locs 0 0 Q (F0 m 4 ls [])) ?_ s.heap [] ls (lv_sub hl [2, 3, 1, 0] rfl) hP hD hS
  intro x3_4 x2_4 h H locs ls hl hP hD hS
  refine lv_iload_n hx hb dX9_rows_4 rfl (lv_at hl 3 rfl) ?_
  refine lv_iload_n hx hb dX9_rows_5 rfl (lv_at hl 1 rfl) ?_
  refine lv_icmp_ge (tgt := 21) hx hb dX9_rows_6 (by decide) (fun c6 => ?_) (fun c6 => ?_)
  · have h := h.1 c6
    refine lv_iload_n hx hb dX9_rows_21 rfl (lv_at hl 2 rfl) ?_
    exact ret_i0 hx hb hr hlocks hQ hS  hP h dX9_rows_22
  · have h := h.2 c6
    refine lv_iload_n hx hb dX9_rows_9 rfl (lv_at hl 2 rfl) ?_
    refine lv_iload_n hx hb dX9_rows_10 rfl (lv_at hl 0 rfl) ?_
    refine lv_iload_n hx hb dX9_rows_11 rfl (lv_at hl 3 rfl) ?_
    refine lv_isub hx hb dX9_rows_12 ?_
    refine lv_imul hx hb dX9_rows_13 ?_
    refine lv_istore_n (lv' := [(2, .int (x2_4 * (n1 - x3_4))), (0, .int n1), (1, .int n2), (3, .int x3_4)]) hx hb dX9_rows_14 rfl hl (by decide) rfl (fun ls hl => ?_)
    refine lv_iinc (v := (x3_4 + 1)) (lv' := [(3, .int (x3_4 + 1)), (2, .int (x2_4 * (n1 - x3_4))), (0, .int n1), (1, .int n2)]) hx hb dX9_rows_15 hl (k := 3) rfl rfl (by decide) rfl (fun ls hl => ?_)
    refine lv_goto (tgt := 4) hx hb dX9_rows_18 (by decide) ?_
    exact h H locs ls (lv_sub hl [2, 3, 1, 0] rfl) hP hD hS
abbrev rm_X9_layBest : Room := { frames := 3, cells := 0, slots := 0, locals := 73 }
abbrev cw_X9_layBest (cI cZ : ClassId) (o o_readPurses o_readDay o_purses o_daily o_text o_row o_tried o_days o_order o_bestOrder o_seenHad o_seenShared o_isKept o_keptPurses o_keptRow o_keptHad o_keptShared o_keptRest : Nat) (v_readLaw : Int32) (v_readMany : Int32) (v_readMeetings : Int32) (v_law : Int32) (v_many : Int32) (v_meetings : Int32) (v_length : Int32) (v_at : Int32) (v_faultAt : Int32) (v_one : Int32) (v_other : Int32) (v_made : Int32) (v_leads : Int32) (v_rings : Int32) (v_seen : Int32) (a_purses : Nat → Int32) (a_daily : Nat → Int32) (a_tried : Nat → Int32) (a_order : Nat → Int32) (a_bestOrder : Nat → Int32) : va_W := [(o, .inr (9, [.ref o_readPurses, .ref o_readDay, .int v_readLaw, .int v_readMany, .int v_readMeetings, .ref o_purses, .ref o_daily, .int v_law, .int v_many, .int v_meetings, .ref o_text, .int v_length, .int v_at, .int v_faultAt, .int v_one, .int v_other, .int v_made, .ref o_row, .ref o_tried, .int v_leads, .int v_rings, .ref o_days, .ref o_order, .ref o_bestOrder, .int v_seen, .ref o_seenHad, .ref o_seenShared, .ref o_isKept, .ref o_keptPurses, .ref o_keptRow, .ref o_keptHad, .ref o_keptShared, .ref o_keptRest])), (o_purses, .inl (cI, 8, .inl a_purses)), (o_daily, .inl (cI, 32, .inl a_daily)), (o_tried, .inl (cI, 8, .inl a_tried)), (o_order, .inl (cI, 8, .inl a_order)), (o_bestOrder, .inl (cI, 8, .inl a_bestOrder))]
theorem inw_X9_layBest_X9 : ∀ w ∈ u_ws RX9 TX9 33, w ∈ wsX9_layBest := by decide +kernel
def wp_X9_layBest (n1 : Int32) (v_law : Int32) (v_meetings : Int32) (v_one : Int32) (v_other : Int32) (a_purses : Nat → Int32) (a_daily : Nat → Int32) (a_tried : Nat → Int32) (a_order : Nat → Int32) (a_bestOrder : Nat → Int32) (Post : Int32 → (Int32) → (Int32) → (Nat → Int32) → (Nat → Int32) → (Nat → Int32) → Prop) : Prop := (∀ k4 : (Int32) → (Int32) → (Int32) → (Int32) → (Int32) → (Nat → Int32) → (Nat → Int32) → (Nat → Int32) → Prop, (∀ (x3_4 : Int32) (x2_4 : Int32) (x1_4 : Int32) (v_one_4 : Int32) (v_other_4 : Int32) (a_tried_4 : Nat → Int32) (a_order_4 : Nat → Int32) (a_bestOrder_4 : Nat → Int32), (wp_X9_rows v_meetings v_meetings (fun (r13 : Int32) => ((r13 ≤ x3_4 → (Post x2_4 v_one_4 v_other_4 a_tried_4 a_order_4 a_bestOrder_4)) ∧ (¬ r13 ≤ x3_4 → (wp_X9_layOrder x3_4 v_meetings v_meetings a_order_4 (fun (a_order_29 : Nat → Int32) => (wp_X9_takeTried a_purses a_tried_4 (fun (a_tried_33 : Nat → Int32) => (∀ k39 : (Int32) → (Int32) → (Int32) → (Nat → Int32) → Prop, (∀ (x4_39 : Int32) (v_one_39 : Int32) (v_other_39 : Int32) (a_tried_39 : Nat → Int32), ((v_meetings ≤ x4_39 → (vp_in x1_4 8 ∧ (((a_tried_39 (Int32.toNatClampNeg x1_4)) ≤ x2_4 → (k4 (x3_4 + 1) x2_4 x1_4 v_one_39 v_other_39 a_tried_39 a_order_29 a_bestOrder_4)) ∧ (¬ (a_tried_39 (Int32.toNatClampNeg x1_4)) ≤ x2_4 → (vp_in x1_4 8 ∧ (∀ k86 : (Int32) → (Nat → Int32) → Prop, (∀ (x4_86 : Int32) (a_bestOrder_86 : Nat → Int32), ((v_meetings ≤ x4_86 → (k4 (x3_4 + 1) (a_tried_39 (Int32.toNatClampNeg x1_4)) x1_4 v_one_39 v_other_39 a_tried_39 a_order_29 a_bestOrder_86)) ∧ (¬ v_meetings ≤ x4_86 → (vp_in x4_86 8 ∧ (vp_in x4_86 8 ∧ (k86 (x4_86 + 1) (upd a_bestOrder_86 (Int32.toNatClampNeg x4_86) (a_order_29 (Int32.toNatClampNeg x4_86)))))))) → k86 x4_86 a_bestOrder_86) → k86 (0 : Int32) a_bestOrder_4)))))) ∧ (¬ v_meetings ≤ x4_39 → (vp_in x4_39 8 ∧ (wp_X9_tryDaily (a_order_29 (Int32.toNatClampNeg x4_39)) v_law v_one_39 v_other_39 a_daily a_tried_39 (fun (r56 : Int32) (v_one_56 : Int32) (v_other_56 : Int32) (a_tried_56 : Nat → Int32) => (k39 (x4_39 + 1) v_one_56 v_other_56 a_tried_56)))))) → k39 x4_39 v_one_39 v_other_39 a_tried_39) → k39 (0 : Int32) v_one_4 v_other_4 a_tried_33))))))))) → k4 x3_4 x2_4 x1_4 v_one_4 v_other_4 a_tried_4 a_order_4 a_bestOrder_4) → k4 (0 : Int32) (-1 : Int32) n1 v_one v_other a_tried a_order a_bestOrder)
set_option maxHeartbeats 4000000 in
set_option maxRecDepth 100000 in
theorem c_X9_layBest (l : Launch) (D : va_G) (cI cZ : ClassId) (o o_readPurses o_readDay o_purses o_daily o_text o_row o_tried o_days o_order o_bestOrder o_seenHad o_seenShared o_isKept o_keptPurses o_keptRow o_keptHad o_keptShared o_keptRest : Nat) (sz : Nat) (n1 : Int32) (v_readLaw : Int32) (v_readMany : Int32) (v_readMeetings : Int32) (v_law : Int32) (v_many : Int32) (v_meetings : Int32) (v_length : Int32) (v_at : Int32) (v_faultAt : Int32) (v_one : Int32) (v_other : Int32) (v_made : Int32) (v_leads : Int32) (v_rings : Int32) (v_seen : Int32) (a_purses : Nat → Int32) (a_daily : Nat → Int32) (a_tried : Nat → Int32) (a_order : Nat → Int32) (a_bestOrder : Nat → Int32) (Post : Int32 → (Int32) → (Int32) → (Nat → Int32) → (Nat → Int32) → (Nat → Int32) → Prop) (h : wp_X9_layBest n1 v_law v_meetings v_one v_other a_purses a_daily a_tried a_order a_bestOrder Post) : Met l yX9_layBest wsX9_layBest rm_X9_layBest (cPc D cI cZ [.ref o, .int n1] (cw_X9_layBest cI cZ o o_readPurses o_readDay o_purses o_daily o_text o_row o_tried o_days o_order o_bestOrder o_seenHad o_seenShared o_isKept o_keptPurses o_keptRow o_keptHad o_keptShared o_keptRest v_readLaw v_readMany v_readMeetings v_law v_many v_meetings v_length v_at v_faultAt v_one v_other v_made v_leads v_rings v_seen a_purses a_daily a_tried a_order a_bestOrder) sz) (cQi5 D Post (fun m_v_one m_v_other m_a_tried m_a_order m_a_bestOrder => (cw_X9_layBest cI cZ o o_readPurses o_readDay o_purses o_daily o_text o_row o_tried o_days o_order o_bestOrder o_seenHad o_seenShared o_isKept o_keptPurses o_keptRow o_keptHad o_keptShared o_keptRest v_readLaw v_readMany v_readMeetings v_law v_many v_meetings v_length v_at v_faultAt m_v_one m_v_other v_made v_leads v_rings v_seen a_purses a_daily m_a_tried m_a_order m_a_bestOrder)) (va_A (cw_X9_layBest cI cZ o o_readPurses o_readDay o_purses o_daily o_text o_row o_tried o_days o_order o_bestOrder o_seenHad o_seenShared o_isKept o_keptPurses o_keptRow o_keptHad o_keptShared o_keptRest v_readLaw v_readMany v_readMeetings v_law v_many v_meetings v_length v_at v_faultAt v_one v_other v_made v_leads v_rings v_seen a_purses a_daily a_tried a_order a_bestOrder) sz)) 0 0 (va_A (cw_X9_layBest cI cZ o o_readPurses o_readDay o_purses o_daily o_text o_row o_tried o_days o_order o_bestOrder o_seenHad o_seenShared o_isKept o_keptPurses o_keptRow o_keptHad o_keptShared o_keptRest v_readLaw v_readMany v_readMeetings v_law v_many v_meetings v_length v_at v_faultAt v_one v_other v_made v_leads v_rings v_seen a_purses a_daily a_tried a_order a_bestOrder) sz) := by
  refine ent (cc := cX9_layBest) (maxL := 5) (ret := (some .int)) (Qc := fun A => cQi5 D Post (fun m_v_one m_v_other m_a_tried m_a_order m_a_bestOrder => (cw_X9_layBest cI cZ o o_readPurses o_readDay o_purses o_daily o_text o_row o_tried o_days o_order o_bestOrder o_seenHad o_seenShared o_isKept o_keptPurses o_keptRow o_keptHad o_keptShared o_keptRest v_readLaw v_readMany v_readMeetings v_law v_many v_meetings v_length v_at v_faultAt m_v_one m_v_other v_made v_leads v_rings v_seen a_purses a_daily m_a_tried m_a_order m_a_bestOrder)) A) (by decide) rfl (Nat.le_of_ble_eq_true rfl) ?_
  intro p e s m args below meth c A ls Q hQ hsz hx hb hml hr hts hown hlocks hnm hK hP hD hA hS hl
  have hl : lv_has ls 5 [(0, .ref o), (1, .int n1)] := hl
  unfold wp_X9_layBest at h
  refine lv_iconst (v := -1) hx hb dX9_layBest_0 (by decide) ?_
  refine lv_istore_n (lv' := [(2, .int (-1 : Int32)), (0, .ref o), (1, .int n1)]) hx hb dX9_layBest_1 rfl hl (by decide) rfl (fun ls hl => ?_)
  refine lv_iconst (v := 0) hx hb dX9_layBest_2 (by decide) ?_
  refine lv_istore_n (lv' := [(3, .int (0 : Int32)), (2, .int (-1 : Int32)), (0, .ref o), (1, .int n1)]) hx hb dX9_layBest_3 rfl hl (by decide) rfl (fun ls hl => ?_)
  refine h (fun x3_4 x2_4 x1_4 v_one_4 v_other_4 a_tried_4 a_order_4 a_bestOrder_4 => ∀ (H : Heap) (locs : List Loc) (ls : Array Slot), lv_has ls 5 [(0, .ref o), (1, .int x1_4), (2, .int x2_4), (3, .int x3_4)] → va_P D vwCl (cw_X9_layBest cI cZ o o_readPurses o_readDay o_purses o_daily o_text o_row o_tried o_days o_order o_bestOrder o_seenHad o_seenShared o_isKept o_keptPurses o_keptRow o_keptHad o_keptShared o_keptRest v_readLaw v_readMany v_readMeetings v_law v_many v_meetings v_length v_at v_faultAt v_one_4 v_other_4 v_made v_leads v_rings v_seen a_purses a_daily a_tried_4 a_order_4 a_bestOrder_4) H → va_D A (cw_X9_layBest cI cZ o o_readPurses o_readDay o_purses o_daily o_text o_row o_tried o_days o_order o_bestOrder o_seenHad o_seenShared o_isKept o_keptPurses o_keptRow o_keptHad o_keptShared o_keptRest v_readLaw v_readMany v_readMeetings v_law v_many v_meetings v_length v_at v_faultAt v_one_4 v_other_4 v_made v_leads v_rings v_seen a_purses a_daily a_tried_4 a_order_4 a_bestOrder_4) → va_S A s.heap H locs → W p l e rm_X9_layBest s m args below meth c H locs 0 0 Q (F0 m 4 ls [])) ?_ s.heap [] ls (lv_sub hl [2, 3, 1, 0] rfl) hP hD hS
  intro x3_4 x2_4 x1_4 v_one_4 v_other_4 a_tried_4 a_order_4 a_bestOrder_4 h H locs ls hl hP hD hS
  refine lv_iload_n hx hb dX9_layBest_4 rfl (lv_at hl 3 rfl) ?_
  refine lv_aload_n hx hb dX9_layBest_5 rfl (lv_at hl 0 rfl) ?_
  refine va_get (D := D) (ci := 9) (v := .int v_meetings) (C := RX9) (T := TX9) (N := 33) hx hb hts inw_X9_layBest_X9 hown hK.1 hP 0 rfl rfl 9 (by decide) (hts (.fieldLink RX9 106 "PursesShareModel" "meetings" "I") (by decide +kernel)) (fun _ h9 => h9) rfl dX9_layBest_6 ?_
  refine lv_aload_n hx hb dX9_layBest_9 rfl (lv_at hl 0 rfl) ?_
  refine va_get (D := D) (ci := 9) (v := .int v_meetings) (C := RX9) (T := TX9) (N := 33) hx hb hts inw_X9_layBest_X9 hown hK.1 hP 0 rfl rfl 9 (by decide) (hts (.fieldLink RX9 106 "PursesShareModel" "meetings" "I") (by decide +kernel)) (fun _ h9 => h9) rfl dX9_layBest_10 ?_
  refine call_i0 (va_runS (As := [.int v_meetings, .int v_meetings]) (rest := [.int x3_4]) ⟨hx, hb, hml, hown, hts⟩ (c_X9_rows l D cI cZ (Array.size H) v_meetings v_meetings _ h) (va_cwS 2 hts gX9_layBest_X9_rows rfl rfl rfl (by decide +kernel) ⟨Nat.le_of_ble_eq_true rfl, Nat.le_of_ble_eq_true rfl⟩) (preS_of hP hD hK [] rfl rfl) rfl rfl hl.1 rfl (lv_room (Nat.le_of_ble_eq_true rfl)) dX9_layBest_13 ⟨Nat.zero_le _, Nat.zero_le _⟩) hP hD hS hA [] rfl ((cw_X9_layBest cI cZ o o_readPurses o_readDay o_purses o_daily o_text o_row o_tried o_days o_order o_bestOrder o_seenHad o_seenShared o_isKept o_keptPurses o_keptRow o_keptHad o_keptShared o_keptRest v_readLaw v_readMany v_readMeetings v_law v_many v_meetings v_length v_at v_faultAt v_one_4 v_other_4 v_made v_leads v_rings v_seen a_purses a_daily a_tried_4 a_order_4 a_bestOrder_4)) (rfl) (rfl) (fun r13 H locs h hP hD hS => ?_)
  refine lv_icmp_ge (tgt := 121) hx hb dX9_layBest_16 (by decide) (fun c16 => ?_) (fun c16 => ?_)
  · have h := h.1 c16
    refine lv_iload_n hx hb dX9_layBest_121 rfl (lv_at hl 2 rfl) ?_
    exact ret_i5 hx hb hr hlocks hQ hS v_one_4 v_other_4 a_tried_4 a_order_4 a_bestOrder_4 hP h dX9_layBest_122
  · have h := h.2 c16
    refine lv_aload_n hx hb dX9_layBest_19 rfl (lv_at hl 0 rfl) ?_
    refine lv_iload_n hx hb dX9_layBest_20 rfl (lv_at hl 3 rfl) ?_
    refine lv_aload_n hx hb dX9_layBest_21 rfl (lv_at hl 0 rfl) ?_
    refine va_get (D := D) (ci := 9) (v := .int v_meetings) (C := RX9) (T := TX9) (N := 33) hx hb hts inw_X9_layBest_X9 hown hK.1 hP 0 rfl rfl 9 (by decide) (hts (.fieldLink RX9 106 "PursesShareModel" "meetings" "I") (by decide +kernel)) (fun _ h9 => h9) rfl dX9_layBest_22 ?_
    refine lv_aload_n hx hb dX9_layBest_25 rfl (lv_at hl 0 rfl) ?_
    refine va_get (D := D) (ci := 9) (v := .int v_meetings) (C := RX9) (T := TX9) (N := 33) hx hb hts inw_X9_layBest_X9 hown hK.1 hP 0 rfl rfl 9 (by decide) (hts (.fieldLink RX9 106 "PursesShareModel" "meetings" "I") (by decide +kernel)) (fun _ h9 => h9) rfl dX9_layBest_26 ?_
    refine call_v1 (va_runV (As := [.int x3_4, .int v_meetings, .int v_meetings]) (rest := []) ⟨hx, hb, hml, hown, hts⟩ (c_X9_layOrder l D cI cZ o o_readPurses o_readDay o_purses o_daily o_text o_row o_tried o_days o_order o_bestOrder o_seenHad o_seenShared o_isKept o_keptPurses o_keptRow o_keptHad o_keptShared o_keptRest (Array.size H) x3_4 v_meetings v_meetings v_readLaw v_readMany v_readMeetings v_law v_many v_meetings v_length v_at v_faultAt v_one_4 v_other_4 v_made v_leads v_rings v_seen a_order_4 _ h) (cwV 3 hts gX9_layBest_X9_layOrder rfl rfl rfl (by decide +kernel) ⟨Nat.le_of_ble_eq_true rfl, Nat.le_of_ble_eq_true rfl⟩) (preV_of hP hD hK [0, 4] rfl rfl 0 9 rfl rfl rfl) rfl rfl hl.1 rfl (lv_room (Nat.le_of_ble_eq_true rfl)) dX9_layBest_29 ⟨Nat.zero_le _, Nat.zero_le _⟩) hP hD hS hA [0, 4] rfl (fun a_order_29 => (cw_X9_layBest cI cZ o o_readPurses o_readDay o_purses o_daily o_text o_row o_tried o_days o_order o_bestOrder o_seenHad o_seenShared o_isKept o_keptPurses o_keptRow o_keptHad o_keptShared o_keptRest v_readLaw v_readMany v_readMeetings v_law v_many v_meetings v_length v_at v_faultAt v_one_4 v_other_4 v_made v_leads v_rings v_seen a_purses a_daily a_tried_4 a_order_29 a_bestOrder_4)) (fun _ => rfl) (fun _ => rfl) (fun a_order_29 H locs h hP hD hS => ?_)
    refine lv_aload_n hx hb dX9_layBest_32 rfl (lv_at hl 0 rfl) ?_
    refine call_v1 (va_runV (As := []) (rest := []) ⟨hx, hb, hml, hown, hts⟩ (c_X9_takeTried l D cI cZ o o_readPurses o_readDay o_purses o_daily o_text o_row o_tried o_days o_order o_bestOrder o_seenHad o_seenShared o_isKept o_keptPurses o_keptRow o_keptHad o_keptShared o_keptRest (Array.size H) v_readLaw v_readMany v_readMeetings v_law v_many v_meetings v_length v_at v_faultAt v_one_4 v_other_4 v_made v_leads v_rings v_seen a_purses a_tried_4 _ h) (cwV 0 hts gX9_layBest_X9_takeTried rfl rfl rfl (by decide +kernel) ⟨Nat.le_of_ble_eq_true rfl, Nat.le_of_ble_eq_true rfl⟩) (preV_of hP hD hK [0, 1, 3] rfl rfl 0 9 rfl rfl rfl) rfl rfl hl.1 rfl (lv_room (Nat.le_of_ble_eq_true rfl)) dX9_layBest_33 ⟨Nat.zero_le _, Nat.zero_le _⟩) hP hD hS hA [0, 1, 3] rfl (fun a_tried_33 => (cw_X9_layBest cI cZ o o_readPurses o_readDay o_purses o_daily o_text o_row o_tried o_days o_order o_bestOrder o_seenHad o_seenShared o_isKept o_keptPurses o_keptRow o_keptHad o_keptShared o_keptRest v_readLaw v_readMany v_readMeetings v_law v_many v_meetings v_length v_at v_faultAt v_one_4 v_other_4 v_made v_leads v_rings v_seen a_purses a_daily a_tried_33 a_order_29 a_bestOrder_4)) (fun _ => rfl) (fun _ => rfl) (fun a_tried_33 H locs h hP hD hS => ?_)
    refine lv_iconst (v := 0) hx hb dX9_layBest_36 (by decide) ?_
    refine lv_istore (lv' := [(4, .int (0 : Int32)), (0, .ref o), (1, .int x1_4), (2, .int x2_4), (3, .int x3_4)]) hx hb dX9_layBest_37 hl (by decide) rfl (fun ls hl => ?_)
    refine h (fun x4_39 v_one_39 v_other_39 a_tried_39 => ∀ (H : Heap) (locs : List Loc) (ls : Array Slot), lv_has ls 5 [(0, .ref o), (1, .int x1_4), (2, .int x2_4), (3, .int x3_4), (4, .int x4_39)] → va_P D vwCl (cw_X9_layBest cI cZ o o_readPurses o_readDay o_purses o_daily o_text o_row o_tried o_days o_order o_bestOrder o_seenHad o_seenShared o_isKept o_keptPurses o_keptRow o_keptHad o_keptShared o_keptRest v_readLaw v_readMany v_readMeetings v_law v_many v_meetings v_length v_at v_faultAt v_one_39 v_other_39 v_made v_leads v_rings v_seen a_purses a_daily a_tried_39 a_order_29 a_bestOrder_4) H → va_D A (cw_X9_layBest cI cZ o o_readPurses o_readDay o_purses o_daily o_text o_row o_tried o_days o_order o_bestOrder o_seenHad o_seenShared o_isKept o_keptPurses o_keptRow o_keptHad o_keptShared o_keptRest v_readLaw v_readMany v_readMeetings v_law v_many v_meetings v_length v_at v_faultAt v_one_39 v_other_39 v_made v_leads v_rings v_seen a_purses a_daily a_tried_39 a_order_29 a_bestOrder_4) → va_S A s.heap H locs → W p l e rm_X9_layBest s m args below meth c H locs 0 0 Q (F0 m 39 ls [])) ?_ H locs ls (lv_sub hl [1, 2, 3, 4, 0] rfl) hP hD hS
    intro x4_39 v_one_39 v_other_39 a_tried_39 h H locs ls hl hP hD hS
    refine lv_iload hx hb dX9_layBest_39 (lv_at hl 4 rfl) ?_
    refine lv_aload_n hx hb dX9_layBest_41 rfl (lv_at hl 0 rfl) ?_
    refine va_get (D := D) (ci := 9) (v := .int v_meetings) (C := RX9) (T := TX9) (N := 33) hx hb hts inw_X9_layBest_X9 hown hK.1 hP 0 rfl rfl 9 (by decide) (hts (.fieldLink RX9 106 "PursesShareModel" "meetings" "I") (by decide +kernel)) (fun _ h9 => h9) rfl dX9_layBest_42 ?_
    refine lv_icmp_ge (tgt := 66) hx hb dX9_layBest_45 (by decide) (fun c45 => ?_) (fun c45 => ?_)
    · have h := h.1 c45
      refine lv_aload_n hx hb dX9_layBest_66 rfl (lv_at hl 0 rfl) ?_
      refine va_get (D := D) (ci := 9) (v := .ref o_tried) (C := RX9) (T := TX9) (N := 33) hx hb hts inw_X9_layBest_X9 hown hK.1 hP 0 rfl rfl 18 (by decide) (hts (.fieldLink RX9 28 "PursesShareModel" "tried" "[I") (by decide +kernel)) (fun _ h9 => h9) rfl dX9_layBest_67 ?_
      refine lv_iload_n hx hb dX9_layBest_70 rfl (lv_at hl 1 rfl) ?_
      have h0 := h.1
      have h := h.2
      refine va_iald hx hb hK.1 hP 3 0 rfl rfl h0 dX9_layBest_71 ?_
      refine lv_iload_n hx hb dX9_layBest_72 rfl (lv_at hl 2 rfl) ?_
      refine lv_icmp_le (tgt := 115) hx hb dX9_layBest_73 (by decide) (fun c73 => ?_) (fun c73 => ?_)
      · have h := h.1 c73
        refine lv_iinc (v := (x3_4 + 1)) (lv' := [(3, .int (x3_4 + 1)), (0, .ref o), (1, .int x1_4), (2, .int x2_4), (4, .int x4_39)]) hx hb dX9_layBest_115 hl (k := 3) rfl rfl (by decide) rfl (fun ls hl => ?_)
        refine lv_goto (tgt := 4) hx hb dX9_layBest_118 (by decide) ?_
        exact h H locs ls (lv_sub hl [1, 2, 3, 0] rfl) hP hD hS
      · have h := h.2 c73
        refine lv_aload_n hx hb dX9_layBest_76 rfl (lv_at hl 0 rfl) ?_
        refine va_get (D := D) (ci := 9) (v := .ref o_tried) (C := RX9) (T := TX9) (N := 33) hx hb hts inw_X9_layBest_X9 hown hK.1 hP 0 rfl rfl 18 (by decide) (hts (.fieldLink RX9 28 "PursesShareModel" "tried" "[I") (by decide +kernel)) (fun _ h9 => h9) rfl dX9_layBest_77 ?_
        refine lv_iload_n hx hb dX9_layBest_80 rfl (lv_at hl 1 rfl) ?_
        have h0 := h.1
        have h := h.2
        refine va_iald hx hb hK.1 hP 3 0 rfl rfl h0 dX9_layBest_81 ?_
        refine lv_istore_n (lv' := [(2, .int (a_tried_39 (Int32.toNatClampNeg x1_4))), (0, .ref o), (1, .int x1_4), (3, .int x3_4), (4, .int x4_39)]) hx hb dX9_layBest_82 rfl hl (by decide) rfl (fun ls hl => ?_)
        refine lv_iconst (v := 0) hx hb dX9_layBest_83 (by decide) ?_
        refine lv_istore (lv' := [(4, .int (0 : Int32)), (2, .int (a_tried_39 (Int32.toNatClampNeg x1_4))), (0, .ref o), (1, .int x1_4), (3, .int x3_4)]) hx hb dX9_layBest_84 hl (by decide) rfl (fun ls hl => ?_)
        refine h (fun x4_86 a_bestOrder_86 => ∀ (H : Heap) (locs : List Loc) (ls : Array Slot), lv_has ls 5 [(0, .ref o), (1, .int x1_4), (2, .int (a_tried_39 (Int32.toNatClampNeg x1_4))), (3, .int x3_4), (4, .int x4_86)] → va_P D vwCl (cw_X9_layBest cI cZ o o_readPurses o_readDay o_purses o_daily o_text o_row o_tried o_days o_order o_bestOrder o_seenHad o_seenShared o_isKept o_keptPurses o_keptRow o_keptHad o_keptShared o_keptRest v_readLaw v_readMany v_readMeetings v_law v_many v_meetings v_length v_at v_faultAt v_one_39 v_other_39 v_made v_leads v_rings v_seen a_purses a_daily a_tried_39 a_order_29 a_bestOrder_86) H → va_D A (cw_X9_layBest cI cZ o o_readPurses o_readDay o_purses o_daily o_text o_row o_tried o_days o_order o_bestOrder o_seenHad o_seenShared o_isKept o_keptPurses o_keptRow o_keptHad o_keptShared o_keptRest v_readLaw v_readMany v_readMeetings v_law v_many v_meetings v_length v_at v_faultAt v_one_39 v_other_39 v_made v_leads v_rings v_seen a_purses a_daily a_tried_39 a_order_29 a_bestOrder_86) → va_S A s.heap H locs → W p l e rm_X9_layBest s m args below meth c H locs 0 0 Q (F0 m 86 ls [])) ?_ H locs ls (lv_sub hl [2, 3, 1, 4, 0] rfl) hP hD hS
        intro x4_86 a_bestOrder_86 h H locs ls hl hP hD hS
        refine lv_iload hx hb dX9_layBest_86 (lv_at hl 4 rfl) ?_
        refine lv_aload_n hx hb dX9_layBest_88 rfl (lv_at hl 0 rfl) ?_
        refine va_get (D := D) (ci := 9) (v := .int v_meetings) (C := RX9) (T := TX9) (N := 33) hx hb hts inw_X9_layBest_X9 hown hK.1 hP 0 rfl rfl 9 (by decide) (hts (.fieldLink RX9 106 "PursesShareModel" "meetings" "I") (by decide +kernel)) (fun _ h9 => h9) rfl dX9_layBest_89 ?_
        refine lv_icmp_ge (tgt := 115) hx hb dX9_layBest_92 (by decide) (fun c92 => ?_) (fun c92 => ?_)
        · have h := h.1 c92
          refine lv_iinc (v := (x3_4 + 1)) (lv' := [(3, .int (x3_4 + 1)), (0, .ref o), (1, .int x1_4), (2, .int (a_tried_39 (Int32.toNatClampNeg x1_4))), (4, .int x4_86)]) hx hb dX9_layBest_115 hl (k := 3) rfl rfl (by decide) rfl (fun ls hl => ?_)
          refine lv_goto (tgt := 4) hx hb dX9_layBest_118 (by decide) ?_
          exact h H locs ls (lv_sub hl [1, 2, 3, 0] rfl) hP hD hS
        · have h := h.2 c92
          refine lv_aload_n hx hb dX9_layBest_95 rfl (lv_at hl 0 rfl) ?_
          refine va_get (D := D) (ci := 9) (v := .ref o_bestOrder) (C := RX9) (T := TX9) (N := 33) hx hb hts inw_X9_layBest_X9 hown hK.1 hP 0 rfl rfl 23 (by decide) (hts (.fieldLink RX9 37 "PursesShareModel" "bestOrder" "[I") (by decide +kernel)) (fun _ h9 => h9) rfl dX9_layBest_96 ?_
          refine lv_iload hx hb dX9_layBest_99 (lv_at hl 4 rfl) ?_
          refine lv_aload_n hx hb dX9_layBest_101 rfl (lv_at hl 0 rfl) ?_
          refine va_get (D := D) (ci := 9) (v := .ref o_order) (C := RX9) (T := TX9) (N := 33) hx hb hts inw_X9_layBest_X9 hown hK.1 hP 0 rfl rfl 22 (by decide) (hts (.fieldLink RX9 34 "PursesShareModel" "order" "[I") (by decide +kernel)) (fun _ h9 => h9) rfl dX9_layBest_102 ?_
          refine lv_iload hx hb dX9_layBest_105 (lv_at hl 4 rfl) ?_
          have h0 := h.1
          have h := h.2
          refine va_iald hx hb hK.1 hP 4 0 rfl rfl h0 dX9_layBest_107 ?_
          have h0 := h.1
          have h := h.2
          refine va_iast hx hb hK.1 hP hD hS 5 0 rfl rfl h0 dX9_layBest_108 (fun H locs hP hD hS => ?_)
          have hP : va_P D vwCl (cw_X9_layBest cI cZ o o_readPurses o_readDay o_purses o_daily o_text o_row o_tried o_days o_order o_bestOrder o_seenHad o_seenShared o_isKept o_keptPurses o_keptRow o_keptHad o_keptShared o_keptRest v_readLaw v_readMany v_readMeetings v_law v_many v_meetings v_length v_at v_faultAt v_one_39 v_other_39 v_made v_leads v_rings v_seen a_purses a_daily a_tried_39 a_order_29 (upd a_bestOrder_86 (Int32.toNatClampNeg x4_86) (a_order_29 (Int32.toNatClampNeg x4_86)))) H := hP
          have hD : va_D A (cw_X9_layBest cI cZ o o_readPurses o_readDay o_purses o_daily o_text o_row o_tried o_days o_order o_bestOrder o_seenHad o_seenShared o_isKept o_keptPurses o_keptRow o_keptHad o_keptShared o_keptRest v_readLaw v_readMany v_readMeetings v_law v_many v_meetings v_length v_at v_faultAt v_one_39 v_other_39 v_made v_leads v_rings v_seen a_purses a_daily a_tried_39 a_order_29 (upd a_bestOrder_86 (Int32.toNatClampNeg x4_86) (a_order_29 (Int32.toNatClampNeg x4_86)))) := hD
          refine lv_iinc (v := (x4_86 + 1)) (lv' := [(4, .int (x4_86 + 1)), (0, .ref o), (1, .int x1_4), (2, .int (a_tried_39 (Int32.toNatClampNeg x1_4))), (3, .int x3_4)]) hx hb dX9_layBest_109 hl (k := 4) rfl rfl (by decide) rfl (fun ls hl => ?_)
          refine lv_goto (tgt := 86) hx hb dX9_layBest_112 (by decide) ?_
          exact h H locs ls (lv_sub hl [1, 2, 3, 4, 0] rfl) hP hD hS
    · have h := h.2 c45
      refine lv_aload_n hx hb dX9_layBest_48 rfl (lv_at hl 0 rfl) ?_
      refine lv_aload_n hx hb dX9_layBest_49 rfl (lv_at hl 0 rfl) ?_
      refine va_get (D := D) (ci := 9) (v := .ref o_order) (C := RX9) (T := TX9) (N := 33) hx hb hts inw_X9_layBest_X9 hown hK.1 hP 0 rfl rfl 22 (by decide) (hts (.fieldLink RX9 34 "PursesShareModel" "order" "[I") (by decide +kernel)) (fun _ h9 => h9) rfl dX9_layBest_50 ?_
      refine lv_iload hx hb dX9_layBest_53 (lv_at hl 4 rfl) ?_
      have h0 := h.1
      have h := h.2
      refine va_iald hx hb hK.1 hP 4 0 rfl rfl h0 dX9_layBest_55 ?_
      refine call_i3 (va_runV (As := [.int (a_order_29 (Int32.toNatClampNeg x4_39))]) (rest := []) ⟨hx, hb, hml, hown, hts⟩ (c_X9_tryDaily l D cI cZ o o_readPurses o_readDay o_purses o_daily o_text o_row o_tried o_days o_order o_bestOrder o_seenHad o_seenShared o_isKept o_keptPurses o_keptRow o_keptHad o_keptShared o_keptRest (Array.size H) (a_order_29 (Int32.toNatClampNeg x4_39)) v_readLaw v_readMany v_readMeetings v_law v_many v_meetings v_length v_at v_faultAt v_one_39 v_other_39 v_made v_leads v_rings v_seen a_daily a_tried_39 _ h) (cwV 1 hts gX9_layBest_X9_tryDaily rfl rfl rfl (by decide +kernel) ⟨Nat.le_of_ble_eq_true rfl, Nat.le_of_ble_eq_true rfl⟩) (preV_of hP hD hK [0, 2, 3] rfl rfl 0 9 rfl rfl rfl) rfl rfl hl.1 rfl (lv_room (Nat.le_of_ble_eq_true rfl)) dX9_layBest_56 ⟨Nat.zero_le _, Nat.zero_le _⟩) hP hD hS hA [0, 2, 3] rfl (fun v_one_56 v_other_56 a_tried_56 => (cw_X9_layBest cI cZ o o_readPurses o_readDay o_purses o_daily o_text o_row o_tried o_days o_order o_bestOrder o_seenHad o_seenShared o_isKept o_keptPurses o_keptRow o_keptHad o_keptShared o_keptRest v_readLaw v_readMany v_readMeetings v_law v_many v_meetings v_length v_at v_faultAt v_one_56 v_other_56 v_made v_leads v_rings v_seen a_purses a_daily a_tried_56 a_order_29 a_bestOrder_4)) (fun _ _ _ => rfl) (fun _ _ _ => rfl) (fun r56 v_one_56 v_other_56 a_tried_56 H locs h hP hD hS => ?_)
      refine lv_pop hx hb dX9_layBest_59 rfl ?_
      refine lv_iinc (v := (x4_39 + 1)) (lv' := [(4, .int (x4_39 + 1)), (0, .ref o), (1, .int x1_4), (2, .int x2_4), (3, .int x3_4)]) hx hb dX9_layBest_60 hl (k := 4) rfl rfl (by decide) rfl (fun ls hl => ?_)
      refine lv_goto (tgt := 39) hx hb dX9_layBest_63 (by decide) ?_
      exact h H locs ls (lv_sub hl [1, 2, 3, 4, 0] rfl) hP hD hS
abbrev rm_X9_most : Room := { frames := 4, cells := 0, slots := 0, locals := 97 }
abbrev cw_X9_most (cI cZ : ClassId) (o o_readPurses o_readDay o_purses o_daily o_text o_row o_tried o_days o_order o_bestOrder o_seenHad o_seenShared o_isKept o_keptPurses o_keptRow o_keptHad o_keptShared o_keptRest : Nat) (v_readLaw : Int32) (v_readMany : Int32) (v_readMeetings : Int32) (v_law : Int32) (v_many : Int32) (v_meetings : Int32) (v_length : Int32) (v_at : Int32) (v_faultAt : Int32) (v_one : Int32) (v_other : Int32) (v_made : Int32) (v_leads : Int32) (v_rings : Int32) (v_seen : Int32) (a_purses : Nat → Int32) (a_daily : Nat → Int32) (a_tried : Nat → Int32) (a_order : Nat → Int32) (a_bestOrder : Nat → Int32) : va_W := [(o, .inr (9, [.ref o_readPurses, .ref o_readDay, .int v_readLaw, .int v_readMany, .int v_readMeetings, .ref o_purses, .ref o_daily, .int v_law, .int v_many, .int v_meetings, .ref o_text, .int v_length, .int v_at, .int v_faultAt, .int v_one, .int v_other, .int v_made, .ref o_row, .ref o_tried, .int v_leads, .int v_rings, .ref o_days, .ref o_order, .ref o_bestOrder, .int v_seen, .ref o_seenHad, .ref o_seenShared, .ref o_isKept, .ref o_keptPurses, .ref o_keptRow, .ref o_keptHad, .ref o_keptShared, .ref o_keptRest])), (o_purses, .inl (cI, 8, .inl a_purses)), (o_daily, .inl (cI, 32, .inl a_daily)), (o_tried, .inl (cI, 8, .inl a_tried)), (o_order, .inl (cI, 8, .inl a_order)), (o_bestOrder, .inl (cI, 8, .inl a_bestOrder))]
theorem inw_X9_most_X9 : ∀ w ∈ u_ws RX9 TX9 33, w ∈ wsX9_most := by decide +kernel
def wp_X9_most (n1 : Int32) (v_law : Int32) (v_many : Int32) (v_meetings : Int32) (v_one : Int32) (v_other : Int32) (a_purses : Nat → Int32) (a_daily : Nat → Int32) (a_tried : Nat → Int32) (a_order : Nat → Int32) (a_bestOrder : Nat → Int32) (Post : Int32 → (Int32) → (Int32) → (Nat → Int32) → (Nat → Int32) → (Nat → Int32) → Prop) : Prop := (wp_X9_isPerson n1 v_many (fun (r2 : Int32) => ((¬ r2 = 0 → ((v_meetings ≤ (6 : Int32) → (wp_X9_layBest n1 v_law v_meetings v_one v_other a_purses a_daily a_tried a_order a_bestOrder (fun (r26 : Int32) (v_one_26 : Int32) (v_other_26 : Int32) (a_tried_26 : Nat → Int32) (a_order_26 : Nat → Int32) (a_bestOrder_26 : Nat → Int32) => (Post r26 v_one_26 v_other_26 a_tried_26 a_order_26 a_bestOrder_26)))) ∧ (¬ v_meetings ≤ (6 : Int32) → (Post (-3 : Int32) v_one v_other a_tried a_order a_bestOrder)))) ∧ (r2 = 0 → (Post (-1 : Int32) v_one v_other a_tried a_order a_bestOrder)))))
set_option maxHeartbeats 4000000 in
set_option maxRecDepth 100000 in
theorem c_X9_most (l : Launch) (D : va_G) (cI cZ : ClassId) (o o_readPurses o_readDay o_purses o_daily o_text o_row o_tried o_days o_order o_bestOrder o_seenHad o_seenShared o_isKept o_keptPurses o_keptRow o_keptHad o_keptShared o_keptRest : Nat) (sz : Nat) (n1 : Int32) (v_readLaw : Int32) (v_readMany : Int32) (v_readMeetings : Int32) (v_law : Int32) (v_many : Int32) (v_meetings : Int32) (v_length : Int32) (v_at : Int32) (v_faultAt : Int32) (v_one : Int32) (v_other : Int32) (v_made : Int32) (v_leads : Int32) (v_rings : Int32) (v_seen : Int32) (a_purses : Nat → Int32) (a_daily : Nat → Int32) (a_tried : Nat → Int32) (a_order : Nat → Int32) (a_bestOrder : Nat → Int32) (Post : Int32 → (Int32) → (Int32) → (Nat → Int32) → (Nat → Int32) → (Nat → Int32) → Prop) (h : wp_X9_most n1 v_law v_many v_meetings v_one v_other a_purses a_daily a_tried a_order a_bestOrder Post) : Met l yX9_most wsX9_most rm_X9_most (cPc D cI cZ [.ref o, .int n1] (cw_X9_most cI cZ o o_readPurses o_readDay o_purses o_daily o_text o_row o_tried o_days o_order o_bestOrder o_seenHad o_seenShared o_isKept o_keptPurses o_keptRow o_keptHad o_keptShared o_keptRest v_readLaw v_readMany v_readMeetings v_law v_many v_meetings v_length v_at v_faultAt v_one v_other v_made v_leads v_rings v_seen a_purses a_daily a_tried a_order a_bestOrder) sz) (cQi5 D Post (fun m_v_one m_v_other m_a_tried m_a_order m_a_bestOrder => (cw_X9_most cI cZ o o_readPurses o_readDay o_purses o_daily o_text o_row o_tried o_days o_order o_bestOrder o_seenHad o_seenShared o_isKept o_keptPurses o_keptRow o_keptHad o_keptShared o_keptRest v_readLaw v_readMany v_readMeetings v_law v_many v_meetings v_length v_at v_faultAt m_v_one m_v_other v_made v_leads v_rings v_seen a_purses a_daily m_a_tried m_a_order m_a_bestOrder)) (va_A (cw_X9_most cI cZ o o_readPurses o_readDay o_purses o_daily o_text o_row o_tried o_days o_order o_bestOrder o_seenHad o_seenShared o_isKept o_keptPurses o_keptRow o_keptHad o_keptShared o_keptRest v_readLaw v_readMany v_readMeetings v_law v_many v_meetings v_length v_at v_faultAt v_one v_other v_made v_leads v_rings v_seen a_purses a_daily a_tried a_order a_bestOrder) sz)) 0 0 (va_A (cw_X9_most cI cZ o o_readPurses o_readDay o_purses o_daily o_text o_row o_tried o_days o_order o_bestOrder o_seenHad o_seenShared o_isKept o_keptPurses o_keptRow o_keptHad o_keptShared o_keptRest v_readLaw v_readMany v_readMeetings v_law v_many v_meetings v_length v_at v_faultAt v_one v_other v_made v_leads v_rings v_seen a_purses a_daily a_tried a_order a_bestOrder) sz) := by
  refine ent (cc := cX9_most) (maxL := 2) (ret := (some .int)) (Qc := fun A => cQi5 D Post (fun m_v_one m_v_other m_a_tried m_a_order m_a_bestOrder => (cw_X9_most cI cZ o o_readPurses o_readDay o_purses o_daily o_text o_row o_tried o_days o_order o_bestOrder o_seenHad o_seenShared o_isKept o_keptPurses o_keptRow o_keptHad o_keptShared o_keptRest v_readLaw v_readMany v_readMeetings v_law v_many v_meetings v_length v_at v_faultAt m_v_one m_v_other v_made v_leads v_rings v_seen a_purses a_daily m_a_tried m_a_order m_a_bestOrder)) A) (by decide) rfl (Nat.le_of_ble_eq_true rfl) ?_
  intro p e s m args below meth c A ls Q hQ hsz hx hb hml hr hts hown hlocks hnm hK hP hD hA hS hl
  have hl : lv_has ls 2 [(0, .ref o), (1, .int n1)] := hl
  unfold wp_X9_most at h
  refine lv_aload_n hx hb dX9_most_0 rfl (lv_at hl 0 rfl) ?_
  refine lv_iload_n hx hb dX9_most_1 rfl (lv_at hl 1 rfl) ?_
  refine call_i0 (va_runV (As := [.int n1]) (rest := []) ⟨hx, hb, hml, hown, hts⟩ (c_X9_isPerson l D cI cZ o o_readPurses o_readDay o_purses o_daily o_text o_row o_tried o_days o_order o_bestOrder o_seenHad o_seenShared o_isKept o_keptPurses o_keptRow o_keptHad o_keptShared o_keptRest (Array.size s.heap) n1 v_readLaw v_readMany v_readMeetings v_law v_many v_meetings v_length v_at v_faultAt v_one v_other v_made v_leads v_rings v_seen _ h) (cwV 1 hts gX9_most_X9_isPerson rfl rfl rfl (by decide +kernel) ⟨Nat.le_of_ble_eq_true rfl, Nat.le_of_ble_eq_true rfl⟩) (preV_of hP hD hK [0] rfl rfl 0 9 rfl rfl rfl) rfl rfl hl.1 rfl (lv_room (Nat.le_of_ble_eq_true rfl)) dX9_most_2 ⟨Nat.zero_le _, Nat.zero_le _⟩) hP hD hS hA [0] rfl ((cw_X9_most cI cZ o o_readPurses o_readDay o_purses o_daily o_text o_row o_tried o_days o_order o_bestOrder o_seenHad o_seenShared o_isKept o_keptPurses o_keptRow o_keptHad o_keptShared o_keptRest v_readLaw v_readMany v_readMeetings v_law v_many v_meetings v_length v_at v_faultAt v_one v_other v_made v_leads v_rings v_seen a_purses a_daily a_tried a_order a_bestOrder)) (rfl) (rfl) (fun r2 H locs h hP hD hS => ?_)
  refine lv_if_ne (tgt := 10) hx hb dX9_most_5 (by decide) (fun c5 => ?_) (fun c5 => ?_)
  · have h := h.1 c5
    refine lv_aload_n hx hb dX9_most_10 rfl (lv_at hl 0 rfl) ?_
    refine va_get (D := D) (ci := 9) (v := .int v_meetings) (C := RX9) (T := TX9) (N := 33) hx hb hts inw_X9_most_X9 hown hK.1 hP 0 rfl rfl 9 (by decide) (hts (.fieldLink RX9 106 "PursesShareModel" "meetings" "I") (by decide +kernel)) (fun _ h9 => h9) rfl dX9_most_11 ?_
    refine lv_bipush (v := 6) hx hb dX9_most_14 (by decide) ?_
    refine lv_icmp_le (tgt := 24) hx hb dX9_most_16 (by decide) (fun c16 => ?_) (fun c16 => ?_)
    · have h := h.1 c16
      refine lv_aload_n hx hb dX9_most_24 rfl (lv_at hl 0 rfl) ?_
      refine lv_iload_n hx hb dX9_most_25 rfl (lv_at hl 1 rfl) ?_
      refine call_i5 (va_runV (As := [.int n1]) (rest := []) ⟨hx, hb, hml, hown, hts⟩ (c_X9_layBest l D cI cZ o o_readPurses o_readDay o_purses o_daily o_text o_row o_tried o_days o_order o_bestOrder o_seenHad o_seenShared o_isKept o_keptPurses o_keptRow o_keptHad o_keptShared o_keptRest (Array.size H) n1 v_readLaw v_readMany v_readMeetings v_law v_many v_meetings v_length v_at v_faultAt v_one v_other v_made v_leads v_rings v_seen a_purses a_daily a_tried a_order a_bestOrder _ h) (cwV 1 hts gX9_most_X9_layBest rfl rfl rfl (by decide +kernel) ⟨Nat.le_of_ble_eq_true rfl, Nat.le_of_ble_eq_true rfl⟩) (preV_of hP hD hK [0, 1, 2, 3, 4, 5] rfl rfl 0 9 rfl rfl rfl) rfl rfl hl.1 rfl (lv_room (Nat.le_of_ble_eq_true rfl)) dX9_most_26 ⟨Nat.zero_le _, Nat.zero_le _⟩) hP hD hS hA [0, 1, 2, 3, 4, 5] rfl (fun v_one_26 v_other_26 a_tried_26 a_order_26 a_bestOrder_26 => (cw_X9_most cI cZ o o_readPurses o_readDay o_purses o_daily o_text o_row o_tried o_days o_order o_bestOrder o_seenHad o_seenShared o_isKept o_keptPurses o_keptRow o_keptHad o_keptShared o_keptRest v_readLaw v_readMany v_readMeetings v_law v_many v_meetings v_length v_at v_faultAt v_one_26 v_other_26 v_made v_leads v_rings v_seen a_purses a_daily a_tried_26 a_order_26 a_bestOrder_26)) (fun _ _ _ _ _ => rfl) (fun _ _ _ _ _ => rfl) (fun r26 v_one_26 v_other_26 a_tried_26 a_order_26 a_bestOrder_26 H locs h hP hD hS => ?_)
      exact ret_i5 hx hb hr hlocks hQ hS v_one_26 v_other_26 a_tried_26 a_order_26 a_bestOrder_26 hP h dX9_most_29
    · have h := h.2 c16
      refine lv_bipush (v := -3) hx hb dX9_most_19 (by decide) ?_
      refine lv_goto (tgt := 29) hx hb dX9_most_21 (by decide) ?_
      exact ret_i5 hx hb hr hlocks hQ hS v_one v_other a_tried a_order a_bestOrder hP h dX9_most_29
  · have h := h.2 c5
    refine lv_iconst (v := -1) hx hb dX9_most_8 (by decide) ?_
    exact ret_i5 hx hb hr hlocks hQ hS v_one v_other a_tried a_order a_bestOrder hP h dX9_most_9
abbrev rm_X9_mostAt : Room := { frames := 4, cells := 0, slots := 0, locals := 97 }
abbrev cw_X9_mostAt (cI cZ : ClassId) (o o_readPurses o_readDay o_purses o_daily o_text o_row o_tried o_days o_order o_bestOrder o_seenHad o_seenShared o_isKept o_keptPurses o_keptRow o_keptHad o_keptShared o_keptRest : Nat) (v_readLaw : Int32) (v_readMany : Int32) (v_readMeetings : Int32) (v_law : Int32) (v_many : Int32) (v_meetings : Int32) (v_length : Int32) (v_at : Int32) (v_faultAt : Int32) (v_one : Int32) (v_other : Int32) (v_made : Int32) (v_leads : Int32) (v_rings : Int32) (v_seen : Int32) (a_purses : Nat → Int32) (a_daily : Nat → Int32) (a_tried : Nat → Int32) (a_order : Nat → Int32) (a_bestOrder : Nat → Int32) : va_W := [(o, .inr (9, [.ref o_readPurses, .ref o_readDay, .int v_readLaw, .int v_readMany, .int v_readMeetings, .ref o_purses, .ref o_daily, .int v_law, .int v_many, .int v_meetings, .ref o_text, .int v_length, .int v_at, .int v_faultAt, .int v_one, .int v_other, .int v_made, .ref o_row, .ref o_tried, .int v_leads, .int v_rings, .ref o_days, .ref o_order, .ref o_bestOrder, .int v_seen, .ref o_seenHad, .ref o_seenShared, .ref o_isKept, .ref o_keptPurses, .ref o_keptRow, .ref o_keptHad, .ref o_keptShared, .ref o_keptRest])), (o_purses, .inl (cI, 8, .inl a_purses)), (o_daily, .inl (cI, 32, .inl a_daily)), (o_tried, .inl (cI, 8, .inl a_tried)), (o_order, .inl (cI, 8, .inl a_order)), (o_bestOrder, .inl (cI, 8, .inl a_bestOrder))]
theorem inw_X9_mostAt_X9 : ∀ w ∈ u_ws RX9 TX9 33, w ∈ wsX9_mostAt := by decide +kernel
def wp_X9_mostAt (n1 : Int32) (n2 : Int32) (v_law : Int32) (v_many : Int32) (v_meetings : Int32) (v_one : Int32) (v_other : Int32) (a_purses : Nat → Int32) (a_daily : Nat → Int32) (a_tried : Nat → Int32) (a_order : Nat → Int32) (a_bestOrder : Nat → Int32) (Post : Int32 → (Int32) → (Int32) → (Nat → Int32) → (Nat → Int32) → (Nat → Int32) → Prop) : Prop := (wp_X9_isPerson n1 v_many (fun (r2 : Int32) => ((¬ r2 = 0 → ((v_meetings ≤ (6 : Int32) → (wp_X9_layBest n1 v_law v_meetings v_one v_other a_purses a_daily a_tried a_order a_bestOrder (fun (r24 : Int32) (v_one_24 : Int32) (v_other_24 : Int32) (a_tried_24 : Nat → Int32) (a_order_24 : Nat → Int32) (a_bestOrder_24 : Nat → Int32) => (wp_X9_in (Int32.toInt64 n2) (0 : Int64) (Int32.toInt64 (v_meetings - (1 : Int32))) (fun (r38 : Int32) => ((r38 = 0 → (Post (-9 : Int32) v_one_24 v_other_24 a_tried_24 a_order_24 a_bestOrder_24)) ∧ (¬ r38 = 0 → (vp_in n2 8 ∧ (Post (a_bestOrder_24 (Int32.toNatClampNeg n2)) v_one_24 v_other_24 a_tried_24 a_order_24 a_bestOrder_24))))))))) ∧ (¬ v_meetings ≤ (6 : Int32) → (Post (-3 : Int32) v_one v_other a_tried a_order a_bestOrder)))) ∧ (r2 = 0 → (Post (-1 : Int32) v_one v_other a_tried a_order a_bestOrder)))))
set_option maxHeartbeats 4000000 in
set_option maxRecDepth 100000 in
theorem c_X9_mostAt (l : Launch) (D : va_G) (cI cZ : ClassId) (o o_readPurses o_readDay o_purses o_daily o_text o_row o_tried o_days o_order o_bestOrder o_seenHad o_seenShared o_isKept o_keptPurses o_keptRow o_keptHad o_keptShared o_keptRest : Nat) (sz : Nat) (n1 : Int32) (n2 : Int32) (v_readLaw : Int32) (v_readMany : Int32) (v_readMeetings : Int32) (v_law : Int32) (v_many : Int32) (v_meetings : Int32) (v_length : Int32) (v_at : Int32) (v_faultAt : Int32) (v_one : Int32) (v_other : Int32) (v_made : Int32) (v_leads : Int32) (v_rings : Int32) (v_seen : Int32) (a_purses : Nat → Int32) (a_daily : Nat → Int32) (a_tried : Nat → Int32) (a_order : Nat → Int32) (a_bestOrder : Nat → Int32) (Post : Int32 → (Int32) → (Int32) → (Nat → Int32) → (Nat → Int32) → (Nat → Int32) → Prop) (h : wp_X9_mostAt n1 n2 v_law v_many v_meetings v_one v_other a_purses a_daily a_tried a_order a_bestOrder Post) : Met l yX9_mostAt wsX9_mostAt rm_X9_mostAt (cPc D cI cZ [.ref o, .int n1, .int n2] (cw_X9_mostAt cI cZ o o_readPurses o_readDay o_purses o_daily o_text o_row o_tried o_days o_order o_bestOrder o_seenHad o_seenShared o_isKept o_keptPurses o_keptRow o_keptHad o_keptShared o_keptRest v_readLaw v_readMany v_readMeetings v_law v_many v_meetings v_length v_at v_faultAt v_one v_other v_made v_leads v_rings v_seen a_purses a_daily a_tried a_order a_bestOrder) sz) (cQi5 D Post (fun m_v_one m_v_other m_a_tried m_a_order m_a_bestOrder => (cw_X9_mostAt cI cZ o o_readPurses o_readDay o_purses o_daily o_text o_row o_tried o_days o_order o_bestOrder o_seenHad o_seenShared o_isKept o_keptPurses o_keptRow o_keptHad o_keptShared o_keptRest v_readLaw v_readMany v_readMeetings v_law v_many v_meetings v_length v_at v_faultAt m_v_one m_v_other v_made v_leads v_rings v_seen a_purses a_daily m_a_tried m_a_order m_a_bestOrder)) (va_A (cw_X9_mostAt cI cZ o o_readPurses o_readDay o_purses o_daily o_text o_row o_tried o_days o_order o_bestOrder o_seenHad o_seenShared o_isKept o_keptPurses o_keptRow o_keptHad o_keptShared o_keptRest v_readLaw v_readMany v_readMeetings v_law v_many v_meetings v_length v_at v_faultAt v_one v_other v_made v_leads v_rings v_seen a_purses a_daily a_tried a_order a_bestOrder) sz)) 0 0 (va_A (cw_X9_mostAt cI cZ o o_readPurses o_readDay o_purses o_daily o_text o_row o_tried o_days o_order o_bestOrder o_seenHad o_seenShared o_isKept o_keptPurses o_keptRow o_keptHad o_keptShared o_keptRest v_readLaw v_readMany v_readMeetings v_law v_many v_meetings v_length v_at v_faultAt v_one v_other v_made v_leads v_rings v_seen a_purses a_daily a_tried a_order a_bestOrder) sz) := by
  refine ent (cc := cX9_mostAt) (maxL := 3) (ret := (some .int)) (Qc := fun A => cQi5 D Post (fun m_v_one m_v_other m_a_tried m_a_order m_a_bestOrder => (cw_X9_mostAt cI cZ o o_readPurses o_readDay o_purses o_daily o_text o_row o_tried o_days o_order o_bestOrder o_seenHad o_seenShared o_isKept o_keptPurses o_keptRow o_keptHad o_keptShared o_keptRest v_readLaw v_readMany v_readMeetings v_law v_many v_meetings v_length v_at v_faultAt m_v_one m_v_other v_made v_leads v_rings v_seen a_purses a_daily m_a_tried m_a_order m_a_bestOrder)) A) (by decide) rfl (Nat.le_of_ble_eq_true rfl) ?_
  intro p e s m args below meth c A ls Q hQ hsz hx hb hml hr hts hown hlocks hnm hK hP hD hA hS hl
  have hl : lv_has ls 3 [(0, .ref o), (1, .int n1), (2, .int n2)] := hl
  unfold wp_X9_mostAt at h
  refine lv_aload_n hx hb dX9_mostAt_0 rfl (lv_at hl 0 rfl) ?_
  refine lv_iload_n hx hb dX9_mostAt_1 rfl (lv_at hl 1 rfl) ?_
  refine call_i0 (va_runV (As := [.int n1]) (rest := []) ⟨hx, hb, hml, hown, hts⟩ (c_X9_isPerson l D cI cZ o o_readPurses o_readDay o_purses o_daily o_text o_row o_tried o_days o_order o_bestOrder o_seenHad o_seenShared o_isKept o_keptPurses o_keptRow o_keptHad o_keptShared o_keptRest (Array.size s.heap) n1 v_readLaw v_readMany v_readMeetings v_law v_many v_meetings v_length v_at v_faultAt v_one v_other v_made v_leads v_rings v_seen _ h) (cwV 1 hts gX9_mostAt_X9_isPerson rfl rfl rfl (by decide +kernel) ⟨Nat.le_of_ble_eq_true rfl, Nat.le_of_ble_eq_true rfl⟩) (preV_of hP hD hK [0] rfl rfl 0 9 rfl rfl rfl) rfl rfl hl.1 rfl (lv_room (Nat.le_of_ble_eq_true rfl)) dX9_mostAt_2 ⟨Nat.zero_le _, Nat.zero_le _⟩) hP hD hS hA [0] rfl ((cw_X9_mostAt cI cZ o o_readPurses o_readDay o_purses o_daily o_text o_row o_tried o_days o_order o_bestOrder o_seenHad o_seenShared o_isKept o_keptPurses o_keptRow o_keptHad o_keptShared o_keptRest v_readLaw v_readMany v_readMeetings v_law v_many v_meetings v_length v_at v_faultAt v_one v_other v_made v_leads v_rings v_seen a_purses a_daily a_tried a_order a_bestOrder)) (rfl) (rfl) (fun r2 H locs h hP hD hS => ?_)
  refine lv_if_ne (tgt := 10) hx hb dX9_mostAt_5 (by decide) (fun c5 => ?_) (fun c5 => ?_)
  · have h := h.1 c5
    refine lv_aload_n hx hb dX9_mostAt_10 rfl (lv_at hl 0 rfl) ?_
    refine va_get (D := D) (ci := 9) (v := .int v_meetings) (C := RX9) (T := TX9) (N := 33) hx hb hts inw_X9_mostAt_X9 hown hK.1 hP 0 rfl rfl 9 (by decide) (hts (.fieldLink RX9 106 "PursesShareModel" "meetings" "I") (by decide +kernel)) (fun _ h9 => h9) rfl dX9_mostAt_11 ?_
    refine lv_bipush (v := 6) hx hb dX9_mostAt_14 (by decide) ?_
    refine lv_icmp_le (tgt := 22) hx hb dX9_mostAt_16 (by decide) (fun c16 => ?_) (fun c16 => ?_)
    · have h := h.1 c16
      refine lv_aload_n hx hb dX9_mostAt_22 rfl (lv_at hl 0 rfl) ?_
      refine lv_iload_n hx hb dX9_mostAt_23 rfl (lv_at hl 1 rfl) ?_
      refine call_i5 (va_runV (As := [.int n1]) (rest := []) ⟨hx, hb, hml, hown, hts⟩ (c_X9_layBest l D cI cZ o o_readPurses o_readDay o_purses o_daily o_text o_row o_tried o_days o_order o_bestOrder o_seenHad o_seenShared o_isKept o_keptPurses o_keptRow o_keptHad o_keptShared o_keptRest (Array.size H) n1 v_readLaw v_readMany v_readMeetings v_law v_many v_meetings v_length v_at v_faultAt v_one v_other v_made v_leads v_rings v_seen a_purses a_daily a_tried a_order a_bestOrder _ h) (cwV 1 hts gX9_mostAt_X9_layBest rfl rfl rfl (by decide +kernel) ⟨Nat.le_of_ble_eq_true rfl, Nat.le_of_ble_eq_true rfl⟩) (preV_of hP hD hK [0, 1, 2, 3, 4, 5] rfl rfl 0 9 rfl rfl rfl) rfl rfl hl.1 rfl (lv_room (Nat.le_of_ble_eq_true rfl)) dX9_mostAt_24 ⟨Nat.zero_le _, Nat.zero_le _⟩) hP hD hS hA [0, 1, 2, 3, 4, 5] rfl (fun v_one_24 v_other_24 a_tried_24 a_order_24 a_bestOrder_24 => (cw_X9_mostAt cI cZ o o_readPurses o_readDay o_purses o_daily o_text o_row o_tried o_days o_order o_bestOrder o_seenHad o_seenShared o_isKept o_keptPurses o_keptRow o_keptHad o_keptShared o_keptRest v_readLaw v_readMany v_readMeetings v_law v_many v_meetings v_length v_at v_faultAt v_one_24 v_other_24 v_made v_leads v_rings v_seen a_purses a_daily a_tried_24 a_order_24 a_bestOrder_24)) (fun _ _ _ _ _ => rfl) (fun _ _ _ _ _ => rfl) (fun r24 v_one_24 v_other_24 a_tried_24 a_order_24 a_bestOrder_24 H locs h hP hD hS => ?_)
      refine lv_pop hx hb dX9_mostAt_27 rfl ?_
      refine lv_iload_n hx hb dX9_mostAt_28 rfl (lv_at hl 2 rfl) ?_
      refine lv_i2l (v := (Int32.toInt64 n2)) hx hb dX9_mostAt_29 rfl ?_
      refine lv_lconst (v := 0) hx hb dX9_mostAt_30 (by decide) ?_
      refine lv_aload_n hx hb dX9_mostAt_31 rfl (lv_at hl 0 rfl) ?_
      refine va_get (D := D) (ci := 9) (v := .int v_meetings) (C := RX9) (T := TX9) (N := 33) hx hb hts inw_X9_mostAt_X9 hown hK.1 hP 0 rfl rfl 9 (by decide) (hts (.fieldLink RX9 106 "PursesShareModel" "meetings" "I") (by decide +kernel)) (fun _ h9 => h9) rfl dX9_mostAt_32 ?_
      refine lv_iconst (v := 1) hx hb dX9_mostAt_35 (by decide) ?_
      refine lv_isub hx hb dX9_mostAt_36 ?_
      refine lv_i2l (v := (Int32.toInt64 (v_meetings - (1 : Int32)))) hx hb dX9_mostAt_37 rfl ?_
      refine call_i0 (va_runS (As := [.long (Int32.toInt64 n2), .long (0 : Int64), .long (Int32.toInt64 (v_meetings - (1 : Int32)))]) (rest := []) ⟨hx, hb, hml, hown, hts⟩ (c_X9_in l D cI cZ (Array.size H) (Int32.toInt64 n2) (0 : Int64) (Int32.toInt64 (v_meetings - (1 : Int32))) _ h) (va_cwS 3 hts gX9_mostAt_X9_in rfl rfl rfl (by decide +kernel) ⟨Nat.le_of_ble_eq_true rfl, Nat.le_of_ble_eq_true rfl⟩) (preS_of hP hD hK [] rfl rfl) rfl rfl hl.1 rfl (lv_room (Nat.le_of_ble_eq_true rfl)) dX9_mostAt_38 ⟨Nat.zero_le _, Nat.zero_le _⟩) hP hD hS hA [] rfl ((cw_X9_mostAt cI cZ o o_readPurses o_readDay o_purses o_daily o_text o_row o_tried o_days o_order o_bestOrder o_seenHad o_seenShared o_isKept o_keptPurses o_keptRow o_keptHad o_keptShared o_keptRest v_readLaw v_readMany v_readMeetings v_law v_many v_meetings v_length v_at v_faultAt v_one_24 v_other_24 v_made v_leads v_rings v_seen a_purses a_daily a_tried_24 a_order_24 a_bestOrder_24)) (rfl) (rfl) (fun r38 H locs h hP hD hS => ?_)
      refine lv_if_eq (tgt := 53) hx hb dX9_mostAt_41 (by decide) (fun c41 => ?_) (fun c41 => ?_)
      · have h := h.1 c41
        refine lv_bipush (v := -9) hx hb dX9_mostAt_53 (by decide) ?_
        exact ret_i5 hx hb hr hlocks hQ hS v_one_24 v_other_24 a_tried_24 a_order_24 a_bestOrder_24 hP h dX9_mostAt_55
      · have h := h.2 c41
        refine lv_aload_n hx hb dX9_mostAt_44 rfl (lv_at hl 0 rfl) ?_
        refine va_get (D := D) (ci := 9) (v := .ref o_bestOrder) (C := RX9) (T := TX9) (N := 33) hx hb hts inw_X9_mostAt_X9 hown hK.1 hP 0 rfl rfl 23 (by decide) (hts (.fieldLink RX9 37 "PursesShareModel" "bestOrder" "[I") (by decide +kernel)) (fun _ h9 => h9) rfl dX9_mostAt_45 ?_
        refine lv_iload_n hx hb dX9_mostAt_48 rfl (lv_at hl 2 rfl) ?_
        have h0 := h.1
        have h := h.2
        refine va_iald hx hb hK.1 hP 5 0 rfl rfl h0 dX9_mostAt_49 ?_
        refine lv_goto (tgt := 55) hx hb dX9_mostAt_50 (by decide) ?_
        exact ret_i5 hx hb hr hlocks hQ hS v_one_24 v_other_24 a_tried_24 a_order_24 a_bestOrder_24 hP h dX9_mostAt_55
    · have h := h.2 c16
      refine lv_bipush (v := -3) hx hb dX9_mostAt_19 (by decide) ?_
      exact ret_i5 hx hb hr hlocks hQ hS v_one v_other a_tried a_order a_bestOrder hP h dX9_mostAt_21
  · have h := h.2 c5
    refine lv_iconst (v := -1) hx hb dX9_mostAt_8 (by decide) ?_
    exact ret_i5 hx hb hr hlocks hQ hS v_one v_other a_tried a_order a_bestOrder hP h dX9_mostAt_9
abbrev rm_X9_pennies : Room := { frames := 3, cells := 0, slots := 0, locals := 68 }
abbrev cw_X9_pennies (cI cZ : ClassId) (o o_readPurses o_readDay o_purses o_daily o_text o_row o_tried o_days o_order o_bestOrder o_seenHad o_seenShared o_isKept o_keptPurses o_keptRow o_keptHad o_keptShared o_keptRest : Nat) (v_readLaw : Int32) (v_readMany : Int32) (v_readMeetings : Int32) (v_law : Int32) (v_many : Int32) (v_meetings : Int32) (v_length : Int32) (v_at : Int32) (v_faultAt : Int32) (v_one : Int32) (v_other : Int32) (v_made : Int32) (v_leads : Int32) (v_rings : Int32) (v_seen : Int32) (a_purses : Nat → Int32) : va_W := [(o, .inr (9, [.ref o_readPurses, .ref o_readDay, .int v_readLaw, .int v_readMany, .int v_readMeetings, .ref o_purses, .ref o_daily, .int v_law, .int v_many, .int v_meetings, .ref o_text, .int v_length, .int v_at, .int v_faultAt, .int v_one, .int v_other, .int v_made, .ref o_row, .ref o_tried, .int v_leads, .int v_rings, .ref o_days, .ref o_order, .ref o_bestOrder, .int v_seen, .ref o_seenHad, .ref o_seenShared, .ref o_isKept, .ref o_keptPurses, .ref o_keptRow, .ref o_keptHad, .ref o_keptShared, .ref o_keptRest])), (o_purses, .inl (cI, 8, .inl a_purses))]
theorem inw_X9_pennies_X9 : ∀ w ∈ u_ws RX9 TX9 33, w ∈ wsX9_pennies := by decide +kernel
def wp_X9_pennies (n1 : Int32) (n2 : Int32) (v_law : Int32) (v_many : Int32) (v_one : Int32) (v_other : Int32) (a_purses : Nat → Int32) (Post : Int32 → (Int32) → (Int32) → Prop) : Prop := (wp_X9_areTwo n1 n2 v_many (fun (r3 : Int32) => ((¬ r3 = 0 → ((¬ n1 = n2 → (vp_in n1 8 ∧ (vp_in n2 8 ∧ (wp_X9_meetTwo (a_purses (Int32.toNatClampNeg n1)) (a_purses (Int32.toNatClampNeg n2)) v_law v_one v_other (fun (v_one_34 : Int32) (v_other_34 : Int32) => (∀ k37 : (Int32) → (Int32) → (Int32) → Prop, (∀ (x3_37 : Int32) (v_one_37 : Int32) (v_other_37 : Int32), (vp_in n1 8 ∧ (((a_purses (Int32.toNatClampNeg n1)) ≤ (v_one_37 + x3_37) → (Post x3_37 v_one_37 v_other_37)) ∧ (¬ (a_purses (Int32.toNatClampNeg n1)) ≤ (v_one_37 + x3_37) → (vp_in n1 8 ∧ (vp_in n2 8 ∧ (wp_X9_meetTwo ((a_purses (Int32.toNatClampNeg n1)) - (x3_37 + 1)) (a_purses (Int32.toNatClampNeg n2)) v_law v_one_37 v_other_37 (fun (v_one_70 : Int32) (v_other_70 : Int32) => (k37 (x3_37 + 1) v_one_70 v_other_70)))))))) → k37 x3_37 v_one_37 v_other_37) → k37 (0 : Int32) v_one_34 v_other_34)))))) ∧ (n1 = n2 → (Post (-3 : Int32) v_one v_other)))) ∧ (r3 = 0 → (Post (-1 : Int32) v_one v_other)))))
set_option maxHeartbeats 4000000 in
set_option maxRecDepth 100000 in
theorem c_X9_pennies (l : Launch) (D : va_G) (cI cZ : ClassId) (o o_readPurses o_readDay o_purses o_daily o_text o_row o_tried o_days o_order o_bestOrder o_seenHad o_seenShared o_isKept o_keptPurses o_keptRow o_keptHad o_keptShared o_keptRest : Nat) (sz : Nat) (n1 : Int32) (n2 : Int32) (v_readLaw : Int32) (v_readMany : Int32) (v_readMeetings : Int32) (v_law : Int32) (v_many : Int32) (v_meetings : Int32) (v_length : Int32) (v_at : Int32) (v_faultAt : Int32) (v_one : Int32) (v_other : Int32) (v_made : Int32) (v_leads : Int32) (v_rings : Int32) (v_seen : Int32) (a_purses : Nat → Int32) (Post : Int32 → (Int32) → (Int32) → Prop) (h : wp_X9_pennies n1 n2 v_law v_many v_one v_other a_purses Post) : Met l yX9_pennies wsX9_pennies rm_X9_pennies (cPc D cI cZ [.ref o, .int n1, .int n2] (cw_X9_pennies cI cZ o o_readPurses o_readDay o_purses o_daily o_text o_row o_tried o_days o_order o_bestOrder o_seenHad o_seenShared o_isKept o_keptPurses o_keptRow o_keptHad o_keptShared o_keptRest v_readLaw v_readMany v_readMeetings v_law v_many v_meetings v_length v_at v_faultAt v_one v_other v_made v_leads v_rings v_seen a_purses) sz) (cQi2 D Post (fun m_v_one m_v_other => (cw_X9_pennies cI cZ o o_readPurses o_readDay o_purses o_daily o_text o_row o_tried o_days o_order o_bestOrder o_seenHad o_seenShared o_isKept o_keptPurses o_keptRow o_keptHad o_keptShared o_keptRest v_readLaw v_readMany v_readMeetings v_law v_many v_meetings v_length v_at v_faultAt m_v_one m_v_other v_made v_leads v_rings v_seen a_purses)) (va_A (cw_X9_pennies cI cZ o o_readPurses o_readDay o_purses o_daily o_text o_row o_tried o_days o_order o_bestOrder o_seenHad o_seenShared o_isKept o_keptPurses o_keptRow o_keptHad o_keptShared o_keptRest v_readLaw v_readMany v_readMeetings v_law v_many v_meetings v_length v_at v_faultAt v_one v_other v_made v_leads v_rings v_seen a_purses) sz)) 0 0 (va_A (cw_X9_pennies cI cZ o o_readPurses o_readDay o_purses o_daily o_text o_row o_tried o_days o_order o_bestOrder o_seenHad o_seenShared o_isKept o_keptPurses o_keptRow o_keptHad o_keptShared o_keptRest v_readLaw v_readMany v_readMeetings v_law v_many v_meetings v_length v_at v_faultAt v_one v_other v_made v_leads v_rings v_seen a_purses) sz) := by
  refine ent (cc := cX9_pennies) (maxL := 4) (ret := (some .int)) (Qc := fun A => cQi2 D Post (fun m_v_one m_v_other => (cw_X9_pennies cI cZ o o_readPurses o_readDay o_purses o_daily o_text o_row o_tried o_days o_order o_bestOrder o_seenHad o_seenShared o_isKept o_keptPurses o_keptRow o_keptHad o_keptShared o_keptRest v_readLaw v_readMany v_readMeetings v_law v_many v_meetings v_length v_at v_faultAt m_v_one m_v_other v_made v_leads v_rings v_seen a_purses)) A) (by decide) rfl (Nat.le_of_ble_eq_true rfl) ?_
  intro p e s m args below meth c A ls Q hQ hsz hx hb hml hr hts hown hlocks hnm hK hP hD hA hS hl
  have hl : lv_has ls 4 [(0, .ref o), (1, .int n1), (2, .int n2)] := hl
  unfold wp_X9_pennies at h
  refine lv_aload_n hx hb dX9_pennies_0 rfl (lv_at hl 0 rfl) ?_
  refine lv_iload_n hx hb dX9_pennies_1 rfl (lv_at hl 1 rfl) ?_
  refine lv_iload_n hx hb dX9_pennies_2 rfl (lv_at hl 2 rfl) ?_
  refine call_i0 (va_runV (As := [.int n1, .int n2]) (rest := []) ⟨hx, hb, hml, hown, hts⟩ (c_X9_areTwo l D cI cZ o o_readPurses o_readDay o_purses o_daily o_text o_row o_tried o_days o_order o_bestOrder o_seenHad o_seenShared o_isKept o_keptPurses o_keptRow o_keptHad o_keptShared o_keptRest (Array.size s.heap) n1 n2 v_readLaw v_readMany v_readMeetings v_law v_many v_meetings v_length v_at v_faultAt v_one v_other v_made v_leads v_rings v_seen _ h) (cwV 2 hts gX9_pennies_X9_areTwo rfl rfl rfl (by decide +kernel) ⟨Nat.le_of_ble_eq_true rfl, Nat.le_of_ble_eq_true rfl⟩) (preV_of hP hD hK [0] rfl rfl 0 9 rfl rfl rfl) rfl rfl hl.1 rfl (lv_room (Nat.le_of_ble_eq_true rfl)) dX9_pennies_3 ⟨Nat.zero_le _, Nat.zero_le _⟩) hP hD hS hA [0] rfl ((cw_X9_pennies cI cZ o o_readPurses o_readDay o_purses o_daily o_text o_row o_tried o_days o_order o_bestOrder o_seenHad o_seenShared o_isKept o_keptPurses o_keptRow o_keptHad o_keptShared o_keptRest v_readLaw v_readMany v_readMeetings v_law v_many v_meetings v_length v_at v_faultAt v_one v_other v_made v_leads v_rings v_seen a_purses)) (rfl) (rfl) (fun r3 H locs h hP hD hS => ?_)
  refine lv_if_ne (tgt := 11) hx hb dX9_pennies_6 (by decide) (fun c6 => ?_) (fun c6 => ?_)
  · have h := h.1 c6
    refine lv_iload_n hx hb dX9_pennies_11 rfl (lv_at hl 1 rfl) ?_
    refine lv_iload_n hx hb dX9_pennies_12 rfl (lv_at hl 2 rfl) ?_
    refine lv_icmp_ne (tgt := 19) hx hb dX9_pennies_13 (by decide) (fun c13 => ?_) (fun c13 => ?_)
    · have h := h.1 c13
      refine lv_iconst (v := 0) hx hb dX9_pennies_19 (by decide) ?_
      refine lv_istore_n (lv' := [(3, .int (0 : Int32)), (0, .ref o), (1, .int n1), (2, .int n2)]) hx hb dX9_pennies_20 rfl hl (by decide) rfl (fun ls hl => ?_)
      refine lv_aload_n hx hb dX9_pennies_21 rfl (lv_at hl 1 rfl) ?_
      refine lv_aload_n hx hb dX9_pennies_22 rfl (lv_at hl 1 rfl) ?_
      refine va_get (D := D) (ci := 9) (v := .ref o_purses) (C := RX9) (T := TX9) (N := 33) hx hb hts inw_X9_pennies_X9 hown hK.1 hP 0 rfl rfl 5 (by decide) (hts (.fieldLink RX9 16 "PursesShareModel" "purses" "[I") (by decide +kernel)) (fun _ h9 => h9) rfl dX9_pennies_23 ?_
      refine lv_iload_n hx hb dX9_pennies_26 rfl (lv_at hl 2 rfl) ?_
      have h0 := h.1
      have h := h.2
      refine va_iald hx hb hK.1 hP 1 0 rfl rfl h0 dX9_pennies_27 ?_
      refine lv_aload_n hx hb dX9_pennies_28 rfl (lv_at hl 1 rfl) ?_
      refine va_get (D := D) (ci := 9) (v := .ref o_purses) (C := RX9) (T := TX9) (N := 33) hx hb hts inw_X9_pennies_X9 hown hK.1 hP 0 rfl rfl 5 (by decide) (hts (.fieldLink RX9 16 "PursesShareModel" "purses" "[I") (by decide +kernel)) (fun _ h9 => h9) rfl dX9_pennies_29 ?_
      refine lv_iload_n hx hb dX9_pennies_32 rfl (lv_at hl 3 rfl) ?_
      have h0 := h.1
      have h := h.2
      refine va_iald hx hb hK.1 hP 1 0 rfl rfl h0 dX9_pennies_33 ?_
      refine call_v2 (va_runV (As := [.int (a_purses (Int32.toNatClampNeg n1)), .int (a_purses (Int32.toNatClampNeg n2))]) (rest := []) ⟨hx, hb, hml, hown, hts⟩ (c_X9_meetTwo l D cI cZ o o_readPurses o_readDay o_purses o_daily o_text o_row o_tried o_days o_order o_bestOrder o_seenHad o_seenShared o_isKept o_keptPurses o_keptRow o_keptHad o_keptShared o_keptRest (Array.size H) (a_purses (Int32.toNatClampNeg n1)) (a_purses (Int32.toNatClampNeg n2)) v_readLaw v_readMany v_readMeetings v_law v_many v_meetings v_length v_at v_faultAt v_one v_other v_made v_leads v_rings v_seen _ h) (cwV 2 hts gX9_pennies_X9_meetTwo rfl rfl rfl (by decide +kernel) ⟨Nat.le_of_ble_eq_true rfl, Nat.le_of_ble_eq_true rfl⟩) (preV_of hP hD hK [0] rfl rfl 0 9 rfl rfl rfl) rfl rfl hl.1 rfl (lv_room (Nat.le_of_ble_eq_true rfl)) dX9_pennies_34 ⟨Nat.zero_le _, Nat.zero_le _⟩) hP hD hS hA [0] rfl (fun v_one_34 v_other_34 => (cw_X9_pennies cI cZ o o_readPurses o_readDay o_purses o_daily o_text o_row o_tried o_days o_order o_bestOrder o_seenHad o_seenShared o_isKept o_keptPurses o_keptRow o_keptHad o_keptShared o_keptRest v_readLaw v_readMany v_readMeetings v_law v_many v_meetings v_length v_at v_faultAt v_one_34 v_other_34 v_made v_leads v_rings v_seen a_purses)) (fun _ _ => rfl) (fun _ _ => rfl) (fun v_one_34 v_other_34 H locs h hP hD hS => ?_)
      refine h (fun x3_37 v_one_37 v_other_37 => ∀ (H : Heap) (locs : List Loc) (ls : Array Slot), lv_has ls 4 [(0, .ref o), (1, .int n1), (2, .int n2), (3, .int x3_37)] → va_P D vwCl (cw_X9_pennies cI cZ o o_readPurses o_readDay o_purses o_daily o_text o_row o_tried o_days o_order o_bestOrder o_seenHad o_seenShared o_isKept o_keptPurses o_keptRow o_keptHad o_keptShared o_keptRest v_readLaw v_readMany v_readMeetings v_law v_many v_meetings v_length v_at v_faultAt v_one_37 v_other_37 v_made v_leads v_rings v_seen a_purses) H → va_D A (cw_X9_pennies cI cZ o o_readPurses o_readDay o_purses o_daily o_text o_row o_tried o_days o_order o_bestOrder o_seenHad o_seenShared o_isKept o_keptPurses o_keptRow o_keptHad o_keptShared o_keptRest v_readLaw v_readMany v_readMeetings v_law v_many v_meetings v_length v_at v_faultAt v_one_37 v_other_37 v_made v_leads v_rings v_seen a_purses) → va_S A s.heap H locs → W p l e rm_X9_pennies s m args below meth c H locs 0 0 Q (F0 m 37 ls [])) ?_ H locs ls (lv_sub hl [1, 2, 3, 0] rfl) hP hD hS
      intro x3_37 v_one_37 v_other_37 h H locs ls hl hP hD hS
      refine lv_aload_n hx hb dX9_pennies_37 rfl (lv_at hl 0 rfl) ?_
      refine va_get (D := D) (ci := 9) (v := .int v_one_37) (C := RX9) (T := TX9) (N := 33) hx hb hts inw_X9_pennies_X9 hown hK.1 hP 0 rfl rfl 14 (by decide) (hts (.fieldLink RX9 123 "PursesShareModel" "one" "I") (by decide +kernel)) (fun _ h9 => h9) rfl dX9_pennies_38 ?_
      refine lv_iload_n hx hb dX9_pennies_41 rfl (lv_at hl 3 rfl) ?_
      refine lv_iadd hx hb dX9_pennies_42 ?_
      refine lv_aload_n hx hb dX9_pennies_43 rfl (lv_at hl 0 rfl) ?_
      refine va_get (D := D) (ci := 9) (v := .ref o_purses) (C := RX9) (T := TX9) (N := 33) hx hb hts inw_X9_pennies_X9 hown hK.1 hP 0 rfl rfl 5 (by decide) (hts (.fieldLink RX9 16 "PursesShareModel" "purses" "[I") (by decide +kernel)) (fun _ h9 => h9) rfl dX9_pennies_44 ?_
      refine lv_iload_n hx hb dX9_pennies_47 rfl (lv_at hl 1 rfl) ?_
      have h0 := h.1
      have h := h.2
      refine va_iald hx hb hK.1 hP 1 0 rfl rfl h0 dX9_pennies_48 ?_
      refine lv_icmp_ge (tgt := 76) hx hb dX9_pennies_49 (by decide) (fun c49 => ?_) (fun c49 => ?_)
      · have h := h.1 c49
        refine lv_iload_n hx hb dX9_pennies_76 rfl (lv_at hl 3 rfl) ?_
        exact ret_i2 hx hb hr hlocks hQ hS v_one_37 v_other_37 hP h dX9_pennies_77
      · have h := h.2 c49
        refine lv_iinc (v := (x3_37 + 1)) (lv' := [(3, .int (x3_37 + 1)), (0, .ref o), (1, .int n1), (2, .int n2)]) hx hb dX9_pennies_52 hl (k := 3) rfl rfl (by decide) rfl (fun ls hl => ?_)
        refine lv_aload_n hx hb dX9_pennies_55 rfl (lv_at hl 1 rfl) ?_
        refine lv_aload_n hx hb dX9_pennies_56 rfl (lv_at hl 1 rfl) ?_
        refine va_get (D := D) (ci := 9) (v := .ref o_purses) (C := RX9) (T := TX9) (N := 33) hx hb hts inw_X9_pennies_X9 hown hK.1 hP 0 rfl rfl 5 (by decide) (hts (.fieldLink RX9 16 "PursesShareModel" "purses" "[I") (by decide +kernel)) (fun _ h9 => h9) rfl dX9_pennies_57 ?_
        refine lv_iload_n hx hb dX9_pennies_60 rfl (lv_at hl 2 rfl) ?_
        have h0 := h.1
        have h := h.2
        refine va_iald hx hb hK.1 hP 1 0 rfl rfl h0 dX9_pennies_61 ?_
        refine lv_iload_n hx hb dX9_pennies_62 rfl (lv_at hl 0 rfl) ?_
        refine lv_isub hx hb dX9_pennies_63 ?_
        refine lv_aload_n hx hb dX9_pennies_64 rfl (lv_at hl 1 rfl) ?_
        refine va_get (D := D) (ci := 9) (v := .ref o_purses) (C := RX9) (T := TX9) (N := 33) hx hb hts inw_X9_pennies_X9 hown hK.1 hP 0 rfl rfl 5 (by decide) (hts (.fieldLink RX9 16 "PursesShareModel" "purses" "[I") (by decide +kernel)) (fun _ h9 => h9) rfl dX9_pennies_65 ?_
        refine lv_iload_n hx hb dX9_pennies_68 rfl (lv_at hl 3 rfl) ?_
        have h0 := h.1
        have h := h.2
        refine va_iald hx hb hK.1 hP 1 0 rfl rfl h0 dX9_pennies_69 ?_
        refine call_v2 (va_runV (As := [.int ((a_purses (Int32.toNatClampNeg n1)) - (x3_37 + 1)), .int (a_purses (Int32.toNatClampNeg n2))]) (rest := []) ⟨hx, hb, hml, hown, hts⟩ (c_X9_meetTwo l D cI cZ o o_readPurses o_readDay o_purses o_daily o_text o_row o_tried o_days o_order o_bestOrder o_seenHad o_seenShared o_isKept o_keptPurses o_keptRow o_keptHad o_keptShared o_keptRest (Array.size H) ((a_purses (Int32.toNatClampNeg n1)) - (x3_37 + 1)) (a_purses (Int32.toNatClampNeg n2)) v_readLaw v_readMany v_readMeetings v_law v_many v_meetings v_length v_at v_faultAt v_one_37 v_other_37 v_made v_leads v_rings v_seen _ h) (cwV 2 hts gX9_pennies_X9_meetTwo rfl rfl rfl (by decide +kernel) ⟨Nat.le_of_ble_eq_true rfl, Nat.le_of_ble_eq_true rfl⟩) (preV_of hP hD hK [0] rfl rfl 0 9 rfl rfl rfl) rfl rfl hl.1 rfl (lv_room (Nat.le_of_ble_eq_true rfl)) dX9_pennies_70 ⟨Nat.zero_le _, Nat.zero_le _⟩) hP hD hS hA [0] rfl (fun v_one_70 v_other_70 => (cw_X9_pennies cI cZ o o_readPurses o_readDay o_purses o_daily o_text o_row o_tried o_days o_order o_bestOrder o_seenHad o_seenShared o_isKept o_keptPurses o_keptRow o_keptHad o_keptShared o_keptRest v_readLaw v_readMany v_readMeetings v_law v_many v_meetings v_length v_at v_faultAt v_one_70 v_other_70 v_made v_leads v_rings v_seen a_purses)) (fun _ _ => rfl) (fun _ _ => rfl) (fun v_one_70 v_other_70 H locs h hP hD hS => ?_)
        refine lv_goto (tgt := 37) hx hb dX9_pennies_73 (by decide) ?_
        exact h H locs ls (lv_sub hl [1, 2, 3, 0] rfl) hP hD hS
    · have h := h.2 c13
      refine lv_bipush (v := -3) hx hb dX9_pennies_16 (by decide) ?_
      exact ret_i2 hx hb hr hlocks hQ hS v_one v_other hP h dX9_pennies_18
  · have h := h.2 c6
    refine lv_iconst (v := -1) hx hb dX9_pennies_9 (by decide) ?_
    exact ret_i2 hx hb hr hlocks hQ hS v_one v_other hP h dX9_pennies_10
abbrev rm_X9_see : Room := { frames := 1, cells := 0, slots := 0, locals := 25 }
abbrev cw_X9_see (cI cZ : ClassId) (o o_readPurses o_readDay o_purses o_daily o_text o_row o_tried o_days o_order o_bestOrder o_seenHad o_seenShared o_isKept o_keptPurses o_keptRow o_keptHad o_keptShared o_keptRest : Nat) (v_readLaw : Int32) (v_readMany : Int32) (v_readMeetings : Int32) (v_law : Int32) (v_many : Int32) (v_meetings : Int32) (v_length : Int32) (v_at : Int32) (v_faultAt : Int32) (v_one : Int32) (v_other : Int32) (v_made : Int32) (v_leads : Int32) (v_rings : Int32) (v_seen : Int32) (a_seenHad : Nat → Int32) (a_seenShared : Nat → Int32) : va_W := [(o, .inr (9, [.ref o_readPurses, .ref o_readDay, .int v_readLaw, .int v_readMany, .int v_readMeetings, .ref o_purses, .ref o_daily, .int v_law, .int v_many, .int v_meetings, .ref o_text, .int v_length, .int v_at, .int v_faultAt, .int v_one, .int v_other, .int v_made, .ref o_row, .ref o_tried, .int v_leads, .int v_rings, .ref o_days, .ref o_order, .ref o_bestOrder, .int v_seen, .ref o_seenHad, .ref o_seenShared, .ref o_isKept, .ref o_keptPurses, .ref o_keptRow, .ref o_keptHad, .ref o_keptShared, .ref o_keptRest])), (o_seenHad, .inl (cI, 8, .inl a_seenHad)), (o_seenShared, .inl (cI, 8, .inl a_seenShared))]
theorem inw_X9_see_X9 : ∀ w ∈ u_ws RX9 TX9 33, w ∈ wsX9_see := by decide +kernel
def wp_X9_see (n1 : Int32) (n2 : Int32) (v_seen : Int32) (a_seenHad : Nat → Int32) (a_seenShared : Nat → Int32) (Post : Int32 → (Int32) → (Nat → Int32) → (Nat → Int32) → Prop) : Prop := (wp_X9_in (Int32.toInt64 n1) (1 : Int64) (99999 : Int64) (fun (r6 : Int32) => ((r6 = 0 → (Post (-2 : Int32) v_seen a_seenHad a_seenShared)) ∧ (¬ r6 = 0 → (wp_X9_in (Int32.toInt64 n2) (0 : Int64) (99999 : Int64) (fun (r18 : Int32) => ((¬ r18 = 0 → ((¬ v_seen = (8 : Int32) → (vp_in v_seen 8 ∧ (vp_in v_seen 8 ∧ (Post (v_seen + (1 : Int32)) (v_seen + (1 : Int32)) (upd a_seenHad (Int32.toNatClampNeg v_seen) n1) (upd a_seenShared (Int32.toNatClampNeg v_seen) n2))))) ∧ (v_seen = (8 : Int32) → (Post (-4 : Int32) v_seen a_seenHad a_seenShared)))) ∧ (r18 = 0 → (Post (-2 : Int32) v_seen a_seenHad a_seenShared)))))))))
set_option maxHeartbeats 4000000 in
set_option maxRecDepth 100000 in
theorem c_X9_see (l : Launch) (D : va_G) (cI cZ : ClassId) (o o_readPurses o_readDay o_purses o_daily o_text o_row o_tried o_days o_order o_bestOrder o_seenHad o_seenShared o_isKept o_keptPurses o_keptRow o_keptHad o_keptShared o_keptRest : Nat) (sz : Nat) (n1 : Int32) (n2 : Int32) (v_readLaw : Int32) (v_readMany : Int32) (v_readMeetings : Int32) (v_law : Int32) (v_many : Int32) (v_meetings : Int32) (v_length : Int32) (v_at : Int32) (v_faultAt : Int32) (v_one : Int32) (v_other : Int32) (v_made : Int32) (v_leads : Int32) (v_rings : Int32) (v_seen : Int32) (a_seenHad : Nat → Int32) (a_seenShared : Nat → Int32) (Post : Int32 → (Int32) → (Nat → Int32) → (Nat → Int32) → Prop) (h : wp_X9_see n1 n2 v_seen a_seenHad a_seenShared Post) : Met l yX9_see wsX9_see rm_X9_see (cPc D cI cZ [.ref o, .int n1, .int n2] (cw_X9_see cI cZ o o_readPurses o_readDay o_purses o_daily o_text o_row o_tried o_days o_order o_bestOrder o_seenHad o_seenShared o_isKept o_keptPurses o_keptRow o_keptHad o_keptShared o_keptRest v_readLaw v_readMany v_readMeetings v_law v_many v_meetings v_length v_at v_faultAt v_one v_other v_made v_leads v_rings v_seen a_seenHad a_seenShared) sz) (cQi3 D Post (fun m_v_seen m_a_seenHad m_a_seenShared => (cw_X9_see cI cZ o o_readPurses o_readDay o_purses o_daily o_text o_row o_tried o_days o_order o_bestOrder o_seenHad o_seenShared o_isKept o_keptPurses o_keptRow o_keptHad o_keptShared o_keptRest v_readLaw v_readMany v_readMeetings v_law v_many v_meetings v_length v_at v_faultAt v_one v_other v_made v_leads v_rings m_v_seen m_a_seenHad m_a_seenShared)) (va_A (cw_X9_see cI cZ o o_readPurses o_readDay o_purses o_daily o_text o_row o_tried o_days o_order o_bestOrder o_seenHad o_seenShared o_isKept o_keptPurses o_keptRow o_keptHad o_keptShared o_keptRest v_readLaw v_readMany v_readMeetings v_law v_many v_meetings v_length v_at v_faultAt v_one v_other v_made v_leads v_rings v_seen a_seenHad a_seenShared) sz)) 0 0 (va_A (cw_X9_see cI cZ o o_readPurses o_readDay o_purses o_daily o_text o_row o_tried o_days o_order o_bestOrder o_seenHad o_seenShared o_isKept o_keptPurses o_keptRow o_keptHad o_keptShared o_keptRest v_readLaw v_readMany v_readMeetings v_law v_many v_meetings v_length v_at v_faultAt v_one v_other v_made v_leads v_rings v_seen a_seenHad a_seenShared) sz) := by
  refine ent (cc := cX9_see) (maxL := 3) (ret := (some .int)) (Qc := fun A => cQi3 D Post (fun m_v_seen m_a_seenHad m_a_seenShared => (cw_X9_see cI cZ o o_readPurses o_readDay o_purses o_daily o_text o_row o_tried o_days o_order o_bestOrder o_seenHad o_seenShared o_isKept o_keptPurses o_keptRow o_keptHad o_keptShared o_keptRest v_readLaw v_readMany v_readMeetings v_law v_many v_meetings v_length v_at v_faultAt v_one v_other v_made v_leads v_rings m_v_seen m_a_seenHad m_a_seenShared)) A) (by decide) rfl (Nat.le_of_ble_eq_true rfl) ?_
  intro p e s m args below meth c A ls Q hQ hsz hx hb hml hr hts hown hlocks hnm hK hP hD hA hS hl
  have hl : lv_has ls 3 [(0, .ref o), (1, .int n1), (2, .int n2)] := hl
  unfold wp_X9_see at h
  refine lv_iload_n hx hb dX9_see_0 rfl (lv_at hl 1 rfl) ?_
  refine lv_i2l (v := (Int32.toInt64 n1)) hx hb dX9_see_1 rfl ?_
  refine lv_lconst (v := 1) hx hb dX9_see_2 (by decide) ?_
  refine lv_ldc2 (own := RX9) (index := 119) (v := 99999) hx hb hown (hts (.constantLong RX9 119 (99999)) (by decide +kernel)) dX9_see_3 ?_
  refine call_i0 (va_runS (As := [.long (Int32.toInt64 n1), .long (1 : Int64), .long (99999 : Int64)]) (rest := []) ⟨hx, hb, hml, hown, hts⟩ (c_X9_in l D cI cZ (Array.size s.heap) (Int32.toInt64 n1) (1 : Int64) (99999 : Int64) _ h) (va_cwS 3 hts gX9_see_X9_in rfl rfl rfl (by decide +kernel) ⟨Nat.le_of_ble_eq_true rfl, Nat.le_of_ble_eq_true rfl⟩) (preS_of hP hD hK [] rfl rfl) rfl rfl hl.1 rfl (lv_room (Nat.le_of_ble_eq_true rfl)) dX9_see_6 ⟨Nat.zero_le _, Nat.zero_le _⟩) hP hD hS hA [] rfl ((cw_X9_see cI cZ o o_readPurses o_readDay o_purses o_daily o_text o_row o_tried o_days o_order o_bestOrder o_seenHad o_seenShared o_isKept o_keptPurses o_keptRow o_keptHad o_keptShared o_keptRest v_readLaw v_readMany v_readMeetings v_law v_many v_meetings v_length v_at v_faultAt v_one v_other v_made v_leads v_rings v_seen a_seenHad a_seenShared)) (rfl) (rfl) (fun r6 H locs h hP hD hS => ?_)
  refine lv_if_eq (tgt := 24) hx hb dX9_see_9 (by decide) (fun c9 => ?_) (fun c9 => ?_)
  · have h := h.1 c9
    refine lv_bipush (v := -2) hx hb dX9_see_24 (by decide) ?_
    exact ret_i3 hx hb hr hlocks hQ hS v_seen a_seenHad a_seenShared hP h dX9_see_26
  · have h := h.2 c9
    refine lv_iload_n hx hb dX9_see_12 rfl (lv_at hl 2 rfl) ?_
    refine lv_i2l (v := (Int32.toInt64 n2)) hx hb dX9_see_13 rfl ?_
    refine lv_lconst (v := 0) hx hb dX9_see_14 (by decide) ?_
    refine lv_ldc2 (own := RX9) (index := 119) (v := 99999) hx hb hown (hts (.constantLong RX9 119 (99999)) (by decide +kernel)) dX9_see_15 ?_
    refine call_i0 (va_runS (As := [.long (Int32.toInt64 n2), .long (0 : Int64), .long (99999 : Int64)]) (rest := []) ⟨hx, hb, hml, hown, hts⟩ (c_X9_in l D cI cZ (Array.size H) (Int32.toInt64 n2) (0 : Int64) (99999 : Int64) _ h) (va_cwS 3 hts gX9_see_X9_in rfl rfl rfl (by decide +kernel) ⟨Nat.le_of_ble_eq_true rfl, Nat.le_of_ble_eq_true rfl⟩) (preS_of hP hD hK [] rfl rfl) rfl rfl hl.1 rfl (lv_room (Nat.le_of_ble_eq_true rfl)) dX9_see_18 ⟨Nat.zero_le _, Nat.zero_le _⟩) hP hD hS hA [] rfl ((cw_X9_see cI cZ o o_readPurses o_readDay o_purses o_daily o_text o_row o_tried o_days o_order o_bestOrder o_seenHad o_seenShared o_isKept o_keptPurses o_keptRow o_keptHad o_keptShared o_keptRest v_readLaw v_readMany v_readMeetings v_law v_many v_meetings v_length v_at v_faultAt v_one v_other v_made v_leads v_rings v_seen a_seenHad a_seenShared)) (rfl) (rfl) (fun r18 H locs h hP hD hS => ?_)
    refine lv_if_ne (tgt := 27) hx hb dX9_see_21 (by decide) (fun c21 => ?_) (fun c21 => ?_)
    · have h := h.1 c21
      refine lv_aload_n hx hb dX9_see_27 rfl (lv_at hl 0 rfl) ?_
      refine va_get (D := D) (ci := 9) (v := .int v_seen) (C := RX9) (T := TX9) (N := 33) hx hb hts inw_X9_see_X9 hown hK.1 hP 0 rfl rfl 24 (by decide) (hts (.fieldLink RX9 112 "PursesShareModel" "seen" "I") (by decide +kernel)) (fun _ h9 => h9) rfl dX9_see_28 ?_
      refine lv_bipush (v := 8) hx hb dX9_see_31 (by decide) ?_
      refine lv_icmp_ne (tgt := 39) hx hb dX9_see_33 (by decide) (fun c33 => ?_) (fun c33 => ?_)
      · have h := h.1 c33
        refine lv_aload_n hx hb dX9_see_39 rfl (lv_at hl 0 rfl) ?_
        refine va_get (D := D) (ci := 9) (v := .ref o_seenHad) (C := RX9) (T := TX9) (N := 33) hx hb hts inw_X9_see_X9 hown hK.1 hP 0 rfl rfl 25 (by decide) (hts (.fieldLink RX9 40 "PursesShareModel" "seenHad" "[I") (by decide +kernel)) (fun _ h9 => h9) rfl dX9_see_40 ?_
        refine lv_aload_n hx hb dX9_see_43 rfl (lv_at hl 0 rfl) ?_
        refine va_get (D := D) (ci := 9) (v := .int v_seen) (C := RX9) (T := TX9) (N := 33) hx hb hts inw_X9_see_X9 hown hK.1 hP 0 rfl rfl 24 (by decide) (hts (.fieldLink RX9 112 "PursesShareModel" "seen" "I") (by decide +kernel)) (fun _ h9 => h9) rfl dX9_see_44 ?_
        refine lv_iload_n hx hb dX9_see_47 rfl (lv_at hl 1 rfl) ?_
        have h0 := h.1
        have h := h.2
        refine va_iast hx hb hK.1 hP hD hS 1 0 rfl rfl h0 dX9_see_48 (fun H locs hP hD hS => ?_)
        have hP : va_P D vwCl (cw_X9_see cI cZ o o_readPurses o_readDay o_purses o_daily o_text o_row o_tried o_days o_order o_bestOrder o_seenHad o_seenShared o_isKept o_keptPurses o_keptRow o_keptHad o_keptShared o_keptRest v_readLaw v_readMany v_readMeetings v_law v_many v_meetings v_length v_at v_faultAt v_one v_other v_made v_leads v_rings v_seen (upd a_seenHad (Int32.toNatClampNeg v_seen) n1) a_seenShared) H := hP
        have hD : va_D A (cw_X9_see cI cZ o o_readPurses o_readDay o_purses o_daily o_text o_row o_tried o_days o_order o_bestOrder o_seenHad o_seenShared o_isKept o_keptPurses o_keptRow o_keptHad o_keptShared o_keptRest v_readLaw v_readMany v_readMeetings v_law v_many v_meetings v_length v_at v_faultAt v_one v_other v_made v_leads v_rings v_seen (upd a_seenHad (Int32.toNatClampNeg v_seen) n1) a_seenShared) := hD
        refine lv_aload_n hx hb dX9_see_49 rfl (lv_at hl 0 rfl) ?_
        refine va_get (D := D) (ci := 9) (v := .ref o_seenShared) (C := RX9) (T := TX9) (N := 33) hx hb hts inw_X9_see_X9 hown hK.1 hP 0 rfl rfl 26 (by decide) (hts (.fieldLink RX9 43 "PursesShareModel" "seenShared" "[I") (by decide +kernel)) (fun _ h9 => h9) rfl dX9_see_50 ?_
        refine lv_aload_n hx hb dX9_see_53 rfl (lv_at hl 0 rfl) ?_
        refine va_get (D := D) (ci := 9) (v := .int v_seen) (C := RX9) (T := TX9) (N := 33) hx hb hts inw_X9_see_X9 hown hK.1 hP 0 rfl rfl 24 (by decide) (hts (.fieldLink RX9 112 "PursesShareModel" "seen" "I") (by decide +kernel)) (fun _ h9 => h9) rfl dX9_see_54 ?_
        refine lv_iload_n hx hb dX9_see_57 rfl (lv_at hl 2 rfl) ?_
        have h0 := h.1
        have h := h.2
        refine va_iast hx hb hK.1 hP hD hS 2 0 rfl rfl h0 dX9_see_58 (fun H locs hP hD hS => ?_)
        have hP : va_P D vwCl (cw_X9_see cI cZ o o_readPurses o_readDay o_purses o_daily o_text o_row o_tried o_days o_order o_bestOrder o_seenHad o_seenShared o_isKept o_keptPurses o_keptRow o_keptHad o_keptShared o_keptRest v_readLaw v_readMany v_readMeetings v_law v_many v_meetings v_length v_at v_faultAt v_one v_other v_made v_leads v_rings v_seen (upd a_seenHad (Int32.toNatClampNeg v_seen) n1) (upd a_seenShared (Int32.toNatClampNeg v_seen) n2)) H := hP
        have hD : va_D A (cw_X9_see cI cZ o o_readPurses o_readDay o_purses o_daily o_text o_row o_tried o_days o_order o_bestOrder o_seenHad o_seenShared o_isKept o_keptPurses o_keptRow o_keptHad o_keptShared o_keptRest v_readLaw v_readMany v_readMeetings v_law v_many v_meetings v_length v_at v_faultAt v_one v_other v_made v_leads v_rings v_seen (upd a_seenHad (Int32.toNatClampNeg v_seen) n1) (upd a_seenShared (Int32.toNatClampNeg v_seen) n2)) := hD
        refine lv_aload_n hx hb dX9_see_59 rfl (lv_at hl 0 rfl) ?_
        refine lv_dup hx hb dX9_see_60 rfl ?_
        refine va_get (D := D) (ci := 9) (v := .int v_seen) (C := RX9) (T := TX9) (N := 33) hx hb hts inw_X9_see_X9 hown hK.1 hP 0 rfl rfl 24 (by decide) (hts (.fieldLink RX9 112 "PursesShareModel" "seen" "I") (by decide +kernel)) (fun _ h9 => h9) rfl dX9_see_61 ?_
        refine lv_iconst (v := 1) hx hb dX9_see_64 (by decide) ?_
        refine lv_iadd hx hb dX9_see_65 ?_
        refine va_put (D := D) (ci := 9) (v := .int (v_seen + (1 : Int32))) (ty := .int) (C := RX9) (T := TX9) (N := 33) hx hb hts inw_X9_see_X9 tyX9 tyX9_ok nmX9 hown hK.1 hP hD hS 0 rfl rfl 24 (by decide) (hts (.fieldLink RX9 112 "PursesShareModel" "seen" "I") (by decide +kernel)) (fun _ h9 => h9) rfl (by decide +kernel) rfl rfl (Nat.le_of_ble_eq_true rfl) dX9_see_66 (fun H locs hP hD hS => ?_)
        have hP : va_P D vwCl (cw_X9_see cI cZ o o_readPurses o_readDay o_purses o_daily o_text o_row o_tried o_days o_order o_bestOrder o_seenHad o_seenShared o_isKept o_keptPurses o_keptRow o_keptHad o_keptShared o_keptRest v_readLaw v_readMany v_readMeetings v_law v_many v_meetings v_length v_at v_faultAt v_one v_other v_made v_leads v_rings (v_seen + (1 : Int32)) (upd a_seenHad (Int32.toNatClampNeg v_seen) n1) (upd a_seenShared (Int32.toNatClampNeg v_seen) n2)) H := hP
        have hD : va_D A (cw_X9_see cI cZ o o_readPurses o_readDay o_purses o_daily o_text o_row o_tried o_days o_order o_bestOrder o_seenHad o_seenShared o_isKept o_keptPurses o_keptRow o_keptHad o_keptShared o_keptRest v_readLaw v_readMany v_readMeetings v_law v_many v_meetings v_length v_at v_faultAt v_one v_other v_made v_leads v_rings (v_seen + (1 : Int32)) (upd a_seenHad (Int32.toNatClampNeg v_seen) n1) (upd a_seenShared (Int32.toNatClampNeg v_seen) n2)) := hD
        refine lv_aload_n hx hb dX9_see_69 rfl (lv_at hl 0 rfl) ?_
        refine va_get (D := D) (ci := 9) (v := .int (v_seen + (1 : Int32))) (C := RX9) (T := TX9) (N := 33) hx hb hts inw_X9_see_X9 hown hK.1 hP 0 rfl rfl 24 (by decide) (hts (.fieldLink RX9 112 "PursesShareModel" "seen" "I") (by decide +kernel)) (fun _ h9 => h9) rfl dX9_see_70 ?_
        exact ret_i3 hx hb hr hlocks hQ hS (v_seen + (1 : Int32)) (upd a_seenHad (Int32.toNatClampNeg v_seen) n1) (upd a_seenShared (Int32.toNatClampNeg v_seen) n2) hP h dX9_see_73
      · have h := h.2 c33
        refine lv_bipush (v := -4) hx hb dX9_see_36 (by decide) ?_
        exact ret_i3 hx hb hr hlocks hQ hS v_seen a_seenHad a_seenShared hP h dX9_see_38
    · have h := h.2 c21
      refine lv_bipush (v := -2) hx hb dX9_see_24 (by decide) ?_
      exact ret_i3 hx hb hr hlocks hQ hS v_seen a_seenHad a_seenShared hP h dX9_see_26
abbrev rm_X9_unsee : Room := { frames := 0, cells := 0, slots := 0, locals := 0 }
abbrev cw_X9_unsee (cI cZ : ClassId) (o o_readPurses o_readDay o_purses o_daily o_text o_row o_tried o_days o_order o_bestOrder o_seenHad o_seenShared o_isKept o_keptPurses o_keptRow o_keptHad o_keptShared o_keptRest : Nat) (v_readLaw : Int32) (v_readMany : Int32) (v_readMeetings : Int32) (v_law : Int32) (v_many : Int32) (v_meetings : Int32) (v_length : Int32) (v_at : Int32) (v_faultAt : Int32) (v_one : Int32) (v_other : Int32) (v_made : Int32) (v_leads : Int32) (v_rings : Int32) (v_seen : Int32) : va_W := [(o, .inr (9, [.ref o_readPurses, .ref o_readDay, .int v_readLaw, .int v_readMany, .int v_readMeetings, .ref o_purses, .ref o_daily, .int v_law, .int v_many, .int v_meetings, .ref o_text, .int v_length, .int v_at, .int v_faultAt, .int v_one, .int v_other, .int v_made, .ref o_row, .ref o_tried, .int v_leads, .int v_rings, .ref o_days, .ref o_order, .ref o_bestOrder, .int v_seen, .ref o_seenHad, .ref o_seenShared, .ref o_isKept, .ref o_keptPurses, .ref o_keptRow, .ref o_keptHad, .ref o_keptShared, .ref o_keptRest]))]
theorem inw_X9_unsee_X9 : ∀ w ∈ u_ws RX9 TX9 33, w ∈ wsX9_unsee := by decide +kernel
def wp_X9_unsee (v_seen : Int32) (Post : Int32 → (Int32) → Prop) : Prop := (Post v_seen (0 : Int32))
set_option maxHeartbeats 4000000 in
set_option maxRecDepth 100000 in
theorem c_X9_unsee (l : Launch) (D : va_G) (cI cZ : ClassId) (o o_readPurses o_readDay o_purses o_daily o_text o_row o_tried o_days o_order o_bestOrder o_seenHad o_seenShared o_isKept o_keptPurses o_keptRow o_keptHad o_keptShared o_keptRest : Nat) (sz : Nat) (v_readLaw : Int32) (v_readMany : Int32) (v_readMeetings : Int32) (v_law : Int32) (v_many : Int32) (v_meetings : Int32) (v_length : Int32) (v_at : Int32) (v_faultAt : Int32) (v_one : Int32) (v_other : Int32) (v_made : Int32) (v_leads : Int32) (v_rings : Int32) (v_seen : Int32) (Post : Int32 → (Int32) → Prop) (h : wp_X9_unsee v_seen Post) : Met l yX9_unsee wsX9_unsee rm_X9_unsee (cPc D cI cZ [.ref o] (cw_X9_unsee cI cZ o o_readPurses o_readDay o_purses o_daily o_text o_row o_tried o_days o_order o_bestOrder o_seenHad o_seenShared o_isKept o_keptPurses o_keptRow o_keptHad o_keptShared o_keptRest v_readLaw v_readMany v_readMeetings v_law v_many v_meetings v_length v_at v_faultAt v_one v_other v_made v_leads v_rings v_seen) sz) (cQi1 D Post (fun m_v_seen => (cw_X9_unsee cI cZ o o_readPurses o_readDay o_purses o_daily o_text o_row o_tried o_days o_order o_bestOrder o_seenHad o_seenShared o_isKept o_keptPurses o_keptRow o_keptHad o_keptShared o_keptRest v_readLaw v_readMany v_readMeetings v_law v_many v_meetings v_length v_at v_faultAt v_one v_other v_made v_leads v_rings m_v_seen)) (va_A (cw_X9_unsee cI cZ o o_readPurses o_readDay o_purses o_daily o_text o_row o_tried o_days o_order o_bestOrder o_seenHad o_seenShared o_isKept o_keptPurses o_keptRow o_keptHad o_keptShared o_keptRest v_readLaw v_readMany v_readMeetings v_law v_many v_meetings v_length v_at v_faultAt v_one v_other v_made v_leads v_rings v_seen) sz)) 0 0 (va_A (cw_X9_unsee cI cZ o o_readPurses o_readDay o_purses o_daily o_text o_row o_tried o_days o_order o_bestOrder o_seenHad o_seenShared o_isKept o_keptPurses o_keptRow o_keptHad o_keptShared o_keptRest v_readLaw v_readMany v_readMeetings v_law v_many v_meetings v_length v_at v_faultAt v_one v_other v_made v_leads v_rings v_seen) sz) := by
  refine ent (cc := cX9_unsee) (maxL := 2) (ret := (some .int)) (Qc := fun A => cQi1 D Post (fun m_v_seen => (cw_X9_unsee cI cZ o o_readPurses o_readDay o_purses o_daily o_text o_row o_tried o_days o_order o_bestOrder o_seenHad o_seenShared o_isKept o_keptPurses o_keptRow o_keptHad o_keptShared o_keptRest v_readLaw v_readMany v_readMeetings v_law v_many v_meetings v_length v_at v_faultAt v_one v_other v_made v_leads v_rings m_v_seen)) A) (by decide) rfl (Nat.le_of_ble_eq_true rfl) ?_
  intro p e s m args below meth c A ls Q hQ hsz hx hb hml hr hts hown hlocks hnm hK hP hD hA hS hl
  have hl : lv_has ls 2 [(0, .ref o)] := hl
  unfold wp_X9_unsee at h
  refine lv_aload_n hx hb dX9_unsee_0 rfl (lv_at hl 0 rfl) ?_
  refine va_get (D := D) (ci := 9) (v := .int v_seen) (C := RX9) (T := TX9) (N := 33) hx hb hts inw_X9_unsee_X9 hown hK.1 hP 0 rfl rfl 24 (by decide) (hts (.fieldLink RX9 112 "PursesShareModel" "seen" "I") (by decide +kernel)) (fun _ h9 => h9) rfl dX9_unsee_1 ?_
  refine lv_istore_n (lv' := [(1, .int v_seen), (0, .ref o)]) hx hb dX9_unsee_4 rfl hl (by decide) rfl (fun ls hl => ?_)
  refine lv_aload_n hx hb dX9_unsee_5 rfl (lv_at hl 1 rfl) ?_
  refine lv_iconst (v := 0) hx hb dX9_unsee_6 (by decide) ?_
  refine va_put (D := D) (ci := 9) (v := .int (0 : Int32)) (ty := .int) (C := RX9) (T := TX9) (N := 33) hx hb hts inw_X9_unsee_X9 tyX9 tyX9_ok nmX9 hown hK.1 hP hD hS 0 rfl rfl 24 (by decide) (hts (.fieldLink RX9 112 "PursesShareModel" "seen" "I") (by decide +kernel)) (fun _ h9 => h9) rfl (by decide +kernel) rfl rfl (Nat.le_of_ble_eq_true rfl) dX9_unsee_7 (fun H locs hP hD hS => ?_)
  have hP : va_P D vwCl (cw_X9_unsee cI cZ o o_readPurses o_readDay o_purses o_daily o_text o_row o_tried o_days o_order o_bestOrder o_seenHad o_seenShared o_isKept o_keptPurses o_keptRow o_keptHad o_keptShared o_keptRest v_readLaw v_readMany v_readMeetings v_law v_many v_meetings v_length v_at v_faultAt v_one v_other v_made v_leads v_rings (0 : Int32)) H := hP
  have hD : va_D A (cw_X9_unsee cI cZ o o_readPurses o_readDay o_purses o_daily o_text o_row o_tried o_days o_order o_bestOrder o_seenHad o_seenShared o_isKept o_keptPurses o_keptRow o_keptHad o_keptShared o_keptRest v_readLaw v_readMany v_readMeetings v_law v_many v_meetings v_length v_at v_faultAt v_one v_other v_made v_leads v_rings (0 : Int32)) := hD
  refine lv_iload_n hx hb dX9_unsee_10 rfl (lv_at hl 0 rfl) ?_
  exact ret_i1 hx hb hr hlocks hQ hS (0 : Int32) hP h dX9_unsee_11
abbrev rm_X9_mayBe : Room := { frames := 1, cells := 0, slots := 0, locals := 23 }
abbrev cw_X9_mayBe (cI cZ : ClassId) (o o_readPurses o_readDay o_purses o_daily o_text o_row o_tried o_days o_order o_bestOrder o_seenHad o_seenShared o_isKept o_keptPurses o_keptRow o_keptHad o_keptShared o_keptRest : Nat) (v_readLaw : Int32) (v_readMany : Int32) (v_readMeetings : Int32) (v_law : Int32) (v_many : Int32) (v_meetings : Int32) (v_length : Int32) (v_at : Int32) (v_faultAt : Int32) (v_one : Int32) (v_other : Int32) (v_made : Int32) (v_leads : Int32) (v_rings : Int32) (v_seen : Int32) (a_seenHad : Nat → Int32) (a_seenShared : Nat → Int32) : va_W := [(o, .inr (9, [.ref o_readPurses, .ref o_readDay, .int v_readLaw, .int v_readMany, .int v_readMeetings, .ref o_purses, .ref o_daily, .int v_law, .int v_many, .int v_meetings, .ref o_text, .int v_length, .int v_at, .int v_faultAt, .int v_one, .int v_other, .int v_made, .ref o_row, .ref o_tried, .int v_leads, .int v_rings, .ref o_days, .ref o_order, .ref o_bestOrder, .int v_seen, .ref o_seenHad, .ref o_seenShared, .ref o_isKept, .ref o_keptPurses, .ref o_keptRow, .ref o_keptHad, .ref o_keptShared, .ref o_keptRest])), (o_seenHad, .inl (cI, 8, .inl a_seenHad)), (o_seenShared, .inl (cI, 8, .inl a_seenShared))]
theorem inw_X9_mayBe_X9 : ∀ w ∈ u_ws RX9 TX9 33, w ∈ wsX9_mayBe := by decide +kernel
def wp_X9_mayBe (n1 : Int32) (v_seen : Int32) (a_seenHad : Nat → Int32) (a_seenShared : Nat → Int32) (Post : Int32 → Prop) : Prop := (∀ k4 : (Int32) → (Int32) → Prop, (∀ (x3_4 : Int32) (x2_4 : Int32), ((v_seen ≤ x3_4 → (x2_4 &&& 1 = x2_4 ∧ (Post x2_4))) ∧ (¬ v_seen ≤ x3_4 → ((x2_4 = 0 → (x2_4 &&& 1 = x2_4 ∧ (Post x2_4))) ∧ (¬ x2_4 = 0 → (vp_in x3_4 8 ∧ (((a_seenShared (Int32.toNatClampNeg x3_4)) = 0 → (vp_in x3_4 8 ∧ (wp_X9_sharedBy n1 (a_seenHad (Int32.toNatClampNeg x3_4)) (fun (r43 : Int32) => ((¬ r43 = (a_seenShared (Int32.toNatClampNeg x3_4)) → (k4 (x3_4 + 1) (0 : Int32))) ∧ (r43 = (a_seenShared (Int32.toNatClampNeg x3_4)) → (k4 (x3_4 + 1) (1 : Int32)))))))) ∧ (¬ (a_seenShared (Int32.toNatClampNeg x3_4)) = 0 → (¬ (a_seenShared (Int32.toNatClampNeg x3_4)) = 0 ∧ ((¬ (n1 - n1 / (a_seenShared (Int32.toNatClampNeg x3_4)) * (a_seenShared (Int32.toNatClampNeg x3_4))) = 0 → (k4 (x3_4 + 1) (0 : Int32))) ∧ ((n1 - n1 / (a_seenShared (Int32.toNatClampNeg x3_4)) * (a_seenShared (Int32.toNatClampNeg x3_4))) = 0 → (vp_in x3_4 8 ∧ (wp_X9_sharedBy n1 (a_seenHad (Int32.toNatClampNeg x3_4)) (fun (r43 : Int32) => ((¬ r43 = (a_seenShared (Int32.toNatClampNeg x3_4)) → (k4 (x3_4 + 1) (0 : Int32))) ∧ (r43 = (a_seenShared (Int32.toNatClampNeg x3_4)) → (k4 (x3_4 + 1) (1 : Int32))))))))))))))))) → k4 x3_4 x2_4) → k4 (0 : Int32) (1 : Int32))
set_option maxHeartbeats 4000000 in
set_option maxRecDepth 100000 in
theorem c_X9_mayBe (l : Launch) (D : va_G) (cI cZ : ClassId) (o o_readPurses o_readDay o_purses o_daily o_text o_row o_tried o_days o_order o_bestOrder o_seenHad o_seenShared o_isKept o_keptPurses o_keptRow o_keptHad o_keptShared o_keptRest : Nat) (sz : Nat) (n1 : Int32) (v_readLaw : Int32) (v_readMany : Int32) (v_readMeetings : Int32) (v_law : Int32) (v_many : Int32) (v_meetings : Int32) (v_length : Int32) (v_at : Int32) (v_faultAt : Int32) (v_one : Int32) (v_other : Int32) (v_made : Int32) (v_leads : Int32) (v_rings : Int32) (v_seen : Int32) (a_seenHad : Nat → Int32) (a_seenShared : Nat → Int32) (Post : Int32 → Prop) (h : wp_X9_mayBe n1 v_seen a_seenHad a_seenShared Post) : Met l yX9_mayBe wsX9_mayBe rm_X9_mayBe (cPc D cI cZ [.ref o, .int n1] (cw_X9_mayBe cI cZ o o_readPurses o_readDay o_purses o_daily o_text o_row o_tried o_days o_order o_bestOrder o_seenHad o_seenShared o_isKept o_keptPurses o_keptRow o_keptHad o_keptShared o_keptRest v_readLaw v_readMany v_readMeetings v_law v_many v_meetings v_length v_at v_faultAt v_one v_other v_made v_leads v_rings v_seen a_seenHad a_seenShared) sz) (cQi0 D Post ((cw_X9_mayBe cI cZ o o_readPurses o_readDay o_purses o_daily o_text o_row o_tried o_days o_order o_bestOrder o_seenHad o_seenShared o_isKept o_keptPurses o_keptRow o_keptHad o_keptShared o_keptRest v_readLaw v_readMany v_readMeetings v_law v_many v_meetings v_length v_at v_faultAt v_one v_other v_made v_leads v_rings v_seen a_seenHad a_seenShared)) (va_A (cw_X9_mayBe cI cZ o o_readPurses o_readDay o_purses o_daily o_text o_row o_tried o_days o_order o_bestOrder o_seenHad o_seenShared o_isKept o_keptPurses o_keptRow o_keptHad o_keptShared o_keptRest v_readLaw v_readMany v_readMeetings v_law v_many v_meetings v_length v_at v_faultAt v_one v_other v_made v_leads v_rings v_seen a_seenHad a_seenShared) sz)) 0 0 (va_A (cw_X9_mayBe cI cZ o o_readPurses o_readDay o_purses o_daily o_text o_row o_tried o_days o_order o_bestOrder o_seenHad o_seenShared o_isKept o_keptPurses o_keptRow o_keptHad o_keptShared o_keptRest v_readLaw v_readMany v_readMeetings v_law v_many v_meetings v_length v_at v_faultAt v_one v_other v_made v_leads v_rings v_seen a_seenHad a_seenShared) sz) := by
  refine ent (cc := cX9_mayBe) (maxL := 5) (ret := (some .boolean)) (Qc := fun A => cQi0 D Post ((cw_X9_mayBe cI cZ o o_readPurses o_readDay o_purses o_daily o_text o_row o_tried o_days o_order o_bestOrder o_seenHad o_seenShared o_isKept o_keptPurses o_keptRow o_keptHad o_keptShared o_keptRest v_readLaw v_readMany v_readMeetings v_law v_many v_meetings v_length v_at v_faultAt v_one v_other v_made v_leads v_rings v_seen a_seenHad a_seenShared)) A) (by decide) rfl (Nat.le_of_ble_eq_true rfl) ?_
  intro p e s m args below meth c A ls Q hQ hsz hx hb hml hr hts hown hlocks hnm hK hP hD hA hS hl
  have hl : lv_has ls 5 [(0, .ref o), (1, .int n1)] := hl
  unfold wp_X9_mayBe at h
  refine lv_iconst (v := 1) hx hb dX9_mayBe_0 (by decide) ?_
  refine lv_istore_n (lv' := [(2, .int (1 : Int32)), (0, .ref o), (1, .int n1)]) hx hb dX9_mayBe_1 rfl hl (by decide) rfl (fun ls hl => ?_)
  refine lv_iconst (v := 0) hx hb dX9_mayBe_2 (by decide) ?_
  refine lv_istore_n (lv' := [(3, .int (0 : Int32)), (2, .int (1 : Int32)), (0, .ref o), (1, .int n1)]) hx hb dX9_mayBe_3 rfl hl (by decide) rfl (fun ls hl => ?_)
  refine h (fun x3_4 x2_4 => ∀ (H : Heap) (locs : List Loc) (ls : Array Slot), lv_has ls 5 [(0, .ref o), (1, .int n1), (2, .int x2_4), (3, .int x3_4)] → va_P D vwCl (cw_X9_mayBe cI cZ o o_readPurses o_readDay o_purses o_daily o_text o_row o_tried o_days o_order o_bestOrder o_seenHad o_seenShared o_isKept o_keptPurses o_keptRow o_keptHad o_keptShared o_keptRest v_readLaw v_readMany v_readMeetings v_law v_many v_meetings v_length v_at v_faultAt v_one v_other v_made v_leads v_rings v_seen a_seenHad a_seenShared) H → va_D A (cw_X9_mayBe cI cZ o o_readPurses o_readDay o_purses o_daily o_text o_row o_tried o_days o_order o_bestOrder o_seenHad o_seenShared o_isKept o_keptPurses o_keptRow o_keptHad o_keptShared o_keptRest v_readLaw v_readMany v_readMeetings v_law v_many v_meetings v_length v_at v_faultAt v_one v_other v_made v_leads v_rings v_seen a_seenHad a_seenShared) → va_S A s.heap H locs → W p l e rm_X9_mayBe s m args below meth c H locs 0 0 Q (F0 m 4 ls [])) ?_ s.heap [] ls (lv_sub hl [2, 3, 1, 0] rfl) hP hD hS
  intro x3_4 x2_4 h H locs ls hl hP hD hS
  refine lv_iload_n hx hb dX9_mayBe_4 rfl (lv_at hl 3 rfl) ?_
  refine lv_aload_n hx hb dX9_mayBe_5 rfl (lv_at hl 0 rfl) ?_
  refine va_get (D := D) (ci := 9) (v := .int v_seen) (C := RX9) (T := TX9) (N := 33) hx hb hts inw_X9_mayBe_X9 hown hK.1 hP 0 rfl rfl 24 (by decide) (hts (.fieldLink RX9 112 "PursesShareModel" "seen" "I") (by decide +kernel)) (fun _ h9 => h9) rfl dX9_mayBe_6 ?_
  refine lv_icmp_ge (tgt := 63) hx hb dX9_mayBe_9 (by decide) (fun c9 => ?_) (fun c9 => ?_)
  · have h := h.1 c9
    refine lv_iload_n hx hb dX9_mayBe_63 rfl (lv_at hl 2 rfl) ?_
    have hz := h.1
    have h := h.2
    exact ret_z0 hx hb hr hlocks hQ hS hz  hP h dX9_mayBe_64
  · have h := h.2 c9
    refine lv_iload_n hx hb dX9_mayBe_12 rfl (lv_at hl 2 rfl) ?_
    refine lv_if_eq (tgt := 63) hx hb dX9_mayBe_13 (by decide) (fun c13 => ?_) (fun c13 => ?_)
    · have h := h.1 c13
      refine lv_iload_n hx hb dX9_mayBe_63 rfl (lv_at hl 2 rfl) ?_
      have hz := h.1
      have h := h.2
      exact ret_z0 hx hb hr hlocks hQ hS hz  hP h dX9_mayBe_64
    · have h := h.2 c13
      refine lv_aload_n hx hb dX9_mayBe_16 rfl (lv_at hl 0 rfl) ?_
      refine va_get (D := D) (ci := 9) (v := .ref o_seenShared) (C := RX9) (T := TX9) (N := 33) hx hb hts inw_X9_mayBe_X9 hown hK.1 hP 0 rfl rfl 26 (by decide) (hts (.fieldLink RX9 43 "PursesShareModel" "seenShared" "[I") (by decide +kernel)) (fun _ h9 => h9) rfl dX9_mayBe_17 ?_
      refine lv_iload_n hx hb dX9_mayBe_20 rfl (lv_at hl 3 rfl) ?_
      have h0 := h.1
      have h := h.2
      refine va_iald hx hb hK.1 hP 2 0 rfl rfl h0 dX9_mayBe_21 ?_
      refine lv_istore (lv' := [(4, .int (a_seenShared (Int32.toNatClampNeg x3_4))), (0, .ref o), (1, .int n1), (2, .int x2_4), (3, .int x3_4)]) hx hb dX9_mayBe_22 hl (by decide) rfl (fun ls hl => ?_)
      refine lv_iload hx hb dX9_mayBe_24 (lv_at hl 0 rfl) ?_
      refine lv_if_eq (tgt := 36) hx hb dX9_mayBe_26 (by decide) (fun c26 => ?_) (fun c26 => ?_)
      · have h := h.1 c26
        refine lv_iload_n hx hb dX9_mayBe_36 rfl (lv_at hl 2 rfl) ?_
        refine lv_aload_n hx hb dX9_mayBe_37 rfl (lv_at hl 1 rfl) ?_
        refine va_get (D := D) (ci := 9) (v := .ref o_seenHad) (C := RX9) (T := TX9) (N := 33) hx hb hts inw_X9_mayBe_X9 hown hK.1 hP 0 rfl rfl 25 (by decide) (hts (.fieldLink RX9 40 "PursesShareModel" "seenHad" "[I") (by decide +kernel)) (fun _ h9 => h9) rfl dX9_mayBe_38 ?_
        refine lv_iload_n hx hb dX9_mayBe_41 rfl (lv_at hl 4 rfl) ?_
        have h0 := h.1
        have h := h.2
        refine va_iald hx hb hK.1 hP 1 0 rfl rfl h0 dX9_mayBe_42 ?_
        refine call_i0 (va_runS (As := [.int n1, .int (a_seenHad (Int32.toNatClampNeg x3_4))]) (rest := []) ⟨hx, hb, hml, hown, hts⟩ (c_X9_sharedBy l D cI cZ (Array.size H) n1 (a_seenHad (Int32.toNatClampNeg x3_4)) _ h) (va_cwS 2 hts gX9_mayBe_X9_sharedBy rfl rfl rfl (by decide +kernel) ⟨Nat.le_of_ble_eq_true rfl, Nat.le_of_ble_eq_true rfl⟩) (preS_of hP hD hK [] rfl rfl) rfl rfl hl.1 rfl (lv_room (Nat.le_of_ble_eq_true rfl)) dX9_mayBe_43 ⟨Nat.zero_le _, Nat.zero_le _⟩) hP hD hS hA [] rfl ((cw_X9_mayBe cI cZ o o_readPurses o_readDay o_purses o_daily o_text o_row o_tried o_days o_order o_bestOrder o_seenHad o_seenShared o_isKept o_keptPurses o_keptRow o_keptHad o_keptShared o_keptRest v_readLaw v_readMany v_readMeetings v_law v_many v_meetings v_length v_at v_faultAt v_one v_other v_made v_leads v_rings v_seen a_seenHad a_seenShared)) (rfl) (rfl) (fun r43 H locs h hP hD hS => ?_)
        refine lv_iload hx hb dX9_mayBe_46 (lv_at hl 0 rfl) ?_
        refine lv_icmp_ne (tgt := 55) hx hb dX9_mayBe_48 (by decide) (fun c48 => ?_) (fun c48 => ?_)
        · have h := h.1 c48
          refine lv_iconst (v := 0) hx hb dX9_mayBe_55 (by decide) ?_
          refine lv_istore_n (lv' := [(2, .int (0 : Int32)), (4, .int (a_seenShared (Int32.toNatClampNeg x3_4))), (0, .ref o), (1, .int n1), (3, .int x3_4)]) hx hb dX9_mayBe_56 rfl hl (by decide) rfl (fun ls hl => ?_)
          refine lv_iinc (v := (x3_4 + 1)) (lv' := [(3, .int (x3_4 + 1)), (2, .int (0 : Int32)), (4, .int (a_seenShared (Int32.toNatClampNeg x3_4))), (0, .ref o), (1, .int n1)]) hx hb dX9_mayBe_57 hl (k := 4) rfl rfl (by decide) rfl (fun ls hl => ?_)
          refine lv_goto (tgt := 4) hx hb dX9_mayBe_60 (by decide) ?_
          exact h H locs ls (lv_sub hl [3, 4, 1, 0] rfl) hP hD hS
        · have h := h.2 c48
          refine lv_iconst (v := 1) hx hb dX9_mayBe_51 (by decide) ?_
          refine lv_goto (tgt := 56) hx hb dX9_mayBe_52 (by decide) ?_
          refine lv_istore_n (lv' := [(2, .int (1 : Int32)), (4, .int (a_seenShared (Int32.toNatClampNeg x3_4))), (0, .ref o), (1, .int n1), (3, .int x3_4)]) hx hb dX9_mayBe_56 rfl hl (by decide) rfl (fun ls hl => ?_)
          refine lv_iinc (v := (x3_4 + 1)) (lv' := [(3, .int (x3_4 + 1)), (2, .int (1 : Int32)), (4, .int (a_seenShared (Int32.toNatClampNeg x3_4))), (0, .ref o), (1, .int n1)]) hx hb dX9_mayBe_57 hl (k := 4) rfl rfl (by decide) rfl (fun ls hl => ?_)
          refine lv_goto (tgt := 4) hx hb dX9_mayBe_60 (by decide) ?_
          exact h H locs ls (lv_sub hl [3, 4, 1, 0] rfl) hP hD hS
      · have h := h.2 c26
        refine lv_iload_n hx hb dX9_mayBe_29 rfl (lv_at hl 2 rfl) ?_
        refine lv_iload hx hb dX9_mayBe_30 (lv_at hl 0 rfl) ?_
        have h0 := h.1
        have h := h.2
        refine lv_irem hx hb dX9_mayBe_32 h0 ?_
        refine lv_if_ne (tgt := 55) hx hb dX9_mayBe_33 (by decide) (fun c33 => ?_) (fun c33 => ?_)
        · have h := h.1 c33
          refine lv_iconst (v := 0) hx hb dX9_mayBe_55 (by decide) ?_
          refine lv_istore_n (lv' := [(2, .int (0 : Int32)), (4, .int (a_seenShared (Int32.toNatClampNeg x3_4))), (0, .ref o), (1, .int n1), (3, .int x3_4)]) hx hb dX9_mayBe_56 rfl hl (by decide) rfl (fun ls hl => ?_)
          refine lv_iinc (v := (x3_4 + 1)) (lv' := [(3, .int (x3_4 + 1)), (2, .int (0 : Int32)), (4, .int (a_seenShared (Int32.toNatClampNeg x3_4))), (0, .ref o), (1, .int n1)]) hx hb dX9_mayBe_57 hl (k := 4) rfl rfl (by decide) rfl (fun ls hl => ?_)
          refine lv_goto (tgt := 4) hx hb dX9_mayBe_60 (by decide) ?_
          exact h H locs ls (lv_sub hl [3, 4, 1, 0] rfl) hP hD hS
        · have h := h.2 c33
          refine lv_iload_n hx hb dX9_mayBe_36 rfl (lv_at hl 2 rfl) ?_
          refine lv_aload_n hx hb dX9_mayBe_37 rfl (lv_at hl 1 rfl) ?_
          refine va_get (D := D) (ci := 9) (v := .ref o_seenHad) (C := RX9) (T := TX9) (N := 33) hx hb hts inw_X9_mayBe_X9 hown hK.1 hP 0 rfl rfl 25 (by decide) (hts (.fieldLink RX9 40 "PursesShareModel" "seenHad" "[I") (by decide +kernel)) (fun _ h9 => h9) rfl dX9_mayBe_38 ?_
          refine lv_iload_n hx hb dX9_mayBe_41 rfl (lv_at hl 4 rfl) ?_
          have h0 := h.1
          have h := h.2
          refine va_iald hx hb hK.1 hP 1 0 rfl rfl h0 dX9_mayBe_42 ?_
          refine call_i0 (va_runS (As := [.int n1, .int (a_seenHad (Int32.toNatClampNeg x3_4))]) (rest := []) ⟨hx, hb, hml, hown, hts⟩ (c_X9_sharedBy l D cI cZ (Array.size H) n1 (a_seenHad (Int32.toNatClampNeg x3_4)) _ h) (va_cwS 2 hts gX9_mayBe_X9_sharedBy rfl rfl rfl (by decide +kernel) ⟨Nat.le_of_ble_eq_true rfl, Nat.le_of_ble_eq_true rfl⟩) (preS_of hP hD hK [] rfl rfl) rfl rfl hl.1 rfl (lv_room (Nat.le_of_ble_eq_true rfl)) dX9_mayBe_43 ⟨Nat.zero_le _, Nat.zero_le _⟩) hP hD hS hA [] rfl ((cw_X9_mayBe cI cZ o o_readPurses o_readDay o_purses o_daily o_text o_row o_tried o_days o_order o_bestOrder o_seenHad o_seenShared o_isKept o_keptPurses o_keptRow o_keptHad o_keptShared o_keptRest v_readLaw v_readMany v_readMeetings v_law v_many v_meetings v_length v_at v_faultAt v_one v_other v_made v_leads v_rings v_seen a_seenHad a_seenShared)) (rfl) (rfl) (fun r43 H locs h hP hD hS => ?_)
          refine lv_iload hx hb dX9_mayBe_46 (lv_at hl 0 rfl) ?_
          refine lv_icmp_ne (tgt := 55) hx hb dX9_mayBe_48 (by decide) (fun c48 => ?_) (fun c48 => ?_)
          · have h := h.1 c48
            refine lv_iconst (v := 0) hx hb dX9_mayBe_55 (by decide) ?_
            refine lv_istore_n (lv' := [(2, .int (0 : Int32)), (4, .int (a_seenShared (Int32.toNatClampNeg x3_4))), (0, .ref o), (1, .int n1), (3, .int x3_4)]) hx hb dX9_mayBe_56 rfl hl (by decide) rfl (fun ls hl => ?_)
            refine lv_iinc (v := (x3_4 + 1)) (lv' := [(3, .int (x3_4 + 1)), (2, .int (0 : Int32)), (4, .int (a_seenShared (Int32.toNatClampNeg x3_4))), (0, .ref o), (1, .int n1)]) hx hb dX9_mayBe_57 hl (k := 4) rfl rfl (by decide) rfl (fun ls hl => ?_)
            refine lv_goto (tgt := 4) hx hb dX9_mayBe_60 (by decide) ?_
            exact h H locs ls (lv_sub hl [3, 4, 1, 0] rfl) hP hD hS
          · have h := h.2 c48
            refine lv_iconst (v := 1) hx hb dX9_mayBe_51 (by decide) ?_
            refine lv_goto (tgt := 56) hx hb dX9_mayBe_52 (by decide) ?_
            refine lv_istore_n (lv' := [(2, .int (1 : Int32)), (4, .int (a_seenShared (Int32.toNatClampNeg x3_4))), (0, .ref o), (1, .int n1), (3, .int x3_4)]) hx hb dX9_mayBe_56 rfl hl (by decide) rfl (fun ls hl => ?_)
            refine lv_iinc (v := (x3_4 + 1)) (lv' := [(3, .int (x3_4 + 1)), (2, .int (1 : Int32)), (4, .int (a_seenShared (Int32.toNatClampNeg x3_4))), (0, .ref o), (1, .int n1)]) hx hb dX9_mayBe_57 hl (k := 4) rfl rfl (by decide) rfl (fun ls hl => ?_)
            refine lv_goto (tgt := 4) hx hb dX9_mayBe_60 (by decide) ?_
            exact h H locs ls (lv_sub hl [3, 4, 1, 0] rfl) hP hD hS
abbrev rm_X9_mayHold : Room := { frames := 2, cells := 0, slots := 0, locals := 47 }
abbrev cw_X9_mayHold (cI cZ : ClassId) (o o_readPurses o_readDay o_purses o_daily o_text o_row o_tried o_days o_order o_bestOrder o_seenHad o_seenShared o_isKept o_keptPurses o_keptRow o_keptHad o_keptShared o_keptRest : Nat) (v_readLaw : Int32) (v_readMany : Int32) (v_readMeetings : Int32) (v_law : Int32) (v_many : Int32) (v_meetings : Int32) (v_length : Int32) (v_at : Int32) (v_faultAt : Int32) (v_one : Int32) (v_other : Int32) (v_made : Int32) (v_leads : Int32) (v_rings : Int32) (v_seen : Int32) (a_seenHad : Nat → Int32) (a_seenShared : Nat → Int32) : va_W := [(o, .inr (9, [.ref o_readPurses, .ref o_readDay, .int v_readLaw, .int v_readMany, .int v_readMeetings, .ref o_purses, .ref o_daily, .int v_law, .int v_many, .int v_meetings, .ref o_text, .int v_length, .int v_at, .int v_faultAt, .int v_one, .int v_other, .int v_made, .ref o_row, .ref o_tried, .int v_leads, .int v_rings, .ref o_days, .ref o_order, .ref o_bestOrder, .int v_seen, .ref o_seenHad, .ref o_seenShared, .ref o_isKept, .ref o_keptPurses, .ref o_keptRow, .ref o_keptHad, .ref o_keptShared, .ref o_keptRest])), (o_seenHad, .inl (cI, 8, .inl a_seenHad)), (o_seenShared, .inl (cI, 8, .inl a_seenShared))]
def wp_X9_mayHold (n1 : Int32) (n2 : Int32) (v_seen : Int32) (a_seenHad : Nat → Int32) (a_seenShared : Nat → Int32) (Post : Int32 → Prop) : Prop := (wp_X9_in (Int32.toInt64 n1) (0 : Int64) (99999 : Int64) (fun (r6 : Int32) => ((r6 = 0 → (Post (-2 : Int32))) ∧ (¬ r6 = 0 → (wp_X9_in (Int32.toInt64 n2) (0 : Int64) (2 : Int64) (fun (r18 : Int32) => ((¬ r18 = 0 → (∀ k40 : (Int32) → (Int32) → (Int32) → (Int32) → Prop, (∀ (x6_40 : Int32) (x5_40 : Int32) (x4_40 : Int32) (x3_40 : Int32), ((n1 < x6_40 → ((¬ n2 = 0 → ((¬ n2 = (1 : Int32) → (Post x5_40)) ∧ (n2 = (1 : Int32) → (Post x4_40)))) ∧ (n2 = 0 → (Post x3_40)))) ∧ (¬ n1 < x6_40 → (wp_X9_mayBe x6_40 v_seen a_seenHad a_seenShared (fun (r49 : Int32) => ((r49 = 0 → ((r49 = 0 → ((r49 = 0 → (k40 (x6_40 + 1) x5_40 x4_40 (x3_40 + (0 : Int32)))) ∧ (¬ r49 = 0 → (k40 (x6_40 + 1) x6_40 x4_40 (x3_40 + (0 : Int32)))))) ∧ (¬ r49 = 0 → ((¬ x4_40 = (-9 : Int32) → ((r49 = 0 → (k40 (x6_40 + 1) x5_40 x4_40 (x3_40 + (0 : Int32)))) ∧ (¬ r49 = 0 → (k40 (x6_40 + 1) x6_40 x4_40 (x3_40 + (0 : Int32)))))) ∧ (x4_40 = (-9 : Int32) → ((r49 = 0 → (k40 (x6_40 + 1) x5_40 x6_40 (x3_40 + (0 : Int32)))) ∧ (¬ r49 = 0 → (k40 (x6_40 + 1) x6_40 x6_40 (x3_40 + (0 : Int32)))))))))) ∧ (¬ r49 = 0 → ((r49 = 0 → ((r49 = 0 → (k40 (x6_40 + 1) x5_40 x4_40 (x3_40 + (1 : Int32)))) ∧ (¬ r49 = 0 → (k40 (x6_40 + 1) x6_40 x4_40 (x3_40 + (1 : Int32)))))) ∧ (¬ r49 = 0 → ((¬ x4_40 = (-9 : Int32) → ((r49 = 0 → (k40 (x6_40 + 1) x5_40 x4_40 (x3_40 + (1 : Int32)))) ∧ (¬ r49 = 0 → (k40 (x6_40 + 1) x6_40 x4_40 (x3_40 + (1 : Int32)))))) ∧ (x4_40 = (-9 : Int32) → ((r49 = 0 → (k40 (x6_40 + 1) x5_40 x6_40 (x3_40 + (1 : Int32)))) ∧ (¬ r49 = 0 → (k40 (x6_40 + 1) x6_40 x6_40 (x3_40 + (1 : Int32))))))))))))))) → k40 x6_40 x5_40 x4_40 x3_40) → k40 (0 : Int32) (-9 : Int32) (-9 : Int32) (0 : Int32))) ∧ (r18 = 0 → (Post (-2 : Int32))))))))))
set_option maxHeartbeats 4000000 in
set_option maxRecDepth 100000 in
theorem c_X9_mayHold (l : Launch) (D : va_G) (cI cZ : ClassId) (o o_readPurses o_readDay o_purses o_daily o_text o_row o_tried o_days o_order o_bestOrder o_seenHad o_seenShared o_isKept o_keptPurses o_keptRow o_keptHad o_keptShared o_keptRest : Nat) (sz : Nat) (n1 : Int32) (n2 : Int32) (v_readLaw : Int32) (v_readMany : Int32) (v_readMeetings : Int32) (v_law : Int32) (v_many : Int32) (v_meetings : Int32) (v_length : Int32) (v_at : Int32) (v_faultAt : Int32) (v_one : Int32) (v_other : Int32) (v_made : Int32) (v_leads : Int32) (v_rings : Int32) (v_seen : Int32) (a_seenHad : Nat → Int32) (a_seenShared : Nat → Int32) (Post : Int32 → Prop) (h : wp_X9_mayHold n1 n2 v_seen a_seenHad a_seenShared Post) : Met l yX9_mayHold wsX9_mayHold rm_X9_mayHold (cPc D cI cZ [.ref o, .int n1, .int n2] (cw_X9_mayHold cI cZ o o_readPurses o_readDay o_purses o_daily o_text o_row o_tried o_days o_order o_bestOrder o_seenHad o_seenShared o_isKept o_keptPurses o_keptRow o_keptHad o_keptShared o_keptRest v_readLaw v_readMany v_readMeetings v_law v_many v_meetings v_length v_at v_faultAt v_one v_other v_made v_leads v_rings v_seen a_seenHad a_seenShared) sz) (cQi0 D Post ((cw_X9_mayHold cI cZ o o_readPurses o_readDay o_purses o_daily o_text o_row o_tried o_days o_order o_bestOrder o_seenHad o_seenShared o_isKept o_keptPurses o_keptRow o_keptHad o_keptShared o_keptRest v_readLaw v_readMany v_readMeetings v_law v_many v_meetings v_length v_at v_faultAt v_one v_other v_made v_leads v_rings v_seen a_seenHad a_seenShared)) (va_A (cw_X9_mayHold cI cZ o o_readPurses o_readDay o_purses o_daily o_text o_row o_tried o_days o_order o_bestOrder o_seenHad o_seenShared o_isKept o_keptPurses o_keptRow o_keptHad o_keptShared o_keptRest v_readLaw v_readMany v_readMeetings v_law v_many v_meetings v_length v_at v_faultAt v_one v_other v_made v_leads v_rings v_seen a_seenHad a_seenShared) sz)) 0 0 (va_A (cw_X9_mayHold cI cZ o o_readPurses o_readDay o_purses o_daily o_text o_row o_tried o_days o_order o_bestOrder o_seenHad o_seenShared o_isKept o_keptPurses o_keptRow o_keptHad o_keptShared o_keptRest v_readLaw v_readMany v_readMeetings v_law v_many v_meetings v_length v_at v_faultAt v_one v_other v_made v_leads v_rings v_seen a_seenHad a_seenShared) sz) := by
  refine ent (cc := cX9_mayHold) (maxL := 8) (ret := (some .int)) (Qc := fun A => cQi0 D Post ((cw_X9_mayHold cI cZ o o_readPurses o_readDay o_purses o_daily o_text o_row o_tried o_days o_order o_bestOrder o_seenHad o_seenShared o_isKept o_keptPurses o_keptRow o_keptHad o_keptShared o_keptRest v_readLaw v_readMany v_readMeetings v_law v_many v_meetings v_length v_at v_faultAt v_one v_other v_made v_leads v_rings v_seen a_seenHad a_seenShared)) A) (by decide) rfl (Nat.le_of_ble_eq_true rfl) ?_
  intro p e s m args below meth c A ls Q hQ hsz hx hb hml hr hts hown hlocks hnm hK hP hD hA hS hl
  have hl : lv_has ls 8 [(0, .ref o), (1, .int n1), (2, .int n2)] := hl
  unfold wp_X9_mayHold at h
  refine lv_iload_n hx hb dX9_mayHold_0 rfl (lv_at hl 1 rfl) ?_
  refine lv_i2l (v := (Int32.toInt64 n1)) hx hb dX9_mayHold_1 rfl ?_
  refine lv_lconst (v := 0) hx hb dX9_mayHold_2 (by decide) ?_
  refine lv_ldc2 (own := RX9) (index := 119) (v := 99999) hx hb hown (hts (.constantLong RX9 119 (99999)) (by decide +kernel)) dX9_mayHold_3 ?_
  refine call_i0 (va_runS (As := [.long (Int32.toInt64 n1), .long (0 : Int64), .long (99999 : Int64)]) (rest := []) ⟨hx, hb, hml, hown, hts⟩ (c_X9_in l D cI cZ (Array.size s.heap) (Int32.toInt64 n1) (0 : Int64) (99999 : Int64) _ h) (va_cwS 3 hts gX9_mayHold_X9_in rfl rfl rfl (by decide +kernel) ⟨Nat.le_of_ble_eq_true rfl, Nat.le_of_ble_eq_true rfl⟩) (preS_of hP hD hK [] rfl rfl) rfl rfl hl.1 rfl (lv_room (Nat.le_of_ble_eq_true rfl)) dX9_mayHold_6 ⟨Nat.zero_le _, Nat.zero_le _⟩) hP hD hS hA [] rfl ((cw_X9_mayHold cI cZ o o_readPurses o_readDay o_purses o_daily o_text o_row o_tried o_days o_order o_bestOrder o_seenHad o_seenShared o_isKept o_keptPurses o_keptRow o_keptHad o_keptShared o_keptRest v_readLaw v_readMany v_readMeetings v_law v_many v_meetings v_length v_at v_faultAt v_one v_other v_made v_leads v_rings v_seen a_seenHad a_seenShared)) (rfl) (rfl) (fun r6 H locs h hP hD hS => ?_)
  refine lv_if_eq (tgt := 24) hx hb dX9_mayHold_9 (by decide) (fun c9 => ?_) (fun c9 => ?_)
  · have h := h.1 c9
    refine lv_bipush (v := -2) hx hb dX9_mayHold_24 (by decide) ?_
    exact ret_i0 hx hb hr hlocks hQ hS  hP h dX9_mayHold_26
  · have h := h.2 c9
    refine lv_iload_n hx hb dX9_mayHold_12 rfl (lv_at hl 2 rfl) ?_
    refine lv_i2l (v := (Int32.toInt64 n2)) hx hb dX9_mayHold_13 rfl ?_
    refine lv_lconst (v := 0) hx hb dX9_mayHold_14 (by decide) ?_
    refine lv_ldc2 (own := RX9) (index := 180) (v := 2) hx hb hown (hts (.constantLong RX9 180 (2)) (by decide +kernel)) dX9_mayHold_15 ?_
    refine call_i0 (va_runS (As := [.long (Int32.toInt64 n2), .long (0 : Int64), .long (2 : Int64)]) (rest := []) ⟨hx, hb, hml, hown, hts⟩ (c_X9_in l D cI cZ (Array.size H) (Int32.toInt64 n2) (0 : Int64) (2 : Int64) _ h) (va_cwS 3 hts gX9_mayHold_X9_in rfl rfl rfl (by decide +kernel) ⟨Nat.le_of_ble_eq_true rfl, Nat.le_of_ble_eq_true rfl⟩) (preS_of hP hD hK [] rfl rfl) rfl rfl hl.1 rfl (lv_room (Nat.le_of_ble_eq_true rfl)) dX9_mayHold_18 ⟨Nat.zero_le _, Nat.zero_le _⟩) hP hD hS hA [] rfl ((cw_X9_mayHold cI cZ o o_readPurses o_readDay o_purses o_daily o_text o_row o_tried o_days o_order o_bestOrder o_seenHad o_seenShared o_isKept o_keptPurses o_keptRow o_keptHad o_keptShared o_keptRest v_readLaw v_readMany v_readMeetings v_law v_many v_meetings v_length v_at v_faultAt v_one v_other v_made v_leads v_rings v_seen a_seenHad a_seenShared)) (rfl) (rfl) (fun r18 H locs h hP hD hS => ?_)
    refine lv_if_ne (tgt := 27) hx hb dX9_mayHold_21 (by decide) (fun c21 => ?_) (fun c21 => ?_)
    · have h := h.1 c21
      refine lv_iconst (v := 0) hx hb dX9_mayHold_27 (by decide) ?_
      refine lv_istore_n (lv' := [(3, .int (0 : Int32)), (0, .ref o), (1, .int n1), (2, .int n2)]) hx hb dX9_mayHold_28 rfl hl (by decide) rfl (fun ls hl => ?_)
      refine lv_bipush (v := -9) hx hb dX9_mayHold_29 (by decide) ?_
      refine lv_istore (lv' := [(4, .int (-9 : Int32)), (3, .int (0 : Int32)), (0, .ref o), (1, .int n1), (2, .int n2)]) hx hb dX9_mayHold_31 hl (by decide) rfl (fun ls hl => ?_)
      refine lv_bipush (v := -9) hx hb dX9_mayHold_33 (by decide) ?_
      refine lv_istore (lv' := [(5, .int (-9 : Int32)), (4, .int (-9 : Int32)), (3, .int (0 : Int32)), (0, .ref o), (1, .int n1), (2, .int n2)]) hx hb dX9_mayHold_35 hl (by decide) rfl (fun ls hl => ?_)
      refine lv_iconst (v := 0) hx hb dX9_mayHold_37 (by decide) ?_
      refine lv_istore (lv' := [(6, .int (0 : Int32)), (5, .int (-9 : Int32)), (4, .int (-9 : Int32)), (3, .int (0 : Int32)), (0, .ref o), (1, .int n1), (2, .int n2)]) hx hb dX9_mayHold_38 hl (by decide) rfl (fun ls hl => ?_)
      refine h (fun x6_40 x5_40 x4_40 x3_40 => ∀ (H : Heap) (locs : List Loc) (ls : Array Slot), lv_has ls 8 [(0, .ref o), (1, .int n1), (2, .int n2), (3, .int x3_40), (4, .int x4_40), (5, .int x5_40), (6, .int x6_40)] → va_P D vwCl (cw_X9_mayHold cI cZ o o_readPurses o_readDay o_purses o_daily o_text o_row o_tried o_days o_order o_bestOrder o_seenHad o_seenShared o_isKept o_keptPurses o_keptRow o_keptHad o_keptShared o_keptRest v_readLaw v_readMany v_readMeetings v_law v_many v_meetings v_length v_at v_faultAt v_one v_other v_made v_leads v_rings v_seen a_seenHad a_seenShared) H → va_D A (cw_X9_mayHold cI cZ o o_readPurses o_readDay o_purses o_daily o_text o_row o_tried o_days o_order o_bestOrder o_seenHad o_seenShared o_isKept o_keptPurses o_keptRow o_keptHad o_keptShared o_keptRest v_readLaw v_readMany v_readMeetings v_law v_many v_meetings v_length v_at v_faultAt v_one v_other v_made v_leads v_rings v_seen a_seenHad a_seenShared) → va_S A s.heap H locs → W p l e rm_X9_mayHold s m args below meth c H locs 0 0 Q (F0 m 40 ls [])) ?_ H locs ls (lv_sub hl [4, 5, 6, 3, 2, 1, 0] rfl) hP hD hS
      intro x6_40 x5_40 x4_40 x3_40 h H locs ls hl hP hD hS
      refine lv_iload hx hb dX9_mayHold_40 (lv_at hl 6 rfl) ?_
      refine lv_iload_n hx hb dX9_mayHold_42 rfl (lv_at hl 1 rfl) ?_
      refine lv_icmp_gt (tgt := 108) hx hb dX9_mayHold_43 (by decide) (fun c43 => ?_) (fun c43 => ?_)
      · have h := h.1 c43
        refine lv_iload_n hx hb dX9_mayHold_108 rfl (lv_at hl 2 rfl) ?_
        refine lv_if_ne (tgt := 116) hx hb dX9_mayHold_109 (by decide) (fun c109 => ?_) (fun c109 => ?_)
        · have h := h.1 c109
          refine lv_iload_n hx hb dX9_mayHold_116 rfl (lv_at hl 2 rfl) ?_
          refine lv_iconst (v := 1) hx hb dX9_mayHold_117 (by decide) ?_
          refine lv_icmp_ne (tgt := 126) hx hb dX9_mayHold_118 (by decide) (fun c118 => ?_) (fun c118 => ?_)
          · have h := h.1 c118
            refine lv_iload hx hb dX9_mayHold_126 (lv_at hl 5 rfl) ?_
            exact ret_i0 hx hb hr hlocks hQ hS  hP h dX9_mayHold_128
          · have h := h.2 c118
            refine lv_iload hx hb dX9_mayHold_121 (lv_at hl 4 rfl) ?_
            refine lv_goto (tgt := 128) hx hb dX9_mayHold_123 (by decide) ?_
            exact ret_i0 hx hb hr hlocks hQ hS  hP h dX9_mayHold_128
        · have h := h.2 c109
          refine lv_iload_n hx hb dX9_mayHold_112 rfl (lv_at hl 3 rfl) ?_
          refine lv_goto (tgt := 128) hx hb dX9_mayHold_113 (by decide) ?_
          exact ret_i0 hx hb hr hlocks hQ hS  hP h dX9_mayHold_128
      · have h := h.2 c43
        refine lv_aload_n hx hb dX9_mayHold_46 rfl (lv_at hl 0 rfl) ?_
        refine lv_iload hx hb dX9_mayHold_47 (lv_at hl 6 rfl) ?_
        refine call_i0 (va_runV (As := [.int x6_40]) (rest := []) ⟨hx, hb, hml, hown, hts⟩ (c_X9_mayBe l D cI cZ o o_readPurses o_readDay o_purses o_daily o_text o_row o_tried o_days o_order o_bestOrder o_seenHad o_seenShared o_isKept o_keptPurses o_keptRow o_keptHad o_keptShared o_keptRest (Array.size H) x6_40 v_readLaw v_readMany v_readMeetings v_law v_many v_meetings v_length v_at v_faultAt v_one v_other v_made v_leads v_rings v_seen a_seenHad a_seenShared _ h) (cwV 1 hts gX9_mayHold_X9_mayBe rfl rfl rfl (by decide +kernel) ⟨Nat.le_of_ble_eq_true rfl, Nat.le_of_ble_eq_true rfl⟩) (preV_of hP hD hK [0, 1, 2] rfl rfl 0 9 rfl rfl rfl) rfl rfl hl.1 rfl (lv_room (Nat.le_of_ble_eq_true rfl)) dX9_mayHold_49 ⟨Nat.zero_le _, Nat.zero_le _⟩) hP hD hS hA [0, 1, 2] rfl ((cw_X9_mayHold cI cZ o o_readPurses o_readDay o_purses o_daily o_text o_row o_tried o_days o_order o_bestOrder o_seenHad o_seenShared o_isKept o_keptPurses o_keptRow o_keptHad o_keptShared o_keptRest v_readLaw v_readMany v_readMeetings v_law v_many v_meetings v_length v_at v_faultAt v_one v_other v_made v_leads v_rings v_seen a_seenHad a_seenShared)) (rfl) (rfl) (fun r49 H locs h hP hD hS => ?_)
        refine lv_istore (lv' := [(7, .int r49), (0, .ref o), (1, .int n1), (2, .int n2), (3, .int x3_40), (4, .int x4_40), (5, .int x5_40), (6, .int x6_40)]) hx hb dX9_mayHold_52 hl (by decide) rfl (fun ls hl => ?_)
        refine lv_iload_n hx hb dX9_mayHold_54 rfl (lv_at hl 4 rfl) ?_
        refine lv_iload hx hb dX9_mayHold_55 (lv_at hl 0 rfl) ?_
        refine lv_if_eq (tgt := 64) hx hb dX9_mayHold_57 (by decide) (fun c57 => ?_) (fun c57 => ?_)
        · have h := h.1 c57
          refine lv_iconst (v := 0) hx hb dX9_mayHold_64 (by decide) ?_
          refine lv_iadd hx hb dX9_mayHold_65 ?_
          refine lv_istore_n (lv' := [(3, .int (x3_40 + (0 : Int32))), (7, .int r49), (0, .ref o), (1, .int n1), (2, .int n2), (4, .int x4_40), (5, .int x5_40), (6, .int x6_40)]) hx hb dX9_mayHold_66 rfl hl (by decide) rfl (fun ls hl => ?_)
          refine lv_iload hx hb dX9_mayHold_67 (lv_at hl 1 rfl) ?_
          refine lv_if_eq (tgt := 84) hx hb dX9_mayHold_69 (by decide) (fun c69 => ?_) (fun c69 => ?_)
          · have h := h.1 c69
            refine lv_iload hx hb dX9_mayHold_84 (lv_at hl 5 rfl) ?_
            refine lv_istore (lv' := [(4, .int x4_40), (3, .int (x3_40 + (0 : Int32))), (7, .int r49), (0, .ref o), (1, .int n1), (2, .int n2), (5, .int x5_40), (6, .int x6_40)]) hx hb dX9_mayHold_86 hl (by decide) rfl (fun ls hl => ?_)
            refine lv_iload hx hb dX9_mayHold_88 (lv_at hl 2 rfl) ?_
            refine lv_if_eq (tgt := 98) hx hb dX9_mayHold_90 (by decide) (fun c90 => ?_) (fun c90 => ?_)
            · have h := h.1 c90
              refine lv_iload hx hb dX9_mayHold_98 (lv_at hl 6 rfl) ?_
              refine lv_istore (lv' := [(5, .int x5_40), (4, .int x4_40), (3, .int (x3_40 + (0 : Int32))), (7, .int r49), (0, .ref o), (1, .int n1), (2, .int n2), (6, .int x6_40)]) hx hb dX9_mayHold_100 hl (by decide) rfl (fun ls hl => ?_)
              refine lv_iinc (v := (x6_40 + 1)) (lv' := [(6, .int (x6_40 + 1)), (5, .int x5_40), (4, .int x4_40), (3, .int (x3_40 + (0 : Int32))), (7, .int r49), (0, .ref o), (1, .int n1), (2, .int n2)]) hx hb dX9_mayHold_102 hl (k := 7) rfl rfl (by decide) rfl (fun ls hl => ?_)
              refine lv_goto (tgt := 40) hx hb dX9_mayHold_105 (by decide) ?_
              exact h H locs ls (lv_sub hl [5, 6, 7, 3, 2, 1, 0] rfl) hP hD hS
            · have h := h.2 c90
              refine lv_iload hx hb dX9_mayHold_93 (lv_at hl 7 rfl) ?_
              refine lv_goto (tgt := 100) hx hb dX9_mayHold_95 (by decide) ?_
              refine lv_istore (lv' := [(5, .int x6_40), (4, .int x4_40), (3, .int (x3_40 + (0 : Int32))), (7, .int r49), (0, .ref o), (1, .int n1), (2, .int n2), (6, .int x6_40)]) hx hb dX9_mayHold_100 hl (by decide) rfl (fun ls hl => ?_)
              refine lv_iinc (v := (x6_40 + 1)) (lv' := [(6, .int (x6_40 + 1)), (5, .int x6_40), (4, .int x4_40), (3, .int (x3_40 + (0 : Int32))), (7, .int r49), (0, .ref o), (1, .int n1), (2, .int n2)]) hx hb dX9_mayHold_102 hl (k := 7) rfl rfl (by decide) rfl (fun ls hl => ?_)
              refine lv_goto (tgt := 40) hx hb dX9_mayHold_105 (by decide) ?_
              exact h H locs ls (lv_sub hl [5, 6, 7, 3, 2, 1, 0] rfl) hP hD hS
          · have h := h.2 c69
            refine lv_iload hx hb dX9_mayHold_72 (lv_at hl 5 rfl) ?_
            refine lv_bipush (v := -9) hx hb dX9_mayHold_74 (by decide) ?_
            refine lv_icmp_ne (tgt := 84) hx hb dX9_mayHold_76 (by decide) (fun c76 => ?_) (fun c76 => ?_)
            · have h := h.1 c76
              refine lv_iload hx hb dX9_mayHold_84 (lv_at hl 5 rfl) ?_
              refine lv_istore (lv' := [(4, .int x4_40), (3, .int (x3_40 + (0 : Int32))), (7, .int r49), (0, .ref o), (1, .int n1), (2, .int n2), (5, .int x5_40), (6, .int x6_40)]) hx hb dX9_mayHold_86 hl (by decide) rfl (fun ls hl => ?_)
              refine lv_iload hx hb dX9_mayHold_88 (lv_at hl 2 rfl) ?_
              refine lv_if_eq (tgt := 98) hx hb dX9_mayHold_90 (by decide) (fun c90 => ?_) (fun c90 => ?_)
              · have h := h.1 c90
                refine lv_iload hx hb dX9_mayHold_98 (lv_at hl 6 rfl) ?_
                refine lv_istore (lv' := [(5, .int x5_40), (4, .int x4_40), (3, .int (x3_40 + (0 : Int32))), (7, .int r49), (0, .ref o), (1, .int n1), (2, .int n2), (6, .int x6_40)]) hx hb dX9_mayHold_100 hl (by decide) rfl (fun ls hl => ?_)
                refine lv_iinc (v := (x6_40 + 1)) (lv' := [(6, .int (x6_40 + 1)), (5, .int x5_40), (4, .int x4_40), (3, .int (x3_40 + (0 : Int32))), (7, .int r49), (0, .ref o), (1, .int n1), (2, .int n2)]) hx hb dX9_mayHold_102 hl (k := 7) rfl rfl (by decide) rfl (fun ls hl => ?_)
                refine lv_goto (tgt := 40) hx hb dX9_mayHold_105 (by decide) ?_
                exact h H locs ls (lv_sub hl [5, 6, 7, 3, 2, 1, 0] rfl) hP hD hS
              · have h := h.2 c90
                refine lv_iload hx hb dX9_mayHold_93 (lv_at hl 7 rfl) ?_
                refine lv_goto (tgt := 100) hx hb dX9_mayHold_95 (by decide) ?_
                refine lv_istore (lv' := [(5, .int x6_40), (4, .int x4_40), (3, .int (x3_40 + (0 : Int32))), (7, .int r49), (0, .ref o), (1, .int n1), (2, .int n2), (6, .int x6_40)]) hx hb dX9_mayHold_100 hl (by decide) rfl (fun ls hl => ?_)
                refine lv_iinc (v := (x6_40 + 1)) (lv' := [(6, .int (x6_40 + 1)), (5, .int x6_40), (4, .int x4_40), (3, .int (x3_40 + (0 : Int32))), (7, .int r49), (0, .ref o), (1, .int n1), (2, .int n2)]) hx hb dX9_mayHold_102 hl (k := 7) rfl rfl (by decide) rfl (fun ls hl => ?_)
                refine lv_goto (tgt := 40) hx hb dX9_mayHold_105 (by decide) ?_
                exact h H locs ls (lv_sub hl [5, 6, 7, 3, 2, 1, 0] rfl) hP hD hS
            · have h := h.2 c76
              refine lv_iload hx hb dX9_mayHold_79 (lv_at hl 7 rfl) ?_
              refine lv_goto (tgt := 86) hx hb dX9_mayHold_81 (by decide) ?_
              refine lv_istore (lv' := [(4, .int x6_40), (3, .int (x3_40 + (0 : Int32))), (7, .int r49), (0, .ref o), (1, .int n1), (2, .int n2), (5, .int x5_40), (6, .int x6_40)]) hx hb dX9_mayHold_86 hl (by decide) rfl (fun ls hl => ?_)
              refine lv_iload hx hb dX9_mayHold_88 (lv_at hl 2 rfl) ?_
              refine lv_if_eq (tgt := 98) hx hb dX9_mayHold_90 (by decide) (fun c90 => ?_) (fun c90 => ?_)
              · have h := h.1 c90
                refine lv_iload hx hb dX9_mayHold_98 (lv_at hl 6 rfl) ?_
                refine lv_istore (lv' := [(5, .int x5_40), (4, .int x6_40), (3, .int (x3_40 + (0 : Int32))), (7, .int r49), (0, .ref o), (1, .int n1), (2, .int n2), (6, .int x6_40)]) hx hb dX9_mayHold_100 hl (by decide) rfl (fun ls hl => ?_)
                refine lv_iinc (v := (x6_40 + 1)) (lv' := [(6, .int (x6_40 + 1)), (5, .int x5_40), (4, .int x6_40), (3, .int (x3_40 + (0 : Int32))), (7, .int r49), (0, .ref o), (1, .int n1), (2, .int n2)]) hx hb dX9_mayHold_102 hl (k := 7) rfl rfl (by decide) rfl (fun ls hl => ?_)
                refine lv_goto (tgt := 40) hx hb dX9_mayHold_105 (by decide) ?_
                exact h H locs ls (lv_sub hl [5, 6, 7, 3, 2, 1, 0] rfl) hP hD hS
              · have h := h.2 c90
                refine lv_iload hx hb dX9_mayHold_93 (lv_at hl 7 rfl) ?_
                refine lv_goto (tgt := 100) hx hb dX9_mayHold_95 (by decide) ?_
                refine lv_istore (lv' := [(5, .int x6_40), (4, .int x6_40), (3, .int (x3_40 + (0 : Int32))), (7, .int r49), (0, .ref o), (1, .int n1), (2, .int n2), (6, .int x6_40)]) hx hb dX9_mayHold_100 hl (by decide) rfl (fun ls hl => ?_)
                refine lv_iinc (v := (x6_40 + 1)) (lv' := [(6, .int (x6_40 + 1)), (5, .int x6_40), (4, .int x6_40), (3, .int (x3_40 + (0 : Int32))), (7, .int r49), (0, .ref o), (1, .int n1), (2, .int n2)]) hx hb dX9_mayHold_102 hl (k := 7) rfl rfl (by decide) rfl (fun ls hl => ?_)
                refine lv_goto (tgt := 40) hx hb dX9_mayHold_105 (by decide) ?_
                exact h H locs ls (lv_sub hl [5, 6, 7, 3, 2, 1, 0] rfl) hP hD hS
        · have h := h.2 c57
          refine lv_iconst (v := 1) hx hb dX9_mayHold_60 (by decide) ?_
          refine lv_goto (tgt := 65) hx hb dX9_mayHold_61 (by decide) ?_
          refine lv_iadd hx hb dX9_mayHold_65 ?_
          refine lv_istore_n (lv' := [(3, .int (x3_40 + (1 : Int32))), (7, .int r49), (0, .ref o), (1, .int n1), (2, .int n2), (4, .int x4_40), (5, .int x5_40), (6, .int x6_40)]) hx hb dX9_mayHold_66 rfl hl (by decide) rfl (fun ls hl => ?_)
          refine lv_iload hx hb dX9_mayHold_67 (lv_at hl 1 rfl) ?_
          refine lv_if_eq (tgt := 84) hx hb dX9_mayHold_69 (by decide) (fun c69 => ?_) (fun c69 => ?_)
          · have h := h.1 c69
            refine lv_iload hx hb dX9_mayHold_84 (lv_at hl 5 rfl) ?_
            refine lv_istore (lv' := [(4, .int x4_40), (3, .int (x3_40 + (1 : Int32))), (7, .int r49), (0, .ref o), (1, .int n1), (2, .int n2), (5, .int x5_40), (6, .int x6_40)]) hx hb dX9_mayHold_86 hl (by decide) rfl (fun ls hl => ?_)
            refine lv_iload hx hb dX9_mayHold_88 (lv_at hl 2 rfl) ?_
            refine lv_if_eq (tgt := 98) hx hb dX9_mayHold_90 (by decide) (fun c90 => ?_) (fun c90 => ?_)
            · have h := h.1 c90
              refine lv_iload hx hb dX9_mayHold_98 (lv_at hl 6 rfl) ?_
              refine lv_istore (lv' := [(5, .int x5_40), (4, .int x4_40), (3, .int (x3_40 + (1 : Int32))), (7, .int r49), (0, .ref o), (1, .int n1), (2, .int n2), (6, .int x6_40)]) hx hb dX9_mayHold_100 hl (by decide) rfl (fun ls hl => ?_)
              refine lv_iinc (v := (x6_40 + 1)) (lv' := [(6, .int (x6_40 + 1)), (5, .int x5_40), (4, .int x4_40), (3, .int (x3_40 + (1 : Int32))), (7, .int r49), (0, .ref o), (1, .int n1), (2, .int n2)]) hx hb dX9_mayHold_102 hl (k := 7) rfl rfl (by decide) rfl (fun ls hl => ?_)
              refine lv_goto (tgt := 40) hx hb dX9_mayHold_105 (by decide) ?_
              exact h H locs ls (lv_sub hl [5, 6, 7, 3, 2, 1, 0] rfl) hP hD hS
            · have h := h.2 c90
              refine lv_iload hx hb dX9_mayHold_93 (lv_at hl 7 rfl) ?_
              refine lv_goto (tgt := 100) hx hb dX9_mayHold_95 (by decide) ?_
              refine lv_istore (lv' := [(5, .int x6_40), (4, .int x4_40), (3, .int (x3_40 + (1 : Int32))), (7, .int r49), (0, .ref o), (1, .int n1), (2, .int n2), (6, .int x6_40)]) hx hb dX9_mayHold_100 hl (by decide) rfl (fun ls hl => ?_)
              refine lv_iinc (v := (x6_40 + 1)) (lv' := [(6, .int (x6_40 + 1)), (5, .int x6_40), (4, .int x4_40), (3, .int (x3_40 + (1 : Int32))), (7, .int r49), (0, .ref o), (1, .int n1), (2, .int n2)]) hx hb dX9_mayHold_102 hl (k := 7) rfl rfl (by decide) rfl (fun ls hl => ?_)
              refine lv_goto (tgt := 40) hx hb dX9_mayHold_105 (by decide) ?_
              exact h H locs ls (lv_sub hl [5, 6, 7, 3, 2, 1, 0] rfl) hP hD hS
          · have h := h.2 c69
            refine lv_iload hx hb dX9_mayHold_72 (lv_at hl 5 rfl) ?_
            refine lv_bipush (v := -9) hx hb dX9_mayHold_74 (by decide) ?_
            refine lv_icmp_ne (tgt := 84) hx hb dX9_mayHold_76 (by decide) (fun c76 => ?_) (fun c76 => ?_)
            · have h := h.1 c76
              refine lv_iload hx hb dX9_mayHold_84 (lv_at hl 5 rfl) ?_
              refine lv_istore (lv' := [(4, .int x4_40), (3, .int (x3_40 + (1 : Int32))), (7, .int r49), (0, .ref o), (1, .int n1), (2, .int n2), (5, .int x5_40), (6, .int x6_40)]) hx hb dX9_mayHold_86 hl (by decide) rfl (fun ls hl => ?_)
              refine lv_iload hx hb dX9_mayHold_88 (lv_at hl 2 rfl) ?_
              refine lv_if_eq (tgt := 98) hx hb dX9_mayHold_90 (by decide) (fun c90 => ?_) (fun c90 => ?_)
              · have h := h.1 c90
                refine lv_iload hx hb dX9_mayHold_98 (lv_at hl 6 rfl) ?_
                refine lv_istore (lv' := [(5, .int x5_40), (4, .int x4_40), (3, .int (x3_40 + (1 : Int32))), (7, .int r49), (0, .ref o), (1, .int n1), (2, .int n2), (6, .int x6_40)]) hx hb dX9_mayHold_100 hl (by decide) rfl (fun ls hl => ?_)
                refine lv_iinc (v := (x6_40 + 1)) (lv' := [(6, .int (x6_40 + 1)), (5, .int x5_40), (4, .int x4_40), (3, .int (x3_40 + (1 : Int32))), (7, .int r49), (0, .ref o), (1, .int n1), (2, .int n2)]) hx hb dX9_mayHold_102 hl (k := 7) rfl rfl (by decide) rfl (fun ls hl => ?_)
                refine lv_goto (tgt := 40) hx hb dX9_mayHold_105 (by decide) ?_
                exact h H locs ls (lv_sub hl [5, 6, 7, 3, 2, 1, 0] rfl) hP hD hS
              · have h := h.2 c90
                refine lv_iload hx hb dX9_mayHold_93 (lv_at hl 7 rfl) ?_
                refine lv_goto (tgt := 100) hx hb dX9_mayHold_95 (by decide) ?_
                refine lv_istore (lv' := [(5, .int x6_40), (4, .int x4_40), (3, .int (x3_40 + (1 : Int32))), (7, .int r49), (0, .ref o), (1, .int n1), (2, .int n2), (6, .int x6_40)]) hx hb dX9_mayHold_100 hl (by decide) rfl (fun ls hl => ?_)
                refine lv_iinc (v := (x6_40 + 1)) (lv' := [(6, .int (x6_40 + 1)), (5, .int x6_40), (4, .int x4_40), (3, .int (x3_40 + (1 : Int32))), (7, .int r49), (0, .ref o), (1, .int n1), (2, .int n2)]) hx hb dX9_mayHold_102 hl (k := 7) rfl rfl (by decide) rfl (fun ls hl => ?_)
                refine lv_goto (tgt := 40) hx hb dX9_mayHold_105 (by decide) ?_
                exact h H locs ls (lv_sub hl [5, 6, 7, 3, 2, 1, 0] rfl) hP hD hS
            · have h := h.2 c76
              refine lv_iload hx hb dX9_mayHold_79 (lv_at hl 7 rfl) ?_
              refine lv_goto (tgt := 86) hx hb dX9_mayHold_81 (by decide) ?_
              refine lv_istore (lv' := [(4, .int x6_40), (3, .int (x3_40 + (1 : Int32))), (7, .int r49), (0, .ref o), (1, .int n1), (2, .int n2), (5, .int x5_40), (6, .int x6_40)]) hx hb dX9_mayHold_86 hl (by decide) rfl (fun ls hl => ?_)
              refine lv_iload hx hb dX9_mayHold_88 (lv_at hl 2 rfl) ?_
              refine lv_if_eq (tgt := 98) hx hb dX9_mayHold_90 (by decide) (fun c90 => ?_) (fun c90 => ?_)
              · have h := h.1 c90
                refine lv_iload hx hb dX9_mayHold_98 (lv_at hl 6 rfl) ?_
                refine lv_istore (lv' := [(5, .int x5_40), (4, .int x6_40), (3, .int (x3_40 + (1 : Int32))), (7, .int r49), (0, .ref o), (1, .int n1), (2, .int n2), (6, .int x6_40)]) hx hb dX9_mayHold_100 hl (by decide) rfl (fun ls hl => ?_)
                refine lv_iinc (v := (x6_40 + 1)) (lv' := [(6, .int (x6_40 + 1)), (5, .int x5_40), (4, .int x6_40), (3, .int (x3_40 + (1 : Int32))), (7, .int r49), (0, .ref o), (1, .int n1), (2, .int n2)]) hx hb dX9_mayHold_102 hl (k := 7) rfl rfl (by decide) rfl (fun ls hl => ?_)
                refine lv_goto (tgt := 40) hx hb dX9_mayHold_105 (by decide) ?_
                exact h H locs ls (lv_sub hl [5, 6, 7, 3, 2, 1, 0] rfl) hP hD hS
              · have h := h.2 c90
                refine lv_iload hx hb dX9_mayHold_93 (lv_at hl 7 rfl) ?_
                refine lv_goto (tgt := 100) hx hb dX9_mayHold_95 (by decide) ?_
                refine lv_istore (lv' := [(5, .int x6_40), (4, .int x6_40), (3, .int (x3_40 + (1 : Int32))), (7, .int r49), (0, .ref o), (1, .int n1), (2, .int n2), (6, .int x6_40)]) hx hb dX9_mayHold_100 hl (by decide) rfl (fun ls hl => ?_)
                refine lv_iinc (v := (x6_40 + 1)) (lv' := [(6, .int (x6_40 + 1)), (5, .int x6_40), (4, .int x6_40), (3, .int (x3_40 + (1 : Int32))), (7, .int r49), (0, .ref o), (1, .int n1), (2, .int n2)]) hx hb dX9_mayHold_102 hl (k := 7) rfl rfl (by decide) rfl (fun ls hl => ?_)
                refine lv_goto (tgt := 40) hx hb dX9_mayHold_105 (by decide) ?_
                exact h H locs ls (lv_sub hl [5, 6, 7, 3, 2, 1, 0] rfl) hP hD hS
    · have h := h.2 c21
      refine lv_bipush (v := -2) hx hb dX9_mayHold_24 (by decide) ?_
      exact ret_i0 hx hb hr hlocks hQ hS  hP h dX9_mayHold_26
abbrev rm_X9_layRuin : Room := { frames := 2, cells := 0, slots := 0, locals := 49 }
abbrev cw_X9_layRuin (cI cZ : ClassId) (o o_readPurses o_readDay o_purses o_daily o_text o_row o_tried o_days o_order o_bestOrder o_seenHad o_seenShared o_isKept o_keptPurses o_keptRow o_keptHad o_keptShared o_keptRest : Nat) (v_readLaw : Int32) (v_readMany : Int32) (v_readMeetings : Int32) (v_law : Int32) (v_many : Int32) (v_meetings : Int32) (v_length : Int32) (v_at : Int32) (v_faultAt : Int32) (v_one : Int32) (v_other : Int32) (v_made : Int32) (v_leads : Int32) (v_rings : Int32) (v_seen : Int32) (a_purses : Nat → Int32) (a_order : Nat → Int32) : va_W := [(o, .inr (9, [.ref o_readPurses, .ref o_readDay, .int v_readLaw, .int v_readMany, .int v_readMeetings, .ref o_purses, .ref o_daily, .int v_law, .int v_many, .int v_meetings, .ref o_text, .int v_length, .int v_at, .int v_faultAt, .int v_one, .int v_other, .int v_made, .ref o_row, .ref o_tried, .int v_leads, .int v_rings, .ref o_days, .ref o_order, .ref o_bestOrder, .int v_seen, .ref o_seenHad, .ref o_seenShared, .ref o_isKept, .ref o_keptPurses, .ref o_keptRow, .ref o_keptHad, .ref o_keptShared, .ref o_keptRest])), (o_purses, .inl (cI, 8, .inl a_purses)), (o_order, .inl (cI, 8, .inl a_order))]
theorem inw_X9_layRuin_X9 : ∀ w ∈ u_ws RX9 TX9 33, w ∈ wsX9_layRuin := by decide +kernel
def wp_X9_layRuin (n1 : Int32) (n2 : Int32) (v_law : Int32) (v_many : Int32) (v_one : Int32) (v_other : Int32) (a_purses : Nat → Int32) (a_order : Nat → Int32) (Post : Int32 → (Int32) → (Int32) → (Nat → Int32) → Prop) : Prop := (∀ k2 : (Int32) → (Int32) → (Int32) → (Int32) → (Int32) → (Nat → Int32) → Prop, (∀ (x3_2 : Int32) (x1_2 : Int32) (x2_2 : Int32) (v_one_2 : Int32) (v_other_2 : Int32) (a_order_2 : Nat → Int32), ((v_many ≤ x3_2 → (Post (-9 : Int32) v_one_2 v_other_2 a_order_2)) ∧ (¬ v_many ≤ x3_2 → (∀ k13 : (Int32) → (Int32) → (Int32) → (Int32) → (Int32) → (Int32) → (Nat → Int32) → Prop, (∀ (x4_13 : Int32) (x1_13 : Int32) (x2_13 : Int32) (x3_13 : Int32) (v_one_13 : Int32) (v_other_13 : Int32) (a_order_13 : Nat → Int32), (wp_X9_rows (v_many - (1 : Int32)) x3_13 (fun (r22 : Int32) => ((r22 ≤ x4_13 → (k2 (x3_13 + 1) x1_13 x2_13 v_one_13 v_other_13 a_order_13)) ∧ (¬ r22 ≤ x4_13 → (wp_X9_layOrder x4_13 (v_many - (1 : Int32)) x3_13 a_order_13 (fun (a_order_38 : Nat → Int32) => (vp_in x1_13 8 ∧ (∀ k52 : (Int32) → (Int32) → (Int32) → (Int32) → (Nat → Int32) → Prop, (∀ (x6_52 : Int32) (x5_52 : Int32) (v_one_52 : Int32) (v_other_52 : Int32) (a_order_52 : Nat → Int32), ((x3_13 ≤ x6_52 → ((x2_13 < x5_52 → (k13 (x4_13 + 1) x1_13 x2_13 x3_13 v_one_52 v_other_52 a_order_52)) ∧ (¬ x2_13 < x5_52 → (Post x3_13 v_one_52 v_other_52 a_order_52)))) ∧ (¬ x3_13 ≤ x6_52 → (vp_in x6_52 8 ∧ (vp_in x6_52 8 ∧ (((a_order_52 (Int32.toNatClampNeg x6_52)) < x1_13 → (vp_in x6_52 8 ∧ (vp_in x6_52 8 ∧ (vp_in ((upd a_order_52 (Int32.toNatClampNeg x6_52) ((a_order_52 (Int32.toNatClampNeg x6_52)) + (0 : Int32))) (Int32.toNatClampNeg x6_52)) 8 ∧ (wp_X9_meetTwo x5_52 (a_purses (Int32.toNatClampNeg ((upd a_order_52 (Int32.toNatClampNeg x6_52) ((a_order_52 (Int32.toNatClampNeg x6_52)) + (0 : Int32))) (Int32.toNatClampNeg x6_52)))) v_law v_one_52 v_other_52 (fun (v_one_99 : Int32) (v_other_99 : Int32) => (k52 (x6_52 + 1) v_one_99 v_one_99 v_other_99 (upd a_order_52 (Int32.toNatClampNeg x6_52) ((a_order_52 (Int32.toNatClampNeg x6_52)) + (0 : Int32)))))))))) ∧ (¬ (a_order_52 (Int32.toNatClampNeg x6_52)) < x1_13 → (vp_in x6_52 8 ∧ (vp_in x6_52 8 ∧ (vp_in ((upd a_order_52 (Int32.toNatClampNeg x6_52) ((a_order_52 (Int32.toNatClampNeg x6_52)) + (1 : Int32))) (Int32.toNatClampNeg x6_52)) 8 ∧ (wp_X9_meetTwo x5_52 (a_purses (Int32.toNatClampNeg ((upd a_order_52 (Int32.toNatClampNeg x6_52) ((a_order_52 (Int32.toNatClampNeg x6_52)) + (1 : Int32))) (Int32.toNatClampNeg x6_52)))) v_law v_one_52 v_other_52 (fun (v_one_99 : Int32) (v_other_99 : Int32) => (k52 (x6_52 + 1) v_one_99 v_one_99 v_other_99 (upd a_order_52 (Int32.toNatClampNeg x6_52) ((a_order_52 (Int32.toNatClampNeg x6_52)) + (1 : Int32))))))))))))))) → k52 x6_52 x5_52 v_one_52 v_other_52 a_order_52) → k52 (0 : Int32) (a_purses (Int32.toNatClampNeg x1_13)) v_one_13 v_other_13 a_order_38)))))))) → k13 x4_13 x1_13 x2_13 x3_13 v_one_13 v_other_13 a_order_13) → k13 (0 : Int32) x1_2 x2_2 x3_2 v_one_2 v_other_2 a_order_2))) → k2 x3_2 x1_2 x2_2 v_one_2 v_other_2 a_order_2) → k2 (0 : Int32) n1 n2 v_one v_other a_order)
set_option maxHeartbeats 4000000 in
set_option maxRecDepth 100000 in
theorem c_X9_layRuin (l : Launch) (D : va_G) (cI cZ : ClassId) (o o_readPurses o_readDay o_purses o_daily o_text o_row o_tried o_days o_order o_bestOrder o_seenHad o_seenShared o_isKept o_keptPurses o_keptRow o_keptHad o_keptShared o_keptRest : Nat) (sz : Nat) (n1 : Int32) (n2 : Int32) (v_readLaw : Int32) (v_readMany : Int32) (v_readMeetings : Int32) (v_law : Int32) (v_many : Int32) (v_meetings : Int32) (v_length : Int32) (v_at : Int32) (v_faultAt : Int32) (v_one : Int32) (v_other : Int32) (v_made : Int32) (v_leads : Int32) (v_rings : Int32) (v_seen : Int32) (a_purses : Nat → Int32) (a_order : Nat → Int32) (Post : Int32 → (Int32) → (Int32) → (Nat → Int32) → Prop) (h : wp_X9_layRuin n1 n2 v_law v_many v_one v_other a_purses a_order Post) : Met l yX9_layRuin wsX9_layRuin rm_X9_layRuin (cPc D cI cZ [.ref o, .int n1, .int n2] (cw_X9_layRuin cI cZ o o_readPurses o_readDay o_purses o_daily o_text o_row o_tried o_days o_order o_bestOrder o_seenHad o_seenShared o_isKept o_keptPurses o_keptRow o_keptHad o_keptShared o_keptRest v_readLaw v_readMany v_readMeetings v_law v_many v_meetings v_length v_at v_faultAt v_one v_other v_made v_leads v_rings v_seen a_purses a_order) sz) (cQi3 D Post (fun m_v_one m_v_other m_a_order => (cw_X9_layRuin cI cZ o o_readPurses o_readDay o_purses o_daily o_text o_row o_tried o_days o_order o_bestOrder o_seenHad o_seenShared o_isKept o_keptPurses o_keptRow o_keptHad o_keptShared o_keptRest v_readLaw v_readMany v_readMeetings v_law v_many v_meetings v_length v_at v_faultAt m_v_one m_v_other v_made v_leads v_rings v_seen a_purses m_a_order)) (va_A (cw_X9_layRuin cI cZ o o_readPurses o_readDay o_purses o_daily o_text o_row o_tried o_days o_order o_bestOrder o_seenHad o_seenShared o_isKept o_keptPurses o_keptRow o_keptHad o_keptShared o_keptRest v_readLaw v_readMany v_readMeetings v_law v_many v_meetings v_length v_at v_faultAt v_one v_other v_made v_leads v_rings v_seen a_purses a_order) sz)) 0 0 (va_A (cw_X9_layRuin cI cZ o o_readPurses o_readDay o_purses o_daily o_text o_row o_tried o_days o_order o_bestOrder o_seenHad o_seenShared o_isKept o_keptPurses o_keptRow o_keptHad o_keptShared o_keptRest v_readLaw v_readMany v_readMeetings v_law v_many v_meetings v_length v_at v_faultAt v_one v_other v_made v_leads v_rings v_seen a_purses a_order) sz) := by
  refine ent (cc := cX9_layRuin) (maxL := 7) (ret := (some .int)) (Qc := fun A => cQi3 D Post (fun m_v_one m_v_other m_a_order => (cw_X9_layRuin cI cZ o o_readPurses o_readDay o_purses o_daily o_text o_row o_tried o_days o_order o_bestOrder o_seenHad o_seenShared o_isKept o_keptPurses o_keptRow o_keptHad o_keptShared o_keptRest v_readLaw v_readMany v_readMeetings v_law v_many v_meetings v_length v_at v_faultAt m_v_one m_v_other v_made v_leads v_rings v_seen a_purses m_a_order)) A) (by decide) rfl (Nat.le_of_ble_eq_true rfl) ?_
  intro p e s m args below meth c A ls Q hQ hsz hx hb hml hr hts hown hlocks hnm hK hP hD hA hS hl
  have hl : lv_has ls 7 [(0, .ref o), (1, .int n1), (2, .int n2)] := hl
  unfold wp_X9_layRuin at h
  refine lv_iconst (v := 0) hx hb dX9_layRuin_0 (by decide) ?_
  refine lv_istore_n (lv' := [(3, .int (0 : Int32)), (0, .ref o), (1, .int n1), (2, .int n2)]) hx hb dX9_layRuin_1 rfl hl (by decide) rfl (fun ls hl => ?_)
  refine h (fun x3_2 x1_2 x2_2 v_one_2 v_other_2 a_order_2 => ∀ (H : Heap) (locs : List Loc) (ls : Array Slot), lv_has ls 7 [(0, .ref o), (1, .int x1_2), (2, .int x2_2), (3, .int x3_2)] → va_P D vwCl (cw_X9_layRuin cI cZ o o_readPurses o_readDay o_purses o_daily o_text o_row o_tried o_days o_order o_bestOrder o_seenHad o_seenShared o_isKept o_keptPurses o_keptRow o_keptHad o_keptShared o_keptRest v_readLaw v_readMany v_readMeetings v_law v_many v_meetings v_length v_at v_faultAt v_one_2 v_other_2 v_made v_leads v_rings v_seen a_purses a_order_2) H → va_D A (cw_X9_layRuin cI cZ o o_readPurses o_readDay o_purses o_daily o_text o_row o_tried o_days o_order o_bestOrder o_seenHad o_seenShared o_isKept o_keptPurses o_keptRow o_keptHad o_keptShared o_keptRest v_readLaw v_readMany v_readMeetings v_law v_many v_meetings v_length v_at v_faultAt v_one_2 v_other_2 v_made v_leads v_rings v_seen a_purses a_order_2) → va_S A s.heap H locs → W p l e rm_X9_layRuin s m args below meth c H locs 0 0 Q (F0 m 2 ls [])) ?_ s.heap [] ls (lv_sub hl [1, 2, 3, 0] rfl) hP hD hS
  intro x3_2 x1_2 x2_2 v_one_2 v_other_2 a_order_2 h H locs ls hl hP hD hS
  refine lv_iload_n hx hb dX9_layRuin_2 rfl (lv_at hl 3 rfl) ?_
  refine lv_aload_n hx hb dX9_layRuin_3 rfl (lv_at hl 0 rfl) ?_
  refine va_get (D := D) (ci := 9) (v := .int v_many) (C := RX9) (T := TX9) (N := 33) hx hb hts inw_X9_layRuin_X9 hown hK.1 hP 0 rfl rfl 8 (by decide) (hts (.fieldLink RX9 65 "PursesShareModel" "many" "I") (by decide +kernel)) (fun _ h9 => h9) rfl dX9_layRuin_4 ?_
  refine lv_icmp_ge (tgt := 134) hx hb dX9_layRuin_7 (by decide) (fun c7 => ?_) (fun c7 => ?_)
  · have h := h.1 c7
    refine lv_bipush (v := -9) hx hb dX9_layRuin_134 (by decide) ?_
    exact ret_i3 hx hb hr hlocks hQ hS v_one_2 v_other_2 a_order_2 hP h dX9_layRuin_136
  · have h := h.2 c7
    refine lv_iconst (v := 0) hx hb dX9_layRuin_10 (by decide) ?_
    refine lv_istore (lv' := [(4, .int (0 : Int32)), (0, .ref o), (1, .int x1_2), (2, .int x2_2), (3, .int x3_2)]) hx hb dX9_layRuin_11 hl (by decide) rfl (fun ls hl => ?_)
    refine h (fun x4_13 x1_13 x2_13 x3_13 v_one_13 v_other_13 a_order_13 => ∀ (H : Heap) (locs : List Loc) (ls : Array Slot), lv_has ls 7 [(0, .ref o), (1, .int x1_13), (2, .int x2_13), (3, .int x3_13), (4, .int x4_13)] → va_P D vwCl (cw_X9_layRuin cI cZ o o_readPurses o_readDay o_purses o_daily o_text o_row o_tried o_days o_order o_bestOrder o_seenHad o_seenShared o_isKept o_keptPurses o_keptRow o_keptHad o_keptShared o_keptRest v_readLaw v_readMany v_readMeetings v_law v_many v_meetings v_length v_at v_faultAt v_one_13 v_other_13 v_made v_leads v_rings v_seen a_purses a_order_13) H → va_D A (cw_X9_layRuin cI cZ o o_readPurses o_readDay o_purses o_daily o_text o_row o_tried o_days o_order o_bestOrder o_seenHad o_seenShared o_isKept o_keptPurses o_keptRow o_keptHad o_keptShared o_keptRest v_readLaw v_readMany v_readMeetings v_law v_many v_meetings v_length v_at v_faultAt v_one_13 v_other_13 v_made v_leads v_rings v_seen a_purses a_order_13) → va_S A s.heap H locs → W p l e rm_X9_layRuin s m args below meth c H locs 0 0 Q (F0 m 13 ls [])) ?_ H locs ls (lv_sub hl [1, 2, 3, 4, 0] rfl) hP hD hS
    intro x4_13 x1_13 x2_13 x3_13 v_one_13 v_other_13 a_order_13 h H locs ls hl hP hD hS
    refine lv_iload hx hb dX9_layRuin_13 (lv_at hl 4 rfl) ?_
    refine lv_aload_n hx hb dX9_layRuin_15 rfl (lv_at hl 0 rfl) ?_
    refine va_get (D := D) (ci := 9) (v := .int v_many) (C := RX9) (T := TX9) (N := 33) hx hb hts inw_X9_layRuin_X9 hown hK.1 hP 0 rfl rfl 8 (by decide) (hts (.fieldLink RX9 65 "PursesShareModel" "many" "I") (by decide +kernel)) (fun _ h9 => h9) rfl dX9_layRuin_16 ?_
    refine lv_iconst (v := 1) hx hb dX9_layRuin_19 (by decide) ?_
    refine lv_isub hx hb dX9_layRuin_20 ?_
    refine lv_iload_n hx hb dX9_layRuin_21 rfl (lv_at hl 3 rfl) ?_
    refine call_i0 (va_runS (As := [.int (v_many - (1 : Int32)), .int x3_13]) (rest := [.int x4_13]) ⟨hx, hb, hml, hown, hts⟩ (c_X9_rows l D cI cZ (Array.size H) (v_many - (1 : Int32)) x3_13 _ h) (va_cwS 2 hts gX9_layRuin_X9_rows rfl rfl rfl (by decide +kernel) ⟨Nat.le_of_ble_eq_true rfl, Nat.le_of_ble_eq_true rfl⟩) (preS_of hP hD hK [] rfl rfl) rfl rfl hl.1 rfl (lv_room (Nat.le_of_ble_eq_true rfl)) dX9_layRuin_22 ⟨Nat.zero_le _, Nat.zero_le _⟩) hP hD hS hA [] rfl ((cw_X9_layRuin cI cZ o o_readPurses o_readDay o_purses o_daily o_text o_row o_tried o_days o_order o_bestOrder o_seenHad o_seenShared o_isKept o_keptPurses o_keptRow o_keptHad o_keptShared o_keptRest v_readLaw v_readMany v_readMeetings v_law v_many v_meetings v_length v_at v_faultAt v_one_13 v_other_13 v_made v_leads v_rings v_seen a_purses a_order_13)) (rfl) (rfl) (fun r22 H locs h hP hD hS => ?_)
    refine lv_icmp_ge (tgt := 128) hx hb dX9_layRuin_25 (by decide) (fun c25 => ?_) (fun c25 => ?_)
    · have h := h.1 c25
      refine lv_iinc (v := (x3_13 + 1)) (lv' := [(3, .int (x3_13 + 1)), (0, .ref o), (1, .int x1_13), (2, .int x2_13), (4, .int x4_13)]) hx hb dX9_layRuin_128 hl (k := 3) rfl rfl (by decide) rfl (fun ls hl => ?_)
      refine lv_goto (tgt := 2) hx hb dX9_layRuin_131 (by decide) ?_
      exact h H locs ls (lv_sub hl [1, 2, 3, 0] rfl) hP hD hS
    · have h := h.2 c25
      refine lv_aload_n hx hb dX9_layRuin_28 rfl (lv_at hl 0 rfl) ?_
      refine lv_iload hx hb dX9_layRuin_29 (lv_at hl 4 rfl) ?_
      refine lv_aload_n hx hb dX9_layRuin_31 rfl (lv_at hl 0 rfl) ?_
      refine va_get (D := D) (ci := 9) (v := .int v_many) (C := RX9) (T := TX9) (N := 33) hx hb hts inw_X9_layRuin_X9 hown hK.1 hP 0 rfl rfl 8 (by decide) (hts (.fieldLink RX9 65 "PursesShareModel" "many" "I") (by decide +kernel)) (fun _ h9 => h9) rfl dX9_layRuin_32 ?_
      refine lv_iconst (v := 1) hx hb dX9_layRuin_35 (by decide) ?_
      refine lv_isub hx hb dX9_layRuin_36 ?_
      refine lv_iload_n hx hb dX9_layRuin_37 rfl (lv_at hl 3 rfl) ?_
      refine call_v1 (va_runV (As := [.int x4_13, .int (v_many - (1 : Int32)), .int x3_13]) (rest := []) ⟨hx, hb, hml, hown, hts⟩ (c_X9_layOrder l D cI cZ o o_readPurses o_readDay o_purses o_daily o_text o_row o_tried o_days o_order o_bestOrder o_seenHad o_seenShared o_isKept o_keptPurses o_keptRow o_keptHad o_keptShared o_keptRest (Array.size H) x4_13 (v_many - (1 : Int32)) x3_13 v_readLaw v_readMany v_readMeetings v_law v_many v_meetings v_length v_at v_faultAt v_one_13 v_other_13 v_made v_leads v_rings v_seen a_order_13 _ h) (cwV 3 hts gX9_layRuin_X9_layOrder rfl rfl rfl (by decide +kernel) ⟨Nat.le_of_ble_eq_true rfl, Nat.le_of_ble_eq_true rfl⟩) (preV_of hP hD hK [0, 2] rfl rfl 0 9 rfl rfl rfl) rfl rfl hl.1 rfl (lv_room (Nat.le_of_ble_eq_true rfl)) dX9_layRuin_38 ⟨Nat.zero_le _, Nat.zero_le _⟩) hP hD hS hA [0, 2] rfl (fun a_order_38 => (cw_X9_layRuin cI cZ o o_readPurses o_readDay o_purses o_daily o_text o_row o_tried o_days o_order o_bestOrder o_seenHad o_seenShared o_isKept o_keptPurses o_keptRow o_keptHad o_keptShared o_keptRest v_readLaw v_readMany v_readMeetings v_law v_many v_meetings v_length v_at v_faultAt v_one_13 v_other_13 v_made v_leads v_rings v_seen a_purses a_order_38)) (fun _ => rfl) (fun _ => rfl) (fun a_order_38 H locs h hP hD hS => ?_)
      refine lv_aload_n hx hb dX9_layRuin_41 rfl (lv_at hl 0 rfl) ?_
      refine va_get (D := D) (ci := 9) (v := .ref o_purses) (C := RX9) (T := TX9) (N := 33) hx hb hts inw_X9_layRuin_X9 hown hK.1 hP 0 rfl rfl 5 (by decide) (hts (.fieldLink RX9 16 "PursesShareModel" "purses" "[I") (by decide +kernel)) (fun _ h9 => h9) rfl dX9_layRuin_42 ?_
      refine lv_iload_n hx hb dX9_layRuin_45 rfl (lv_at hl 1 rfl) ?_
      have h0 := h.1
      have h := h.2
      refine va_iald hx hb hK.1 hP 1 0 rfl rfl h0 dX9_layRuin_46 ?_
      refine lv_istore (lv' := [(5, .int (a_purses (Int32.toNatClampNeg x1_13))), (0, .ref o), (1, .int x1_13), (2, .int x2_13), (3, .int x3_13), (4, .int x4_13)]) hx hb dX9_layRuin_47 hl (by decide) rfl (fun ls hl => ?_)
      refine lv_iconst (v := 0) hx hb dX9_layRuin_49 (by decide) ?_
      refine lv_istore (lv' := [(6, .int (0 : Int32)), (5, .int (a_purses (Int32.toNatClampNeg x1_13))), (0, .ref o), (1, .int x1_13), (2, .int x2_13), (3, .int x3_13), (4, .int x4_13)]) hx hb dX9_layRuin_50 hl (by decide) rfl (fun ls hl => ?_)
      refine h (fun x6_52 x5_52 v_one_52 v_other_52 a_order_52 => ∀ (H : Heap) (locs : List Loc) (ls : Array Slot), lv_has ls 7 [(0, .ref o), (1, .int x1_13), (2, .int x2_13), (3, .int x3_13), (4, .int x4_13), (5, .int x5_52), (6, .int x6_52)] → va_P D vwCl (cw_X9_layRuin cI cZ o o_readPurses o_readDay o_purses o_daily o_text o_row o_tried o_days o_order o_bestOrder o_seenHad o_seenShared o_isKept o_keptPurses o_keptRow o_keptHad o_keptShared o_keptRest v_readLaw v_readMany v_readMeetings v_law v_many v_meetings v_length v_at v_faultAt v_one_52 v_other_52 v_made v_leads v_rings v_seen a_purses a_order_52) H → va_D A (cw_X9_layRuin cI cZ o o_readPurses o_readDay o_purses o_daily o_text o_row o_tried o_days o_order o_bestOrder o_seenHad o_seenShared o_isKept o_keptPurses o_keptRow o_keptHad o_keptShared o_keptRest v_readLaw v_readMany v_readMeetings v_law v_many v_meetings v_length v_at v_faultAt v_one_52 v_other_52 v_made v_leads v_rings v_seen a_purses a_order_52) → va_S A s.heap H locs → W p l e rm_X9_layRuin s m args below meth c H locs 0 0 Q (F0 m 52 ls [])) ?_ H locs ls (lv_sub hl [2, 3, 4, 5, 6, 1, 0] rfl) hP hD hS
      intro x6_52 x5_52 v_one_52 v_other_52 a_order_52 h H locs ls hl hP hD hS
      refine lv_iload hx hb dX9_layRuin_52 (lv_at hl 6 rfl) ?_
      refine lv_iload_n hx hb dX9_layRuin_54 rfl (lv_at hl 3 rfl) ?_
      refine lv_icmp_ge (tgt := 114) hx hb dX9_layRuin_55 (by decide) (fun c55 => ?_) (fun c55 => ?_)
      · have h := h.1 c55
        refine lv_iload hx hb dX9_layRuin_114 (lv_at hl 5 rfl) ?_
        refine lv_iload_n hx hb dX9_layRuin_116 rfl (lv_at hl 2 rfl) ?_
        refine lv_icmp_gt (tgt := 122) hx hb dX9_layRuin_117 (by decide) (fun c117 => ?_) (fun c117 => ?_)
        · have h := h.1 c117
          refine lv_iinc (v := (x4_13 + 1)) (lv' := [(4, .int (x4_13 + 1)), (0, .ref o), (1, .int x1_13), (2, .int x2_13), (3, .int x3_13), (5, .int x5_52), (6, .int x6_52)]) hx hb dX9_layRuin_122 hl (k := 4) rfl rfl (by decide) rfl (fun ls hl => ?_)
          refine lv_goto (tgt := 13) hx hb dX9_layRuin_125 (by decide) ?_
          exact h H locs ls (lv_sub hl [1, 2, 3, 4, 0] rfl) hP hD hS
        · have h := h.2 c117
          refine lv_iload_n hx hb dX9_layRuin_120 rfl (lv_at hl 3 rfl) ?_
          exact ret_i3 hx hb hr hlocks hQ hS v_one_52 v_other_52 a_order_52 hP h dX9_layRuin_121
      · have h := h.2 c55
        refine lv_aload_n hx hb dX9_layRuin_58 rfl (lv_at hl 0 rfl) ?_
        refine va_get (D := D) (ci := 9) (v := .ref o_order) (C := RX9) (T := TX9) (N := 33) hx hb hts inw_X9_layRuin_X9 hown hK.1 hP 0 rfl rfl 22 (by decide) (hts (.fieldLink RX9 34 "PursesShareModel" "order" "[I") (by decide +kernel)) (fun _ h9 => h9) rfl dX9_layRuin_59 ?_
        refine lv_iload hx hb dX9_layRuin_62 (lv_at hl 6 rfl) ?_
        refine lv_dup2_11 hx hb dX9_layRuin_64 rfl rfl ?_
        have h0 := h.1
        have h := h.2
        refine va_iald hx hb hK.1 hP 2 0 rfl rfl h0 dX9_layRuin_65 ?_
        refine lv_aload_n hx hb dX9_layRuin_66 rfl (lv_at hl 0 rfl) ?_
        refine va_get (D := D) (ci := 9) (v := .ref o_order) (C := RX9) (T := TX9) (N := 33) hx hb hts inw_X9_layRuin_X9 hown hK.1 hP 0 rfl rfl 22 (by decide) (hts (.fieldLink RX9 34 "PursesShareModel" "order" "[I") (by decide +kernel)) (fun _ h9 => h9) rfl dX9_layRuin_67 ?_
        refine lv_iload hx hb dX9_layRuin_70 (lv_at hl 6 rfl) ?_
        have h0 := h.1
        have h := h.2
        refine va_iald hx hb hK.1 hP 2 0 rfl rfl h0 dX9_layRuin_72 ?_
        refine lv_iload_n hx hb dX9_layRuin_73 rfl (lv_at hl 1 rfl) ?_
        refine lv_icmp_lt (tgt := 81) hx hb dX9_layRuin_74 (by decide) (fun c74 => ?_) (fun c74 => ?_)
        · have h := h.1 c74
          refine lv_iconst (v := 0) hx hb dX9_layRuin_81 (by decide) ?_
          refine lv_iadd hx hb dX9_layRuin_82 ?_
          have h0 := h.1
          have h := h.2
          refine va_iast hx hb hK.1 hP hD hS 2 0 rfl rfl h0 dX9_layRuin_83 (fun H locs hP hD hS => ?_)
          have hP : va_P D vwCl (cw_X9_layRuin cI cZ o o_readPurses o_readDay o_purses o_daily o_text o_row o_tried o_days o_order o_bestOrder o_seenHad o_seenShared o_isKept o_keptPurses o_keptRow o_keptHad o_keptShared o_keptRest v_readLaw v_readMany v_readMeetings v_law v_many v_meetings v_length v_at v_faultAt v_one_52 v_other_52 v_made v_leads v_rings v_seen a_purses (upd a_order_52 (Int32.toNatClampNeg x6_52) ((a_order_52 (Int32.toNatClampNeg x6_52)) + (0 : Int32)))) H := hP
          have hD : va_D A (cw_X9_layRuin cI cZ o o_readPurses o_readDay o_purses o_daily o_text o_row o_tried o_days o_order o_bestOrder o_seenHad o_seenShared o_isKept o_keptPurses o_keptRow o_keptHad o_keptShared o_keptRest v_readLaw v_readMany v_readMeetings v_law v_many v_meetings v_length v_at v_faultAt v_one_52 v_other_52 v_made v_leads v_rings v_seen a_purses (upd a_order_52 (Int32.toNatClampNeg x6_52) ((a_order_52 (Int32.toNatClampNeg x6_52)) + (0 : Int32)))) := hD
          refine lv_aload_n hx hb dX9_layRuin_84 rfl (lv_at hl 0 rfl) ?_
          refine lv_iload hx hb dX9_layRuin_85 (lv_at hl 5 rfl) ?_
          refine lv_aload_n hx hb dX9_layRuin_87 rfl (lv_at hl 0 rfl) ?_
          refine va_get (D := D) (ci := 9) (v := .ref o_purses) (C := RX9) (T := TX9) (N := 33) hx hb hts inw_X9_layRuin_X9 hown hK.1 hP 0 rfl rfl 5 (by decide) (hts (.fieldLink RX9 16 "PursesShareModel" "purses" "[I") (by decide +kernel)) (fun _ h9 => h9) rfl dX9_layRuin_88 ?_
          refine lv_aload_n hx hb dX9_layRuin_91 rfl (lv_at hl 0 rfl) ?_
          refine va_get (D := D) (ci := 9) (v := .ref o_order) (C := RX9) (T := TX9) (N := 33) hx hb hts inw_X9_layRuin_X9 hown hK.1 hP 0 rfl rfl 22 (by decide) (hts (.fieldLink RX9 34 "PursesShareModel" "order" "[I") (by decide +kernel)) (fun _ h9 => h9) rfl dX9_layRuin_92 ?_
          refine lv_iload hx hb dX9_layRuin_95 (lv_at hl 6 rfl) ?_
          have h0 := h.1
          have h := h.2
          refine va_iald hx hb hK.1 hP 2 0 rfl rfl h0 dX9_layRuin_97 ?_
          have h0 := h.1
          have h := h.2
          refine va_iald hx hb hK.1 hP 1 0 rfl rfl h0 dX9_layRuin_98 ?_
          refine call_v2 (va_runV (As := [.int x5_52, .int (a_purses (Int32.toNatClampNeg ((upd a_order_52 (Int32.toNatClampNeg x6_52) ((a_order_52 (Int32.toNatClampNeg x6_52)) + (0 : Int32))) (Int32.toNatClampNeg x6_52))))]) (rest := []) ⟨hx, hb, hml, hown, hts⟩ (c_X9_meetTwo l D cI cZ o o_readPurses o_readDay o_purses o_daily o_text o_row o_tried o_days o_order o_bestOrder o_seenHad o_seenShared o_isKept o_keptPurses o_keptRow o_keptHad o_keptShared o_keptRest (Array.size H) x5_52 (a_purses (Int32.toNatClampNeg ((upd a_order_52 (Int32.toNatClampNeg x6_52) ((a_order_52 (Int32.toNatClampNeg x6_52)) + (0 : Int32))) (Int32.toNatClampNeg x6_52)))) v_readLaw v_readMany v_readMeetings v_law v_many v_meetings v_length v_at v_faultAt v_one_52 v_other_52 v_made v_leads v_rings v_seen _ h) (cwV 2 hts gX9_layRuin_X9_meetTwo rfl rfl rfl (by decide +kernel) ⟨Nat.le_of_ble_eq_true rfl, Nat.le_of_ble_eq_true rfl⟩) (preV_of hP hD hK [0] rfl rfl 0 9 rfl rfl rfl) rfl rfl hl.1 rfl (lv_room (Nat.le_of_ble_eq_true rfl)) dX9_layRuin_99 ⟨Nat.zero_le _, Nat.zero_le _⟩) hP hD hS hA [0] rfl (fun v_one_99 v_other_99 => (cw_X9_layRuin cI cZ o o_readPurses o_readDay o_purses o_daily o_text o_row o_tried o_days o_order o_bestOrder o_seenHad o_seenShared o_isKept o_keptPurses o_keptRow o_keptHad o_keptShared o_keptRest v_readLaw v_readMany v_readMeetings v_law v_many v_meetings v_length v_at v_faultAt v_one_99 v_other_99 v_made v_leads v_rings v_seen a_purses (upd a_order_52 (Int32.toNatClampNeg x6_52) ((a_order_52 (Int32.toNatClampNeg x6_52)) + (0 : Int32))))) (fun _ _ => rfl) (fun _ _ => rfl) (fun v_one_99 v_other_99 H locs h hP hD hS => ?_)
          refine lv_aload_n hx hb dX9_layRuin_102 rfl (lv_at hl 0 rfl) ?_
          refine va_get (D := D) (ci := 9) (v := .int v_one_99) (C := RX9) (T := TX9) (N := 33) hx hb hts inw_X9_layRuin_X9 hown hK.1 hP 0 rfl rfl 14 (by decide) (hts (.fieldLink RX9 123 "PursesShareModel" "one" "I") (by decide +kernel)) (fun _ h9 => h9) rfl dX9_layRuin_103 ?_
          refine lv_istore (lv' := [(5, .int v_one_99), (0, .ref o), (1, .int x1_13), (2, .int x2_13), (3, .int x3_13), (4, .int x4_13), (6, .int x6_52)]) hx hb dX9_layRuin_106 hl (by decide) rfl (fun ls hl => ?_)
          refine lv_iinc (v := (x6_52 + 1)) (lv' := [(6, .int (x6_52 + 1)), (5, .int v_one_99), (0, .ref o), (1, .int x1_13), (2, .int x2_13), (3, .int x3_13), (4, .int x4_13)]) hx hb dX9_layRuin_108 hl (k := 6) rfl rfl (by decide) rfl (fun ls hl => ?_)
          refine lv_goto (tgt := 52) hx hb dX9_layRuin_111 (by decide) ?_
          exact h H locs ls (lv_sub hl [2, 3, 4, 5, 6, 1, 0] rfl) hP hD hS
        · have h := h.2 c74
          refine lv_iconst (v := 1) hx hb dX9_layRuin_77 (by decide) ?_
          refine lv_goto (tgt := 82) hx hb dX9_layRuin_78 (by decide) ?_
          refine lv_iadd hx hb dX9_layRuin_82 ?_
          have h0 := h.1
          have h := h.2
          refine va_iast hx hb hK.1 hP hD hS 2 0 rfl rfl h0 dX9_layRuin_83 (fun H locs hP hD hS => ?_)
          have hP : va_P D vwCl (cw_X9_layRuin cI cZ o o_readPurses o_readDay o_purses o_daily o_text o_row o_tried o_days o_order o_bestOrder o_seenHad o_seenShared o_isKept o_keptPurses o_keptRow o_keptHad o_keptShared o_keptRest v_readLaw v_readMany v_readMeetings v_law v_many v_meetings v_length v_at v_faultAt v_one_52 v_other_52 v_made v_leads v_rings v_seen a_purses (upd a_order_52 (Int32.toNatClampNeg x6_52) ((a_order_52 (Int32.toNatClampNeg x6_52)) + (1 : Int32)))) H := hP
          have hD : va_D A (cw_X9_layRuin cI cZ o o_readPurses o_readDay o_purses o_daily o_text o_row o_tried o_days o_order o_bestOrder o_seenHad o_seenShared o_isKept o_keptPurses o_keptRow o_keptHad o_keptShared o_keptRest v_readLaw v_readMany v_readMeetings v_law v_many v_meetings v_length v_at v_faultAt v_one_52 v_other_52 v_made v_leads v_rings v_seen a_purses (upd a_order_52 (Int32.toNatClampNeg x6_52) ((a_order_52 (Int32.toNatClampNeg x6_52)) + (1 : Int32)))) := hD
          refine lv_aload_n hx hb dX9_layRuin_84 rfl (lv_at hl 0 rfl) ?_
          refine lv_iload hx hb dX9_layRuin_85 (lv_at hl 5 rfl) ?_
          refine lv_aload_n hx hb dX9_layRuin_87 rfl (lv_at hl 0 rfl) ?_
          refine va_get (D := D) (ci := 9) (v := .ref o_purses) (C := RX9) (T := TX9) (N := 33) hx hb hts inw_X9_layRuin_X9 hown hK.1 hP 0 rfl rfl 5 (by decide) (hts (.fieldLink RX9 16 "PursesShareModel" "purses" "[I") (by decide +kernel)) (fun _ h9 => h9) rfl dX9_layRuin_88 ?_
          refine lv_aload_n hx hb dX9_layRuin_91 rfl (lv_at hl 0 rfl) ?_
          refine va_get (D := D) (ci := 9) (v := .ref o_order) (C := RX9) (T := TX9) (N := 33) hx hb hts inw_X9_layRuin_X9 hown hK.1 hP 0 rfl rfl 22 (by decide) (hts (.fieldLink RX9 34 "PursesShareModel" "order" "[I") (by decide +kernel)) (fun _ h9 => h9) rfl dX9_layRuin_92 ?_
          refine lv_iload hx hb dX9_layRuin_95 (lv_at hl 6 rfl) ?_
          have h0 := h.1
          have h := h.2
          refine va_iald hx hb hK.1 hP 2 0 rfl rfl h0 dX9_layRuin_97 ?_
          have h0 := h.1
          have h := h.2
          refine va_iald hx hb hK.1 hP 1 0 rfl rfl h0 dX9_layRuin_98 ?_
          refine call_v2 (va_runV (As := [.int x5_52, .int (a_purses (Int32.toNatClampNeg ((upd a_order_52 (Int32.toNatClampNeg x6_52) ((a_order_52 (Int32.toNatClampNeg x6_52)) + (1 : Int32))) (Int32.toNatClampNeg x6_52))))]) (rest := []) ⟨hx, hb, hml, hown, hts⟩ (c_X9_meetTwo l D cI cZ o o_readPurses o_readDay o_purses o_daily o_text o_row o_tried o_days o_order o_bestOrder o_seenHad o_seenShared o_isKept o_keptPurses o_keptRow o_keptHad o_keptShared o_keptRest (Array.size H) x5_52 (a_purses (Int32.toNatClampNeg ((upd a_order_52 (Int32.toNatClampNeg x6_52) ((a_order_52 (Int32.toNatClampNeg x6_52)) + (1 : Int32))) (Int32.toNatClampNeg x6_52)))) v_readLaw v_readMany v_readMeetings v_law v_many v_meetings v_length v_at v_faultAt v_one_52 v_other_52 v_made v_leads v_rings v_seen _ h) (cwV 2 hts gX9_layRuin_X9_meetTwo rfl rfl rfl (by decide +kernel) ⟨Nat.le_of_ble_eq_true rfl, Nat.le_of_ble_eq_true rfl⟩) (preV_of hP hD hK [0] rfl rfl 0 9 rfl rfl rfl) rfl rfl hl.1 rfl (lv_room (Nat.le_of_ble_eq_true rfl)) dX9_layRuin_99 ⟨Nat.zero_le _, Nat.zero_le _⟩) hP hD hS hA [0] rfl (fun v_one_99 v_other_99 => (cw_X9_layRuin cI cZ o o_readPurses o_readDay o_purses o_daily o_text o_row o_tried o_days o_order o_bestOrder o_seenHad o_seenShared o_isKept o_keptPurses o_keptRow o_keptHad o_keptShared o_keptRest v_readLaw v_readMany v_readMeetings v_law v_many v_meetings v_length v_at v_faultAt v_one_99 v_other_99 v_made v_leads v_rings v_seen a_purses (upd a_order_52 (Int32.toNatClampNeg x6_52) ((a_order_52 (Int32.toNatClampNeg x6_52)) + (1 : Int32))))) (fun _ _ => rfl) (fun _ _ => rfl) (fun v_one_99 v_other_99 H locs h hP hD hS => ?_)
          refine lv_aload_n hx hb dX9_layRuin_102 rfl (lv_at hl 0 rfl) ?_
          refine va_get (D := D) (ci := 9) (v := .int v_one_99) (C := RX9) (T := TX9) (N := 33) hx hb hts inw_X9_layRuin_X9 hown hK.1 hP 0 rfl rfl 14 (by decide) (hts (.fieldLink RX9 123 "PursesShareModel" "one" "I") (by decide +kernel)) (fun _ h9 => h9) rfl dX9_layRuin_103 ?_
          refine lv_istore (lv' := [(5, .int v_one_99), (0, .ref o), (1, .int x1_13), (2, .int x2_13), (3, .int x3_13), (4, .int x4_13), (6, .int x6_52)]) hx hb dX9_layRuin_106 hl (by decide) rfl (fun ls hl => ?_)
          refine lv_iinc (v := (x6_52 + 1)) (lv' := [(6, .int (x6_52 + 1)), (5, .int v_one_99), (0, .ref o), (1, .int x1_13), (2, .int x2_13), (3, .int x3_13), (4, .int x4_13)]) hx hb dX9_layRuin_108 hl (k := 6) rfl rfl (by decide) rfl (fun ls hl => ?_)
          refine lv_goto (tgt := 52) hx hb dX9_layRuin_111 (by decide) ?_
          exact h H locs ls (lv_sub hl [2, 3, 4, 5, 6, 1, 0] rfl) hP hD hS
abbrev rm_X9_ruin : Room := { frames := 3, cells := 0, slots := 0, locals := 75 }
abbrev cw_X9_ruin (cI cZ : ClassId) (o o_readPurses o_readDay o_purses o_daily o_text o_row o_tried o_days o_order o_bestOrder o_seenHad o_seenShared o_isKept o_keptPurses o_keptRow o_keptHad o_keptShared o_keptRest : Nat) (v_readLaw : Int32) (v_readMany : Int32) (v_readMeetings : Int32) (v_law : Int32) (v_many : Int32) (v_meetings : Int32) (v_length : Int32) (v_at : Int32) (v_faultAt : Int32) (v_one : Int32) (v_other : Int32) (v_made : Int32) (v_leads : Int32) (v_rings : Int32) (v_seen : Int32) (a_purses : Nat → Int32) (a_order : Nat → Int32) : va_W := [(o, .inr (9, [.ref o_readPurses, .ref o_readDay, .int v_readLaw, .int v_readMany, .int v_readMeetings, .ref o_purses, .ref o_daily, .int v_law, .int v_many, .int v_meetings, .ref o_text, .int v_length, .int v_at, .int v_faultAt, .int v_one, .int v_other, .int v_made, .ref o_row, .ref o_tried, .int v_leads, .int v_rings, .ref o_days, .ref o_order, .ref o_bestOrder, .int v_seen, .ref o_seenHad, .ref o_seenShared, .ref o_isKept, .ref o_keptPurses, .ref o_keptRow, .ref o_keptHad, .ref o_keptShared, .ref o_keptRest])), (o_purses, .inl (cI, 8, .inl a_purses)), (o_order, .inl (cI, 8, .inl a_order))]
def wp_X9_ruin (n1 : Int32) (n2 : Int32) (v_law : Int32) (v_many : Int32) (v_one : Int32) (v_other : Int32) (a_purses : Nat → Int32) (a_order : Nat → Int32) (Post : Int32 → (Int32) → (Int32) → (Nat → Int32) → Prop) : Prop := (wp_X9_isPerson n1 v_many (fun (r2 : Int32) => ((¬ r2 = 0 → (wp_X9_in (Int32.toInt64 n2) (0 : Int64) (99999 : Int64) (fun (r16 : Int32) => ((r16 = 0 → (Post (-2 : Int32) v_one v_other a_order)) ∧ (¬ r16 = 0 → (wp_X9_layRuin n1 n2 v_law v_many v_one v_other a_purses a_order (fun (r25 : Int32) (v_one_25 : Int32) (v_other_25 : Int32) (a_order_25 : Nat → Int32) => (Post r25 v_one_25 v_other_25 a_order_25)))))))) ∧ (r2 = 0 → (Post (-1 : Int32) v_one v_other a_order)))))
set_option maxHeartbeats 4000000 in
set_option maxRecDepth 100000 in
theorem c_X9_ruin (l : Launch) (D : va_G) (cI cZ : ClassId) (o o_readPurses o_readDay o_purses o_daily o_text o_row o_tried o_days o_order o_bestOrder o_seenHad o_seenShared o_isKept o_keptPurses o_keptRow o_keptHad o_keptShared o_keptRest : Nat) (sz : Nat) (n1 : Int32) (n2 : Int32) (v_readLaw : Int32) (v_readMany : Int32) (v_readMeetings : Int32) (v_law : Int32) (v_many : Int32) (v_meetings : Int32) (v_length : Int32) (v_at : Int32) (v_faultAt : Int32) (v_one : Int32) (v_other : Int32) (v_made : Int32) (v_leads : Int32) (v_rings : Int32) (v_seen : Int32) (a_purses : Nat → Int32) (a_order : Nat → Int32) (Post : Int32 → (Int32) → (Int32) → (Nat → Int32) → Prop) (h : wp_X9_ruin n1 n2 v_law v_many v_one v_other a_purses a_order Post) : Met l yX9_ruin wsX9_ruin rm_X9_ruin (cPc D cI cZ [.ref o, .int n1, .int n2] (cw_X9_ruin cI cZ o o_readPurses o_readDay o_purses o_daily o_text o_row o_tried o_days o_order o_bestOrder o_seenHad o_seenShared o_isKept o_keptPurses o_keptRow o_keptHad o_keptShared o_keptRest v_readLaw v_readMany v_readMeetings v_law v_many v_meetings v_length v_at v_faultAt v_one v_other v_made v_leads v_rings v_seen a_purses a_order) sz) (cQi3 D Post (fun m_v_one m_v_other m_a_order => (cw_X9_ruin cI cZ o o_readPurses o_readDay o_purses o_daily o_text o_row o_tried o_days o_order o_bestOrder o_seenHad o_seenShared o_isKept o_keptPurses o_keptRow o_keptHad o_keptShared o_keptRest v_readLaw v_readMany v_readMeetings v_law v_many v_meetings v_length v_at v_faultAt m_v_one m_v_other v_made v_leads v_rings v_seen a_purses m_a_order)) (va_A (cw_X9_ruin cI cZ o o_readPurses o_readDay o_purses o_daily o_text o_row o_tried o_days o_order o_bestOrder o_seenHad o_seenShared o_isKept o_keptPurses o_keptRow o_keptHad o_keptShared o_keptRest v_readLaw v_readMany v_readMeetings v_law v_many v_meetings v_length v_at v_faultAt v_one v_other v_made v_leads v_rings v_seen a_purses a_order) sz)) 0 0 (va_A (cw_X9_ruin cI cZ o o_readPurses o_readDay o_purses o_daily o_text o_row o_tried o_days o_order o_bestOrder o_seenHad o_seenShared o_isKept o_keptPurses o_keptRow o_keptHad o_keptShared o_keptRest v_readLaw v_readMany v_readMeetings v_law v_many v_meetings v_length v_at v_faultAt v_one v_other v_made v_leads v_rings v_seen a_purses a_order) sz) := by
  refine ent (cc := cX9_ruin) (maxL := 3) (ret := (some .int)) (Qc := fun A => cQi3 D Post (fun m_v_one m_v_other m_a_order => (cw_X9_ruin cI cZ o o_readPurses o_readDay o_purses o_daily o_text o_row o_tried o_days o_order o_bestOrder o_seenHad o_seenShared o_isKept o_keptPurses o_keptRow o_keptHad o_keptShared o_keptRest v_readLaw v_readMany v_readMeetings v_law v_many v_meetings v_length v_at v_faultAt m_v_one m_v_other v_made v_leads v_rings v_seen a_purses m_a_order)) A) (by decide) rfl (Nat.le_of_ble_eq_true rfl) ?_
  intro p e s m args below meth c A ls Q hQ hsz hx hb hml hr hts hown hlocks hnm hK hP hD hA hS hl
  have hl : lv_has ls 3 [(0, .ref o), (1, .int n1), (2, .int n2)] := hl
  unfold wp_X9_ruin at h
  refine lv_aload_n hx hb dX9_ruin_0 rfl (lv_at hl 0 rfl) ?_
  refine lv_iload_n hx hb dX9_ruin_1 rfl (lv_at hl 1 rfl) ?_
  refine call_i0 (va_runV (As := [.int n1]) (rest := []) ⟨hx, hb, hml, hown, hts⟩ (c_X9_isPerson l D cI cZ o o_readPurses o_readDay o_purses o_daily o_text o_row o_tried o_days o_order o_bestOrder o_seenHad o_seenShared o_isKept o_keptPurses o_keptRow o_keptHad o_keptShared o_keptRest (Array.size s.heap) n1 v_readLaw v_readMany v_readMeetings v_law v_many v_meetings v_length v_at v_faultAt v_one v_other v_made v_leads v_rings v_seen _ h) (cwV 1 hts gX9_ruin_X9_isPerson rfl rfl rfl (by decide +kernel) ⟨Nat.le_of_ble_eq_true rfl, Nat.le_of_ble_eq_true rfl⟩) (preV_of hP hD hK [0] rfl rfl 0 9 rfl rfl rfl) rfl rfl hl.1 rfl (lv_room (Nat.le_of_ble_eq_true rfl)) dX9_ruin_2 ⟨Nat.zero_le _, Nat.zero_le _⟩) hP hD hS hA [0] rfl ((cw_X9_ruin cI cZ o o_readPurses o_readDay o_purses o_daily o_text o_row o_tried o_days o_order o_bestOrder o_seenHad o_seenShared o_isKept o_keptPurses o_keptRow o_keptHad o_keptShared o_keptRest v_readLaw v_readMany v_readMeetings v_law v_many v_meetings v_length v_at v_faultAt v_one v_other v_made v_leads v_rings v_seen a_purses a_order)) (rfl) (rfl) (fun r2 H locs h hP hD hS => ?_)
  refine lv_if_ne (tgt := 10) hx hb dX9_ruin_5 (by decide) (fun c5 => ?_) (fun c5 => ?_)
  · have h := h.1 c5
    refine lv_iload_n hx hb dX9_ruin_10 rfl (lv_at hl 2 rfl) ?_
    refine lv_i2l (v := (Int32.toInt64 n2)) hx hb dX9_ruin_11 rfl ?_
    refine lv_lconst (v := 0) hx hb dX9_ruin_12 (by decide) ?_
    refine lv_ldc2 (own := RX9) (index := 119) (v := 99999) hx hb hown (hts (.constantLong RX9 119 (99999)) (by decide +kernel)) dX9_ruin_13 ?_
    refine call_i0 (va_runS (As := [.long (Int32.toInt64 n2), .long (0 : Int64), .long (99999 : Int64)]) (rest := []) ⟨hx, hb, hml, hown, hts⟩ (c_X9_in l D cI cZ (Array.size H) (Int32.toInt64 n2) (0 : Int64) (99999 : Int64) _ h) (va_cwS 3 hts gX9_ruin_X9_in rfl rfl rfl (by decide +kernel) ⟨Nat.le_of_ble_eq_true rfl, Nat.le_of_ble_eq_true rfl⟩) (preS_of hP hD hK [] rfl rfl) rfl rfl hl.1 rfl (lv_room (Nat.le_of_ble_eq_true rfl)) dX9_ruin_16 ⟨Nat.zero_le _, Nat.zero_le _⟩) hP hD hS hA [] rfl ((cw_X9_ruin cI cZ o o_readPurses o_readDay o_purses o_daily o_text o_row o_tried o_days o_order o_bestOrder o_seenHad o_seenShared o_isKept o_keptPurses o_keptRow o_keptHad o_keptShared o_keptRest v_readLaw v_readMany v_readMeetings v_law v_many v_meetings v_length v_at v_faultAt v_one v_other v_made v_leads v_rings v_seen a_purses a_order)) (rfl) (rfl) (fun r16 H locs h hP hD hS => ?_)
    refine lv_if_eq (tgt := 31) hx hb dX9_ruin_19 (by decide) (fun c19 => ?_) (fun c19 => ?_)
    · have h := h.1 c19
      refine lv_bipush (v := -2) hx hb dX9_ruin_31 (by decide) ?_
      exact ret_i3 hx hb hr hlocks hQ hS v_one v_other a_order hP h dX9_ruin_33
    · have h := h.2 c19
      refine lv_aload_n hx hb dX9_ruin_22 rfl (lv_at hl 0 rfl) ?_
      refine lv_iload_n hx hb dX9_ruin_23 rfl (lv_at hl 1 rfl) ?_
      refine lv_iload_n hx hb dX9_ruin_24 rfl (lv_at hl 2 rfl) ?_
      refine call_i3 (va_runV (As := [.int n1, .int n2]) (rest := []) ⟨hx, hb, hml, hown, hts⟩ (c_X9_layRuin l D cI cZ o o_readPurses o_readDay o_purses o_daily o_text o_row o_tried o_days o_order o_bestOrder o_seenHad o_seenShared o_isKept o_keptPurses o_keptRow o_keptHad o_keptShared o_keptRest (Array.size H) n1 n2 v_readLaw v_readMany v_readMeetings v_law v_many v_meetings v_length v_at v_faultAt v_one v_other v_made v_leads v_rings v_seen a_purses a_order _ h) (cwV 2 hts gX9_ruin_X9_layRuin rfl rfl rfl (by decide +kernel) ⟨Nat.le_of_ble_eq_true rfl, Nat.le_of_ble_eq_true rfl⟩) (preV_of hP hD hK [0, 1, 2] rfl rfl 0 9 rfl rfl rfl) rfl rfl hl.1 rfl (lv_room (Nat.le_of_ble_eq_true rfl)) dX9_ruin_25 ⟨Nat.zero_le _, Nat.zero_le _⟩) hP hD hS hA [0, 1, 2] rfl (fun v_one_25 v_other_25 a_order_25 => (cw_X9_ruin cI cZ o o_readPurses o_readDay o_purses o_daily o_text o_row o_tried o_days o_order o_bestOrder o_seenHad o_seenShared o_isKept o_keptPurses o_keptRow o_keptHad o_keptShared o_keptRest v_readLaw v_readMany v_readMeetings v_law v_many v_meetings v_length v_at v_faultAt v_one_25 v_other_25 v_made v_leads v_rings v_seen a_purses a_order_25)) (fun _ _ _ => rfl) (fun _ _ _ => rfl) (fun r25 v_one_25 v_other_25 a_order_25 H locs h hP hD hS => ?_)
      refine lv_goto (tgt := 33) hx hb dX9_ruin_28 (by decide) ?_
      exact ret_i3 hx hb hr hlocks hQ hS v_one_25 v_other_25 a_order_25 hP h dX9_ruin_33
  · have h := h.2 c5
    refine lv_iconst (v := -1) hx hb dX9_ruin_8 (by decide) ?_
    exact ret_i3 hx hb hr hlocks hQ hS v_one v_other a_order hP h dX9_ruin_9
abbrev rm_X9_ruinAt : Room := { frames := 3, cells := 0, slots := 0, locals := 75 }
abbrev cw_X9_ruinAt (cI cZ : ClassId) (o o_readPurses o_readDay o_purses o_daily o_text o_row o_tried o_days o_order o_bestOrder o_seenHad o_seenShared o_isKept o_keptPurses o_keptRow o_keptHad o_keptShared o_keptRest : Nat) (v_readLaw : Int32) (v_readMany : Int32) (v_readMeetings : Int32) (v_law : Int32) (v_many : Int32) (v_meetings : Int32) (v_length : Int32) (v_at : Int32) (v_faultAt : Int32) (v_one : Int32) (v_other : Int32) (v_made : Int32) (v_leads : Int32) (v_rings : Int32) (v_seen : Int32) (a_purses : Nat → Int32) (a_order : Nat → Int32) : va_W := [(o, .inr (9, [.ref o_readPurses, .ref o_readDay, .int v_readLaw, .int v_readMany, .int v_readMeetings, .ref o_purses, .ref o_daily, .int v_law, .int v_many, .int v_meetings, .ref o_text, .int v_length, .int v_at, .int v_faultAt, .int v_one, .int v_other, .int v_made, .ref o_row, .ref o_tried, .int v_leads, .int v_rings, .ref o_days, .ref o_order, .ref o_bestOrder, .int v_seen, .ref o_seenHad, .ref o_seenShared, .ref o_isKept, .ref o_keptPurses, .ref o_keptRow, .ref o_keptHad, .ref o_keptShared, .ref o_keptRest])), (o_purses, .inl (cI, 8, .inl a_purses)), (o_order, .inl (cI, 8, .inl a_order))]
theorem inw_X9_ruinAt_X9 : ∀ w ∈ u_ws RX9 TX9 33, w ∈ wsX9_ruinAt := by decide +kernel
def wp_X9_ruinAt (n1 : Int32) (n2 : Int32) (n3 : Int32) (v_law : Int32) (v_many : Int32) (v_one : Int32) (v_other : Int32) (a_purses : Nat → Int32) (a_order : Nat → Int32) (Post : Int32 → (Int32) → (Int32) → (Nat → Int32) → Prop) : Prop := (wp_X9_isPerson n1 v_many (fun (r2 : Int32) => ((¬ r2 = 0 → (wp_X9_in (Int32.toInt64 n2) (0 : Int64) (99999 : Int64) (fun (r16 : Int32) => ((¬ r16 = 0 → (wp_X9_layRuin n1 n2 v_law v_many v_one v_other a_purses a_order (fun (r31 : Int32) (v_one_31 : Int32) (v_other_31 : Int32) (a_order_31 : Nat → Int32) => (wp_X9_in (Int32.toInt64 n3) (0 : Int64) (Int32.toInt64 (r31 - (1 : Int32))) (fun (r37 : Int32) => ((r37 = 0 → (Post (-9 : Int32) v_one_31 v_other_31 a_order_31)) ∧ (¬ r37 = 0 → (vp_in n3 8 ∧ (Post (a_order_31 (Int32.toNatClampNeg n3)) v_one_31 v_other_31 a_order_31))))))))) ∧ (r16 = 0 → (Post (-2 : Int32) v_one v_other a_order)))))) ∧ (r2 = 0 → (Post (-1 : Int32) v_one v_other a_order)))))
set_option maxHeartbeats 4000000 in
set_option maxRecDepth 100000 in
theorem c_X9_ruinAt (l : Launch) (D : va_G) (cI cZ : ClassId) (o o_readPurses o_readDay o_purses o_daily o_text o_row o_tried o_days o_order o_bestOrder o_seenHad o_seenShared o_isKept o_keptPurses o_keptRow o_keptHad o_keptShared o_keptRest : Nat) (sz : Nat) (n1 : Int32) (n2 : Int32) (n3 : Int32) (v_readLaw : Int32) (v_readMany : Int32) (v_readMeetings : Int32) (v_law : Int32) (v_many : Int32) (v_meetings : Int32) (v_length : Int32) (v_at : Int32) (v_faultAt : Int32) (v_one : Int32) (v_other : Int32) (v_made : Int32) (v_leads : Int32) (v_rings : Int32) (v_seen : Int32) (a_purses : Nat → Int32) (a_order : Nat → Int32) (Post : Int32 → (Int32) → (Int32) → (Nat → Int32) → Prop) (h : wp_X9_ruinAt n1 n2 n3 v_law v_many v_one v_other a_purses a_order Post) : Met l yX9_ruinAt wsX9_ruinAt rm_X9_ruinAt (cPc D cI cZ [.ref o, .int n1, .int n2, .int n3] (cw_X9_ruinAt cI cZ o o_readPurses o_readDay o_purses o_daily o_text o_row o_tried o_days o_order o_bestOrder o_seenHad o_seenShared o_isKept o_keptPurses o_keptRow o_keptHad o_keptShared o_keptRest v_readLaw v_readMany v_readMeetings v_law v_many v_meetings v_length v_at v_faultAt v_one v_other v_made v_leads v_rings v_seen a_purses a_order) sz) (cQi3 D Post (fun m_v_one m_v_other m_a_order => (cw_X9_ruinAt cI cZ o o_readPurses o_readDay o_purses o_daily o_text o_row o_tried o_days o_order o_bestOrder o_seenHad o_seenShared o_isKept o_keptPurses o_keptRow o_keptHad o_keptShared o_keptRest v_readLaw v_readMany v_readMeetings v_law v_many v_meetings v_length v_at v_faultAt m_v_one m_v_other v_made v_leads v_rings v_seen a_purses m_a_order)) (va_A (cw_X9_ruinAt cI cZ o o_readPurses o_readDay o_purses o_daily o_text o_row o_tried o_days o_order o_bestOrder o_seenHad o_seenShared o_isKept o_keptPurses o_keptRow o_keptHad o_keptShared o_keptRest v_readLaw v_readMany v_readMeetings v_law v_many v_meetings v_length v_at v_faultAt v_one v_other v_made v_leads v_rings v_seen a_purses a_order) sz)) 0 0 (va_A (cw_X9_ruinAt cI cZ o o_readPurses o_readDay o_purses o_daily o_text o_row o_tried o_days o_order o_bestOrder o_seenHad o_seenShared o_isKept o_keptPurses o_keptRow o_keptHad o_keptShared o_keptRest v_readLaw v_readMany v_readMeetings v_law v_many v_meetings v_length v_at v_faultAt v_one v_other v_made v_leads v_rings v_seen a_purses a_order) sz) := by
  refine ent (cc := cX9_ruinAt) (maxL := 4) (ret := (some .int)) (Qc := fun A => cQi3 D Post (fun m_v_one m_v_other m_a_order => (cw_X9_ruinAt cI cZ o o_readPurses o_readDay o_purses o_daily o_text o_row o_tried o_days o_order o_bestOrder o_seenHad o_seenShared o_isKept o_keptPurses o_keptRow o_keptHad o_keptShared o_keptRest v_readLaw v_readMany v_readMeetings v_law v_many v_meetings v_length v_at v_faultAt m_v_one m_v_other v_made v_leads v_rings v_seen a_purses m_a_order)) A) (by decide) rfl (Nat.le_of_ble_eq_true rfl) ?_
  intro p e s m args below meth c A ls Q hQ hsz hx hb hml hr hts hown hlocks hnm hK hP hD hA hS hl
  have hl : lv_has ls 4 [(0, .ref o), (1, .int n1), (2, .int n2), (3, .int n3)] := hl
  unfold wp_X9_ruinAt at h
  refine lv_aload_n hx hb dX9_ruinAt_0 rfl (lv_at hl 0 rfl) ?_
  refine lv_iload_n hx hb dX9_ruinAt_1 rfl (lv_at hl 1 rfl) ?_
  refine call_i0 (va_runV (As := [.int n1]) (rest := []) ⟨hx, hb, hml, hown, hts⟩ (c_X9_isPerson l D cI cZ o o_readPurses o_readDay o_purses o_daily o_text o_row o_tried o_days o_order o_bestOrder o_seenHad o_seenShared o_isKept o_keptPurses o_keptRow o_keptHad o_keptShared o_keptRest (Array.size s.heap) n1 v_readLaw v_readMany v_readMeetings v_law v_many v_meetings v_length v_at v_faultAt v_one v_other v_made v_leads v_rings v_seen _ h) (cwV 1 hts gX9_ruinAt_X9_isPerson rfl rfl rfl (by decide +kernel) ⟨Nat.le_of_ble_eq_true rfl, Nat.le_of_ble_eq_true rfl⟩) (preV_of hP hD hK [0] rfl rfl 0 9 rfl rfl rfl) rfl rfl hl.1 rfl (lv_room (Nat.le_of_ble_eq_true rfl)) dX9_ruinAt_2 ⟨Nat.zero_le _, Nat.zero_le _⟩) hP hD hS hA [0] rfl ((cw_X9_ruinAt cI cZ o o_readPurses o_readDay o_purses o_daily o_text o_row o_tried o_days o_order o_bestOrder o_seenHad o_seenShared o_isKept o_keptPurses o_keptRow o_keptHad o_keptShared o_keptRest v_readLaw v_readMany v_readMeetings v_law v_many v_meetings v_length v_at v_faultAt v_one v_other v_made v_leads v_rings v_seen a_purses a_order)) (rfl) (rfl) (fun r2 H locs h hP hD hS => ?_)
  refine lv_if_ne (tgt := 10) hx hb dX9_ruinAt_5 (by decide) (fun c5 => ?_) (fun c5 => ?_)
  · have h := h.1 c5
    refine lv_iload_n hx hb dX9_ruinAt_10 rfl (lv_at hl 2 rfl) ?_
    refine lv_i2l (v := (Int32.toInt64 n2)) hx hb dX9_ruinAt_11 rfl ?_
    refine lv_lconst (v := 0) hx hb dX9_ruinAt_12 (by decide) ?_
    refine lv_ldc2 (own := RX9) (index := 119) (v := 99999) hx hb hown (hts (.constantLong RX9 119 (99999)) (by decide +kernel)) dX9_ruinAt_13 ?_
    refine call_i0 (va_runS (As := [.long (Int32.toInt64 n2), .long (0 : Int64), .long (99999 : Int64)]) (rest := []) ⟨hx, hb, hml, hown, hts⟩ (c_X9_in l D cI cZ (Array.size H) (Int32.toInt64 n2) (0 : Int64) (99999 : Int64) _ h) (va_cwS 3 hts gX9_ruinAt_X9_in rfl rfl rfl (by decide +kernel) ⟨Nat.le_of_ble_eq_true rfl, Nat.le_of_ble_eq_true rfl⟩) (preS_of hP hD hK [] rfl rfl) rfl rfl hl.1 rfl (lv_room (Nat.le_of_ble_eq_true rfl)) dX9_ruinAt_16 ⟨Nat.zero_le _, Nat.zero_le _⟩) hP hD hS hA [] rfl ((cw_X9_ruinAt cI cZ o o_readPurses o_readDay o_purses o_daily o_text o_row o_tried o_days o_order o_bestOrder o_seenHad o_seenShared o_isKept o_keptPurses o_keptRow o_keptHad o_keptShared o_keptRest v_readLaw v_readMany v_readMeetings v_law v_many v_meetings v_length v_at v_faultAt v_one v_other v_made v_leads v_rings v_seen a_purses a_order)) (rfl) (rfl) (fun r16 H locs h hP hD hS => ?_)
    refine lv_if_ne (tgt := 25) hx hb dX9_ruinAt_19 (by decide) (fun c19 => ?_) (fun c19 => ?_)
    · have h := h.1 c19
      refine lv_iload_n hx hb dX9_ruinAt_25 rfl (lv_at hl 3 rfl) ?_
      refine lv_i2l (v := (Int32.toInt64 n3)) hx hb dX9_ruinAt_26 rfl ?_
      refine lv_lconst (v := 0) hx hb dX9_ruinAt_27 (by decide) ?_
      refine lv_aload_n hx hb dX9_ruinAt_28 rfl (lv_at hl 0 rfl) ?_
      refine lv_iload_n hx hb dX9_ruinAt_29 rfl (lv_at hl 1 rfl) ?_
      refine lv_iload_n hx hb dX9_ruinAt_30 rfl (lv_at hl 2 rfl) ?_
      refine call_i3 (va_runV (As := [.int n1, .int n2]) (rest := [.long (0 : Int64), .long (Int32.toInt64 n3)]) ⟨hx, hb, hml, hown, hts⟩ (c_X9_layRuin l D cI cZ o o_readPurses o_readDay o_purses o_daily o_text o_row o_tried o_days o_order o_bestOrder o_seenHad o_seenShared o_isKept o_keptPurses o_keptRow o_keptHad o_keptShared o_keptRest (Array.size H) n1 n2 v_readLaw v_readMany v_readMeetings v_law v_many v_meetings v_length v_at v_faultAt v_one v_other v_made v_leads v_rings v_seen a_purses a_order _ h) (cwV 2 hts gX9_ruinAt_X9_layRuin rfl rfl rfl (by decide +kernel) ⟨Nat.le_of_ble_eq_true rfl, Nat.le_of_ble_eq_true rfl⟩) (preV_of hP hD hK [0, 1, 2] rfl rfl 0 9 rfl rfl rfl) rfl rfl hl.1 rfl (lv_room (Nat.le_of_ble_eq_true rfl)) dX9_ruinAt_31 ⟨Nat.zero_le _, Nat.zero_le _⟩) hP hD hS hA [0, 1, 2] rfl (fun v_one_31 v_other_31 a_order_31 => (cw_X9_ruinAt cI cZ o o_readPurses o_readDay o_purses o_daily o_text o_row o_tried o_days o_order o_bestOrder o_seenHad o_seenShared o_isKept o_keptPurses o_keptRow o_keptHad o_keptShared o_keptRest v_readLaw v_readMany v_readMeetings v_law v_many v_meetings v_length v_at v_faultAt v_one_31 v_other_31 v_made v_leads v_rings v_seen a_purses a_order_31)) (fun _ _ _ => rfl) (fun _ _ _ => rfl) (fun r31 v_one_31 v_other_31 a_order_31 H locs h hP hD hS => ?_)
      refine lv_iconst (v := 1) hx hb dX9_ruinAt_34 (by decide) ?_
      refine lv_isub hx hb dX9_ruinAt_35 ?_
      refine lv_i2l (v := (Int32.toInt64 (r31 - (1 : Int32)))) hx hb dX9_ruinAt_36 rfl ?_
      refine call_i0 (va_runS (As := [.long (Int32.toInt64 n3), .long (0 : Int64), .long (Int32.toInt64 (r31 - (1 : Int32)))]) (rest := []) ⟨hx, hb, hml, hown, hts⟩ (c_X9_in l D cI cZ (Array.size H) (Int32.toInt64 n3) (0 : Int64) (Int32.toInt64 (r31 - (1 : Int32))) _ h) (va_cwS 3 hts gX9_ruinAt_X9_in rfl rfl rfl (by decide +kernel) ⟨Nat.le_of_ble_eq_true rfl, Nat.le_of_ble_eq_true rfl⟩) (preS_of hP hD hK [] rfl rfl) rfl rfl hl.1 rfl (lv_room (Nat.le_of_ble_eq_true rfl)) dX9_ruinAt_37 ⟨Nat.zero_le _, Nat.zero_le _⟩) hP hD hS hA [] rfl ((cw_X9_ruinAt cI cZ o o_readPurses o_readDay o_purses o_daily o_text o_row o_tried o_days o_order o_bestOrder o_seenHad o_seenShared o_isKept o_keptPurses o_keptRow o_keptHad o_keptShared o_keptRest v_readLaw v_readMany v_readMeetings v_law v_many v_meetings v_length v_at v_faultAt v_one_31 v_other_31 v_made v_leads v_rings v_seen a_purses a_order_31)) (rfl) (rfl) (fun r37 H locs h hP hD hS => ?_)
      refine lv_if_eq (tgt := 52) hx hb dX9_ruinAt_40 (by decide) (fun c40 => ?_) (fun c40 => ?_)
      · have h := h.1 c40
        refine lv_bipush (v := -9) hx hb dX9_ruinAt_52 (by decide) ?_
        exact ret_i3 hx hb hr hlocks hQ hS v_one_31 v_other_31 a_order_31 hP h dX9_ruinAt_54
      · have h := h.2 c40
        refine lv_aload_n hx hb dX9_ruinAt_43 rfl (lv_at hl 0 rfl) ?_
        refine va_get (D := D) (ci := 9) (v := .ref o_order) (C := RX9) (T := TX9) (N := 33) hx hb hts inw_X9_ruinAt_X9 hown hK.1 hP 0 rfl rfl 22 (by decide) (hts (.fieldLink RX9 34 "PursesShareModel" "order" "[I") (by decide +kernel)) (fun _ h9 => h9) rfl dX9_ruinAt_44 ?_
        refine lv_iload_n hx hb dX9_ruinAt_47 rfl (lv_at hl 3 rfl) ?_
        have h0 := h.1
        have h := h.2
        refine va_iald hx hb hK.1 hP 2 0 rfl rfl h0 dX9_ruinAt_48 ?_
        refine lv_goto (tgt := 54) hx hb dX9_ruinAt_49 (by decide) ?_
        exact ret_i3 hx hb hr hlocks hQ hS v_one_31 v_other_31 a_order_31 hP h dX9_ruinAt_54
    · have h := h.2 c19
      refine lv_bipush (v := -2) hx hb dX9_ruinAt_22 (by decide) ?_
      exact ret_i3 hx hb hr hlocks hQ hS v_one v_other a_order hP h dX9_ruinAt_24
  · have h := h.2 c5
    refine lv_iconst (v := -1) hx hb dX9_ruinAt_8 (by decide) ?_
    exact ret_i3 hx hb hr hlocks hQ hS v_one v_other a_order hP h dX9_ruinAt_9
abbrev rm_X9_coin : Room := { frames := 1, cells := 0, slots := 0, locals := 23 }
abbrev cw_X9_coin (cI cZ : ClassId) (o o_readPurses o_readDay o_purses o_daily o_text o_row o_tried o_days o_order o_bestOrder o_seenHad o_seenShared o_isKept o_keptPurses o_keptRow o_keptHad o_keptShared o_keptRest : Nat) (v_readLaw : Int32) (v_readMany : Int32) (v_readMeetings : Int32) (v_law : Int32) (v_many : Int32) (v_meetings : Int32) (v_length : Int32) (v_at : Int32) (v_faultAt : Int32) (v_one : Int32) (v_other : Int32) (v_made : Int32) (v_leads : Int32) (v_rings : Int32) (v_seen : Int32) (a_purses : Nat → Int32) : va_W := [(o, .inr (9, [.ref o_readPurses, .ref o_readDay, .int v_readLaw, .int v_readMany, .int v_readMeetings, .ref o_purses, .ref o_daily, .int v_law, .int v_many, .int v_meetings, .ref o_text, .int v_length, .int v_at, .int v_faultAt, .int v_one, .int v_other, .int v_made, .ref o_row, .ref o_tried, .int v_leads, .int v_rings, .ref o_days, .ref o_order, .ref o_bestOrder, .int v_seen, .ref o_seenHad, .ref o_seenShared, .ref o_isKept, .ref o_keptPurses, .ref o_keptRow, .ref o_keptHad, .ref o_keptShared, .ref o_keptRest])), (o_purses, .inl (cI, 8, .inl a_purses))]
theorem inw_X9_coin_X9 : ∀ w ∈ u_ws RX9 TX9 33, w ∈ wsX9_coin := by decide +kernel
def wp_X9_coin (v_many : Int32) (a_purses : Nat → Int32) (Post : Int32 → Prop) : Prop := (∀ k4 : (Int32) → (Int32) → Prop, (∀ (x2_4 : Int32) (x1_4 : Int32), ((v_many ≤ x2_4 → (Post x1_4)) ∧ (¬ v_many ≤ x2_4 → ((¬ x1_4 = 0 → (vp_in x2_4 8 ∧ ((¬ (a_purses (Int32.toNatClampNeg x2_4)) = 0 → (vp_in x2_4 8 ∧ (wp_X9_sharedBy x1_4 (a_purses (Int32.toNatClampNeg x2_4)) (fun (r45 : Int32) => (k4 (x2_4 + 1) r45))))) ∧ ((a_purses (Int32.toNatClampNeg x2_4)) = 0 → (k4 (x2_4 + 1) x1_4))))) ∧ (x1_4 = 0 → (vp_in x2_4 8 ∧ (k4 (x2_4 + 1) (a_purses (Int32.toNatClampNeg x2_4)))))))) → k4 x2_4 x1_4) → k4 (0 : Int32) (0 : Int32))
set_option maxHeartbeats 4000000 in
set_option maxRecDepth 100000 in
theorem c_X9_coin (l : Launch) (D : va_G) (cI cZ : ClassId) (o o_readPurses o_readDay o_purses o_daily o_text o_row o_tried o_days o_order o_bestOrder o_seenHad o_seenShared o_isKept o_keptPurses o_keptRow o_keptHad o_keptShared o_keptRest : Nat) (sz : Nat) (v_readLaw : Int32) (v_readMany : Int32) (v_readMeetings : Int32) (v_law : Int32) (v_many : Int32) (v_meetings : Int32) (v_length : Int32) (v_at : Int32) (v_faultAt : Int32) (v_one : Int32) (v_other : Int32) (v_made : Int32) (v_leads : Int32) (v_rings : Int32) (v_seen : Int32) (a_purses : Nat → Int32) (Post : Int32 → Prop) (h : wp_X9_coin v_many a_purses Post) : Met l yX9_coin wsX9_coin rm_X9_coin (cPc D cI cZ [.ref o] (cw_X9_coin cI cZ o o_readPurses o_readDay o_purses o_daily o_text o_row o_tried o_days o_order o_bestOrder o_seenHad o_seenShared o_isKept o_keptPurses o_keptRow o_keptHad o_keptShared o_keptRest v_readLaw v_readMany v_readMeetings v_law v_many v_meetings v_length v_at v_faultAt v_one v_other v_made v_leads v_rings v_seen a_purses) sz) (cQi0 D Post ((cw_X9_coin cI cZ o o_readPurses o_readDay o_purses o_daily o_text o_row o_tried o_days o_order o_bestOrder o_seenHad o_seenShared o_isKept o_keptPurses o_keptRow o_keptHad o_keptShared o_keptRest v_readLaw v_readMany v_readMeetings v_law v_many v_meetings v_length v_at v_faultAt v_one v_other v_made v_leads v_rings v_seen a_purses)) (va_A (cw_X9_coin cI cZ o o_readPurses o_readDay o_purses o_daily o_text o_row o_tried o_days o_order o_bestOrder o_seenHad o_seenShared o_isKept o_keptPurses o_keptRow o_keptHad o_keptShared o_keptRest v_readLaw v_readMany v_readMeetings v_law v_many v_meetings v_length v_at v_faultAt v_one v_other v_made v_leads v_rings v_seen a_purses) sz)) 0 0 (va_A (cw_X9_coin cI cZ o o_readPurses o_readDay o_purses o_daily o_text o_row o_tried o_days o_order o_bestOrder o_seenHad o_seenShared o_isKept o_keptPurses o_keptRow o_keptHad o_keptShared o_keptRest v_readLaw v_readMany v_readMeetings v_law v_many v_meetings v_length v_at v_faultAt v_one v_other v_made v_leads v_rings v_seen a_purses) sz) := by
  refine ent (cc := cX9_coin) (maxL := 3) (ret := (some .int)) (Qc := fun A => cQi0 D Post ((cw_X9_coin cI cZ o o_readPurses o_readDay o_purses o_daily o_text o_row o_tried o_days o_order o_bestOrder o_seenHad o_seenShared o_isKept o_keptPurses o_keptRow o_keptHad o_keptShared o_keptRest v_readLaw v_readMany v_readMeetings v_law v_many v_meetings v_length v_at v_faultAt v_one v_other v_made v_leads v_rings v_seen a_purses)) A) (by decide) rfl (Nat.le_of_ble_eq_true rfl) ?_
  intro p e s m args below meth c A ls Q hQ hsz hx hb hml hr hts hown hlocks hnm hK hP hD hA hS hl
  have hl : lv_has ls 3 [(0, .ref o)] := hl
  unfold wp_X9_coin at h
  refine lv_iconst (v := 0) hx hb dX9_coin_0 (by decide) ?_
  refine lv_istore_n (lv' := [(1, .int (0 : Int32)), (0, .ref o)]) hx hb dX9_coin_1 rfl hl (by decide) rfl (fun ls hl => ?_)
  refine lv_iconst (v := 0) hx hb dX9_coin_2 (by decide) ?_
  refine lv_istore_n (lv' := [(2, .int (0 : Int32)), (1, .int (0 : Int32)), (0, .ref o)]) hx hb dX9_coin_3 rfl hl (by decide) rfl (fun ls hl => ?_)
  refine h (fun x2_4 x1_4 => ∀ (H : Heap) (locs : List Loc) (ls : Array Slot), lv_has ls 3 [(0, .ref o), (1, .int x1_4), (2, .int x2_4)] → va_P D vwCl (cw_X9_coin cI cZ o o_readPurses o_readDay o_purses o_daily o_text o_row o_tried o_days o_order o_bestOrder o_seenHad o_seenShared o_isKept o_keptPurses o_keptRow o_keptHad o_keptShared o_keptRest v_readLaw v_readMany v_readMeetings v_law v_many v_meetings v_length v_at v_faultAt v_one v_other v_made v_leads v_rings v_seen a_purses) H → va_D A (cw_X9_coin cI cZ o o_readPurses o_readDay o_purses o_daily o_text o_row o_tried o_days o_order o_bestOrder o_seenHad o_seenShared o_isKept o_keptPurses o_keptRow o_keptHad o_keptShared o_keptRest v_readLaw v_readMany v_readMeetings v_law v_many v_meetings v_length v_at v_faultAt v_one v_other v_made v_leads v_rings v_seen a_purses) → va_S A s.heap H locs → W p l e rm_X9_coin s m args below meth c H locs 0 0 Q (F0 m 4 ls [])) ?_ s.heap [] ls (lv_sub hl [2, 1, 0] rfl) hP hD hS
  intro x2_4 x1_4 h H locs ls hl hP hD hS
  refine lv_iload_n hx hb dX9_coin_4 rfl (lv_at hl 2 rfl) ?_
  refine lv_aload_n hx hb dX9_coin_5 rfl (lv_at hl 0 rfl) ?_
  refine va_get (D := D) (ci := 9) (v := .int v_many) (C := RX9) (T := TX9) (N := 33) hx hb hts inw_X9_coin_X9 hown hK.1 hP 0 rfl rfl 8 (by decide) (hts (.fieldLink RX9 65 "PursesShareModel" "many" "I") (by decide +kernel)) (fun _ h9 => h9) rfl dX9_coin_6 ?_
  refine lv_icmp_ge (tgt := 55) hx hb dX9_coin_9 (by decide) (fun c9 => ?_) (fun c9 => ?_)
  · have h := h.1 c9
    refine lv_iload_n hx hb dX9_coin_55 rfl (lv_at hl 1 rfl) ?_
    exact ret_i0 hx hb hr hlocks hQ hS  hP h dX9_coin_56
  · have h := h.2 c9
    refine lv_iload_n hx hb dX9_coin_12 rfl (lv_at hl 1 rfl) ?_
    refine lv_if_ne (tgt := 25) hx hb dX9_coin_13 (by decide) (fun c13 => ?_) (fun c13 => ?_)
    · have h := h.1 c13
      refine lv_aload_n hx hb dX9_coin_25 rfl (lv_at hl 0 rfl) ?_
      refine va_get (D := D) (ci := 9) (v := .ref o_purses) (C := RX9) (T := TX9) (N := 33) hx hb hts inw_X9_coin_X9 hown hK.1 hP 0 rfl rfl 5 (by decide) (hts (.fieldLink RX9 16 "PursesShareModel" "purses" "[I") (by decide +kernel)) (fun _ h9 => h9) rfl dX9_coin_26 ?_
      refine lv_iload_n hx hb dX9_coin_29 rfl (lv_at hl 2 rfl) ?_
      have h0 := h.1
      have h := h.2
      refine va_iald hx hb hK.1 hP 1 0 rfl rfl h0 dX9_coin_30 ?_
      refine lv_if_ne (tgt := 38) hx hb dX9_coin_31 (by decide) (fun c31 => ?_) (fun c31 => ?_)
      · have h := h.1 c31
        refine lv_iload_n hx hb dX9_coin_38 rfl (lv_at hl 1 rfl) ?_
        refine lv_aload_n hx hb dX9_coin_39 rfl (lv_at hl 0 rfl) ?_
        refine va_get (D := D) (ci := 9) (v := .ref o_purses) (C := RX9) (T := TX9) (N := 33) hx hb hts inw_X9_coin_X9 hown hK.1 hP 0 rfl rfl 5 (by decide) (hts (.fieldLink RX9 16 "PursesShareModel" "purses" "[I") (by decide +kernel)) (fun _ h9 => h9) rfl dX9_coin_40 ?_
        refine lv_iload_n hx hb dX9_coin_43 rfl (lv_at hl 2 rfl) ?_
        have h0 := h.1
        have h := h.2
        refine va_iald hx hb hK.1 hP 1 0 rfl rfl h0 dX9_coin_44 ?_
        refine call_i0 (va_runS (As := [.int x1_4, .int (a_purses (Int32.toNatClampNeg x2_4))]) (rest := []) ⟨hx, hb, hml, hown, hts⟩ (c_X9_sharedBy l D cI cZ (Array.size H) x1_4 (a_purses (Int32.toNatClampNeg x2_4)) _ h) (va_cwS 2 hts gX9_coin_X9_sharedBy rfl rfl rfl (by decide +kernel) ⟨Nat.le_of_ble_eq_true rfl, Nat.le_of_ble_eq_true rfl⟩) (preS_of hP hD hK [] rfl rfl) rfl rfl hl.1 rfl (lv_room (Nat.le_of_ble_eq_true rfl)) dX9_coin_45 ⟨Nat.zero_le _, Nat.zero_le _⟩) hP hD hS hA [] rfl ((cw_X9_coin cI cZ o o_readPurses o_readDay o_purses o_daily o_text o_row o_tried o_days o_order o_bestOrder o_seenHad o_seenShared o_isKept o_keptPurses o_keptRow o_keptHad o_keptShared o_keptRest v_readLaw v_readMany v_readMeetings v_law v_many v_meetings v_length v_at v_faultAt v_one v_other v_made v_leads v_rings v_seen a_purses)) (rfl) (rfl) (fun r45 H locs h hP hD hS => ?_)
        refine lv_istore_n (lv' := [(1, .int r45), (0, .ref o), (2, .int x2_4)]) hx hb dX9_coin_48 rfl hl (by decide) rfl (fun ls hl => ?_)
        refine lv_iinc (v := (x2_4 + 1)) (lv' := [(2, .int (x2_4 + 1)), (1, .int r45), (0, .ref o)]) hx hb dX9_coin_49 hl (k := 2) rfl rfl (by decide) rfl (fun ls hl => ?_)
        refine lv_goto (tgt := 4) hx hb dX9_coin_52 (by decide) ?_
        exact h H locs ls (lv_sub hl [2, 1, 0] rfl) hP hD hS
      · have h := h.2 c31
        refine lv_iload_n hx hb dX9_coin_34 rfl (lv_at hl 1 rfl) ?_
        refine lv_goto (tgt := 48) hx hb dX9_coin_35 (by decide) ?_
        refine lv_istore_n (lv' := [(1, .int x1_4), (0, .ref o), (2, .int x2_4)]) hx hb dX9_coin_48 rfl hl (by decide) rfl (fun ls hl => ?_)
        refine lv_iinc (v := (x2_4 + 1)) (lv' := [(2, .int (x2_4 + 1)), (1, .int x1_4), (0, .ref o)]) hx hb dX9_coin_49 hl (k := 2) rfl rfl (by decide) rfl (fun ls hl => ?_)
        refine lv_goto (tgt := 4) hx hb dX9_coin_52 (by decide) ?_
        exact h H locs ls (lv_sub hl [2, 1, 0] rfl) hP hD hS
    · have h := h.2 c13
      refine lv_aload_n hx hb dX9_coin_16 rfl (lv_at hl 0 rfl) ?_
      refine va_get (D := D) (ci := 9) (v := .ref o_purses) (C := RX9) (T := TX9) (N := 33) hx hb hts inw_X9_coin_X9 hown hK.1 hP 0 rfl rfl 5 (by decide) (hts (.fieldLink RX9 16 "PursesShareModel" "purses" "[I") (by decide +kernel)) (fun _ h9 => h9) rfl dX9_coin_17 ?_
      refine lv_iload_n hx hb dX9_coin_20 rfl (lv_at hl 2 rfl) ?_
      have h0 := h.1
      have h := h.2
      refine va_iald hx hb hK.1 hP 1 0 rfl rfl h0 dX9_coin_21 ?_
      refine lv_goto (tgt := 48) hx hb dX9_coin_22 (by decide) ?_
      refine lv_istore_n (lv' := [(1, .int (a_purses (Int32.toNatClampNeg x2_4))), (0, .ref o), (2, .int x2_4)]) hx hb dX9_coin_48 rfl hl (by decide) rfl (fun ls hl => ?_)
      refine lv_iinc (v := (x2_4 + 1)) (lv' := [(2, .int (x2_4 + 1)), (1, .int (a_purses (Int32.toNatClampNeg x2_4))), (0, .ref o)]) hx hb dX9_coin_49 hl (k := 2) rfl rfl (by decide) rfl (fun ls hl => ?_)
      refine lv_goto (tgt := 4) hx hb dX9_coin_52 (by decide) ?_
      exact h H locs ls (lv_sub hl [2, 1, 0] rfl) hP hD hS
abbrev rm_X9_isPrime : Room := { frames := 0, cells := 0, slots := 0, locals := 0 }
abbrev cw_X9_isPrime (cI cZ : ClassId)  : va_W := []
def wp_X9_isPrime (n1 : Int32) (Post : Int32 → Prop) : Prop := ((n1 ≤ (1 : Int32) → (∀ k13 : (Int32) → (Int32) → Prop, (∀ (x2_13 : Int32) (x1_13 : Int32), ((n1 < (x2_13 * x2_13) → (x1_13 &&& 1 = x1_13 ∧ (Post x1_13))) ∧ (¬ n1 < (x2_13 * x2_13) → ((x1_13 = 0 → (x1_13 &&& 1 = x1_13 ∧ (Post x1_13))) ∧ (¬ x1_13 = 0 → (¬ x2_13 = 0 ∧ (((n1 - n1 / x2_13 * x2_13) = 0 → (k13 (x2_13 + 1) (0 : Int32))) ∧ (¬ (n1 - n1 / x2_13 * x2_13) = 0 → (k13 (x2_13 + 1) (1 : Int32))))))))) → k13 x2_13 x1_13) → k13 (2 : Int32) (0 : Int32))) ∧ (¬ n1 ≤ (1 : Int32) → (∀ k13 : (Int32) → (Int32) → Prop, (∀ (x2_13 : Int32) (x1_13 : Int32), ((n1 < (x2_13 * x2_13) → (x1_13 &&& 1 = x1_13 ∧ (Post x1_13))) ∧ (¬ n1 < (x2_13 * x2_13) → ((x1_13 = 0 → (x1_13 &&& 1 = x1_13 ∧ (Post x1_13))) ∧ (¬ x1_13 = 0 → (¬ x2_13 = 0 ∧ (((n1 - n1 / x2_13 * x2_13) = 0 → (k13 (x2_13 + 1) (0 : Int32))) ∧ (¬ (n1 - n1 / x2_13 * x2_13) = 0 → (k13 (x2_13 + 1) (1 : Int32))))))))) → k13 x2_13 x1_13) → k13 (2 : Int32) (1 : Int32))))
set_option maxHeartbeats 4000000 in
set_option maxRecDepth 100000 in
theorem c_X9_isPrime (l : Launch) (D : va_G) (cI cZ : ClassId) (sz : Nat) (n1 : Int32) (Post : Int32 → Prop) (h : wp_X9_isPrime n1 Post) : Met l yX9_isPrime wsX9_isPrime rm_X9_isPrime (cPc D cI cZ [.int n1] (cw_X9_isPrime cI cZ) sz) (cQi0 D Post ((cw_X9_isPrime cI cZ)) (va_A (cw_X9_isPrime cI cZ) sz)) 0 0 (va_A (cw_X9_isPrime cI cZ) sz) := by
  refine ent (cc := cX9_isPrime) (maxL := 3) (ret := (some .boolean)) (Qc := fun A => cQi0 D Post ((cw_X9_isPrime cI cZ)) A) (by decide) rfl (Nat.le_of_ble_eq_true rfl) ?_
  intro p e s m args below meth c A ls Q hQ hsz hx hb hml hr hts hown hlocks hnm hK hP hD hA hS hl
  have hl : lv_has ls 3 [(0, .int n1)] := hl
  unfold wp_X9_isPrime at h
  refine lv_iload_n hx hb dX9_isPrime_0 rfl (lv_at hl 0 rfl) ?_
  refine lv_iconst (v := 1) hx hb dX9_isPrime_1 (by decide) ?_
  refine lv_icmp_le (tgt := 9) hx hb dX9_isPrime_2 (by decide) (fun c2 => ?_) (fun c2 => ?_)
  · have h := h.1 c2
    refine lv_iconst (v := 0) hx hb dX9_isPrime_9 (by decide) ?_
    refine lv_istore_n (lv' := [(1, .int (0 : Int32)), (0, .int n1)]) hx hb dX9_isPrime_10 rfl hl (by decide) rfl (fun ls hl => ?_)
    refine lv_iconst (v := 2) hx hb dX9_isPrime_11 (by decide) ?_
    refine lv_istore_n (lv' := [(2, .int (2 : Int32)), (1, .int (0 : Int32)), (0, .int n1)]) hx hb dX9_isPrime_12 rfl hl (by decide) rfl (fun ls hl => ?_)
    refine h (fun x2_13 x1_13 => ∀ (H : Heap) (locs : List Loc) (ls : Array Slot), lv_has ls 3 [(0, .int n1), (1, .int x1_13), (2, .int x2_13)] → va_P D vwCl (cw_X9_isPrime cI cZ) H → va_D A (cw_X9_isPrime cI cZ) → va_S A s.heap H locs → W p l e rm_X9_isPrime s m args below meth c H locs 0 0 Q (F0 m 13 ls [])) ?_ s.heap [] ls (lv_sub hl [2, 1, 0] rfl) hP hD hS
    intro x2_13 x1_13 h H locs ls hl hP hD hS
    refine lv_iload_n hx hb dX9_isPrime_13 rfl (lv_at hl 2 rfl) ?_
    refine lv_iload_n hx hb dX9_isPrime_14 rfl (lv_at hl 2 rfl) ?_
    refine lv_imul hx hb dX9_isPrime_15 ?_
    refine lv_iload_n hx hb dX9_isPrime_16 rfl (lv_at hl 0 rfl) ?_
    refine lv_icmp_gt (tgt := 42) hx hb dX9_isPrime_17 (by decide) (fun c17 => ?_) (fun c17 => ?_)
    · have h := h.1 c17
      refine lv_iload_n hx hb dX9_isPrime_42 rfl (lv_at hl 1 rfl) ?_
      have hz := h.1
      have h := h.2
      exact ret_z0 hx hb hr hlocks hQ hS hz  hP h dX9_isPrime_43
    · have h := h.2 c17
      refine lv_iload_n hx hb dX9_isPrime_20 rfl (lv_at hl 1 rfl) ?_
      refine lv_if_eq (tgt := 42) hx hb dX9_isPrime_21 (by decide) (fun c21 => ?_) (fun c21 => ?_)
      · have h := h.1 c21
        refine lv_iload_n hx hb dX9_isPrime_42 rfl (lv_at hl 1 rfl) ?_
        have hz := h.1
        have h := h.2
        exact ret_z0 hx hb hr hlocks hQ hS hz  hP h dX9_isPrime_43
      · have h := h.2 c21
        refine lv_iload_n hx hb dX9_isPrime_24 rfl (lv_at hl 0 rfl) ?_
        refine lv_iload_n hx hb dX9_isPrime_25 rfl (lv_at hl 2 rfl) ?_
        have h0 := h.1
        have h := h.2
        refine lv_irem hx hb dX9_isPrime_26 h0 ?_
        refine lv_if_eq (tgt := 34) hx hb dX9_isPrime_27 (by decide) (fun c27 => ?_) (fun c27 => ?_)
        · have h := h.1 c27
          refine lv_iconst (v := 0) hx hb dX9_isPrime_34 (by decide) ?_
          refine lv_istore_n (lv' := [(1, .int (0 : Int32)), (0, .int n1), (2, .int x2_13)]) hx hb dX9_isPrime_35 rfl hl (by decide) rfl (fun ls hl => ?_)
          refine lv_iinc (v := (x2_13 + 1)) (lv' := [(2, .int (x2_13 + 1)), (1, .int (0 : Int32)), (0, .int n1)]) hx hb dX9_isPrime_36 hl (k := 2) rfl rfl (by decide) rfl (fun ls hl => ?_)
          refine lv_goto (tgt := 13) hx hb dX9_isPrime_39 (by decide) ?_
          exact h H locs ls (lv_sub hl [2, 1, 0] rfl) hP hD hS
        · have h := h.2 c27
          refine lv_iconst (v := 1) hx hb dX9_isPrime_30 (by decide) ?_
          refine lv_goto (tgt := 35) hx hb dX9_isPrime_31 (by decide) ?_
          refine lv_istore_n (lv' := [(1, .int (1 : Int32)), (0, .int n1), (2, .int x2_13)]) hx hb dX9_isPrime_35 rfl hl (by decide) rfl (fun ls hl => ?_)
          refine lv_iinc (v := (x2_13 + 1)) (lv' := [(2, .int (x2_13 + 1)), (1, .int (1 : Int32)), (0, .int n1)]) hx hb dX9_isPrime_36 hl (k := 2) rfl rfl (by decide) rfl (fun ls hl => ?_)
          refine lv_goto (tgt := 13) hx hb dX9_isPrime_39 (by decide) ?_
          exact h H locs ls (lv_sub hl [2, 1, 0] rfl) hP hD hS
  · have h := h.2 c2
    refine lv_iconst (v := 1) hx hb dX9_isPrime_5 (by decide) ?_
    refine lv_goto (tgt := 10) hx hb dX9_isPrime_6 (by decide) ?_
    refine lv_istore_n (lv' := [(1, .int (1 : Int32)), (0, .int n1)]) hx hb dX9_isPrime_10 rfl hl (by decide) rfl (fun ls hl => ?_)
    refine lv_iconst (v := 2) hx hb dX9_isPrime_11 (by decide) ?_
    refine lv_istore_n (lv' := [(2, .int (2 : Int32)), (1, .int (1 : Int32)), (0, .int n1)]) hx hb dX9_isPrime_12 rfl hl (by decide) rfl (fun ls hl => ?_)
    refine h (fun x2_13 x1_13 => ∀ (H : Heap) (locs : List Loc) (ls : Array Slot), lv_has ls 3 [(0, .int n1), (1, .int x1_13), (2, .int x2_13)] → va_P D vwCl (cw_X9_isPrime cI cZ) H → va_D A (cw_X9_isPrime cI cZ) → va_S A s.heap H locs → W p l e rm_X9_isPrime s m args below meth c H locs 0 0 Q (F0 m 13 ls [])) ?_ s.heap [] ls (lv_sub hl [2, 1, 0] rfl) hP hD hS
    intro x2_13 x1_13 h H locs ls hl hP hD hS
    refine lv_iload_n hx hb dX9_isPrime_13 rfl (lv_at hl 2 rfl) ?_
    refine lv_iload_n hx hb dX9_isPrime_14 rfl (lv_at hl 2 rfl) ?_
    refine lv_imul hx hb dX9_isPrime_15 ?_
    refine lv_iload_n hx hb dX9_isPrime_16 rfl (lv_at hl 0 rfl) ?_
    refine lv_icmp_gt (tgt := 42) hx hb dX9_isPrime_17 (by decide) (fun c17 => ?_) (fun c17 => ?_)
    · have h := h.1 c17
      refine lv_iload_n hx hb dX9_isPrime_42 rfl (lv_at hl 1 rfl) ?_
      have hz := h.1
      have h := h.2
      exact ret_z0 hx hb hr hlocks hQ hS hz  hP h dX9_isPrime_43
    · have h := h.2 c17
      refine lv_iload_n hx hb dX9_isPrime_20 rfl (lv_at hl 1 rfl) ?_
      refine lv_if_eq (tgt := 42) hx hb dX9_isPrime_21 (by decide) (fun c21 => ?_) (fun c21 => ?_)
      · have h := h.1 c21
        refine lv_iload_n hx hb dX9_isPrime_42 rfl (lv_at hl 1 rfl) ?_
        have hz := h.1
        have h := h.2
        exact ret_z0 hx hb hr hlocks hQ hS hz  hP h dX9_isPrime_43
      · have h := h.2 c21
        refine lv_iload_n hx hb dX9_isPrime_24 rfl (lv_at hl 0 rfl) ?_
        refine lv_iload_n hx hb dX9_isPrime_25 rfl (lv_at hl 2 rfl) ?_
        have h0 := h.1
        have h := h.2
        refine lv_irem hx hb dX9_isPrime_26 h0 ?_
        refine lv_if_eq (tgt := 34) hx hb dX9_isPrime_27 (by decide) (fun c27 => ?_) (fun c27 => ?_)
        · have h := h.1 c27
          refine lv_iconst (v := 0) hx hb dX9_isPrime_34 (by decide) ?_
          refine lv_istore_n (lv' := [(1, .int (0 : Int32)), (0, .int n1), (2, .int x2_13)]) hx hb dX9_isPrime_35 rfl hl (by decide) rfl (fun ls hl => ?_)
          refine lv_iinc (v := (x2_13 + 1)) (lv' := [(2, .int (x2_13 + 1)), (1, .int (0 : Int32)), (0, .int n1)]) hx hb dX9_isPrime_36 hl (k := 2) rfl rfl (by decide) rfl (fun ls hl => ?_)
          refine lv_goto (tgt := 13) hx hb dX9_isPrime_39 (by decide) ?_
          exact h H locs ls (lv_sub hl [2, 1, 0] rfl) hP hD hS
        · have h := h.2 c27
          refine lv_iconst (v := 1) hx hb dX9_isPrime_30 (by decide) ?_
          refine lv_goto (tgt := 35) hx hb dX9_isPrime_31 (by decide) ?_
          refine lv_istore_n (lv' := [(1, .int (1 : Int32)), (0, .int n1), (2, .int x2_13)]) hx hb dX9_isPrime_35 rfl hl (by decide) rfl (fun ls hl => ?_)
          refine lv_iinc (v := (x2_13 + 1)) (lv' := [(2, .int (x2_13 + 1)), (1, .int (1 : Int32)), (0, .int n1)]) hx hb dX9_isPrime_36 hl (k := 2) rfl rfl (by decide) rfl (fun ls hl => ?_)
          refine lv_goto (tgt := 13) hx hb dX9_isPrime_39 (by decide) ?_
          exact h H locs ls (lv_sub hl [2, 1, 0] rfl) hP hD hS
abbrev rm_X9_charm : Room := { frames := 2, cells := 0, slots := 0, locals := 46 }
abbrev cw_X9_charm (cI cZ : ClassId) (o o_readPurses o_readDay o_purses o_daily o_text o_row o_tried o_days o_order o_bestOrder o_seenHad o_seenShared o_isKept o_keptPurses o_keptRow o_keptHad o_keptShared o_keptRest : Nat) (v_readLaw : Int32) (v_readMany : Int32) (v_readMeetings : Int32) (v_law : Int32) (v_many : Int32) (v_meetings : Int32) (v_length : Int32) (v_at : Int32) (v_faultAt : Int32) (v_one : Int32) (v_other : Int32) (v_made : Int32) (v_leads : Int32) (v_rings : Int32) (v_seen : Int32) (a_purses : Nat → Int32) : va_W := [(o, .inr (9, [.ref o_readPurses, .ref o_readDay, .int v_readLaw, .int v_readMany, .int v_readMeetings, .ref o_purses, .ref o_daily, .int v_law, .int v_many, .int v_meetings, .ref o_text, .int v_length, .int v_at, .int v_faultAt, .int v_one, .int v_other, .int v_made, .ref o_row, .ref o_tried, .int v_leads, .int v_rings, .ref o_days, .ref o_order, .ref o_bestOrder, .int v_seen, .ref o_seenHad, .ref o_seenShared, .ref o_isKept, .ref o_keptPurses, .ref o_keptRow, .ref o_keptHad, .ref o_keptShared, .ref o_keptRest])), (o_purses, .inl (cI, 8, .inl a_purses))]
theorem inw_X9_charm_X9 : ∀ w ∈ u_ws RX9 TX9 33, w ∈ wsX9_charm := by decide +kernel
def wp_X9_charm (n1 : Int32) (v_many : Int32) (a_purses : Nat → Int32) (Post : Int32 → Prop) : Prop := (wp_X9_isPerson n1 v_many (fun (r2 : Int32) => ((¬ r2 = 0 → (∀ k12 : (Int32) → Prop, (∀ (x2_12 : Int32), (vp_in n1 8 ∧ (wp_X9_isPrime ((a_purses (Int32.toNatClampNeg n1)) + x2_12) (fun (r20 : Int32) => ((¬ r20 = 0 → (Post x2_12)) ∧ (r20 = 0 → (k12 (x2_12 + 1))))))) → k12 x2_12) → k12 (0 : Int32))) ∧ (r2 = 0 → (Post (-1 : Int32))))))
set_option maxHeartbeats 4000000 in
set_option maxRecDepth 100000 in
theorem c_X9_charm (l : Launch) (D : va_G) (cI cZ : ClassId) (o o_readPurses o_readDay o_purses o_daily o_text o_row o_tried o_days o_order o_bestOrder o_seenHad o_seenShared o_isKept o_keptPurses o_keptRow o_keptHad o_keptShared o_keptRest : Nat) (sz : Nat) (n1 : Int32) (v_readLaw : Int32) (v_readMany : Int32) (v_readMeetings : Int32) (v_law : Int32) (v_many : Int32) (v_meetings : Int32) (v_length : Int32) (v_at : Int32) (v_faultAt : Int32) (v_one : Int32) (v_other : Int32) (v_made : Int32) (v_leads : Int32) (v_rings : Int32) (v_seen : Int32) (a_purses : Nat → Int32) (Post : Int32 → Prop) (h : wp_X9_charm n1 v_many a_purses Post) : Met l yX9_charm wsX9_charm rm_X9_charm (cPc D cI cZ [.ref o, .int n1] (cw_X9_charm cI cZ o o_readPurses o_readDay o_purses o_daily o_text o_row o_tried o_days o_order o_bestOrder o_seenHad o_seenShared o_isKept o_keptPurses o_keptRow o_keptHad o_keptShared o_keptRest v_readLaw v_readMany v_readMeetings v_law v_many v_meetings v_length v_at v_faultAt v_one v_other v_made v_leads v_rings v_seen a_purses) sz) (cQi0 D Post ((cw_X9_charm cI cZ o o_readPurses o_readDay o_purses o_daily o_text o_row o_tried o_days o_order o_bestOrder o_seenHad o_seenShared o_isKept o_keptPurses o_keptRow o_keptHad o_keptShared o_keptRest v_readLaw v_readMany v_readMeetings v_law v_many v_meetings v_length v_at v_faultAt v_one v_other v_made v_leads v_rings v_seen a_purses)) (va_A (cw_X9_charm cI cZ o o_readPurses o_readDay o_purses o_daily o_text o_row o_tried o_days o_order o_bestOrder o_seenHad o_seenShared o_isKept o_keptPurses o_keptRow o_keptHad o_keptShared o_keptRest v_readLaw v_readMany v_readMeetings v_law v_many v_meetings v_length v_at v_faultAt v_one v_other v_made v_leads v_rings v_seen a_purses) sz)) 0 0 (va_A (cw_X9_charm cI cZ o o_readPurses o_readDay o_purses o_daily o_text o_row o_tried o_days o_order o_bestOrder o_seenHad o_seenShared o_isKept o_keptPurses o_keptRow o_keptHad o_keptShared o_keptRest v_readLaw v_readMany v_readMeetings v_law v_many v_meetings v_length v_at v_faultAt v_one v_other v_made v_leads v_rings v_seen a_purses) sz) := by
  refine ent (cc := cX9_charm) (maxL := 3) (ret := (some .int)) (Qc := fun A => cQi0 D Post ((cw_X9_charm cI cZ o o_readPurses o_readDay o_purses o_daily o_text o_row o_tried o_days o_order o_bestOrder o_seenHad o_seenShared o_isKept o_keptPurses o_keptRow o_keptHad o_keptShared o_keptRest v_readLaw v_readMany v_readMeetings v_law v_many v_meetings v_length v_at v_faultAt v_one v_other v_made v_leads v_rings v_seen a_purses)) A) (by decide) rfl (Nat.le_of_ble_eq_true rfl) ?_
  intro p e s m args below meth c A ls Q hQ hsz hx hb hml hr hts hown hlocks hnm hK hP hD hA hS hl
  have hl : lv_has ls 3 [(0, .ref o), (1, .int n1)] := hl
  unfold wp_X9_charm at h
  refine lv_aload_n hx hb dX9_charm_0 rfl (lv_at hl 0 rfl) ?_
  refine lv_iload_n hx hb dX9_charm_1 rfl (lv_at hl 1 rfl) ?_
  refine call_i0 (va_runV (As := [.int n1]) (rest := []) ⟨hx, hb, hml, hown, hts⟩ (c_X9_isPerson l D cI cZ o o_readPurses o_readDay o_purses o_daily o_text o_row o_tried o_days o_order o_bestOrder o_seenHad o_seenShared o_isKept o_keptPurses o_keptRow o_keptHad o_keptShared o_keptRest (Array.size s.heap) n1 v_readLaw v_readMany v_readMeetings v_law v_many v_meetings v_length v_at v_faultAt v_one v_other v_made v_leads v_rings v_seen _ h) (cwV 1 hts gX9_charm_X9_isPerson rfl rfl rfl (by decide +kernel) ⟨Nat.le_of_ble_eq_true rfl, Nat.le_of_ble_eq_true rfl⟩) (preV_of hP hD hK [0] rfl rfl 0 9 rfl rfl rfl) rfl rfl hl.1 rfl (lv_room (Nat.le_of_ble_eq_true rfl)) dX9_charm_2 ⟨Nat.zero_le _, Nat.zero_le _⟩) hP hD hS hA [0] rfl ((cw_X9_charm cI cZ o o_readPurses o_readDay o_purses o_daily o_text o_row o_tried o_days o_order o_bestOrder o_seenHad o_seenShared o_isKept o_keptPurses o_keptRow o_keptHad o_keptShared o_keptRest v_readLaw v_readMany v_readMeetings v_law v_many v_meetings v_length v_at v_faultAt v_one v_other v_made v_leads v_rings v_seen a_purses)) (rfl) (rfl) (fun r2 H locs h hP hD hS => ?_)
  refine lv_if_ne (tgt := 10) hx hb dX9_charm_5 (by decide) (fun c5 => ?_) (fun c5 => ?_)
  · have h := h.1 c5
    refine lv_iconst (v := 0) hx hb dX9_charm_10 (by decide) ?_
    refine lv_istore_n (lv' := [(2, .int (0 : Int32)), (0, .ref o), (1, .int n1)]) hx hb dX9_charm_11 rfl hl (by decide) rfl (fun ls hl => ?_)
    refine h (fun x2_12 => ∀ (H : Heap) (locs : List Loc) (ls : Array Slot), lv_has ls 3 [(0, .ref o), (1, .int n1), (2, .int x2_12)] → va_P D vwCl (cw_X9_charm cI cZ o o_readPurses o_readDay o_purses o_daily o_text o_row o_tried o_days o_order o_bestOrder o_seenHad o_seenShared o_isKept o_keptPurses o_keptRow o_keptHad o_keptShared o_keptRest v_readLaw v_readMany v_readMeetings v_law v_many v_meetings v_length v_at v_faultAt v_one v_other v_made v_leads v_rings v_seen a_purses) H → va_D A (cw_X9_charm cI cZ o o_readPurses o_readDay o_purses o_daily o_text o_row o_tried o_days o_order o_bestOrder o_seenHad o_seenShared o_isKept o_keptPurses o_keptRow o_keptHad o_keptShared o_keptRest v_readLaw v_readMany v_readMeetings v_law v_many v_meetings v_length v_at v_faultAt v_one v_other v_made v_leads v_rings v_seen a_purses) → va_S A s.heap H locs → W p l e rm_X9_charm s m args below meth c H locs 0 0 Q (F0 m 12 ls [])) ?_ H locs ls (lv_sub hl [1, 2, 0] rfl) hP hD hS
    intro x2_12 h H locs ls hl hP hD hS
    refine lv_aload_n hx hb dX9_charm_12 rfl (lv_at hl 0 rfl) ?_
    refine va_get (D := D) (ci := 9) (v := .ref o_purses) (C := RX9) (T := TX9) (N := 33) hx hb hts inw_X9_charm_X9 hown hK.1 hP 0 rfl rfl 5 (by decide) (hts (.fieldLink RX9 16 "PursesShareModel" "purses" "[I") (by decide +kernel)) (fun _ h9 => h9) rfl dX9_charm_13 ?_
    refine lv_iload_n hx hb dX9_charm_16 rfl (lv_at hl 1 rfl) ?_
    have h0 := h.1
    have h := h.2
    refine va_iald hx hb hK.1 hP 1 0 rfl rfl h0 dX9_charm_17 ?_
    refine lv_iload_n hx hb dX9_charm_18 rfl (lv_at hl 2 rfl) ?_
    refine lv_iadd hx hb dX9_charm_19 ?_
    refine call_i0 (va_runS (As := [.int ((a_purses (Int32.toNatClampNeg n1)) + x2_12)]) (rest := []) ⟨hx, hb, hml, hown, hts⟩ (c_X9_isPrime l D cI cZ (Array.size H) ((a_purses (Int32.toNatClampNeg n1)) + x2_12) _ h) (va_cwS 1 hts gX9_charm_X9_isPrime rfl rfl rfl (by decide +kernel) ⟨Nat.le_of_ble_eq_true rfl, Nat.le_of_ble_eq_true rfl⟩) (preS_of hP hD hK [] rfl rfl) rfl rfl hl.1 rfl (lv_room (Nat.le_of_ble_eq_true rfl)) dX9_charm_20 ⟨Nat.zero_le _, Nat.zero_le _⟩) hP hD hS hA [] rfl ((cw_X9_charm cI cZ o o_readPurses o_readDay o_purses o_daily o_text o_row o_tried o_days o_order o_bestOrder o_seenHad o_seenShared o_isKept o_keptPurses o_keptRow o_keptHad o_keptShared o_keptRest v_readLaw v_readMany v_readMeetings v_law v_many v_meetings v_length v_at v_faultAt v_one v_other v_made v_leads v_rings v_seen a_purses)) (rfl) (rfl) (fun r20 H locs h hP hD hS => ?_)
    refine lv_if_ne (tgt := 32) hx hb dX9_charm_23 (by decide) (fun c23 => ?_) (fun c23 => ?_)
    · have h := h.1 c23
      refine lv_iload_n hx hb dX9_charm_32 rfl (lv_at hl 2 rfl) ?_
      exact ret_i0 hx hb hr hlocks hQ hS  hP h dX9_charm_33
    · have h := h.2 c23
      refine lv_iinc (v := (x2_12 + 1)) (lv' := [(2, .int (x2_12 + 1)), (0, .ref o), (1, .int n1)]) hx hb dX9_charm_26 hl (k := 2) rfl rfl (by decide) rfl (fun ls hl => ?_)
      refine lv_goto (tgt := 12) hx hb dX9_charm_29 (by decide) ?_
      exact h H locs ls (lv_sub hl [1, 2, 0] rfl) hP hD hS
  · have h := h.2 c5
    refine lv_iconst (v := -1) hx hb dX9_charm_8 (by decide) ?_
    exact ret_i0 hx hb hr hlocks hQ hS  hP h dX9_charm_9
abbrev rm_X9_keep : Room := { frames := 1, cells := 0, slots := 0, locals := 25 }
abbrev cw_X9_keep (cI cZ : ClassId) (o o_readPurses o_readDay o_purses o_daily o_text o_row o_tried o_days o_order o_bestOrder o_seenHad o_seenShared o_isKept o_keptPurses o_keptRow o_keptHad o_keptShared o_keptRest : Nat) (v_readLaw : Int32) (v_readMany : Int32) (v_readMeetings : Int32) (v_law : Int32) (v_many : Int32) (v_meetings : Int32) (v_length : Int32) (v_at : Int32) (v_faultAt : Int32) (v_one : Int32) (v_other : Int32) (v_made : Int32) (v_leads : Int32) (v_rings : Int32) (v_seen : Int32) (a_purses : Nat → Int32) (a_row : Nat → Int32) (a_seenHad : Nat → Int32) (a_seenShared : Nat → Int32) (a_isKept : Nat → Int32) (a_keptPurses : Nat → Int32) (a_keptRow : Nat → Int32) (a_keptHad : Nat → Int32) (a_keptShared : Nat → Int32) (a_keptRest : Nat → Int32) : va_W := [(o, .inr (9, [.ref o_readPurses, .ref o_readDay, .int v_readLaw, .int v_readMany, .int v_readMeetings, .ref o_purses, .ref o_daily, .int v_law, .int v_many, .int v_meetings, .ref o_text, .int v_length, .int v_at, .int v_faultAt, .int v_one, .int v_other, .int v_made, .ref o_row, .ref o_tried, .int v_leads, .int v_rings, .ref o_days, .ref o_order, .ref o_bestOrder, .int v_seen, .ref o_seenHad, .ref o_seenShared, .ref o_isKept, .ref o_keptPurses, .ref o_keptRow, .ref o_keptHad, .ref o_keptShared, .ref o_keptRest])), (o_purses, .inl (cI, 8, .inl a_purses)), (o_row, .inl (cI, 128, .inl a_row)), (o_seenHad, .inl (cI, 8, .inl a_seenHad)), (o_seenShared, .inl (cI, 8, .inl a_seenShared)), (o_isKept, .inl (cZ, 2, .inl a_isKept)), (o_keptPurses, .inl (cI, 16, .inl a_keptPurses)), (o_keptRow, .inl (cI, 256, .inl a_keptRow)), (o_keptHad, .inl (cI, 16, .inl a_keptHad)), (o_keptShared, .inl (cI, 16, .inl a_keptShared)), (o_keptRest, .inl (cI, 6, .inl a_keptRest))]
theorem inw_X9_keep_X9 : ∀ w ∈ u_ws RX9 TX9 33, w ∈ wsX9_keep := by decide +kernel
def wp_X9_keep (n1 : Int32) (v_law : Int32) (v_made : Int32) (v_seen : Int32) (a_purses : Nat → Int32) (a_row : Nat → Int32) (a_seenHad : Nat → Int32) (a_seenShared : Nat → Int32) (a_isKept : Nat → Int32) (a_keptPurses : Nat → Int32) (a_keptRow : Nat → Int32) (a_keptHad : Nat → Int32) (a_keptShared : Nat → Int32) (a_keptRest : Nat → Int32) (Post : Int32 → (Nat → Int32) → (Nat → Int32) → (Nat → Int32) → (Nat → Int32) → (Nat → Int32) → (Nat → Int32) → Prop) : Prop := (wp_X9_in (Int32.toInt64 n1) (0 : Int64) (1 : Int64) (fun (r4 : Int32) => ((¬ r4 = 0 → (vp_in n1 2 ∧ (∀ k21 : (Int32) → (Nat → Int32) → (Nat → Int32) → (Nat → Int32) → Prop, (∀ (x2_21 : Int32) (a_keptPurses_21 : Nat → Int32) (a_keptHad_21 : Nat → Int32) (a_keptShared_21 : Nat → Int32), (((8 : Int32) ≤ x2_21 → (∀ k86 : (Int32) → (Nat → Int32) → Prop, (∀ (x2_86 : Int32) (a_keptRow_86 : Nat → Int32), (((128 : Int32) ≤ x2_86 → (vp_in ((3 : Int32) * n1) 6 ∧ (vp_in (((3 : Int32) * n1) + (1 : Int32)) 6 ∧ (vp_in (((3 : Int32) * n1) + (2 : Int32)) 6 ∧ (Post v_made (upd a_isKept (Int32.toNatClampNeg n1) (1 : Int32)) a_keptPurses_21 a_keptRow_86 a_keptHad_21 a_keptShared_21 (upd (upd (upd a_keptRest (Int32.toNatClampNeg ((3 : Int32) * n1)) v_law) (Int32.toNatClampNeg (((3 : Int32) * n1) + (1 : Int32))) v_made) (Int32.toNatClampNeg (((3 : Int32) * n1) + (2 : Int32))) v_seen)))))) ∧ (¬ (128 : Int32) ≤ x2_86 → (vp_in x2_86 128 ∧ (vp_in (((128 : Int32) * n1) + x2_86) 256 ∧ (k86 (x2_86 + 1) (upd a_keptRow_86 (Int32.toNatClampNeg (((128 : Int32) * n1) + x2_86)) (a_row (Int32.toNatClampNeg x2_86)))))))) → k86 x2_86 a_keptRow_86) → k86 (0 : Int32) a_keptRow)) ∧ (¬ (8 : Int32) ≤ x2_21 → (vp_in x2_21 8 ∧ (vp_in (((8 : Int32) * n1) + x2_21) 16 ∧ (vp_in x2_21 8 ∧ (vp_in (((8 : Int32) * n1) + x2_21) 16 ∧ (vp_in x2_21 8 ∧ (vp_in (((8 : Int32) * n1) + x2_21) 16 ∧ (k21 (x2_21 + 1) (upd a_keptPurses_21 (Int32.toNatClampNeg (((8 : Int32) * n1) + x2_21)) (a_purses (Int32.toNatClampNeg x2_21))) (upd a_keptHad_21 (Int32.toNatClampNeg (((8 : Int32) * n1) + x2_21)) (a_seenHad (Int32.toNatClampNeg x2_21))) (upd a_keptShared_21 (Int32.toNatClampNeg (((8 : Int32) * n1) + x2_21)) (a_seenShared (Int32.toNatClampNeg x2_21)))))))))))) → k21 x2_21 a_keptPurses_21 a_keptHad_21 a_keptShared_21) → k21 (0 : Int32) a_keptPurses a_keptHad a_keptShared))) ∧ (r4 = 0 → (Post (-1 : Int32) a_isKept a_keptPurses a_keptRow a_keptHad a_keptShared a_keptRest)))))
set_option maxHeartbeats 4000000 in
set_option maxRecDepth 100000 in
theorem c_X9_keep (l : Launch) (D : va_G) (cI cZ : ClassId) (o o_readPurses o_readDay o_purses o_daily o_text o_row o_tried o_days o_order o_bestOrder o_seenHad o_seenShared o_isKept o_keptPurses o_keptRow o_keptHad o_keptShared o_keptRest : Nat) (sz : Nat) (n1 : Int32) (v_readLaw : Int32) (v_readMany : Int32) (v_readMeetings : Int32) (v_law : Int32) (v_many : Int32) (v_meetings : Int32) (v_length : Int32) (v_at : Int32) (v_faultAt : Int32) (v_one : Int32) (v_other : Int32) (v_made : Int32) (v_leads : Int32) (v_rings : Int32) (v_seen : Int32) (a_purses : Nat → Int32) (a_row : Nat → Int32) (a_seenHad : Nat → Int32) (a_seenShared : Nat → Int32) (a_isKept : Nat → Int32) (a_keptPurses : Nat → Int32) (a_keptRow : Nat → Int32) (a_keptHad : Nat → Int32) (a_keptShared : Nat → Int32) (a_keptRest : Nat → Int32) (Post : Int32 → (Nat → Int32) → (Nat → Int32) → (Nat → Int32) → (Nat → Int32) → (Nat → Int32) → (Nat → Int32) → Prop) (h : wp_X9_keep n1 v_law v_made v_seen a_purses a_row a_seenHad a_seenShared a_isKept a_keptPurses a_keptRow a_keptHad a_keptShared a_keptRest Post) : Met l yX9_keep wsX9_keep rm_X9_keep (cPc D cI cZ [.ref o, .int n1] (cw_X9_keep cI cZ o o_readPurses o_readDay o_purses o_daily o_text o_row o_tried o_days o_order o_bestOrder o_seenHad o_seenShared o_isKept o_keptPurses o_keptRow o_keptHad o_keptShared o_keptRest v_readLaw v_readMany v_readMeetings v_law v_many v_meetings v_length v_at v_faultAt v_one v_other v_made v_leads v_rings v_seen a_purses a_row a_seenHad a_seenShared a_isKept a_keptPurses a_keptRow a_keptHad a_keptShared a_keptRest) sz) (cQi6 D Post (fun m_a_isKept m_a_keptPurses m_a_keptRow m_a_keptHad m_a_keptShared m_a_keptRest => (cw_X9_keep cI cZ o o_readPurses o_readDay o_purses o_daily o_text o_row o_tried o_days o_order o_bestOrder o_seenHad o_seenShared o_isKept o_keptPurses o_keptRow o_keptHad o_keptShared o_keptRest v_readLaw v_readMany v_readMeetings v_law v_many v_meetings v_length v_at v_faultAt v_one v_other v_made v_leads v_rings v_seen a_purses a_row a_seenHad a_seenShared m_a_isKept m_a_keptPurses m_a_keptRow m_a_keptHad m_a_keptShared m_a_keptRest)) (va_A (cw_X9_keep cI cZ o o_readPurses o_readDay o_purses o_daily o_text o_row o_tried o_days o_order o_bestOrder o_seenHad o_seenShared o_isKept o_keptPurses o_keptRow o_keptHad o_keptShared o_keptRest v_readLaw v_readMany v_readMeetings v_law v_many v_meetings v_length v_at v_faultAt v_one v_other v_made v_leads v_rings v_seen a_purses a_row a_seenHad a_seenShared a_isKept a_keptPurses a_keptRow a_keptHad a_keptShared a_keptRest) sz)) 0 0 (va_A (cw_X9_keep cI cZ o o_readPurses o_readDay o_purses o_daily o_text o_row o_tried o_days o_order o_bestOrder o_seenHad o_seenShared o_isKept o_keptPurses o_keptRow o_keptHad o_keptShared o_keptRest v_readLaw v_readMany v_readMeetings v_law v_many v_meetings v_length v_at v_faultAt v_one v_other v_made v_leads v_rings v_seen a_purses a_row a_seenHad a_seenShared a_isKept a_keptPurses a_keptRow a_keptHad a_keptShared a_keptRest) sz) := by
  refine ent (cc := cX9_keep) (maxL := 3) (ret := (some .int)) (Qc := fun A => cQi6 D Post (fun m_a_isKept m_a_keptPurses m_a_keptRow m_a_keptHad m_a_keptShared m_a_keptRest => (cw_X9_keep cI cZ o o_readPurses o_readDay o_purses o_daily o_text o_row o_tried o_days o_order o_bestOrder o_seenHad o_seenShared o_isKept o_keptPurses o_keptRow o_keptHad o_keptShared o_keptRest v_readLaw v_readMany v_readMeetings v_law v_many v_meetings v_length v_at v_faultAt v_one v_other v_made v_leads v_rings v_seen a_purses a_row a_seenHad a_seenShared m_a_isKept m_a_keptPurses m_a_keptRow m_a_keptHad m_a_keptShared m_a_keptRest)) A) (by decide) rfl (Nat.le_of_ble_eq_true rfl) ?_
  intro p e s m args below meth c A ls Q hQ hsz hx hb hml hr hts hown hlocks hnm hK hP hD hA hS hl
  have hl : lv_has ls 3 [(0, .ref o), (1, .int n1)] := hl
  unfold wp_X9_keep at h
  refine lv_iload_n hx hb dX9_keep_0 rfl (lv_at hl 1 rfl) ?_
  refine lv_i2l (v := (Int32.toInt64 n1)) hx hb dX9_keep_1 rfl ?_
  refine lv_lconst (v := 0) hx hb dX9_keep_2 (by decide) ?_
  refine lv_lconst (v := 1) hx hb dX9_keep_3 (by decide) ?_
  refine call_i0 (va_runS (As := [.long (Int32.toInt64 n1), .long (0 : Int64), .long (1 : Int64)]) (rest := []) ⟨hx, hb, hml, hown, hts⟩ (c_X9_in l D cI cZ (Array.size s.heap) (Int32.toInt64 n1) (0 : Int64) (1 : Int64) _ h) (va_cwS 3 hts gX9_keep_X9_in rfl rfl rfl (by decide +kernel) ⟨Nat.le_of_ble_eq_true rfl, Nat.le_of_ble_eq_true rfl⟩) (preS_of hP hD hK [] rfl rfl) rfl rfl hl.1 rfl (lv_room (Nat.le_of_ble_eq_true rfl)) dX9_keep_4 ⟨Nat.zero_le _, Nat.zero_le _⟩) hP hD hS hA [] rfl ((cw_X9_keep cI cZ o o_readPurses o_readDay o_purses o_daily o_text o_row o_tried o_days o_order o_bestOrder o_seenHad o_seenShared o_isKept o_keptPurses o_keptRow o_keptHad o_keptShared o_keptRest v_readLaw v_readMany v_readMeetings v_law v_many v_meetings v_length v_at v_faultAt v_one v_other v_made v_leads v_rings v_seen a_purses a_row a_seenHad a_seenShared a_isKept a_keptPurses a_keptRow a_keptHad a_keptShared a_keptRest)) (rfl) (rfl) (fun r4 H locs h hP hD hS => ?_)
  refine lv_if_ne (tgt := 12) hx hb dX9_keep_7 (by decide) (fun c7 => ?_) (fun c7 => ?_)
  · have h := h.1 c7
    refine lv_aload_n hx hb dX9_keep_12 rfl (lv_at hl 0 rfl) ?_
    refine va_get (D := D) (ci := 9) (v := .ref o_isKept) (C := RX9) (T := TX9) (N := 33) hx hb hts inw_X9_keep_X9 hown hK.1 hP 0 rfl rfl 27 (by decide) (hts (.fieldLink RX9 46 "PursesShareModel" "isKept" "[Z") (by decide +kernel)) (fun _ h9 => h9) rfl dX9_keep_13 ?_
    refine lv_iload_n hx hb dX9_keep_16 rfl (lv_at hl 1 rfl) ?_
    refine lv_iconst (v := 1) hx hb dX9_keep_17 (by decide) ?_
    have h0 := h.1
    have h := h.2
    refine va_zast hx hb hK.1 hP hD hS 5 1 rfl rfl h0 dX9_keep_18 (fun H locs hP hD hS => ?_)
    have hP : va_P D vwCl (cw_X9_keep cI cZ o o_readPurses o_readDay o_purses o_daily o_text o_row o_tried o_days o_order o_bestOrder o_seenHad o_seenShared o_isKept o_keptPurses o_keptRow o_keptHad o_keptShared o_keptRest v_readLaw v_readMany v_readMeetings v_law v_many v_meetings v_length v_at v_faultAt v_one v_other v_made v_leads v_rings v_seen a_purses a_row a_seenHad a_seenShared (upd a_isKept (Int32.toNatClampNeg n1) (1 : Int32)) a_keptPurses a_keptRow a_keptHad a_keptShared a_keptRest) H := hP
    have hD : va_D A (cw_X9_keep cI cZ o o_readPurses o_readDay o_purses o_daily o_text o_row o_tried o_days o_order o_bestOrder o_seenHad o_seenShared o_isKept o_keptPurses o_keptRow o_keptHad o_keptShared o_keptRest v_readLaw v_readMany v_readMeetings v_law v_many v_meetings v_length v_at v_faultAt v_one v_other v_made v_leads v_rings v_seen a_purses a_row a_seenHad a_seenShared (upd a_isKept (Int32.toNatClampNeg n1) (1 : Int32)) a_keptPurses a_keptRow a_keptHad a_keptShared a_keptRest) := hD
    refine lv_iconst (v := 0) hx hb dX9_keep_19 (by decide) ?_
    refine lv_istore_n (lv' := [(2, .int (0 : Int32)), (0, .ref o), (1, .int n1)]) hx hb dX9_keep_20 rfl hl (by decide) rfl (fun ls hl => ?_)
    refine h (fun x2_21 a_keptPurses_21 a_keptHad_21 a_keptShared_21 => ∀ (H : Heap) (locs : List Loc) (ls : Array Slot), lv_has ls 3 [(0, .ref o), (1, .int n1), (2, .int x2_21)] → va_P D vwCl (cw_X9_keep cI cZ o o_readPurses o_readDay o_purses o_daily o_text o_row o_tried o_days o_order o_bestOrder o_seenHad o_seenShared o_isKept o_keptPurses o_keptRow o_keptHad o_keptShared o_keptRest v_readLaw v_readMany v_readMeetings v_law v_many v_meetings v_length v_at v_faultAt v_one v_other v_made v_leads v_rings v_seen a_purses a_row a_seenHad a_seenShared (upd a_isKept (Int32.toNatClampNeg n1) (1 : Int32)) a_keptPurses_21 a_keptRow a_keptHad_21 a_keptShared_21 a_keptRest) H → va_D A (cw_X9_keep cI cZ o o_readPurses o_readDay o_purses o_daily o_text o_row o_tried o_days o_order o_bestOrder o_seenHad o_seenShared o_isKept o_keptPurses o_keptRow o_keptHad o_keptShared o_keptRest v_readLaw v_readMany v_readMeetings v_law v_many v_meetings v_length v_at v_faultAt v_one v_other v_made v_leads v_rings v_seen a_purses a_row a_seenHad a_seenShared (upd a_isKept (Int32.toNatClampNeg n1) (1 : Int32)) a_keptPurses_21 a_keptRow a_keptHad_21 a_keptShared_21 a_keptRest) → va_S A s.heap H locs → W p l e rm_X9_keep s m args below meth c H locs 0 0 Q (F0 m 21 ls [])) ?_ H locs ls (lv_sub hl [1, 2, 0] rfl) hP hD hS
    intro x2_21 a_keptPurses_21 a_keptHad_21 a_keptShared_21 h H locs ls hl hP hD hS
    refine lv_iload_n hx hb dX9_keep_21 rfl (lv_at hl 2 rfl) ?_
    refine lv_bipush (v := 8) hx hb dX9_keep_22 (by decide) ?_
    refine lv_icmp_ge (tgt := 84) hx hb dX9_keep_24 (by decide) (fun c24 => ?_) (fun c24 => ?_)
    · have h := h.1 c24
      refine lv_iconst (v := 0) hx hb dX9_keep_84 (by decide) ?_
      refine lv_istore_n (lv' := [(2, .int (0 : Int32)), (0, .ref o), (1, .int n1)]) hx hb dX9_keep_85 rfl hl (by decide) rfl (fun ls hl => ?_)
      refine h (fun x2_86 a_keptRow_86 => ∀ (H : Heap) (locs : List Loc) (ls : Array Slot), lv_has ls 3 [(0, .ref o), (1, .int n1), (2, .int x2_86)] → va_P D vwCl (cw_X9_keep cI cZ o o_readPurses o_readDay o_purses o_daily o_text o_row o_tried o_days o_order o_bestOrder o_seenHad o_seenShared o_isKept o_keptPurses o_keptRow o_keptHad o_keptShared o_keptRest v_readLaw v_readMany v_readMeetings v_law v_many v_meetings v_length v_at v_faultAt v_one v_other v_made v_leads v_rings v_seen a_purses a_row a_seenHad a_seenShared (upd a_isKept (Int32.toNatClampNeg n1) (1 : Int32)) a_keptPurses_21 a_keptRow_86 a_keptHad_21 a_keptShared_21 a_keptRest) H → va_D A (cw_X9_keep cI cZ o o_readPurses o_readDay o_purses o_daily o_text o_row o_tried o_days o_order o_bestOrder o_seenHad o_seenShared o_isKept o_keptPurses o_keptRow o_keptHad o_keptShared o_keptRest v_readLaw v_readMany v_readMeetings v_law v_many v_meetings v_length v_at v_faultAt v_one v_other v_made v_leads v_rings v_seen a_purses a_row a_seenHad a_seenShared (upd a_isKept (Int32.toNatClampNeg n1) (1 : Int32)) a_keptPurses_21 a_keptRow_86 a_keptHad_21 a_keptShared_21 a_keptRest) → va_S A s.heap H locs → W p l e rm_X9_keep s m args below meth c H locs 0 0 Q (F0 m 86 ls [])) ?_ H locs ls (lv_sub hl [1, 2, 0] rfl) hP hD hS
      intro x2_86 a_keptRow_86 h H locs ls hl hP hD hS
      refine lv_iload_n hx hb dX9_keep_86 rfl (lv_at hl 2 rfl) ?_
      refine lv_sipush (v := 128) hx hb dX9_keep_87 (by decide) ?_
      refine lv_icmp_ge (tgt := 117) hx hb dX9_keep_90 (by decide) (fun c90 => ?_) (fun c90 => ?_)
      · have h := h.1 c90
        refine lv_aload_n hx hb dX9_keep_117 rfl (lv_at hl 0 rfl) ?_
        refine va_get (D := D) (ci := 9) (v := .ref o_keptRest) (C := RX9) (T := TX9) (N := 33) hx hb hts inw_X9_keep_X9 hown hK.1 hP 0 rfl rfl 32 (by decide) (hts (.fieldLink RX9 62 "PursesShareModel" "keptRest" "[I") (by decide +kernel)) (fun _ h9 => h9) rfl dX9_keep_118 ?_
        refine lv_iconst (v := 3) hx hb dX9_keep_121 (by decide) ?_
        refine lv_iload_n hx hb dX9_keep_122 rfl (lv_at hl 1 rfl) ?_
        refine lv_imul hx hb dX9_keep_123 ?_
        refine lv_aload_n hx hb dX9_keep_124 rfl (lv_at hl 0 rfl) ?_
        refine va_get (D := D) (ci := 9) (v := .int v_law) (C := RX9) (T := TX9) (N := 33) hx hb hts inw_X9_keep_X9 hown hK.1 hP 0 rfl rfl 7 (by decide) (hts (.fieldLink RX9 103 "PursesShareModel" "law" "I") (by decide +kernel)) (fun _ h9 => h9) rfl dX9_keep_125 ?_
        have h0 := h.1
        have h := h.2
        refine va_iast hx hb hK.1 hP hD hS 10 0 rfl rfl h0 dX9_keep_128 (fun H locs hP hD hS => ?_)
        have hP : va_P D vwCl (cw_X9_keep cI cZ o o_readPurses o_readDay o_purses o_daily o_text o_row o_tried o_days o_order o_bestOrder o_seenHad o_seenShared o_isKept o_keptPurses o_keptRow o_keptHad o_keptShared o_keptRest v_readLaw v_readMany v_readMeetings v_law v_many v_meetings v_length v_at v_faultAt v_one v_other v_made v_leads v_rings v_seen a_purses a_row a_seenHad a_seenShared (upd a_isKept (Int32.toNatClampNeg n1) (1 : Int32)) a_keptPurses_21 a_keptRow_86 a_keptHad_21 a_keptShared_21 (upd a_keptRest (Int32.toNatClampNeg ((3 : Int32) * n1)) v_law)) H := hP
        have hD : va_D A (cw_X9_keep cI cZ o o_readPurses o_readDay o_purses o_daily o_text o_row o_tried o_days o_order o_bestOrder o_seenHad o_seenShared o_isKept o_keptPurses o_keptRow o_keptHad o_keptShared o_keptRest v_readLaw v_readMany v_readMeetings v_law v_many v_meetings v_length v_at v_faultAt v_one v_other v_made v_leads v_rings v_seen a_purses a_row a_seenHad a_seenShared (upd a_isKept (Int32.toNatClampNeg n1) (1 : Int32)) a_keptPurses_21 a_keptRow_86 a_keptHad_21 a_keptShared_21 (upd a_keptRest (Int32.toNatClampNeg ((3 : Int32) * n1)) v_law)) := hD
        refine lv_aload_n hx hb dX9_keep_129 rfl (lv_at hl 0 rfl) ?_
        refine va_get (D := D) (ci := 9) (v := .ref o_keptRest) (C := RX9) (T := TX9) (N := 33) hx hb hts inw_X9_keep_X9 hown hK.1 hP 0 rfl rfl 32 (by decide) (hts (.fieldLink RX9 62 "PursesShareModel" "keptRest" "[I") (by decide +kernel)) (fun _ h9 => h9) rfl dX9_keep_130 ?_
        refine lv_iconst (v := 3) hx hb dX9_keep_133 (by decide) ?_
        refine lv_iload_n hx hb dX9_keep_134 rfl (lv_at hl 1 rfl) ?_
        refine lv_imul hx hb dX9_keep_135 ?_
        refine lv_iconst (v := 1) hx hb dX9_keep_136 (by decide) ?_
        refine lv_iadd hx hb dX9_keep_137 ?_
        refine lv_aload_n hx hb dX9_keep_138 rfl (lv_at hl 0 rfl) ?_
        refine va_get (D := D) (ci := 9) (v := .int v_made) (C := RX9) (T := TX9) (N := 33) hx hb hts inw_X9_keep_X9 hown hK.1 hP 0 rfl rfl 16 (by decide) (hts (.fieldLink RX9 109 "PursesShareModel" "made" "I") (by decide +kernel)) (fun _ h9 => h9) rfl dX9_keep_139 ?_
        have h0 := h.1
        have h := h.2
        refine va_iast hx hb hK.1 hP hD hS 10 0 rfl rfl h0 dX9_keep_142 (fun H locs hP hD hS => ?_)
        have hP : va_P D vwCl (cw_X9_keep cI cZ o o_readPurses o_readDay o_purses o_daily o_text o_row o_tried o_days o_order o_bestOrder o_seenHad o_seenShared o_isKept o_keptPurses o_keptRow o_keptHad o_keptShared o_keptRest v_readLaw v_readMany v_readMeetings v_law v_many v_meetings v_length v_at v_faultAt v_one v_other v_made v_leads v_rings v_seen a_purses a_row a_seenHad a_seenShared (upd a_isKept (Int32.toNatClampNeg n1) (1 : Int32)) a_keptPurses_21 a_keptRow_86 a_keptHad_21 a_keptShared_21 (upd (upd a_keptRest (Int32.toNatClampNeg ((3 : Int32) * n1)) v_law) (Int32.toNatClampNeg (((3 : Int32) * n1) + (1 : Int32))) v_made)) H := hP
        have hD : va_D A (cw_X9_keep cI cZ o o_readPurses o_readDay o_purses o_daily o_text o_row o_tried o_days o_order o_bestOrder o_seenHad o_seenShared o_isKept o_keptPurses o_keptRow o_keptHad o_keptShared o_keptRest v_readLaw v_readMany v_readMeetings v_law v_many v_meetings v_length v_at v_faultAt v_one v_other v_made v_leads v_rings v_seen a_purses a_row a_seenHad a_seenShared (upd a_isKept (Int32.toNatClampNeg n1) (1 : Int32)) a_keptPurses_21 a_keptRow_86 a_keptHad_21 a_keptShared_21 (upd (upd a_keptRest (Int32.toNatClampNeg ((3 : Int32) * n1)) v_law) (Int32.toNatClampNeg (((3 : Int32) * n1) + (1 : Int32))) v_made)) := hD
        refine lv_aload_n hx hb dX9_keep_143 rfl (lv_at hl 0 rfl) ?_
        refine va_get (D := D) (ci := 9) (v := .ref o_keptRest) (C := RX9) (T := TX9) (N := 33) hx hb hts inw_X9_keep_X9 hown hK.1 hP 0 rfl rfl 32 (by decide) (hts (.fieldLink RX9 62 "PursesShareModel" "keptRest" "[I") (by decide +kernel)) (fun _ h9 => h9) rfl dX9_keep_144 ?_
        refine lv_iconst (v := 3) hx hb dX9_keep_147 (by decide) ?_
        refine lv_iload_n hx hb dX9_keep_148 rfl (lv_at hl 1 rfl) ?_
        refine lv_imul hx hb dX9_keep_149 ?_
        refine lv_iconst (v := 2) hx hb dX9_keep_150 (by decide) ?_
        refine lv_iadd hx hb dX9_keep_151 ?_
        refine lv_aload_n hx hb dX9_keep_152 rfl (lv_at hl 0 rfl) ?_
        refine va_get (D := D) (ci := 9) (v := .int v_seen) (C := RX9) (T := TX9) (N := 33) hx hb hts inw_X9_keep_X9 hown hK.1 hP 0 rfl rfl 24 (by decide) (hts (.fieldLink RX9 112 "PursesShareModel" "seen" "I") (by decide +kernel)) (fun _ h9 => h9) rfl dX9_keep_153 ?_
        have h0 := h.1
        have h := h.2
        refine va_iast hx hb hK.1 hP hD hS 10 0 rfl rfl h0 dX9_keep_156 (fun H locs hP hD hS => ?_)
        have hP : va_P D vwCl (cw_X9_keep cI cZ o o_readPurses o_readDay o_purses o_daily o_text o_row o_tried o_days o_order o_bestOrder o_seenHad o_seenShared o_isKept o_keptPurses o_keptRow o_keptHad o_keptShared o_keptRest v_readLaw v_readMany v_readMeetings v_law v_many v_meetings v_length v_at v_faultAt v_one v_other v_made v_leads v_rings v_seen a_purses a_row a_seenHad a_seenShared (upd a_isKept (Int32.toNatClampNeg n1) (1 : Int32)) a_keptPurses_21 a_keptRow_86 a_keptHad_21 a_keptShared_21 (upd (upd (upd a_keptRest (Int32.toNatClampNeg ((3 : Int32) * n1)) v_law) (Int32.toNatClampNeg (((3 : Int32) * n1) + (1 : Int32))) v_made) (Int32.toNatClampNeg (((3 : Int32) * n1) + (2 : Int32))) v_seen)) H := hP
        have hD : va_D A (cw_X9_keep cI cZ o o_readPurses o_readDay o_purses o_daily o_text o_row o_tried o_days o_order o_bestOrder o_seenHad o_seenShared o_isKept o_keptPurses o_keptRow o_keptHad o_keptShared o_keptRest v_readLaw v_readMany v_readMeetings v_law v_many v_meetings v_length v_at v_faultAt v_one v_other v_made v_leads v_rings v_seen a_purses a_row a_seenHad a_seenShared (upd a_isKept (Int32.toNatClampNeg n1) (1 : Int32)) a_keptPurses_21 a_keptRow_86 a_keptHad_21 a_keptShared_21 (upd (upd (upd a_keptRest (Int32.toNatClampNeg ((3 : Int32) * n1)) v_law) (Int32.toNatClampNeg (((3 : Int32) * n1) + (1 : Int32))) v_made) (Int32.toNatClampNeg (((3 : Int32) * n1) + (2 : Int32))) v_seen)) := hD
        refine lv_aload_n hx hb dX9_keep_157 rfl (lv_at hl 0 rfl) ?_
        refine va_get (D := D) (ci := 9) (v := .int v_made) (C := RX9) (T := TX9) (N := 33) hx hb hts inw_X9_keep_X9 hown hK.1 hP 0 rfl rfl 16 (by decide) (hts (.fieldLink RX9 109 "PursesShareModel" "made" "I") (by decide +kernel)) (fun _ h9 => h9) rfl dX9_keep_158 ?_
        exact ret_i6 hx hb hr hlocks hQ hS (upd a_isKept (Int32.toNatClampNeg n1) (1 : Int32)) a_keptPurses_21 a_keptRow_86 a_keptHad_21 a_keptShared_21 (upd (upd (upd a_keptRest (Int32.toNatClampNeg ((3 : Int32) * n1)) v_law) (Int32.toNatClampNeg (((3 : Int32) * n1) + (1 : Int32))) v_made) (Int32.toNatClampNeg (((3 : Int32) * n1) + (2 : Int32))) v_seen) hP h dX9_keep_161
      · have h := h.2 c90
        refine lv_aload_n hx hb dX9_keep_93 rfl (lv_at hl 0 rfl) ?_
        refine va_get (D := D) (ci := 9) (v := .ref o_keptRow) (C := RX9) (T := TX9) (N := 33) hx hb hts inw_X9_keep_X9 hown hK.1 hP 0 rfl rfl 29 (by decide) (hts (.fieldLink RX9 53 "PursesShareModel" "keptRow" "[I") (by decide +kernel)) (fun _ h9 => h9) rfl dX9_keep_94 ?_
        refine lv_sipush (v := 128) hx hb dX9_keep_97 (by decide) ?_
        refine lv_iload_n hx hb dX9_keep_100 rfl (lv_at hl 1 rfl) ?_
        refine lv_imul hx hb dX9_keep_101 ?_
        refine lv_iload_n hx hb dX9_keep_102 rfl (lv_at hl 2 rfl) ?_
        refine lv_iadd hx hb dX9_keep_103 ?_
        refine lv_aload_n hx hb dX9_keep_104 rfl (lv_at hl 0 rfl) ?_
        refine va_get (D := D) (ci := 9) (v := .ref o_row) (C := RX9) (T := TX9) (N := 33) hx hb hts inw_X9_keep_X9 hown hK.1 hP 0 rfl rfl 17 (by decide) (hts (.fieldLink RX9 25 "PursesShareModel" "row" "[I") (by decide +kernel)) (fun _ h9 => h9) rfl dX9_keep_105 ?_
        refine lv_iload_n hx hb dX9_keep_108 rfl (lv_at hl 2 rfl) ?_
        have h0 := h.1
        have h := h.2
        refine va_iald hx hb hK.1 hP 2 0 rfl rfl h0 dX9_keep_109 ?_
        have h0 := h.1
        have h := h.2
        refine va_iast hx hb hK.1 hP hD hS 7 0 rfl rfl h0 dX9_keep_110 (fun H locs hP hD hS => ?_)
        have hP : va_P D vwCl (cw_X9_keep cI cZ o o_readPurses o_readDay o_purses o_daily o_text o_row o_tried o_days o_order o_bestOrder o_seenHad o_seenShared o_isKept o_keptPurses o_keptRow o_keptHad o_keptShared o_keptRest v_readLaw v_readMany v_readMeetings v_law v_many v_meetings v_length v_at v_faultAt v_one v_other v_made v_leads v_rings v_seen a_purses a_row a_seenHad a_seenShared (upd a_isKept (Int32.toNatClampNeg n1) (1 : Int32)) a_keptPurses_21 (upd a_keptRow_86 (Int32.toNatClampNeg (((128 : Int32) * n1) + x2_86)) (a_row (Int32.toNatClampNeg x2_86))) a_keptHad_21 a_keptShared_21 a_keptRest) H := hP
        have hD : va_D A (cw_X9_keep cI cZ o o_readPurses o_readDay o_purses o_daily o_text o_row o_tried o_days o_order o_bestOrder o_seenHad o_seenShared o_isKept o_keptPurses o_keptRow o_keptHad o_keptShared o_keptRest v_readLaw v_readMany v_readMeetings v_law v_many v_meetings v_length v_at v_faultAt v_one v_other v_made v_leads v_rings v_seen a_purses a_row a_seenHad a_seenShared (upd a_isKept (Int32.toNatClampNeg n1) (1 : Int32)) a_keptPurses_21 (upd a_keptRow_86 (Int32.toNatClampNeg (((128 : Int32) * n1) + x2_86)) (a_row (Int32.toNatClampNeg x2_86))) a_keptHad_21 a_keptShared_21 a_keptRest) := hD
        refine lv_iinc (v := (x2_86 + 1)) (lv' := [(2, .int (x2_86 + 1)), (0, .ref o), (1, .int n1)]) hx hb dX9_keep_111 hl (k := 2) rfl rfl (by decide) rfl (fun ls hl => ?_)
        refine lv_goto (tgt := 86) hx hb dX9_keep_114 (by decide) ?_
        exact h H locs ls (lv_sub hl [1, 2, 0] rfl) hP hD hS
    · have h := h.2 c24
      refine lv_aload_n hx hb dX9_keep_27 rfl (lv_at hl 0 rfl) ?_
      refine va_get (D := D) (ci := 9) (v := .ref o_keptPurses) (C := RX9) (T := TX9) (N := 33) hx hb hts inw_X9_keep_X9 hown hK.1 hP 0 rfl rfl 28 (by decide) (hts (.fieldLink RX9 50 "PursesShareModel" "keptPurses" "[I") (by decide +kernel)) (fun _ h9 => h9) rfl dX9_keep_28 ?_
      refine lv_bipush (v := 8) hx hb dX9_keep_31 (by decide) ?_
      refine lv_iload_n hx hb dX9_keep_33 rfl (lv_at hl 1 rfl) ?_
      refine lv_imul hx hb dX9_keep_34 ?_
      refine lv_iload_n hx hb dX9_keep_35 rfl (lv_at hl 2 rfl) ?_
      refine lv_iadd hx hb dX9_keep_36 ?_
      refine lv_aload_n hx hb dX9_keep_37 rfl (lv_at hl 0 rfl) ?_
      refine va_get (D := D) (ci := 9) (v := .ref o_purses) (C := RX9) (T := TX9) (N := 33) hx hb hts inw_X9_keep_X9 hown hK.1 hP 0 rfl rfl 5 (by decide) (hts (.fieldLink RX9 16 "PursesShareModel" "purses" "[I") (by decide +kernel)) (fun _ h9 => h9) rfl dX9_keep_38 ?_
      refine lv_iload_n hx hb dX9_keep_41 rfl (lv_at hl 2 rfl) ?_
      have h0 := h.1
      have h := h.2
      refine va_iald hx hb hK.1 hP 1 0 rfl rfl h0 dX9_keep_42 ?_
      have h0 := h.1
      have h := h.2
      refine va_iast hx hb hK.1 hP hD hS 6 0 rfl rfl h0 dX9_keep_43 (fun H locs hP hD hS => ?_)
      have hP : va_P D vwCl (cw_X9_keep cI cZ o o_readPurses o_readDay o_purses o_daily o_text o_row o_tried o_days o_order o_bestOrder o_seenHad o_seenShared o_isKept o_keptPurses o_keptRow o_keptHad o_keptShared o_keptRest v_readLaw v_readMany v_readMeetings v_law v_many v_meetings v_length v_at v_faultAt v_one v_other v_made v_leads v_rings v_seen a_purses a_row a_seenHad a_seenShared (upd a_isKept (Int32.toNatClampNeg n1) (1 : Int32)) (upd a_keptPurses_21 (Int32.toNatClampNeg (((8 : Int32) * n1) + x2_21)) (a_purses (Int32.toNatClampNeg x2_21))) a_keptRow a_keptHad_21 a_keptShared_21 a_keptRest) H := hP
      have hD : va_D A (cw_X9_keep cI cZ o o_readPurses o_readDay o_purses o_daily o_text o_row o_tried o_days o_order o_bestOrder o_seenHad o_seenShared o_isKept o_keptPurses o_keptRow o_keptHad o_keptShared o_keptRest v_readLaw v_readMany v_readMeetings v_law v_many v_meetings v_length v_at v_faultAt v_one v_other v_made v_leads v_rings v_seen a_purses a_row a_seenHad a_seenShared (upd a_isKept (Int32.toNatClampNeg n1) (1 : Int32)) (upd a_keptPurses_21 (Int32.toNatClampNeg (((8 : Int32) * n1) + x2_21)) (a_purses (Int32.toNatClampNeg x2_21))) a_keptRow a_keptHad_21 a_keptShared_21 a_keptRest) := hD
      refine lv_aload_n hx hb dX9_keep_44 rfl (lv_at hl 0 rfl) ?_
      refine va_get (D := D) (ci := 9) (v := .ref o_keptHad) (C := RX9) (T := TX9) (N := 33) hx hb hts inw_X9_keep_X9 hown hK.1 hP 0 rfl rfl 30 (by decide) (hts (.fieldLink RX9 56 "PursesShareModel" "keptHad" "[I") (by decide +kernel)) (fun _ h9 => h9) rfl dX9_keep_45 ?_
      refine lv_bipush (v := 8) hx hb dX9_keep_48 (by decide) ?_
      refine lv_iload_n hx hb dX9_keep_50 rfl (lv_at hl 1 rfl) ?_
      refine lv_imul hx hb dX9_keep_51 ?_
      refine lv_iload_n hx hb dX9_keep_52 rfl (lv_at hl 2 rfl) ?_
      refine lv_iadd hx hb dX9_keep_53 ?_
      refine lv_aload_n hx hb dX9_keep_54 rfl (lv_at hl 0 rfl) ?_
      refine va_get (D := D) (ci := 9) (v := .ref o_seenHad) (C := RX9) (T := TX9) (N := 33) hx hb hts inw_X9_keep_X9 hown hK.1 hP 0 rfl rfl 25 (by decide) (hts (.fieldLink RX9 40 "PursesShareModel" "seenHad" "[I") (by decide +kernel)) (fun _ h9 => h9) rfl dX9_keep_55 ?_
      refine lv_iload_n hx hb dX9_keep_58 rfl (lv_at hl 2 rfl) ?_
      have h0 := h.1
      have h := h.2
      refine va_iald hx hb hK.1 hP 3 0 rfl rfl h0 dX9_keep_59 ?_
      have h0 := h.1
      have h := h.2
      refine va_iast hx hb hK.1 hP hD hS 8 0 rfl rfl h0 dX9_keep_60 (fun H locs hP hD hS => ?_)
      have hP : va_P D vwCl (cw_X9_keep cI cZ o o_readPurses o_readDay o_purses o_daily o_text o_row o_tried o_days o_order o_bestOrder o_seenHad o_seenShared o_isKept o_keptPurses o_keptRow o_keptHad o_keptShared o_keptRest v_readLaw v_readMany v_readMeetings v_law v_many v_meetings v_length v_at v_faultAt v_one v_other v_made v_leads v_rings v_seen a_purses a_row a_seenHad a_seenShared (upd a_isKept (Int32.toNatClampNeg n1) (1 : Int32)) (upd a_keptPurses_21 (Int32.toNatClampNeg (((8 : Int32) * n1) + x2_21)) (a_purses (Int32.toNatClampNeg x2_21))) a_keptRow (upd a_keptHad_21 (Int32.toNatClampNeg (((8 : Int32) * n1) + x2_21)) (a_seenHad (Int32.toNatClampNeg x2_21))) a_keptShared_21 a_keptRest) H := hP
      have hD : va_D A (cw_X9_keep cI cZ o o_readPurses o_readDay o_purses o_daily o_text o_row o_tried o_days o_order o_bestOrder o_seenHad o_seenShared o_isKept o_keptPurses o_keptRow o_keptHad o_keptShared o_keptRest v_readLaw v_readMany v_readMeetings v_law v_many v_meetings v_length v_at v_faultAt v_one v_other v_made v_leads v_rings v_seen a_purses a_row a_seenHad a_seenShared (upd a_isKept (Int32.toNatClampNeg n1) (1 : Int32)) (upd a_keptPurses_21 (Int32.toNatClampNeg (((8 : Int32) * n1) + x2_21)) (a_purses (Int32.toNatClampNeg x2_21))) a_keptRow (upd a_keptHad_21 (Int32.toNatClampNeg (((8 : Int32) * n1) + x2_21)) (a_seenHad (Int32.toNatClampNeg x2_21))) a_keptShared_21 a_keptRest) := hD
      refine lv_aload_n hx hb dX9_keep_61 rfl (lv_at hl 0 rfl) ?_
      refine va_get (D := D) (ci := 9) (v := .ref o_keptShared) (C := RX9) (T := TX9) (N := 33) hx hb hts inw_X9_keep_X9 hown hK.1 hP 0 rfl rfl 31 (by decide) (hts (.fieldLink RX9 59 "PursesShareModel" "keptShared" "[I") (by decide +kernel)) (fun _ h9 => h9) rfl dX9_keep_62 ?_
      refine lv_bipush (v := 8) hx hb dX9_keep_65 (by decide) ?_
      refine lv_iload_n hx hb dX9_keep_67 rfl (lv_at hl 1 rfl) ?_
      refine lv_imul hx hb dX9_keep_68 ?_
      refine lv_iload_n hx hb dX9_keep_69 rfl (lv_at hl 2 rfl) ?_
      refine lv_iadd hx hb dX9_keep_70 ?_
      refine lv_aload_n hx hb dX9_keep_71 rfl (lv_at hl 0 rfl) ?_
      refine va_get (D := D) (ci := 9) (v := .ref o_seenShared) (C := RX9) (T := TX9) (N := 33) hx hb hts inw_X9_keep_X9 hown hK.1 hP 0 rfl rfl 26 (by decide) (hts (.fieldLink RX9 43 "PursesShareModel" "seenShared" "[I") (by decide +kernel)) (fun _ h9 => h9) rfl dX9_keep_72 ?_
      refine lv_iload_n hx hb dX9_keep_75 rfl (lv_at hl 2 rfl) ?_
      have h0 := h.1
      have h := h.2
      refine va_iald hx hb hK.1 hP 4 0 rfl rfl h0 dX9_keep_76 ?_
      have h0 := h.1
      have h := h.2
      refine va_iast hx hb hK.1 hP hD hS 9 0 rfl rfl h0 dX9_keep_77 (fun H locs hP hD hS => ?_)
      have hP : va_P D vwCl (cw_X9_keep cI cZ o o_readPurses o_readDay o_purses o_daily o_text o_row o_tried o_days o_order o_bestOrder o_seenHad o_seenShared o_isKept o_keptPurses o_keptRow o_keptHad o_keptShared o_keptRest v_readLaw v_readMany v_readMeetings v_law v_many v_meetings v_length v_at v_faultAt v_one v_other v_made v_leads v_rings v_seen a_purses a_row a_seenHad a_seenShared (upd a_isKept (Int32.toNatClampNeg n1) (1 : Int32)) (upd a_keptPurses_21 (Int32.toNatClampNeg (((8 : Int32) * n1) + x2_21)) (a_purses (Int32.toNatClampNeg x2_21))) a_keptRow (upd a_keptHad_21 (Int32.toNatClampNeg (((8 : Int32) * n1) + x2_21)) (a_seenHad (Int32.toNatClampNeg x2_21))) (upd a_keptShared_21 (Int32.toNatClampNeg (((8 : Int32) * n1) + x2_21)) (a_seenShared (Int32.toNatClampNeg x2_21))) a_keptRest) H := hP
      have hD : va_D A (cw_X9_keep cI cZ o o_readPurses o_readDay o_purses o_daily o_text o_row o_tried o_days o_order o_bestOrder o_seenHad o_seenShared o_isKept o_keptPurses o_keptRow o_keptHad o_keptShared o_keptRest v_readLaw v_readMany v_readMeetings v_law v_many v_meetings v_length v_at v_faultAt v_one v_other v_made v_leads v_rings v_seen a_purses a_row a_seenHad a_seenShared (upd a_isKept (Int32.toNatClampNeg n1) (1 : Int32)) (upd a_keptPurses_21 (Int32.toNatClampNeg (((8 : Int32) * n1) + x2_21)) (a_purses (Int32.toNatClampNeg x2_21))) a_keptRow (upd a_keptHad_21 (Int32.toNatClampNeg (((8 : Int32) * n1) + x2_21)) (a_seenHad (Int32.toNatClampNeg x2_21))) (upd a_keptShared_21 (Int32.toNatClampNeg (((8 : Int32) * n1) + x2_21)) (a_seenShared (Int32.toNatClampNeg x2_21))) a_keptRest) := hD
      refine lv_iinc (v := (x2_21 + 1)) (lv' := [(2, .int (x2_21 + 1)), (0, .ref o), (1, .int n1)]) hx hb dX9_keep_78 hl (k := 2) rfl rfl (by decide) rfl (fun ls hl => ?_)
      refine lv_goto (tgt := 21) hx hb dX9_keep_81 (by decide) ?_
      exact h H locs ls (lv_sub hl [1, 2, 0] rfl) hP hD hS
  · have h := h.2 c7
    refine lv_iconst (v := -1) hx hb dX9_keep_10 (by decide) ?_
    exact ret_i6 hx hb hr hlocks hQ hS a_isKept a_keptPurses a_keptRow a_keptHad a_keptShared a_keptRest hP h dX9_keep_11
abbrev rm_X9_again : Room := { frames := 1, cells := 0, slots := 0, locals := 25 }
abbrev cw_X9_again (cI cZ : ClassId) (o o_readPurses o_readDay o_purses o_daily o_text o_row o_tried o_days o_order o_bestOrder o_seenHad o_seenShared o_isKept o_keptPurses o_keptRow o_keptHad o_keptShared o_keptRest : Nat) (v_readLaw : Int32) (v_readMany : Int32) (v_readMeetings : Int32) (v_law : Int32) (v_many : Int32) (v_meetings : Int32) (v_length : Int32) (v_at : Int32) (v_faultAt : Int32) (v_one : Int32) (v_other : Int32) (v_made : Int32) (v_leads : Int32) (v_rings : Int32) (v_seen : Int32) (a_purses : Nat → Int32) (a_row : Nat → Int32) (a_seenHad : Nat → Int32) (a_seenShared : Nat → Int32) (a_isKept : Nat → Int32) (a_keptPurses : Nat → Int32) (a_keptRow : Nat → Int32) (a_keptHad : Nat → Int32) (a_keptShared : Nat → Int32) (a_keptRest : Nat → Int32) : va_W := [(o, .inr (9, [.ref o_readPurses, .ref o_readDay, .int v_readLaw, .int v_readMany, .int v_readMeetings, .ref o_purses, .ref o_daily, .int v_law, .int v_many, .int v_meetings, .ref o_text, .int v_length, .int v_at, .int v_faultAt, .int v_one, .int v_other, .int v_made, .ref o_row, .ref o_tried, .int v_leads, .int v_rings, .ref o_days, .ref o_order, .ref o_bestOrder, .int v_seen, .ref o_seenHad, .ref o_seenShared, .ref o_isKept, .ref o_keptPurses, .ref o_keptRow, .ref o_keptHad, .ref o_keptShared, .ref o_keptRest])), (o_purses, .inl (cI, 8, .inl a_purses)), (o_row, .inl (cI, 128, .inl a_row)), (o_seenHad, .inl (cI, 8, .inl a_seenHad)), (o_seenShared, .inl (cI, 8, .inl a_seenShared)), (o_isKept, .inl (cZ, 2, .inl a_isKept)), (o_keptPurses, .inl (cI, 16, .inl a_keptPurses)), (o_keptRow, .inl (cI, 256, .inl a_keptRow)), (o_keptHad, .inl (cI, 16, .inl a_keptHad)), (o_keptShared, .inl (cI, 16, .inl a_keptShared)), (o_keptRest, .inl (cI, 6, .inl a_keptRest))]
theorem inw_X9_again_X9 : ∀ w ∈ u_ws RX9 TX9 33, w ∈ wsX9_again := by decide +kernel
def wp_X9_again (n1 : Int32) (v_law : Int32) (v_made : Int32) (v_seen : Int32) (a_purses : Nat → Int32) (a_row : Nat → Int32) (a_seenHad : Nat → Int32) (a_seenShared : Nat → Int32) (a_isKept : Nat → Int32) (a_keptPurses : Nat → Int32) (a_keptRow : Nat → Int32) (a_keptHad : Nat → Int32) (a_keptShared : Nat → Int32) (a_keptRest : Nat → Int32) (Post : Int32 → (Int32) → (Int32) → (Int32) → (Nat → Int32) → (Nat → Int32) → (Nat → Int32) → (Nat → Int32) → Prop) : Prop := (wp_X9_in (Int32.toInt64 n1) (0 : Int64) (1 : Int64) (fun (r4 : Int32) => ((¬ r4 = 0 → (vp_in n1 2 ∧ ((¬ (a_isKept (Int32.toNatClampNeg n1)) = 0 → (∀ k26 : (Int32) → (Nat → Int32) → (Nat → Int32) → (Nat → Int32) → Prop, (∀ (x2_26 : Int32) (a_purses_26 : Nat → Int32) (a_seenHad_26 : Nat → Int32) (a_seenShared_26 : Nat → Int32), (((8 : Int32) ≤ x2_26 → (∀ k91 : (Int32) → (Nat → Int32) → Prop, (∀ (x2_91 : Int32) (a_row_91 : Nat → Int32), (((128 : Int32) ≤ x2_91 → (vp_in ((3 : Int32) * n1) 6 ∧ (vp_in (((3 : Int32) * n1) + (1 : Int32)) 6 ∧ (vp_in (((3 : Int32) * n1) + (2 : Int32)) 6 ∧ (Post (a_keptRest (Int32.toNatClampNeg (((3 : Int32) * n1) + (1 : Int32)))) (a_keptRest (Int32.toNatClampNeg ((3 : Int32) * n1))) (a_keptRest (Int32.toNatClampNeg (((3 : Int32) * n1) + (1 : Int32)))) (a_keptRest (Int32.toNatClampNeg (((3 : Int32) * n1) + (2 : Int32)))) a_purses_26 a_row_91 a_seenHad_26 a_seenShared_26))))) ∧ (¬ (128 : Int32) ≤ x2_91 → (vp_in (((128 : Int32) * n1) + x2_91) 256 ∧ (vp_in x2_91 128 ∧ (k91 (x2_91 + 1) (upd a_row_91 (Int32.toNatClampNeg x2_91) (a_keptRow (Int32.toNatClampNeg (((128 : Int32) * n1) + x2_91))))))))) → k91 x2_91 a_row_91) → k91 (0 : Int32) a_row)) ∧ (¬ (8 : Int32) ≤ x2_26 → (vp_in (((8 : Int32) * n1) + x2_26) 16 ∧ (vp_in x2_26 8 ∧ (vp_in (((8 : Int32) * n1) + x2_26) 16 ∧ (vp_in x2_26 8 ∧ (vp_in (((8 : Int32) * n1) + x2_26) 16 ∧ (vp_in x2_26 8 ∧ (k26 (x2_26 + 1) (upd a_purses_26 (Int32.toNatClampNeg x2_26) (a_keptPurses (Int32.toNatClampNeg (((8 : Int32) * n1) + x2_26)))) (upd a_seenHad_26 (Int32.toNatClampNeg x2_26) (a_keptHad (Int32.toNatClampNeg (((8 : Int32) * n1) + x2_26)))) (upd a_seenShared_26 (Int32.toNatClampNeg x2_26) (a_keptShared (Int32.toNatClampNeg (((8 : Int32) * n1) + x2_26))))))))))))) → k26 x2_26 a_purses_26 a_seenHad_26 a_seenShared_26) → k26 (0 : Int32) a_purses a_seenHad a_seenShared)) ∧ ((a_isKept (Int32.toNatClampNeg n1)) = 0 → (Post (-3 : Int32) v_law v_made v_seen a_purses a_row a_seenHad a_seenShared))))) ∧ (r4 = 0 → (Post (-1 : Int32) v_law v_made v_seen a_purses a_row a_seenHad a_seenShared)))))
set_option maxHeartbeats 4000000 in
set_option maxRecDepth 100000 in
theorem c_X9_again (l : Launch) (D : va_G) (cI cZ : ClassId) (o o_readPurses o_readDay o_purses o_daily o_text o_row o_tried o_days o_order o_bestOrder o_seenHad o_seenShared o_isKept o_keptPurses o_keptRow o_keptHad o_keptShared o_keptRest : Nat) (sz : Nat) (n1 : Int32) (v_readLaw : Int32) (v_readMany : Int32) (v_readMeetings : Int32) (v_law : Int32) (v_many : Int32) (v_meetings : Int32) (v_length : Int32) (v_at : Int32) (v_faultAt : Int32) (v_one : Int32) (v_other : Int32) (v_made : Int32) (v_leads : Int32) (v_rings : Int32) (v_seen : Int32) (a_purses : Nat → Int32) (a_row : Nat → Int32) (a_seenHad : Nat → Int32) (a_seenShared : Nat → Int32) (a_isKept : Nat → Int32) (a_keptPurses : Nat → Int32) (a_keptRow : Nat → Int32) (a_keptHad : Nat → Int32) (a_keptShared : Nat → Int32) (a_keptRest : Nat → Int32) (Post : Int32 → (Int32) → (Int32) → (Int32) → (Nat → Int32) → (Nat → Int32) → (Nat → Int32) → (Nat → Int32) → Prop) (h : wp_X9_again n1 v_law v_made v_seen a_purses a_row a_seenHad a_seenShared a_isKept a_keptPurses a_keptRow a_keptHad a_keptShared a_keptRest Post) : Met l yX9_again wsX9_again rm_X9_again (cPc D cI cZ [.ref o, .int n1] (cw_X9_again cI cZ o o_readPurses o_readDay o_purses o_daily o_text o_row o_tried o_days o_order o_bestOrder o_seenHad o_seenShared o_isKept o_keptPurses o_keptRow o_keptHad o_keptShared o_keptRest v_readLaw v_readMany v_readMeetings v_law v_many v_meetings v_length v_at v_faultAt v_one v_other v_made v_leads v_rings v_seen a_purses a_row a_seenHad a_seenShared a_isKept a_keptPurses a_keptRow a_keptHad a_keptShared a_keptRest) sz) (cQi7 D Post (fun m_v_law m_v_made m_v_seen m_a_purses m_a_row m_a_seenHad m_a_seenShared => (cw_X9_again cI cZ o o_readPurses o_readDay o_purses o_daily o_text o_row o_tried o_days o_order o_bestOrder o_seenHad o_seenShared o_isKept o_keptPurses o_keptRow o_keptHad o_keptShared o_keptRest v_readLaw v_readMany v_readMeetings m_v_law v_many v_meetings v_length v_at v_faultAt v_one v_other m_v_made v_leads v_rings m_v_seen m_a_purses m_a_row m_a_seenHad m_a_seenShared a_isKept a_keptPurses a_keptRow a_keptHad a_keptShared a_keptRest)) (va_A (cw_X9_again cI cZ o o_readPurses o_readDay o_purses o_daily o_text o_row o_tried o_days o_order o_bestOrder o_seenHad o_seenShared o_isKept o_keptPurses o_keptRow o_keptHad o_keptShared o_keptRest v_readLaw v_readMany v_readMeetings v_law v_many v_meetings v_length v_at v_faultAt v_one v_other v_made v_leads v_rings v_seen a_purses a_row a_seenHad a_seenShared a_isKept a_keptPurses a_keptRow a_keptHad a_keptShared a_keptRest) sz)) 0 0 (va_A (cw_X9_again cI cZ o o_readPurses o_readDay o_purses o_daily o_text o_row o_tried o_days o_order o_bestOrder o_seenHad o_seenShared o_isKept o_keptPurses o_keptRow o_keptHad o_keptShared o_keptRest v_readLaw v_readMany v_readMeetings v_law v_many v_meetings v_length v_at v_faultAt v_one v_other v_made v_leads v_rings v_seen a_purses a_row a_seenHad a_seenShared a_isKept a_keptPurses a_keptRow a_keptHad a_keptShared a_keptRest) sz) := by
  refine ent (cc := cX9_again) (maxL := 3) (ret := (some .int)) (Qc := fun A => cQi7 D Post (fun m_v_law m_v_made m_v_seen m_a_purses m_a_row m_a_seenHad m_a_seenShared => (cw_X9_again cI cZ o o_readPurses o_readDay o_purses o_daily o_text o_row o_tried o_days o_order o_bestOrder o_seenHad o_seenShared o_isKept o_keptPurses o_keptRow o_keptHad o_keptShared o_keptRest v_readLaw v_readMany v_readMeetings m_v_law v_many v_meetings v_length v_at v_faultAt v_one v_other m_v_made v_leads v_rings m_v_seen m_a_purses m_a_row m_a_seenHad m_a_seenShared a_isKept a_keptPurses a_keptRow a_keptHad a_keptShared a_keptRest)) A) (by decide) rfl (Nat.le_of_ble_eq_true rfl) ?_
  intro p e s m args below meth c A ls Q hQ hsz hx hb hml hr hts hown hlocks hnm hK hP hD hA hS hl
  have hl : lv_has ls 3 [(0, .ref o), (1, .int n1)] := hl
  unfold wp_X9_again at h
  refine lv_iload_n hx hb dX9_again_0 rfl (lv_at hl 1 rfl) ?_
  refine lv_i2l (v := (Int32.toInt64 n1)) hx hb dX9_again_1 rfl ?_
  refine lv_lconst (v := 0) hx hb dX9_again_2 (by decide) ?_
  refine lv_lconst (v := 1) hx hb dX9_again_3 (by decide) ?_
  refine call_i0 (va_runS (As := [.long (Int32.toInt64 n1), .long (0 : Int64), .long (1 : Int64)]) (rest := []) ⟨hx, hb, hml, hown, hts⟩ (c_X9_in l D cI cZ (Array.size s.heap) (Int32.toInt64 n1) (0 : Int64) (1 : Int64) _ h) (va_cwS 3 hts gX9_again_X9_in rfl rfl rfl (by decide +kernel) ⟨Nat.le_of_ble_eq_true rfl, Nat.le_of_ble_eq_true rfl⟩) (preS_of hP hD hK [] rfl rfl) rfl rfl hl.1 rfl (lv_room (Nat.le_of_ble_eq_true rfl)) dX9_again_4 ⟨Nat.zero_le _, Nat.zero_le _⟩) hP hD hS hA [] rfl ((cw_X9_again cI cZ o o_readPurses o_readDay o_purses o_daily o_text o_row o_tried o_days o_order o_bestOrder o_seenHad o_seenShared o_isKept o_keptPurses o_keptRow o_keptHad o_keptShared o_keptRest v_readLaw v_readMany v_readMeetings v_law v_many v_meetings v_length v_at v_faultAt v_one v_other v_made v_leads v_rings v_seen a_purses a_row a_seenHad a_seenShared a_isKept a_keptPurses a_keptRow a_keptHad a_keptShared a_keptRest)) (rfl) (rfl) (fun r4 H locs h hP hD hS => ?_)
  refine lv_if_ne (tgt := 12) hx hb dX9_again_7 (by decide) (fun c7 => ?_) (fun c7 => ?_)
  · have h := h.1 c7
    refine lv_aload_n hx hb dX9_again_12 rfl (lv_at hl 0 rfl) ?_
    refine va_get (D := D) (ci := 9) (v := .ref o_isKept) (C := RX9) (T := TX9) (N := 33) hx hb hts inw_X9_again_X9 hown hK.1 hP 0 rfl rfl 27 (by decide) (hts (.fieldLink RX9 46 "PursesShareModel" "isKept" "[Z") (by decide +kernel)) (fun _ h9 => h9) rfl dX9_again_13 ?_
    refine lv_iload_n hx hb dX9_again_16 rfl (lv_at hl 1 rfl) ?_
    have h0 := h.1
    have h := h.2
    refine va_zald hx hb hK.1 hP 5 1 rfl rfl h0 dX9_again_17 ?_
    refine lv_if_ne (tgt := 24) hx hb dX9_again_18 (by decide) (fun c18 => ?_) (fun c18 => ?_)
    · have h := h.1 c18
      refine lv_iconst (v := 0) hx hb dX9_again_24 (by decide) ?_
      refine lv_istore_n (lv' := [(2, .int (0 : Int32)), (0, .ref o), (1, .int n1)]) hx hb dX9_again_25 rfl hl (by decide) rfl (fun ls hl => ?_)
      refine h (fun x2_26 a_purses_26 a_seenHad_26 a_seenShared_26 => ∀ (H : Heap) (locs : List Loc) (ls : Array Slot), lv_has ls 3 [(0, .ref o), (1, .int n1), (2, .int x2_26)] → va_P D vwCl (cw_X9_again cI cZ o o_readPurses o_readDay o_purses o_daily o_text o_row o_tried o_days o_order o_bestOrder o_seenHad o_seenShared o_isKept o_keptPurses o_keptRow o_keptHad o_keptShared o_keptRest v_readLaw v_readMany v_readMeetings v_law v_many v_meetings v_length v_at v_faultAt v_one v_other v_made v_leads v_rings v_seen a_purses_26 a_row a_seenHad_26 a_seenShared_26 a_isKept a_keptPurses a_keptRow a_keptHad a_keptShared a_keptRest) H → va_D A (cw_X9_again cI cZ o o_readPurses o_readDay o_purses o_daily o_text o_row o_tried o_days o_order o_bestOrder o_seenHad o_seenShared o_isKept o_keptPurses o_keptRow o_keptHad o_keptShared o_keptRest v_readLaw v_readMany v_readMeetings v_law v_many v_meetings v_length v_at v_faultAt v_one v_other v_made v_leads v_rings v_seen a_purses_26 a_row a_seenHad_26 a_seenShared_26 a_isKept a_keptPurses a_keptRow a_keptHad a_keptShared a_keptRest) → va_S A s.heap H locs → W p l e rm_X9_again s m args below meth c H locs 0 0 Q (F0 m 26 ls [])) ?_ H locs ls (lv_sub hl [1, 2, 0] rfl) hP hD hS
      intro x2_26 a_purses_26 a_seenHad_26 a_seenShared_26 h H locs ls hl hP hD hS
      refine lv_iload_n hx hb dX9_again_26 rfl (lv_at hl 2 rfl) ?_
      refine lv_bipush (v := 8) hx hb dX9_again_27 (by decide) ?_
      refine lv_icmp_ge (tgt := 89) hx hb dX9_again_29 (by decide) (fun c29 => ?_) (fun c29 => ?_)
      · have h := h.1 c29
        refine lv_iconst (v := 0) hx hb dX9_again_89 (by decide) ?_
        refine lv_istore_n (lv' := [(2, .int (0 : Int32)), (0, .ref o), (1, .int n1)]) hx hb dX9_again_90 rfl hl (by decide) rfl (fun ls hl => ?_)
        refine h (fun x2_91 a_row_91 => ∀ (H : Heap) (locs : List Loc) (ls : Array Slot), lv_has ls 3 [(0, .ref o), (1, .int n1), (2, .int x2_91)] → va_P D vwCl (cw_X9_again cI cZ o o_readPurses o_readDay o_purses o_daily o_text o_row o_tried o_days o_order o_bestOrder o_seenHad o_seenShared o_isKept o_keptPurses o_keptRow o_keptHad o_keptShared o_keptRest v_readLaw v_readMany v_readMeetings v_law v_many v_meetings v_length v_at v_faultAt v_one v_other v_made v_leads v_rings v_seen a_purses_26 a_row_91 a_seenHad_26 a_seenShared_26 a_isKept a_keptPurses a_keptRow a_keptHad a_keptShared a_keptRest) H → va_D A (cw_X9_again cI cZ o o_readPurses o_readDay o_purses o_daily o_text o_row o_tried o_days o_order o_bestOrder o_seenHad o_seenShared o_isKept o_keptPurses o_keptRow o_keptHad o_keptShared o_keptRest v_readLaw v_readMany v_readMeetings v_law v_many v_meetings v_length v_at v_faultAt v_one v_other v_made v_leads v_rings v_seen a_purses_26 a_row_91 a_seenHad_26 a_seenShared_26 a_isKept a_keptPurses a_keptRow a_keptHad a_keptShared a_keptRest) → va_S A s.heap H locs → W p l e rm_X9_again s m args below meth c H locs 0 0 Q (F0 m 91 ls [])) ?_ H locs ls (lv_sub hl [1, 2, 0] rfl) hP hD hS
        intro x2_91 a_row_91 h H locs ls hl hP hD hS
        refine lv_iload_n hx hb dX9_again_91 rfl (lv_at hl 2 rfl) ?_
        refine lv_sipush (v := 128) hx hb dX9_again_92 (by decide) ?_
        refine lv_icmp_ge (tgt := 122) hx hb dX9_again_95 (by decide) (fun c95 => ?_) (fun c95 => ?_)
        · have h := h.1 c95
          refine lv_aload_n hx hb dX9_again_122 rfl (lv_at hl 0 rfl) ?_
          refine lv_aload_n hx hb dX9_again_123 rfl (lv_at hl 0 rfl) ?_
          refine va_get (D := D) (ci := 9) (v := .ref o_keptRest) (C := RX9) (T := TX9) (N := 33) hx hb hts inw_X9_again_X9 hown hK.1 hP 0 rfl rfl 32 (by decide) (hts (.fieldLink RX9 62 "PursesShareModel" "keptRest" "[I") (by decide +kernel)) (fun _ h9 => h9) rfl dX9_again_124 ?_
          refine lv_iconst (v := 3) hx hb dX9_again_127 (by decide) ?_
          refine lv_iload_n hx hb dX9_again_128 rfl (lv_at hl 1 rfl) ?_
          refine lv_imul hx hb dX9_again_129 ?_
          have h0 := h.1
          have h := h.2
          refine va_iald hx hb hK.1 hP 10 0 rfl rfl h0 dX9_again_130 ?_
          refine va_put (D := D) (ci := 9) (v := .int (a_keptRest (Int32.toNatClampNeg ((3 : Int32) * n1)))) (ty := .int) (C := RX9) (T := TX9) (N := 33) hx hb hts inw_X9_again_X9 tyX9 tyX9_ok nmX9 hown hK.1 hP hD hS 0 rfl rfl 7 (by decide) (hts (.fieldLink RX9 103 "PursesShareModel" "law" "I") (by decide +kernel)) (fun _ h9 => h9) rfl (by decide +kernel) rfl rfl (Nat.le_of_ble_eq_true rfl) dX9_again_131 (fun H locs hP hD hS => ?_)
          have hP : va_P D vwCl (cw_X9_again cI cZ o o_readPurses o_readDay o_purses o_daily o_text o_row o_tried o_days o_order o_bestOrder o_seenHad o_seenShared o_isKept o_keptPurses o_keptRow o_keptHad o_keptShared o_keptRest v_readLaw v_readMany v_readMeetings (a_keptRest (Int32.toNatClampNeg ((3 : Int32) * n1))) v_many v_meetings v_length v_at v_faultAt v_one v_other v_made v_leads v_rings v_seen a_purses_26 a_row_91 a_seenHad_26 a_seenShared_26 a_isKept a_keptPurses a_keptRow a_keptHad a_keptShared a_keptRest) H := hP
          have hD : va_D A (cw_X9_again cI cZ o o_readPurses o_readDay o_purses o_daily o_text o_row o_tried o_days o_order o_bestOrder o_seenHad o_seenShared o_isKept o_keptPurses o_keptRow o_keptHad o_keptShared o_keptRest v_readLaw v_readMany v_readMeetings (a_keptRest (Int32.toNatClampNeg ((3 : Int32) * n1))) v_many v_meetings v_length v_at v_faultAt v_one v_other v_made v_leads v_rings v_seen a_purses_26 a_row_91 a_seenHad_26 a_seenShared_26 a_isKept a_keptPurses a_keptRow a_keptHad a_keptShared a_keptRest) := hD
          refine lv_aload_n hx hb dX9_again_134 rfl (lv_at hl 0 rfl) ?_
          refine lv_aload_n hx hb dX9_again_135 rfl (lv_at hl 0 rfl) ?_
          refine va_get (D := D) (ci := 9) (v := .ref o_keptRest) (C := RX9) (T := TX9) (N := 33) hx hb hts inw_X9_again_X9 hown hK.1 hP 0 rfl rfl 32 (by decide) (hts (.fieldLink RX9 62 "PursesShareModel" "keptRest" "[I") (by decide +kernel)) (fun _ h9 => h9) rfl dX9_again_136 ?_
          refine lv_iconst (v := 3) hx hb dX9_again_139 (by decide) ?_
          refine lv_iload_n hx hb dX9_again_140 rfl (lv_at hl 1 rfl) ?_
          refine lv_imul hx hb dX9_again_141 ?_
          refine lv_iconst (v := 1) hx hb dX9_again_142 (by decide) ?_
          refine lv_iadd hx hb dX9_again_143 ?_
          have h0 := h.1
          have h := h.2
          refine va_iald hx hb hK.1 hP 10 0 rfl rfl h0 dX9_again_144 ?_
          refine va_put (D := D) (ci := 9) (v := .int (a_keptRest (Int32.toNatClampNeg (((3 : Int32) * n1) + (1 : Int32))))) (ty := .int) (C := RX9) (T := TX9) (N := 33) hx hb hts inw_X9_again_X9 tyX9 tyX9_ok nmX9 hown hK.1 hP hD hS 0 rfl rfl 16 (by decide) (hts (.fieldLink RX9 109 "PursesShareModel" "made" "I") (by decide +kernel)) (fun _ h9 => h9) rfl (by decide +kernel) rfl rfl (Nat.le_of_ble_eq_true rfl) dX9_again_145 (fun H locs hP hD hS => ?_)
          have hP : va_P D vwCl (cw_X9_again cI cZ o o_readPurses o_readDay o_purses o_daily o_text o_row o_tried o_days o_order o_bestOrder o_seenHad o_seenShared o_isKept o_keptPurses o_keptRow o_keptHad o_keptShared o_keptRest v_readLaw v_readMany v_readMeetings (a_keptRest (Int32.toNatClampNeg ((3 : Int32) * n1))) v_many v_meetings v_length v_at v_faultAt v_one v_other (a_keptRest (Int32.toNatClampNeg (((3 : Int32) * n1) + (1 : Int32)))) v_leads v_rings v_seen a_purses_26 a_row_91 a_seenHad_26 a_seenShared_26 a_isKept a_keptPurses a_keptRow a_keptHad a_keptShared a_keptRest) H := hP
          have hD : va_D A (cw_X9_again cI cZ o o_readPurses o_readDay o_purses o_daily o_text o_row o_tried o_days o_order o_bestOrder o_seenHad o_seenShared o_isKept o_keptPurses o_keptRow o_keptHad o_keptShared o_keptRest v_readLaw v_readMany v_readMeetings (a_keptRest (Int32.toNatClampNeg ((3 : Int32) * n1))) v_many v_meetings v_length v_at v_faultAt v_one v_other (a_keptRest (Int32.toNatClampNeg (((3 : Int32) * n1) + (1 : Int32)))) v_leads v_rings v_seen a_purses_26 a_row_91 a_seenHad_26 a_seenShared_26 a_isKept a_keptPurses a_keptRow a_keptHad a_keptShared a_keptRest) := hD
          refine lv_aload_n hx hb dX9_again_148 rfl (lv_at hl 0 rfl) ?_
          refine lv_aload_n hx hb dX9_again_149 rfl (lv_at hl 0 rfl) ?_
          refine va_get (D := D) (ci := 9) (v := .ref o_keptRest) (C := RX9) (T := TX9) (N := 33) hx hb hts inw_X9_again_X9 hown hK.1 hP 0 rfl rfl 32 (by decide) (hts (.fieldLink RX9 62 "PursesShareModel" "keptRest" "[I") (by decide +kernel)) (fun _ h9 => h9) rfl dX9_again_150 ?_
          refine lv_iconst (v := 3) hx hb dX9_again_153 (by decide) ?_
          refine lv_iload_n hx hb dX9_again_154 rfl (lv_at hl 1 rfl) ?_
          refine lv_imul hx hb dX9_again_155 ?_
          refine lv_iconst (v := 2) hx hb dX9_again_156 (by decide) ?_
          refine lv_iadd hx hb dX9_again_157 ?_
          have h0 := h.1
          have h := h.2
          refine va_iald hx hb hK.1 hP 10 0 rfl rfl h0 dX9_again_158 ?_
          refine va_put (D := D) (ci := 9) (v := .int (a_keptRest (Int32.toNatClampNeg (((3 : Int32) * n1) + (2 : Int32))))) (ty := .int) (C := RX9) (T := TX9) (N := 33) hx hb hts inw_X9_again_X9 tyX9 tyX9_ok nmX9 hown hK.1 hP hD hS 0 rfl rfl 24 (by decide) (hts (.fieldLink RX9 112 "PursesShareModel" "seen" "I") (by decide +kernel)) (fun _ h9 => h9) rfl (by decide +kernel) rfl rfl (Nat.le_of_ble_eq_true rfl) dX9_again_159 (fun H locs hP hD hS => ?_)
          have hP : va_P D vwCl (cw_X9_again cI cZ o o_readPurses o_readDay o_purses o_daily o_text o_row o_tried o_days o_order o_bestOrder o_seenHad o_seenShared o_isKept o_keptPurses o_keptRow o_keptHad o_keptShared o_keptRest v_readLaw v_readMany v_readMeetings (a_keptRest (Int32.toNatClampNeg ((3 : Int32) * n1))) v_many v_meetings v_length v_at v_faultAt v_one v_other (a_keptRest (Int32.toNatClampNeg (((3 : Int32) * n1) + (1 : Int32)))) v_leads v_rings (a_keptRest (Int32.toNatClampNeg (((3 : Int32) * n1) + (2 : Int32)))) a_purses_26 a_row_91 a_seenHad_26 a_seenShared_26 a_isKept a_keptPurses a_keptRow a_keptHad a_keptShared a_keptRest) H := hP
          have hD : va_D A (cw_X9_again cI cZ o o_readPurses o_readDay o_purses o_daily o_text o_row o_tried o_days o_order o_bestOrder o_seenHad o_seenShared o_isKept o_keptPurses o_keptRow o_keptHad o_keptShared o_keptRest v_readLaw v_readMany v_readMeetings (a_keptRest (Int32.toNatClampNeg ((3 : Int32) * n1))) v_many v_meetings v_length v_at v_faultAt v_one v_other (a_keptRest (Int32.toNatClampNeg (((3 : Int32) * n1) + (1 : Int32)))) v_leads v_rings (a_keptRest (Int32.toNatClampNeg (((3 : Int32) * n1) + (2 : Int32)))) a_purses_26 a_row_91 a_seenHad_26 a_seenShared_26 a_isKept a_keptPurses a_keptRow a_keptHad a_keptShared a_keptRest) := hD
          refine lv_aload_n hx hb dX9_again_162 rfl (lv_at hl 0 rfl) ?_
          refine va_get (D := D) (ci := 9) (v := .int (a_keptRest (Int32.toNatClampNeg (((3 : Int32) * n1) + (1 : Int32))))) (C := RX9) (T := TX9) (N := 33) hx hb hts inw_X9_again_X9 hown hK.1 hP 0 rfl rfl 16 (by decide) (hts (.fieldLink RX9 109 "PursesShareModel" "made" "I") (by decide +kernel)) (fun _ h9 => h9) rfl dX9_again_163 ?_
          exact ret_i7 hx hb hr hlocks hQ hS (a_keptRest (Int32.toNatClampNeg ((3 : Int32) * n1))) (a_keptRest (Int32.toNatClampNeg (((3 : Int32) * n1) + (1 : Int32)))) (a_keptRest (Int32.toNatClampNeg (((3 : Int32) * n1) + (2 : Int32)))) a_purses_26 a_row_91 a_seenHad_26 a_seenShared_26 hP h dX9_again_166
        · have h := h.2 c95
          refine lv_aload_n hx hb dX9_again_98 rfl (lv_at hl 0 rfl) ?_
          refine va_get (D := D) (ci := 9) (v := .ref o_row) (C := RX9) (T := TX9) (N := 33) hx hb hts inw_X9_again_X9 hown hK.1 hP 0 rfl rfl 17 (by decide) (hts (.fieldLink RX9 25 "PursesShareModel" "row" "[I") (by decide +kernel)) (fun _ h9 => h9) rfl dX9_again_99 ?_
          refine lv_iload_n hx hb dX9_again_102 rfl (lv_at hl 2 rfl) ?_
          refine lv_aload_n hx hb dX9_again_103 rfl (lv_at hl 0 rfl) ?_
          refine va_get (D := D) (ci := 9) (v := .ref o_keptRow) (C := RX9) (T := TX9) (N := 33) hx hb hts inw_X9_again_X9 hown hK.1 hP 0 rfl rfl 29 (by decide) (hts (.fieldLink RX9 53 "PursesShareModel" "keptRow" "[I") (by decide +kernel)) (fun _ h9 => h9) rfl dX9_again_104 ?_
          refine lv_sipush (v := 128) hx hb dX9_again_107 (by decide) ?_
          refine lv_iload_n hx hb dX9_again_110 rfl (lv_at hl 1 rfl) ?_
          refine lv_imul hx hb dX9_again_111 ?_
          refine lv_iload_n hx hb dX9_again_112 rfl (lv_at hl 2 rfl) ?_
          refine lv_iadd hx hb dX9_again_113 ?_
          have h0 := h.1
          have h := h.2
          refine va_iald hx hb hK.1 hP 7 0 rfl rfl h0 dX9_again_114 ?_
          have h0 := h.1
          have h := h.2
          refine va_iast hx hb hK.1 hP hD hS 2 0 rfl rfl h0 dX9_again_115 (fun H locs hP hD hS => ?_)
          have hP : va_P D vwCl (cw_X9_again cI cZ o o_readPurses o_readDay o_purses o_daily o_text o_row o_tried o_days o_order o_bestOrder o_seenHad o_seenShared o_isKept o_keptPurses o_keptRow o_keptHad o_keptShared o_keptRest v_readLaw v_readMany v_readMeetings v_law v_many v_meetings v_length v_at v_faultAt v_one v_other v_made v_leads v_rings v_seen a_purses_26 (upd a_row_91 (Int32.toNatClampNeg x2_91) (a_keptRow (Int32.toNatClampNeg (((128 : Int32) * n1) + x2_91)))) a_seenHad_26 a_seenShared_26 a_isKept a_keptPurses a_keptRow a_keptHad a_keptShared a_keptRest) H := hP
          have hD : va_D A (cw_X9_again cI cZ o o_readPurses o_readDay o_purses o_daily o_text o_row o_tried o_days o_order o_bestOrder o_seenHad o_seenShared o_isKept o_keptPurses o_keptRow o_keptHad o_keptShared o_keptRest v_readLaw v_readMany v_readMeetings v_law v_many v_meetings v_length v_at v_faultAt v_one v_other v_made v_leads v_rings v_seen a_purses_26 (upd a_row_91 (Int32.toNatClampNeg x2_91) (a_keptRow (Int32.toNatClampNeg (((128 : Int32) * n1) + x2_91)))) a_seenHad_26 a_seenShared_26 a_isKept a_keptPurses a_keptRow a_keptHad a_keptShared a_keptRest) := hD
          refine lv_iinc (v := (x2_91 + 1)) (lv' := [(2, .int (x2_91 + 1)), (0, .ref o), (1, .int n1)]) hx hb dX9_again_116 hl (k := 2) rfl rfl (by decide) rfl (fun ls hl => ?_)
          refine lv_goto (tgt := 91) hx hb dX9_again_119 (by decide) ?_
          exact h H locs ls (lv_sub hl [1, 2, 0] rfl) hP hD hS
      · have h := h.2 c29
        refine lv_aload_n hx hb dX9_again_32 rfl (lv_at hl 0 rfl) ?_
        refine va_get (D := D) (ci := 9) (v := .ref o_purses) (C := RX9) (T := TX9) (N := 33) hx hb hts inw_X9_again_X9 hown hK.1 hP 0 rfl rfl 5 (by decide) (hts (.fieldLink RX9 16 "PursesShareModel" "purses" "[I") (by decide +kernel)) (fun _ h9 => h9) rfl dX9_again_33 ?_
        refine lv_iload_n hx hb dX9_again_36 rfl (lv_at hl 2 rfl) ?_
        refine lv_aload_n hx hb dX9_again_37 rfl (lv_at hl 0 rfl) ?_
        refine va_get (D := D) (ci := 9) (v := .ref o_keptPurses) (C := RX9) (T := TX9) (N := 33) hx hb hts inw_X9_again_X9 hown hK.1 hP 0 rfl rfl 28 (by decide) (hts (.fieldLink RX9 50 "PursesShareModel" "keptPurses" "[I") (by decide +kernel)) (fun _ h9 => h9) rfl dX9_again_38 ?_
        refine lv_bipush (v := 8) hx hb dX9_again_41 (by decide) ?_
        refine lv_iload_n hx hb dX9_again_43 rfl (lv_at hl 1 rfl) ?_
        refine lv_imul hx hb dX9_again_44 ?_
        refine lv_iload_n hx hb dX9_again_45 rfl (lv_at hl 2 rfl) ?_
        refine lv_iadd hx hb dX9_again_46 ?_
        have h0 := h.1
        have h := h.2
        refine va_iald hx hb hK.1 hP 6 0 rfl rfl h0 dX9_again_47 ?_
        have h0 := h.1
        have h := h.2
        refine va_iast hx hb hK.1 hP hD hS 1 0 rfl rfl h0 dX9_again_48 (fun H locs hP hD hS => ?_)
        have hP : va_P D vwCl (cw_X9_again cI cZ o o_readPurses o_readDay o_purses o_daily o_text o_row o_tried o_days o_order o_bestOrder o_seenHad o_seenShared o_isKept o_keptPurses o_keptRow o_keptHad o_keptShared o_keptRest v_readLaw v_readMany v_readMeetings v_law v_many v_meetings v_length v_at v_faultAt v_one v_other v_made v_leads v_rings v_seen (upd a_purses_26 (Int32.toNatClampNeg x2_26) (a_keptPurses (Int32.toNatClampNeg (((8 : Int32) * n1) + x2_26)))) a_row a_seenHad_26 a_seenShared_26 a_isKept a_keptPurses a_keptRow a_keptHad a_keptShared a_keptRest) H := hP
        have hD : va_D A (cw_X9_again cI cZ o o_readPurses o_readDay o_purses o_daily o_text o_row o_tried o_days o_order o_bestOrder o_seenHad o_seenShared o_isKept o_keptPurses o_keptRow o_keptHad o_keptShared o_keptRest v_readLaw v_readMany v_readMeetings v_law v_many v_meetings v_length v_at v_faultAt v_one v_other v_made v_leads v_rings v_seen (upd a_purses_26 (Int32.toNatClampNeg x2_26) (a_keptPurses (Int32.toNatClampNeg (((8 : Int32) * n1) + x2_26)))) a_row a_seenHad_26 a_seenShared_26 a_isKept a_keptPurses a_keptRow a_keptHad a_keptShared a_keptRest) := hD
        refine lv_aload_n hx hb dX9_again_49 rfl (lv_at hl 0 rfl) ?_
        refine va_get (D := D) (ci := 9) (v := .ref o_seenHad) (C := RX9) (T := TX9) (N := 33) hx hb hts inw_X9_again_X9 hown hK.1 hP 0 rfl rfl 25 (by decide) (hts (.fieldLink RX9 40 "PursesShareModel" "seenHad" "[I") (by decide +kernel)) (fun _ h9 => h9) rfl dX9_again_50 ?_
        refine lv_iload_n hx hb dX9_again_53 rfl (lv_at hl 2 rfl) ?_
        refine lv_aload_n hx hb dX9_again_54 rfl (lv_at hl 0 rfl) ?_
        refine va_get (D := D) (ci := 9) (v := .ref o_keptHad) (C := RX9) (T := TX9) (N := 33) hx hb hts inw_X9_again_X9 hown hK.1 hP 0 rfl rfl 30 (by decide) (hts (.fieldLink RX9 56 "PursesShareModel" "keptHad" "[I") (by decide +kernel)) (fun _ h9 => h9) rfl dX9_again_55 ?_
        refine lv_bipush (v := 8) hx hb dX9_again_58 (by decide) ?_
        refine lv_iload_n hx hb dX9_again_60 rfl (lv_at hl 1 rfl) ?_
        refine lv_imul hx hb dX9_again_61 ?_
        refine lv_iload_n hx hb dX9_again_62 rfl (lv_at hl 2 rfl) ?_
        refine lv_iadd hx hb dX9_again_63 ?_
        have h0 := h.1
        have h := h.2
        refine va_iald hx hb hK.1 hP 8 0 rfl rfl h0 dX9_again_64 ?_
        have h0 := h.1
        have h := h.2
        refine va_iast hx hb hK.1 hP hD hS 3 0 rfl rfl h0 dX9_again_65 (fun H locs hP hD hS => ?_)
        have hP : va_P D vwCl (cw_X9_again cI cZ o o_readPurses o_readDay o_purses o_daily o_text o_row o_tried o_days o_order o_bestOrder o_seenHad o_seenShared o_isKept o_keptPurses o_keptRow o_keptHad o_keptShared o_keptRest v_readLaw v_readMany v_readMeetings v_law v_many v_meetings v_length v_at v_faultAt v_one v_other v_made v_leads v_rings v_seen (upd a_purses_26 (Int32.toNatClampNeg x2_26) (a_keptPurses (Int32.toNatClampNeg (((8 : Int32) * n1) + x2_26)))) a_row (upd a_seenHad_26 (Int32.toNatClampNeg x2_26) (a_keptHad (Int32.toNatClampNeg (((8 : Int32) * n1) + x2_26)))) a_seenShared_26 a_isKept a_keptPurses a_keptRow a_keptHad a_keptShared a_keptRest) H := hP
        have hD : va_D A (cw_X9_again cI cZ o o_readPurses o_readDay o_purses o_daily o_text o_row o_tried o_days o_order o_bestOrder o_seenHad o_seenShared o_isKept o_keptPurses o_keptRow o_keptHad o_keptShared o_keptRest v_readLaw v_readMany v_readMeetings v_law v_many v_meetings v_length v_at v_faultAt v_one v_other v_made v_leads v_rings v_seen (upd a_purses_26 (Int32.toNatClampNeg x2_26) (a_keptPurses (Int32.toNatClampNeg (((8 : Int32) * n1) + x2_26)))) a_row (upd a_seenHad_26 (Int32.toNatClampNeg x2_26) (a_keptHad (Int32.toNatClampNeg (((8 : Int32) * n1) + x2_26)))) a_seenShared_26 a_isKept a_keptPurses a_keptRow a_keptHad a_keptShared a_keptRest) := hD
        refine lv_aload_n hx hb dX9_again_66 rfl (lv_at hl 0 rfl) ?_
        refine va_get (D := D) (ci := 9) (v := .ref o_seenShared) (C := RX9) (T := TX9) (N := 33) hx hb hts inw_X9_again_X9 hown hK.1 hP 0 rfl rfl 26 (by decide) (hts (.fieldLink RX9 43 "PursesShareModel" "seenShared" "[I") (by decide +kernel)) (fun _ h9 => h9) rfl dX9_again_67 ?_
        refine lv_iload_n hx hb dX9_again_70 rfl (lv_at hl 2 rfl) ?_
        refine lv_aload_n hx hb dX9_again_71 rfl (lv_at hl 0 rfl) ?_
        refine va_get (D := D) (ci := 9) (v := .ref o_keptShared) (C := RX9) (T := TX9) (N := 33) hx hb hts inw_X9_again_X9 hown hK.1 hP 0 rfl rfl 31 (by decide) (hts (.fieldLink RX9 59 "PursesShareModel" "keptShared" "[I") (by decide +kernel)) (fun _ h9 => h9) rfl dX9_again_72 ?_
        refine lv_bipush (v := 8) hx hb dX9_again_75 (by decide) ?_
        refine lv_iload_n hx hb dX9_again_77 rfl (lv_at hl 1 rfl) ?_
        refine lv_imul hx hb dX9_again_78 ?_
        refine lv_iload_n hx hb dX9_again_79 rfl (lv_at hl 2 rfl) ?_
        refine lv_iadd hx hb dX9_again_80 ?_
        have h0 := h.1
        have h := h.2
        refine va_iald hx hb hK.1 hP 9 0 rfl rfl h0 dX9_again_81 ?_
        have h0 := h.1
        have h := h.2
        refine va_iast hx hb hK.1 hP hD hS 4 0 rfl rfl h0 dX9_again_82 (fun H locs hP hD hS => ?_)
        have hP : va_P D vwCl (cw_X9_again cI cZ o o_readPurses o_readDay o_purses o_daily o_text o_row o_tried o_days o_order o_bestOrder o_seenHad o_seenShared o_isKept o_keptPurses o_keptRow o_keptHad o_keptShared o_keptRest v_readLaw v_readMany v_readMeetings v_law v_many v_meetings v_length v_at v_faultAt v_one v_other v_made v_leads v_rings v_seen (upd a_purses_26 (Int32.toNatClampNeg x2_26) (a_keptPurses (Int32.toNatClampNeg (((8 : Int32) * n1) + x2_26)))) a_row (upd a_seenHad_26 (Int32.toNatClampNeg x2_26) (a_keptHad (Int32.toNatClampNeg (((8 : Int32) * n1) + x2_26)))) (upd a_seenShared_26 (Int32.toNatClampNeg x2_26) (a_keptShared (Int32.toNatClampNeg (((8 : Int32) * n1) + x2_26)))) a_isKept a_keptPurses a_keptRow a_keptHad a_keptShared a_keptRest) H := hP
        have hD : va_D A (cw_X9_again cI cZ o o_readPurses o_readDay o_purses o_daily o_text o_row o_tried o_days o_order o_bestOrder o_seenHad o_seenShared o_isKept o_keptPurses o_keptRow o_keptHad o_keptShared o_keptRest v_readLaw v_readMany v_readMeetings v_law v_many v_meetings v_length v_at v_faultAt v_one v_other v_made v_leads v_rings v_seen (upd a_purses_26 (Int32.toNatClampNeg x2_26) (a_keptPurses (Int32.toNatClampNeg (((8 : Int32) * n1) + x2_26)))) a_row (upd a_seenHad_26 (Int32.toNatClampNeg x2_26) (a_keptHad (Int32.toNatClampNeg (((8 : Int32) * n1) + x2_26)))) (upd a_seenShared_26 (Int32.toNatClampNeg x2_26) (a_keptShared (Int32.toNatClampNeg (((8 : Int32) * n1) + x2_26)))) a_isKept a_keptPurses a_keptRow a_keptHad a_keptShared a_keptRest) := hD
        refine lv_iinc (v := (x2_26 + 1)) (lv' := [(2, .int (x2_26 + 1)), (0, .ref o), (1, .int n1)]) hx hb dX9_again_83 hl (k := 2) rfl rfl (by decide) rfl (fun ls hl => ?_)
        refine lv_goto (tgt := 26) hx hb dX9_again_86 (by decide) ?_
        exact h H locs ls (lv_sub hl [1, 2, 0] rfl) hP hD hS
    · have h := h.2 c18
      refine lv_bipush (v := -3) hx hb dX9_again_21 (by decide) ?_
      exact ret_i7 hx hb hr hlocks hQ hS v_law v_made v_seen a_purses a_row a_seenHad a_seenShared hP h dX9_again_23
  · have h := h.2 c7
    refine lv_iconst (v := -1) hx hb dX9_again_10 (by decide) ?_
    exact ret_i7 hx hb hr hlocks hQ hS v_law v_made v_seen a_purses a_row a_seenHad a_seenShared hP h dX9_again_11
abbrev rm_X9_count : Room := { frames := 0, cells := 0, slots := 0, locals := 0 }
abbrev cw_X9_count (cI cZ : ClassId) (o o_readPurses o_readDay o_purses o_daily o_text o_row o_tried o_days o_order o_bestOrder o_seenHad o_seenShared o_isKept o_keptPurses o_keptRow o_keptHad o_keptShared o_keptRest : Nat) (v_readLaw : Int32) (v_readMany : Int32) (v_readMeetings : Int32) (v_law : Int32) (v_many : Int32) (v_meetings : Int32) (v_length : Int32) (v_at : Int32) (v_faultAt : Int32) (v_one : Int32) (v_other : Int32) (v_made : Int32) (v_leads : Int32) (v_rings : Int32) (v_seen : Int32) (a_purses : Nat → Int32) : va_W := [(o, .inr (9, [.ref o_readPurses, .ref o_readDay, .int v_readLaw, .int v_readMany, .int v_readMeetings, .ref o_purses, .ref o_daily, .int v_law, .int v_many, .int v_meetings, .ref o_text, .int v_length, .int v_at, .int v_faultAt, .int v_one, .int v_other, .int v_made, .ref o_row, .ref o_tried, .int v_leads, .int v_rings, .ref o_days, .ref o_order, .ref o_bestOrder, .int v_seen, .ref o_seenHad, .ref o_seenShared, .ref o_isKept, .ref o_keptPurses, .ref o_keptRow, .ref o_keptHad, .ref o_keptShared, .ref o_keptRest])), (o_purses, .inl (cI, 8, .inl a_purses))]
theorem inw_X9_count_X9 : ∀ w ∈ u_ws RX9 TX9 33, w ∈ wsX9_count := by decide +kernel
def wp_X9_count (n1 : Int32) (v_law : Int32) (v_many : Int32) (v_meetings : Int32) (v_length : Int32) (v_made : Int32) (v_seen : Int32) (a_purses : Nat → Int32) (Post : Int32 → Prop) : Prop := (∀ k4 : (Int32) → (Int32) → Prop, (∀ (x3_4 : Int32) (x2_4 : Int32), ((v_many ≤ x3_4 → (((Int32.toInt n1 < 0 ∨ 6 < Int32.toInt n1) → (Post (-2 : Int32))) ∧ ((Int32.toInt n1 = 0 → (Post v_length)) ∧ ((Int32.toInt n1 = 1 → (Post v_many)) ∧ ((Int32.toInt n1 = 2 → (Post v_meetings)) ∧ ((Int32.toInt n1 = 3 → (Post v_made)) ∧ ((Int32.toInt n1 = 4 → (Post v_seen)) ∧ ((Int32.toInt n1 = 5 → (Post x2_4)) ∧ (Int32.toInt n1 = 6 → (Post v_law)))))))))) ∧ (¬ v_many ≤ x3_4 → (vp_in x3_4 8 ∧ (k4 (x3_4 + 1) (x2_4 + (a_purses (Int32.toNatClampNeg x3_4))))))) → k4 x3_4 x2_4) → k4 (0 : Int32) (0 : Int32))
set_option maxHeartbeats 4000000 in
set_option maxRecDepth 100000 in
theorem c_X9_count (l : Launch) (D : va_G) (cI cZ : ClassId) (o o_readPurses o_readDay o_purses o_daily o_text o_row o_tried o_days o_order o_bestOrder o_seenHad o_seenShared o_isKept o_keptPurses o_keptRow o_keptHad o_keptShared o_keptRest : Nat) (sz : Nat) (n1 : Int32) (v_readLaw : Int32) (v_readMany : Int32) (v_readMeetings : Int32) (v_law : Int32) (v_many : Int32) (v_meetings : Int32) (v_length : Int32) (v_at : Int32) (v_faultAt : Int32) (v_one : Int32) (v_other : Int32) (v_made : Int32) (v_leads : Int32) (v_rings : Int32) (v_seen : Int32) (a_purses : Nat → Int32) (Post : Int32 → Prop) (h : wp_X9_count n1 v_law v_many v_meetings v_length v_made v_seen a_purses Post) : Met l yX9_count wsX9_count rm_X9_count (cPc D cI cZ [.ref o, .int n1] (cw_X9_count cI cZ o o_readPurses o_readDay o_purses o_daily o_text o_row o_tried o_days o_order o_bestOrder o_seenHad o_seenShared o_isKept o_keptPurses o_keptRow o_keptHad o_keptShared o_keptRest v_readLaw v_readMany v_readMeetings v_law v_many v_meetings v_length v_at v_faultAt v_one v_other v_made v_leads v_rings v_seen a_purses) sz) (cQi0 D Post ((cw_X9_count cI cZ o o_readPurses o_readDay o_purses o_daily o_text o_row o_tried o_days o_order o_bestOrder o_seenHad o_seenShared o_isKept o_keptPurses o_keptRow o_keptHad o_keptShared o_keptRest v_readLaw v_readMany v_readMeetings v_law v_many v_meetings v_length v_at v_faultAt v_one v_other v_made v_leads v_rings v_seen a_purses)) (va_A (cw_X9_count cI cZ o o_readPurses o_readDay o_purses o_daily o_text o_row o_tried o_days o_order o_bestOrder o_seenHad o_seenShared o_isKept o_keptPurses o_keptRow o_keptHad o_keptShared o_keptRest v_readLaw v_readMany v_readMeetings v_law v_many v_meetings v_length v_at v_faultAt v_one v_other v_made v_leads v_rings v_seen a_purses) sz)) 0 0 (va_A (cw_X9_count cI cZ o o_readPurses o_readDay o_purses o_daily o_text o_row o_tried o_days o_order o_bestOrder o_seenHad o_seenShared o_isKept o_keptPurses o_keptRow o_keptHad o_keptShared o_keptRest v_readLaw v_readMany v_readMeetings v_law v_many v_meetings v_length v_at v_faultAt v_one v_other v_made v_leads v_rings v_seen a_purses) sz) := by
  refine ent (cc := cX9_count) (maxL := 4) (ret := (some .int)) (Qc := fun A => cQi0 D Post ((cw_X9_count cI cZ o o_readPurses o_readDay o_purses o_daily o_text o_row o_tried o_days o_order o_bestOrder o_seenHad o_seenShared o_isKept o_keptPurses o_keptRow o_keptHad o_keptShared o_keptRest v_readLaw v_readMany v_readMeetings v_law v_many v_meetings v_length v_at v_faultAt v_one v_other v_made v_leads v_rings v_seen a_purses)) A) (by decide) rfl (Nat.le_of_ble_eq_true rfl) ?_
  intro p e s m args below meth c A ls Q hQ hsz hx hb hml hr hts hown hlocks hnm hK hP hD hA hS hl
  have hl : lv_has ls 4 [(0, .ref o), (1, .int n1)] := hl
  unfold wp_X9_count at h
  refine lv_iconst (v := 0) hx hb dX9_count_0 (by decide) ?_
  refine lv_istore_n (lv' := [(2, .int (0 : Int32)), (0, .ref o), (1, .int n1)]) hx hb dX9_count_1 rfl hl (by decide) rfl (fun ls hl => ?_)
  refine lv_iconst (v := 0) hx hb dX9_count_2 (by decide) ?_
  refine lv_istore_n (lv' := [(3, .int (0 : Int32)), (2, .int (0 : Int32)), (0, .ref o), (1, .int n1)]) hx hb dX9_count_3 rfl hl (by decide) rfl (fun ls hl => ?_)
  refine h (fun x3_4 x2_4 => ∀ (H : Heap) (locs : List Loc) (ls : Array Slot), lv_has ls 4 [(0, .ref o), (1, .int n1), (2, .int x2_4), (3, .int x3_4)] → va_P D vwCl (cw_X9_count cI cZ o o_readPurses o_readDay o_purses o_daily o_text o_row o_tried o_days o_order o_bestOrder o_seenHad o_seenShared o_isKept o_keptPurses o_keptRow o_keptHad o_keptShared o_keptRest v_readLaw v_readMany v_readMeetings v_law v_many v_meetings v_length v_at v_faultAt v_one v_other v_made v_leads v_rings v_seen a_purses) H → va_D A (cw_X9_count cI cZ o o_readPurses o_readDay o_purses o_daily o_text o_row o_tried o_days o_order o_bestOrder o_seenHad o_seenShared o_isKept o_keptPurses o_keptRow o_keptHad o_keptShared o_keptRest v_readLaw v_readMany v_readMeetings v_law v_many v_meetings v_length v_at v_faultAt v_one v_other v_made v_leads v_rings v_seen a_purses) → va_S A s.heap H locs → W p l e rm_X9_count s m args below meth c H locs 0 0 Q (F0 m 4 ls [])) ?_ s.heap [] ls (lv_sub hl [2, 3, 1, 0] rfl) hP hD hS
  intro x3_4 x2_4 h H locs ls hl hP hD hS
  refine lv_iload_n hx hb dX9_count_4 rfl (lv_at hl 3 rfl) ?_
  refine lv_aload_n hx hb dX9_count_5 rfl (lv_at hl 0 rfl) ?_
  refine va_get (D := D) (ci := 9) (v := .int v_many) (C := RX9) (T := TX9) (N := 33) hx hb hts inw_X9_count_X9 hown hK.1 hP 0 rfl rfl 8 (by decide) (hts (.fieldLink RX9 65 "PursesShareModel" "many" "I") (by decide +kernel)) (fun _ h9 => h9) rfl dX9_count_6 ?_
  refine lv_icmp_ge (tgt := 27) hx hb dX9_count_9 (by decide) (fun c9 => ?_) (fun c9 => ?_)
  · have h := h.1 c9
    refine lv_iload_n hx hb dX9_count_27 rfl (lv_at hl 1 rfl) ?_
    by_cases c28 : Int32.toInt n1 < 0 ∨ 6 < Int32.toInt n1
    · have h := h.1 c28
      refine lv_tableOut (tgt := 104) hx hb dX9_count_28 c28 (by decide) ?_
      refine lv_bipush (v := -2) hx hb dX9_count_104 (by decide) ?_
      exact ret_i0 hx hb hr hlocks hQ hS  hP h dX9_count_106
    · have h := h.2
      rcases (show Int32.toInt n1 = 0 ∨ Int32.toInt n1 = 1 ∨ Int32.toInt n1 = 2 ∨ Int32.toInt n1 = 3 ∨ Int32.toInt n1 = 4 ∨ Int32.toInt n1 = 5 ∨ Int32.toInt n1 = 6 by omega) with c28 | c28 | c28 | c28 | c28 | c28 | c28
      · have h := h.1 c28
        refine lv_tableIn (tgt := 72) hx hb dX9_count_28 (by rw [c28]; decide) (by rw [c28]; decide) (by rw [c28]; rfl) (by decide) ?_
        refine lv_aload_n hx hb dX9_count_72 rfl (lv_at hl 0 rfl) ?_
        refine va_get (D := D) (ci := 9) (v := .int v_length) (C := RX9) (T := TX9) (N := 33) hx hb hts inw_X9_count_X9 hown hK.1 hP 0 rfl rfl 11 (by decide) (hts (.fieldLink RX9 75 "PursesShareModel" "length" "I") (by decide +kernel)) (fun _ h9 => h9) rfl dX9_count_73 ?_
        exact ret_i0 hx hb hr hlocks hQ hS  hP h dX9_count_76
      · have h := h.2.1 c28
        refine lv_tableIn (tgt := 77) hx hb dX9_count_28 (by rw [c28]; decide) (by rw [c28]; decide) (by rw [c28]; rfl) (by decide) ?_
        refine lv_aload_n hx hb dX9_count_77 rfl (lv_at hl 0 rfl) ?_
        refine va_get (D := D) (ci := 9) (v := .int v_many) (C := RX9) (T := TX9) (N := 33) hx hb hts inw_X9_count_X9 hown hK.1 hP 0 rfl rfl 8 (by decide) (hts (.fieldLink RX9 65 "PursesShareModel" "many" "I") (by decide +kernel)) (fun _ h9 => h9) rfl dX9_count_78 ?_
        exact ret_i0 hx hb hr hlocks hQ hS  hP h dX9_count_81
      · have h := h.2.2.1 c28
        refine lv_tableIn (tgt := 82) hx hb dX9_count_28 (by rw [c28]; decide) (by rw [c28]; decide) (by rw [c28]; rfl) (by decide) ?_
        refine lv_aload_n hx hb dX9_count_82 rfl (lv_at hl 0 rfl) ?_
        refine va_get (D := D) (ci := 9) (v := .int v_meetings) (C := RX9) (T := TX9) (N := 33) hx hb hts inw_X9_count_X9 hown hK.1 hP 0 rfl rfl 9 (by decide) (hts (.fieldLink RX9 106 "PursesShareModel" "meetings" "I") (by decide +kernel)) (fun _ h9 => h9) rfl dX9_count_83 ?_
        exact ret_i0 hx hb hr hlocks hQ hS  hP h dX9_count_86
      · have h := h.2.2.2.1 c28
        refine lv_tableIn (tgt := 87) hx hb dX9_count_28 (by rw [c28]; decide) (by rw [c28]; decide) (by rw [c28]; rfl) (by decide) ?_
        refine lv_aload_n hx hb dX9_count_87 rfl (lv_at hl 0 rfl) ?_
        refine va_get (D := D) (ci := 9) (v := .int v_made) (C := RX9) (T := TX9) (N := 33) hx hb hts inw_X9_count_X9 hown hK.1 hP 0 rfl rfl 16 (by decide) (hts (.fieldLink RX9 109 "PursesShareModel" "made" "I") (by decide +kernel)) (fun _ h9 => h9) rfl dX9_count_88 ?_
        exact ret_i0 hx hb hr hlocks hQ hS  hP h dX9_count_91
      · have h := h.2.2.2.2.1 c28
        refine lv_tableIn (tgt := 92) hx hb dX9_count_28 (by rw [c28]; decide) (by rw [c28]; decide) (by rw [c28]; rfl) (by decide) ?_
        refine lv_aload_n hx hb dX9_count_92 rfl (lv_at hl 0 rfl) ?_
        refine va_get (D := D) (ci := 9) (v := .int v_seen) (C := RX9) (T := TX9) (N := 33) hx hb hts inw_X9_count_X9 hown hK.1 hP 0 rfl rfl 24 (by decide) (hts (.fieldLink RX9 112 "PursesShareModel" "seen" "I") (by decide +kernel)) (fun _ h9 => h9) rfl dX9_count_93 ?_
        exact ret_i0 hx hb hr hlocks hQ hS  hP h dX9_count_96
      · have h := h.2.2.2.2.2.1 c28
        refine lv_tableIn (tgt := 97) hx hb dX9_count_28 (by rw [c28]; decide) (by rw [c28]; decide) (by rw [c28]; rfl) (by decide) ?_
        refine lv_iload_n hx hb dX9_count_97 rfl (lv_at hl 2 rfl) ?_
        exact ret_i0 hx hb hr hlocks hQ hS  hP h dX9_count_98
      · have h := h.2.2.2.2.2.2 c28
        refine lv_tableIn (tgt := 99) hx hb dX9_count_28 (by rw [c28]; decide) (by rw [c28]; decide) (by rw [c28]; rfl) (by decide) ?_
        refine lv_aload_n hx hb dX9_count_99 rfl (lv_at hl 0 rfl) ?_
        refine va_get (D := D) (ci := 9) (v := .int v_law) (C := RX9) (T := TX9) (N := 33) hx hb hts inw_X9_count_X9 hown hK.1 hP 0 rfl rfl 7 (by decide) (hts (.fieldLink RX9 103 "PursesShareModel" "law" "I") (by decide +kernel)) (fun _ h9 => h9) rfl dX9_count_100 ?_
        exact ret_i0 hx hb hr hlocks hQ hS  hP h dX9_count_103
  · have h := h.2 c9
    refine lv_iload_n hx hb dX9_count_12 rfl (lv_at hl 2 rfl) ?_
    refine lv_aload_n hx hb dX9_count_13 rfl (lv_at hl 0 rfl) ?_
    refine va_get (D := D) (ci := 9) (v := .ref o_purses) (C := RX9) (T := TX9) (N := 33) hx hb hts inw_X9_count_X9 hown hK.1 hP 0 rfl rfl 5 (by decide) (hts (.fieldLink RX9 16 "PursesShareModel" "purses" "[I") (by decide +kernel)) (fun _ h9 => h9) rfl dX9_count_14 ?_
    refine lv_iload_n hx hb dX9_count_17 rfl (lv_at hl 3 rfl) ?_
    have h0 := h.1
    have h := h.2
    refine va_iald hx hb hK.1 hP 1 0 rfl rfl h0 dX9_count_18 ?_
    refine lv_iadd hx hb dX9_count_19 ?_
    refine lv_istore_n (lv' := [(2, .int (x2_4 + (a_purses (Int32.toNatClampNeg x3_4)))), (0, .ref o), (1, .int n1), (3, .int x3_4)]) hx hb dX9_count_20 rfl hl (by decide) rfl (fun ls hl => ?_)
    refine lv_iinc (v := (x3_4 + 1)) (lv' := [(3, .int (x3_4 + 1)), (2, .int (x2_4 + (a_purses (Int32.toNatClampNeg x3_4)))), (0, .ref o), (1, .int n1)]) hx hb dX9_count_21 hl (k := 3) rfl rfl (by decide) rfl (fun ls hl => ?_)
    refine lv_goto (tgt := 4) hx hb dX9_count_24 (by decide) ?_
    exact h H locs ls (lv_sub hl [2, 3, 1, 0] rfl) hP hD hS
