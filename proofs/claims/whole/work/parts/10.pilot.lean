abbrev rm_X8_isSum : Room := { frames := 0, cells := 0, slots := 0, locals := 0 }
abbrev cw_X8_isSum (cI cZ : ClassId)  : va_W := []
def wp_X8_isSum (n1 : Int32) (Post : Int32 → Prop) : Prop := ((n1 < 0 → (Post (0 : Int32))) ∧ (¬ n1 < 0 → (((99999 : Int32) < n1 → (Post (0 : Int32))) ∧ (¬ (99999 : Int32) < n1 → (Post (1 : Int32))))))
set_option maxHeartbeats 4000000 in
set_option maxRecDepth 100000 in
theorem c_X8_isSum (l : Launch) (D : va_G) (cI cZ : ClassId) (sz : Nat) (n1 : Int32) (Post : Int32 → Prop) (h : wp_X8_isSum n1 Post) : Met l yX8_isSum wsX8_isSum rm_X8_isSum (cPc D cI cZ [.int n1] (cw_X8_isSum cI cZ) sz) (cQi0 D Post ((cw_X8_isSum cI cZ)) (va_A (cw_X8_isSum cI cZ) sz)) 0 0 (va_A (cw_X8_isSum cI cZ) sz) := by
  refine ent (cc := cX8_isSum) (maxL := 1) (ret := (some .boolean)) (Qc := fun A => cQi0 D Post ((cw_X8_isSum cI cZ)) A) (by decide) rfl (Nat.le_of_ble_eq_true rfl) ?_
  intro p e s m args below meth c A ls Q hQ hsz hx hb hml hr hts hown hlocks hnm hK hP hD hA hS hl
  have hl : lv_has ls 1 [(0, .int n1)] := hl
  unfold wp_X8_isSum at h
  refine lv_iload_n hx hb dX8_isSum_0 rfl (lv_at hl 0 rfl) ?_
  refine lv_if_lt (tgt := 14) hx hb dX8_isSum_1 (by decide) (fun c1 => ?_) (fun c1 => ?_)
  · have h := h.1 c1
    refine lv_iconst (v := 0) hx hb dX8_isSum_14 (by decide) ?_
    exact ret_z0 hx hb hr hlocks hQ hS (by decide)  hP h dX8_isSum_15
  · have h := h.2 c1
    refine lv_iload_n hx hb dX8_isSum_4 rfl (lv_at hl 0 rfl) ?_
    refine lv_ldc (own := RX8) (index := 198) (v := 99999) hx hb hown (hts (.constant RX8 198 (99999)) (by decide +kernel)) dX8_isSum_5 ?_
    refine lv_icmp_gt (tgt := 14) hx hb dX8_isSum_7 (by decide) (fun c7 => ?_) (fun c7 => ?_)
    · have h := h.1 c7
      refine lv_iconst (v := 0) hx hb dX8_isSum_14 (by decide) ?_
      exact ret_z0 hx hb hr hlocks hQ hS (by decide)  hP h dX8_isSum_15
    · have h := h.2 c7
      refine lv_iconst (v := 1) hx hb dX8_isSum_10 (by decide) ?_
      refine lv_goto (tgt := 15) hx hb dX8_isSum_11 (by decide) ?_
      exact ret_z0 hx hb hr hlocks hQ hS (by decide)  hP h dX8_isSum_15
abbrev rm_X8_greatestDivisor : Room := { frames := 0, cells := 0, slots := 0, locals := 0 }
abbrev cw_X8_greatestDivisor (cI cZ : ClassId)  : va_W := []
def wp_X8_greatestDivisor (n1 : Int32) (n2 : Int32) (Post : Int32 → Prop) : Prop := (∀ k7 : (Int32) → (Int32) → (Int32) → Prop, (∀ (x4_7 : Int32) (x3_7 : Int32) (x2_7 : Int32), (((1000000 : Int32) ≤ x4_7 → (Post x2_7)) ∧ (¬ (1000000 : Int32) ≤ x4_7 → ((x3_7 ≤ 0 → (Post x2_7)) ∧ (¬ x3_7 ≤ 0 → (¬ x3_7 = 0 ∧ (k7 (x4_7 + 1) (x2_7 % x3_7) x3_7)))))) → k7 x4_7 x3_7 x2_7) → k7 (0 : Int32) n2 n1)
set_option maxHeartbeats 4000000 in
set_option maxRecDepth 100000 in
theorem c_X8_greatestDivisor (l : Launch) (D : va_G) (cI cZ : ClassId) (sz : Nat) (n1 : Int32) (n2 : Int32) (Post : Int32 → Prop) (h : wp_X8_greatestDivisor n1 n2 Post) : Met l yX8_greatestDivisor wsX8_greatestDivisor rm_X8_greatestDivisor (cPc D cI cZ [.int n1, .int n2] (cw_X8_greatestDivisor cI cZ) sz) (cQi0 D Post ((cw_X8_greatestDivisor cI cZ)) (va_A (cw_X8_greatestDivisor cI cZ) sz)) 0 0 (va_A (cw_X8_greatestDivisor cI cZ) sz) := by
  refine ent (cc := cX8_greatestDivisor) (maxL := 6) (ret := (some .int)) (Qc := fun A => cQi0 D Post ((cw_X8_greatestDivisor cI cZ)) A) (by decide) rfl (Nat.le_of_ble_eq_true rfl) ?_
  intro p e s m args below meth c A ls Q hQ hsz hx hb hml hr hts hown hlocks hnm hK hP hD hA hS hl
  have hl : lv_has ls 6 [(0, .int n1), (1, .int n2)] := hl
  unfold wp_X8_greatestDivisor at h
  refine lv_iload_n hx hb dX8_greatestDivisor_0 rfl (lv_at hl 0 rfl) ?_
  refine lv_istore_n (lv' := [(2, .int n1), (0, .int n1), (1, .int n2)]) hx hb dX8_greatestDivisor_1 rfl hl (by decide) rfl (fun ls hl => ?_)
  refine lv_iload_n hx hb dX8_greatestDivisor_2 rfl (lv_at hl 2 rfl) ?_
  refine lv_istore_n (lv' := [(3, .int n2), (2, .int n1), (0, .int n1), (1, .int n2)]) hx hb dX8_greatestDivisor_3 rfl hl (by decide) rfl (fun ls hl => ?_)
  refine lv_iconst (v := 0) hx hb dX8_greatestDivisor_4 (by decide) ?_
  refine lv_istore (lv' := [(4, .int (0 : Int32)), (3, .int n2), (2, .int n1), (0, .int n1), (1, .int n2)]) hx hb dX8_greatestDivisor_5 hl (by decide) rfl (fun ls hl => ?_)
  refine h (fun x4_7 x3_7 x2_7 => ∀ (H : Heap) (locs : List Loc) (ls : Array Slot), lv_has ls 6 [(0, .int n1), (1, .int n2), (2, .int x2_7), (3, .int x3_7), (4, .int x4_7)] → va_P D vwCl (cw_X8_greatestDivisor cI cZ) H → va_D A (cw_X8_greatestDivisor cI cZ) → va_S A s.heap H locs → W p l e rm_X8_greatestDivisor s m args below meth c H locs 0 0 Q (F0 m 7 ls [])) ?_ s.heap [] ls (lv_sub hl [3, 4, 2, 1, 0] rfl) hP hD hS
  intro x4_7 x3_7 x2_7 h H locs ls hl hP hD hS
  refine lv_iload hx hb dX8_greatestDivisor_7 (lv_at hl 4 rfl) ?_
  refine lv_ldc (own := RX8) (index := 231) (v := 1000000) hx hb hown (hts (.constant RX8 231 (1000000)) (by decide +kernel)) dX8_greatestDivisor_9 ?_
  refine lv_icmp_ge (tgt := 34) hx hb dX8_greatestDivisor_11 (by decide) (fun c11 => ?_) (fun c11 => ?_)
  · have h := h.1 c11
    refine lv_iload_n hx hb dX8_greatestDivisor_34 rfl (lv_at hl 2 rfl) ?_
    exact ret_i0 hx hb hr hlocks hQ hS  hP h dX8_greatestDivisor_35
  · have h := h.2 c11
    refine lv_iload_n hx hb dX8_greatestDivisor_14 rfl (lv_at hl 3 rfl) ?_
    refine lv_if_le (tgt := 34) hx hb dX8_greatestDivisor_15 (by decide) (fun c15 => ?_) (fun c15 => ?_)
    · have h := h.1 c15
      refine lv_iload_n hx hb dX8_greatestDivisor_34 rfl (lv_at hl 2 rfl) ?_
      exact ret_i0 hx hb hr hlocks hQ hS  hP h dX8_greatestDivisor_35
    · have h := h.2 c15
      refine lv_iload_n hx hb dX8_greatestDivisor_18 rfl (lv_at hl 2 rfl) ?_
      refine lv_iload_n hx hb dX8_greatestDivisor_19 rfl (lv_at hl 3 rfl) ?_
      have h0 := h.1
      have h := h.2
      refine lv_irem hx hb dX8_greatestDivisor_20 h0 ?_
      refine lv_istore (lv' := [(5, .int (x2_7 % x3_7)), (0, .int n1), (1, .int n2), (2, .int x2_7), (3, .int x3_7), (4, .int x4_7)]) hx hb dX8_greatestDivisor_21 hl (by decide) rfl (fun ls hl => ?_)
      refine lv_iload_n hx hb dX8_greatestDivisor_23 rfl (lv_at hl 4 rfl) ?_
      refine lv_istore_n (lv' := [(2, .int x3_7), (5, .int (x2_7 % x3_7)), (0, .int n1), (1, .int n2), (3, .int x3_7), (4, .int x4_7)]) hx hb dX8_greatestDivisor_24 rfl hl (by decide) rfl (fun ls hl => ?_)
      refine lv_iload hx hb dX8_greatestDivisor_25 (lv_at hl 1 rfl) ?_
      refine lv_istore_n (lv' := [(3, .int (x2_7 % x3_7)), (2, .int x3_7), (5, .int (x2_7 % x3_7)), (0, .int n1), (1, .int n2), (4, .int x4_7)]) hx hb dX8_greatestDivisor_27 rfl hl (by decide) rfl (fun ls hl => ?_)
      refine lv_iinc (v := (x4_7 + 1)) (lv' := [(4, .int (x4_7 + 1)), (3, .int (x2_7 % x3_7)), (2, .int x3_7), (5, .int (x2_7 % x3_7)), (0, .int n1), (1, .int n2)]) hx hb dX8_greatestDivisor_28 hl (k := 5) rfl rfl (by decide) rfl (fun ls hl => ?_)
      refine lv_goto (tgt := 7) hx hb dX8_greatestDivisor_31 (by decide) ?_
      exact h H locs ls (lv_sub hl [4, 5, 2, 1, 0] rfl) hP hD hS
abbrev rm_X8_sharedBy : Room := { frames := 1, cells := 0, slots := 0, locals := 25 }
abbrev cw_X8_sharedBy (cI cZ : ClassId)  : va_W := []
def wp_X8_sharedBy (n1 : Int32) (n2 : Int32) (Post : Int32 → Prop) : Prop := ((n1 = 0 → (Post (0 : Int32))) ∧ (¬ n1 = 0 → ((¬ n2 = 0 → (wp_X8_greatestDivisor n1 n2 (fun (r14 : Int32) => (Post r14)))) ∧ (n2 = 0 → (Post (0 : Int32))))))
set_option maxHeartbeats 4000000 in
set_option maxRecDepth 100000 in
theorem c_X8_sharedBy (l : Launch) (D : va_G) (cI cZ : ClassId) (sz : Nat) (n1 : Int32) (n2 : Int32) (Post : Int32 → Prop) (h : wp_X8_sharedBy n1 n2 Post) : Met l yX8_sharedBy wsX8_sharedBy rm_X8_sharedBy (cPc D cI cZ [.int n1, .int n2] (cw_X8_sharedBy cI cZ) sz) (cQi0 D Post ((cw_X8_sharedBy cI cZ)) (va_A (cw_X8_sharedBy cI cZ) sz)) 0 0 (va_A (cw_X8_sharedBy cI cZ) sz) := by
  refine ent (cc := cX8_sharedBy) (maxL := 2) (ret := (some .int)) (Qc := fun A => cQi0 D Post ((cw_X8_sharedBy cI cZ)) A) (by decide) rfl (Nat.le_of_ble_eq_true rfl) ?_
  intro p e s m args below meth c A ls Q hQ hsz hx hb hml hr hts hown hlocks hnm hK hP hD hA hS hl
  have hl : lv_has ls 2 [(0, .int n1), (1, .int n2)] := hl
  unfold wp_X8_sharedBy at h
  refine lv_iload_n hx hb dX8_sharedBy_0 rfl (lv_at hl 0 rfl) ?_
  refine lv_if_eq (tgt := 8) hx hb dX8_sharedBy_1 (by decide) (fun c1 => ?_) (fun c1 => ?_)
  · have h := h.1 c1
    refine lv_iconst (v := 0) hx hb dX8_sharedBy_8 (by decide) ?_
    refine lv_goto (tgt := 17) hx hb dX8_sharedBy_9 (by decide) ?_
    exact ret_i0 hx hb hr hlocks hQ hS  hP h dX8_sharedBy_17
  · have h := h.2 c1
    refine lv_iload_n hx hb dX8_sharedBy_4 rfl (lv_at hl 1 rfl) ?_
    refine lv_if_ne (tgt := 12) hx hb dX8_sharedBy_5 (by decide) (fun c5 => ?_) (fun c5 => ?_)
    · have h := h.1 c5
      refine lv_iload_n hx hb dX8_sharedBy_12 rfl (lv_at hl 0 rfl) ?_
      refine lv_iload_n hx hb dX8_sharedBy_13 rfl (lv_at hl 1 rfl) ?_
      refine call_i0 (va_runS (As := [.int n1, .int n2]) (rest := []) ⟨hx, hb, hml, hown, hts⟩ (c_X8_greatestDivisor l D cI cZ (Array.size s.heap) n1 n2 _ h) (va_cwS 2 hts gX8_sharedBy_X8_greatestDivisor rfl rfl rfl (by decide +kernel) ⟨Nat.le_of_ble_eq_true rfl, Nat.le_of_ble_eq_true rfl⟩) (preS_of hP hD hK [] rfl rfl) rfl rfl hl.1 rfl (lv_room (Nat.le_of_ble_eq_true rfl)) dX8_sharedBy_14 ⟨Nat.zero_le _, Nat.zero_le _⟩) hP hD hS hA [] rfl ((cw_X8_sharedBy cI cZ)) (rfl) (rfl) (fun r14 H locs h hP hD hS => ?_)
      exact ret_i0 hx hb hr hlocks hQ hS  hP h dX8_sharedBy_17
    · have h := h.2 c5
      refine lv_iconst (v := 0) hx hb dX8_sharedBy_8 (by decide) ?_
      refine lv_goto (tgt := 17) hx hb dX8_sharedBy_9 (by decide) ?_
      exact ret_i0 hx hb hr hlocks hQ hS  hP h dX8_sharedBy_17
abbrev rm_X8_isPrime : Room := { frames := 0, cells := 0, slots := 0, locals := 0 }
abbrev cw_X8_isPrime (cI cZ : ClassId)  : va_W := []
def wp_X8_isPrime (n1 : Int32) (Post : Int32 → Prop) : Prop := (((2 : Int32) ≤ n1 → (∀ k9 : (Int32) → Prop, (∀ (x1_9 : Int32), ((n1 < (x1_9 * x1_9) → (Post (1 : Int32))) ∧ (¬ n1 < (x1_9 * x1_9) → (¬ x1_9 = 0 ∧ ((¬ (n1 % x1_9) = 0 → (k9 (x1_9 + 1))) ∧ ((n1 % x1_9) = 0 → (Post (0 : Int32))))))) → k9 x1_9) → k9 (2 : Int32))) ∧ (¬ (2 : Int32) ≤ n1 → (Post (0 : Int32))))
set_option maxHeartbeats 4000000 in
set_option maxRecDepth 100000 in
theorem c_X8_isPrime (l : Launch) (D : va_G) (cI cZ : ClassId) (sz : Nat) (n1 : Int32) (Post : Int32 → Prop) (h : wp_X8_isPrime n1 Post) : Met l yX8_isPrime wsX8_isPrime rm_X8_isPrime (cPc D cI cZ [.int n1] (cw_X8_isPrime cI cZ) sz) (cQi0 D Post ((cw_X8_isPrime cI cZ)) (va_A (cw_X8_isPrime cI cZ) sz)) 0 0 (va_A (cw_X8_isPrime cI cZ) sz) := by
  refine ent (cc := cX8_isPrime) (maxL := 2) (ret := (some .boolean)) (Qc := fun A => cQi0 D Post ((cw_X8_isPrime cI cZ)) A) (by decide) rfl (Nat.le_of_ble_eq_true rfl) ?_
  intro p e s m args below meth c A ls Q hQ hsz hx hb hml hr hts hown hlocks hnm hK hP hD hA hS hl
  have hl : lv_has ls 2 [(0, .int n1)] := hl
  unfold wp_X8_isPrime at h
  refine lv_iload_n hx hb dX8_isPrime_0 rfl (lv_at hl 0 rfl) ?_
  refine lv_iconst (v := 2) hx hb dX8_isPrime_1 (by decide) ?_
  refine lv_icmp_ge (tgt := 7) hx hb dX8_isPrime_2 (by decide) (fun c2 => ?_) (fun c2 => ?_)
  · have h := h.1 c2
    refine lv_iconst (v := 2) hx hb dX8_isPrime_7 (by decide) ?_
    refine lv_istore_n (lv' := [(1, .int (2 : Int32)), (0, .int n1)]) hx hb dX8_isPrime_8 rfl hl (by decide) rfl (fun ls hl => ?_)
    refine h (fun x1_9 => ∀ (H : Heap) (locs : List Loc) (ls : Array Slot), lv_has ls 2 [(0, .int n1), (1, .int x1_9)] → va_P D vwCl (cw_X8_isPrime cI cZ) H → va_D A (cw_X8_isPrime cI cZ) → va_S A s.heap H locs → W p l e rm_X8_isPrime s m args below meth c H locs 0 0 Q (F0 m 9 ls [])) ?_ s.heap [] ls (lv_sub hl [1, 0] rfl) hP hD hS
    intro x1_9 h H locs ls hl hP hD hS
    refine lv_iload_n hx hb dX8_isPrime_9 rfl (lv_at hl 1 rfl) ?_
    refine lv_iload_n hx hb dX8_isPrime_10 rfl (lv_at hl 1 rfl) ?_
    refine lv_imul hx hb dX8_isPrime_11 ?_
    refine lv_iload_n hx hb dX8_isPrime_12 rfl (lv_at hl 0 rfl) ?_
    refine lv_icmp_gt (tgt := 30) hx hb dX8_isPrime_13 (by decide) (fun c13 => ?_) (fun c13 => ?_)
    · have h := h.1 c13
      refine lv_iconst (v := 1) hx hb dX8_isPrime_30 (by decide) ?_
      exact ret_z0 hx hb hr hlocks hQ hS (by decide)  hP h dX8_isPrime_31
    · have h := h.2 c13
      refine lv_iload_n hx hb dX8_isPrime_16 rfl (lv_at hl 0 rfl) ?_
      refine lv_iload_n hx hb dX8_isPrime_17 rfl (lv_at hl 1 rfl) ?_
      have h0 := h.1
      have h := h.2
      refine lv_irem hx hb dX8_isPrime_18 h0 ?_
      refine lv_if_ne (tgt := 24) hx hb dX8_isPrime_19 (by decide) (fun c19 => ?_) (fun c19 => ?_)
      · have h := h.1 c19
        refine lv_iinc (v := (x1_9 + 1)) (lv' := [(1, .int (x1_9 + 1)), (0, .int n1)]) hx hb dX8_isPrime_24 hl (k := 1) rfl rfl (by decide) rfl (fun ls hl => ?_)
        refine lv_goto (tgt := 9) hx hb dX8_isPrime_27 (by decide) ?_
        exact h H locs ls (lv_sub hl [1, 0] rfl) hP hD hS
      · have h := h.2 c19
        refine lv_iconst (v := 0) hx hb dX8_isPrime_22 (by decide) ?_
        exact ret_z0 hx hb hr hlocks hQ hS (by decide)  hP h dX8_isPrime_23
  · have h := h.2 c2
    refine lv_iconst (v := 0) hx hb dX8_isPrime_5 (by decide) ?_
    exact ret_z0 hx hb hr hlocks hQ hS (by decide)  hP h dX8_isPrime_6
abbrev rm_X8_sumPassed : Room := { frames := 1, cells := 0, slots := 0, locals := 60 }
abbrev cw_X8_sumPassed (cI cZ : ClassId)  : va_W := []
def wp_X8_sumPassed (n1 : Int32) (n2 : Int32) (n3 : Int32) (Post : Int32 → Prop) : Prop := ((¬ n1 = (2 : Int32) → ((¬ n1 = (3 : Int32) → (Post n3)) ∧ (n1 = (3 : Int32) → ((n3 ≤ 0 → (Post n3)) ∧ (¬ n3 ≤ 0 → (¬ n3 = 0 ∧ (∀ r25 : Int32, r25 = (if (1 : Int32) < ((n2 / n3) / (2 : Int32)) then ((n2 / n3) / (2 : Int32)) else (1 : Int32)) → (Post (n3 * r25))))))))) ∧ (n1 = (2 : Int32) → (Post (n3 / (2 : Int32)))))
set_option maxHeartbeats 4000000 in
set_option maxRecDepth 100000 in
theorem c_X8_sumPassed (l : Launch) (D : va_G) (cI cZ : ClassId) (sz : Nat) (n1 : Int32) (n2 : Int32) (n3 : Int32) (Post : Int32 → Prop) (h : wp_X8_sumPassed n1 n2 n3 Post) : Met l yX8_sumPassed wsX8_sumPassed rm_X8_sumPassed (cPc D cI cZ [.int n1, .int n2, .int n3] (cw_X8_sumPassed cI cZ) sz) (cQi0 D Post ((cw_X8_sumPassed cI cZ)) (va_A (cw_X8_sumPassed cI cZ) sz)) 0 0 (va_A (cw_X8_sumPassed cI cZ) sz) := by
  refine ent (cc := cX8_sumPassed) (maxL := 3) (ret := (some .int)) (Qc := fun A => cQi0 D Post ((cw_X8_sumPassed cI cZ)) A) (by decide) rfl (Nat.le_of_ble_eq_true rfl) ?_
  intro p e s m args below meth c A ls Q hQ hsz hx hb hml hr hts hown hlocks hnm hK hP hD hA hS hl
  have hl : lv_has ls 3 [(0, .int n1), (1, .int n2), (2, .int n3)] := hl
  unfold wp_X8_sumPassed at h
  refine lv_iload_n hx hb dX8_sumPassed_0 rfl (lv_at hl 0 rfl) ?_
  refine lv_iconst (v := 2) hx hb dX8_sumPassed_1 (by decide) ?_
  refine lv_icmp_ne (tgt := 9) hx hb dX8_sumPassed_2 (by decide) (fun c2 => ?_) (fun c2 => ?_)
  · have h := h.1 c2
    refine lv_iload_n hx hb dX8_sumPassed_9 rfl (lv_at hl 0 rfl) ?_
    refine lv_iconst (v := 3) hx hb dX8_sumPassed_10 (by decide) ?_
    refine lv_icmp_ne (tgt := 30) hx hb dX8_sumPassed_11 (by decide) (fun c11 => ?_) (fun c11 => ?_)
    · have h := h.1 c11
      refine lv_iload_n hx hb dX8_sumPassed_30 rfl (lv_at hl 2 rfl) ?_
      exact ret_i0 hx hb hr hlocks hQ hS  hP h dX8_sumPassed_31
    · have h := h.2 c11
      refine lv_iload_n hx hb dX8_sumPassed_14 rfl (lv_at hl 2 rfl) ?_
      refine lv_if_le (tgt := 30) hx hb dX8_sumPassed_15 (by decide) (fun c15 => ?_) (fun c15 => ?_)
      · have h := h.1 c15
        refine lv_iload_n hx hb dX8_sumPassed_30 rfl (lv_at hl 2 rfl) ?_
        exact ret_i0 hx hb hr hlocks hQ hS  hP h dX8_sumPassed_31
      · have h := h.2 c15
        refine lv_iload_n hx hb dX8_sumPassed_18 rfl (lv_at hl 2 rfl) ?_
        refine lv_iconst (v := 1) hx hb dX8_sumPassed_19 (by decide) ?_
        refine lv_iload_n hx hb dX8_sumPassed_20 rfl (lv_at hl 1 rfl) ?_
        refine lv_iload_n hx hb dX8_sumPassed_21 rfl (lv_at hl 2 rfl) ?_
        have h0 := h.1
        have h := h.2
        refine lv_idiv hx hb dX8_sumPassed_22 h0 ?_
        refine lv_iconst (v := 2) hx hb dX8_sumPassed_23 (by decide) ?_
        refine lv_idiv hx hb dX8_sumPassed_24 (by decide) ?_
        refine va_mmax hx hb (hml.trans hl.1.symm) hown (hts (.methodLink RX8 245 Lib.Math.max.name) (by decide +kernel)) (hts (.static Lib.Math.max.name) (by decide +kernel)) (hts (.initialized "java/lang/Math") (by decide +kernel)) (hts (.code Lib.Math.max.name Lib.Math.max.code 2 (some .int)) (by decide +kernel)) (Nat.le_of_ble_eq_true rfl) (Nat.le_of_ble_eq_true rfl) (Nat.zero_le _) (Nat.zero_le _) dX8_sumPassed_25 ?_
        refine lv_topi (fun r25 e25 => ?_)
        have h := h r25 e25
        refine lv_imul hx hb dX8_sumPassed_28 ?_
        exact ret_i0 hx hb hr hlocks hQ hS  hP h dX8_sumPassed_29
  · have h := h.2 c2
    refine lv_iload_n hx hb dX8_sumPassed_5 rfl (lv_at hl 2 rfl) ?_
    refine lv_iconst (v := 2) hx hb dX8_sumPassed_6 (by decide) ?_
    refine lv_idiv hx hb dX8_sumPassed_7 (by decide) ?_
    exact ret_i0 hx hb hr hlocks hQ hS  hP h dX8_sumPassed_8
abbrev rm_X8_heldAfter : Room := { frames := 2, cells := 0, slots := 0, locals := 82 }
abbrev cw_X8_heldAfter (cI cZ : ClassId)  : va_W := []
def wp_X8_heldAfter (n1 : Int32) (n2 : Int32) (n3 : Int32) (n4 : Int32) (n5 : Int32) (Post : Int32 → Prop) : Prop := ((n2 = n3 → (Post n2)) ∧ (¬ n2 = n3 → ((¬ n4 = 0 → (∀ r17 : Int32, r17 = (if 0 ≤ (n2 - n3) then (n2 - n3) else 0 - (n2 - n3)) → (wp_X8_sumPassed n1 r17 n4 (fun (r21 : Int32) => ((n2 ≤ n3 → ((¬ n1 = (1 : Int32) → ((¬ (0 : Int32) = (0 : Int32) → (((0 : Int32) = 0 → (Post (n2 - (n5 * r21)))) ∧ (¬ (0 : Int32) = 0 → (∀ r68 : Int32, r68 = (if (n2 + (n5 * r21)) < (99999 : Int32) then (n2 + (n5 * r21)) else (99999 : Int32)) → (Post r68))))) ∧ ((0 : Int32) = (0 : Int32) → (((1 : Int32) = 0 → (Post (n2 - (n5 * r21)))) ∧ (¬ (1 : Int32) = 0 → (∀ r68 : Int32, r68 = (if (n2 + (n5 * r21)) < (99999 : Int32) then (n2 + (n5 * r21)) else (99999 : Int32)) → (Post r68))))))) ∧ (n1 = (1 : Int32) → ((¬ (0 : Int32) = (1 : Int32) → (((0 : Int32) = 0 → (Post (n2 - (n5 * r21)))) ∧ (¬ (0 : Int32) = 0 → (∀ r68 : Int32, r68 = (if (n2 + (n5 * r21)) < (99999 : Int32) then (n2 + (n5 * r21)) else (99999 : Int32)) → (Post r68))))) ∧ ((0 : Int32) = (1 : Int32) → (((1 : Int32) = 0 → (Post (n2 - (n5 * r21)))) ∧ (¬ (1 : Int32) = 0 → (∀ r68 : Int32, r68 = (if (n2 + (n5 * r21)) < (99999 : Int32) then (n2 + (n5 * r21)) else (99999 : Int32)) → (Post r68))))))))) ∧ (¬ n2 ≤ n3 → ((¬ n1 = (1 : Int32) → ((¬ (1 : Int32) = (0 : Int32) → (((0 : Int32) = 0 → (Post (n2 - (n5 * r21)))) ∧ (¬ (0 : Int32) = 0 → (∀ r68 : Int32, r68 = (if (n2 + (n5 * r21)) < (99999 : Int32) then (n2 + (n5 * r21)) else (99999 : Int32)) → (Post r68))))) ∧ ((1 : Int32) = (0 : Int32) → (((1 : Int32) = 0 → (Post (n2 - (n5 * r21)))) ∧ (¬ (1 : Int32) = 0 → (∀ r68 : Int32, r68 = (if (n2 + (n5 * r21)) < (99999 : Int32) then (n2 + (n5 * r21)) else (99999 : Int32)) → (Post r68))))))) ∧ (n1 = (1 : Int32) → ((¬ (1 : Int32) = (1 : Int32) → (((0 : Int32) = 0 → (Post (n2 - (n5 * r21)))) ∧ (¬ (0 : Int32) = 0 → (∀ r68 : Int32, r68 = (if (n2 + (n5 * r21)) < (99999 : Int32) then (n2 + (n5 * r21)) else (99999 : Int32)) → (Post r68))))) ∧ ((1 : Int32) = (1 : Int32) → (((1 : Int32) = 0 → (Post (n2 - (n5 * r21)))) ∧ (¬ (1 : Int32) = 0 → (∀ r68 : Int32, r68 = (if (n2 + (n5 * r21)) < (99999 : Int32) then (n2 + (n5 * r21)) else (99999 : Int32)) → (Post r68)))))))))))))) ∧ (n4 = 0 → (Post n2)))))
set_option maxHeartbeats 4000000 in
set_option maxRecDepth 100000 in
theorem c_X8_heldAfter (l : Launch) (D : va_G) (cI cZ : ClassId) (sz : Nat) (n1 : Int32) (n2 : Int32) (n3 : Int32) (n4 : Int32) (n5 : Int32) (Post : Int32 → Prop) (h : wp_X8_heldAfter n1 n2 n3 n4 n5 Post) : Met l yX8_heldAfter wsX8_heldAfter rm_X8_heldAfter (cPc D cI cZ [.int n1, .int n2, .int n3, .int n4, .int n5] (cw_X8_heldAfter cI cZ) sz) (cQi0 D Post ((cw_X8_heldAfter cI cZ)) (va_A (cw_X8_heldAfter cI cZ) sz)) 0 0 (va_A (cw_X8_heldAfter cI cZ) sz) := by
  refine ent (cc := cX8_heldAfter) (maxL := 7) (ret := (some .int)) (Qc := fun A => cQi0 D Post ((cw_X8_heldAfter cI cZ)) A) (by decide) rfl (Nat.le_of_ble_eq_true rfl) ?_
  intro p e s m args below meth c A ls Q hQ hsz hx hb hml hr hts hown hlocks hnm hK hP hD hA hS hl
  have hl : lv_has ls 7 [(0, .int n1), (1, .int n2), (2, .int n3), (3, .int n4), (4, .int n5)] := hl
  unfold wp_X8_heldAfter at h
  refine lv_iload_n hx hb dX8_heldAfter_0 rfl (lv_at hl 1 rfl) ?_
  refine lv_iload_n hx hb dX8_heldAfter_1 rfl (lv_at hl 2 rfl) ?_
  refine lv_icmp_eq (tgt := 9) hx hb dX8_heldAfter_2 (by decide) (fun c2 => ?_) (fun c2 => ?_)
  · have h := h.1 c2
    refine lv_iload_n hx hb dX8_heldAfter_9 rfl (lv_at hl 1 rfl) ?_
    exact ret_i0 hx hb hr hlocks hQ hS  hP h dX8_heldAfter_10
  · have h := h.2 c2
    refine lv_iload_n hx hb dX8_heldAfter_5 rfl (lv_at hl 3 rfl) ?_
    refine lv_if_ne (tgt := 11) hx hb dX8_heldAfter_6 (by decide) (fun c6 => ?_) (fun c6 => ?_)
    · have h := h.1 c6
      refine lv_iload hx hb dX8_heldAfter_11 (lv_at hl 4 rfl) ?_
      refine lv_iload_n hx hb dX8_heldAfter_13 rfl (lv_at hl 0 rfl) ?_
      refine lv_iload_n hx hb dX8_heldAfter_14 rfl (lv_at hl 1 rfl) ?_
      refine lv_iload_n hx hb dX8_heldAfter_15 rfl (lv_at hl 2 rfl) ?_
      refine lv_isub hx hb dX8_heldAfter_16 ?_
      refine va_mabs hx hb (hml.trans hl.1.symm) hown (hts (.methodLink RX8 250 Lib.Math.abs.name) (by decide +kernel)) (hts (.static Lib.Math.abs.name) (by decide +kernel)) (hts (.initialized "java/lang/Math") (by decide +kernel)) (hts (.code Lib.Math.abs.name Lib.Math.abs.code 1 (some .int)) (by decide +kernel)) (Nat.le_of_ble_eq_true rfl) (Nat.le_of_ble_eq_true rfl) (Nat.zero_le _) (Nat.zero_le _) dX8_heldAfter_17 ?_
      refine lv_topi (fun r17 e17 => ?_)
      have h := h r17 e17
      refine lv_iload_n hx hb dX8_heldAfter_20 rfl (lv_at hl 3 rfl) ?_
      refine call_i0 (va_runS (As := [.int n1, .int r17, .int n4]) (rest := [.int n5]) ⟨hx, hb, hml, hown, hts⟩ (c_X8_sumPassed l D cI cZ (Array.size s.heap) n1 r17 n4 _ h) (va_cwS 3 hts gX8_heldAfter_X8_sumPassed rfl rfl rfl (by decide +kernel) ⟨Nat.le_of_ble_eq_true rfl, Nat.le_of_ble_eq_true rfl⟩) (preS_of hP hD hK [] rfl rfl) rfl rfl hl.1 rfl (lv_room (Nat.le_of_ble_eq_true rfl)) dX8_heldAfter_21 ⟨Nat.zero_le _, Nat.zero_le _⟩) hP hD hS hA [] rfl ((cw_X8_heldAfter cI cZ)) (rfl) (rfl) (fun r21 H locs h hP hD hS => ?_)
      refine lv_imul hx hb dX8_heldAfter_24 ?_
      refine lv_istore (lv' := [(5, .int (n5 * r21)), (0, .int n1), (1, .int n2), (2, .int n3), (3, .int n4), (4, .int n5)]) hx hb dX8_heldAfter_25 hl (by decide) rfl (fun ls hl => ?_)
      refine lv_iload_n hx hb dX8_heldAfter_27 rfl (lv_at hl 2 rfl) ?_
      refine lv_iload_n hx hb dX8_heldAfter_28 rfl (lv_at hl 3 rfl) ?_
      refine lv_icmp_le (tgt := 36) hx hb dX8_heldAfter_29 (by decide) (fun c29 => ?_) (fun c29 => ?_)
      · have h := h.1 c29
        refine lv_iconst (v := 0) hx hb dX8_heldAfter_36 (by decide) ?_
        refine lv_iload_n hx hb dX8_heldAfter_37 rfl (lv_at hl 1 rfl) ?_
        refine lv_iconst (v := 1) hx hb dX8_heldAfter_38 (by decide) ?_
        refine lv_icmp_ne (tgt := 46) hx hb dX8_heldAfter_39 (by decide) (fun c39 => ?_) (fun c39 => ?_)
        · have h := h.1 c39
          refine lv_iconst (v := 0) hx hb dX8_heldAfter_46 (by decide) ?_
          refine lv_icmp_ne (tgt := 54) hx hb dX8_heldAfter_47 (by decide) (fun c47 => ?_) (fun c47 => ?_)
          · have h := h.1 c47
            refine lv_iconst (v := 0) hx hb dX8_heldAfter_54 (by decide) ?_
            refine lv_istore (lv' := [(6, .int (0 : Int32)), (5, .int (n5 * r21)), (0, .int n1), (1, .int n2), (2, .int n3), (3, .int n4), (4, .int n5)]) hx hb dX8_heldAfter_55 hl (by decide) rfl (fun ls hl => ?_)
            refine lv_iload hx hb dX8_heldAfter_57 (lv_at hl 0 rfl) ?_
            refine lv_if_eq (tgt := 74) hx hb dX8_heldAfter_59 (by decide) (fun c59 => ?_) (fun c59 => ?_)
            · have h := h.1 c59
              refine lv_iload_n hx hb dX8_heldAfter_74 rfl (lv_at hl 3 rfl) ?_
              refine lv_iload hx hb dX8_heldAfter_75 (lv_at hl 1 rfl) ?_
              refine lv_isub hx hb dX8_heldAfter_77 ?_
              exact ret_i0 hx hb hr hlocks hQ hS  hP h dX8_heldAfter_78
            · have h := h.2 c59
              refine lv_ldc (own := RX8) (index := 198) (v := 99999) hx hb hown (hts (.constant RX8 198 (99999)) (by decide +kernel)) dX8_heldAfter_62 ?_
              refine lv_iload_n hx hb dX8_heldAfter_64 rfl (lv_at hl 3 rfl) ?_
              refine lv_iload hx hb dX8_heldAfter_65 (lv_at hl 1 rfl) ?_
              refine lv_iadd hx hb dX8_heldAfter_67 ?_
              refine va_mmin hx hb (hml.trans hl.1.symm) hown (hts (.methodLink RX8 257 Lib.Math.min.name) (by decide +kernel)) (hts (.static Lib.Math.min.name) (by decide +kernel)) (hts (.initialized "java/lang/Math") (by decide +kernel)) (hts (.code Lib.Math.min.name Lib.Math.min.code 2 (some .int)) (by decide +kernel)) (Nat.le_of_ble_eq_true rfl) (Nat.le_of_ble_eq_true rfl) (Nat.zero_le _) (Nat.zero_le _) dX8_heldAfter_68 ?_
              refine lv_topi (fun r68 e68 => ?_)
              have h := h r68 e68
              refine lv_goto (tgt := 78) hx hb dX8_heldAfter_71 (by decide) ?_
              exact ret_i0 hx hb hr hlocks hQ hS  hP h dX8_heldAfter_78
          · have h := h.2 c47
            refine lv_iconst (v := 1) hx hb dX8_heldAfter_50 (by decide) ?_
            refine lv_goto (tgt := 55) hx hb dX8_heldAfter_51 (by decide) ?_
            refine lv_istore (lv' := [(6, .int (1 : Int32)), (5, .int (n5 * r21)), (0, .int n1), (1, .int n2), (2, .int n3), (3, .int n4), (4, .int n5)]) hx hb dX8_heldAfter_55 hl (by decide) rfl (fun ls hl => ?_)
            refine lv_iload hx hb dX8_heldAfter_57 (lv_at hl 0 rfl) ?_
            refine lv_if_eq (tgt := 74) hx hb dX8_heldAfter_59 (by decide) (fun c59 => ?_) (fun c59 => ?_)
            · have h := h.1 c59
              refine lv_iload_n hx hb dX8_heldAfter_74 rfl (lv_at hl 3 rfl) ?_
              refine lv_iload hx hb dX8_heldAfter_75 (lv_at hl 1 rfl) ?_
              refine lv_isub hx hb dX8_heldAfter_77 ?_
              exact ret_i0 hx hb hr hlocks hQ hS  hP h dX8_heldAfter_78
            · have h := h.2 c59
              refine lv_ldc (own := RX8) (index := 198) (v := 99999) hx hb hown (hts (.constant RX8 198 (99999)) (by decide +kernel)) dX8_heldAfter_62 ?_
              refine lv_iload_n hx hb dX8_heldAfter_64 rfl (lv_at hl 3 rfl) ?_
              refine lv_iload hx hb dX8_heldAfter_65 (lv_at hl 1 rfl) ?_
              refine lv_iadd hx hb dX8_heldAfter_67 ?_
              refine va_mmin hx hb (hml.trans hl.1.symm) hown (hts (.methodLink RX8 257 Lib.Math.min.name) (by decide +kernel)) (hts (.static Lib.Math.min.name) (by decide +kernel)) (hts (.initialized "java/lang/Math") (by decide +kernel)) (hts (.code Lib.Math.min.name Lib.Math.min.code 2 (some .int)) (by decide +kernel)) (Nat.le_of_ble_eq_true rfl) (Nat.le_of_ble_eq_true rfl) (Nat.zero_le _) (Nat.zero_le _) dX8_heldAfter_68 ?_
              refine lv_topi (fun r68 e68 => ?_)
              have h := h r68 e68
              refine lv_goto (tgt := 78) hx hb dX8_heldAfter_71 (by decide) ?_
              exact ret_i0 hx hb hr hlocks hQ hS  hP h dX8_heldAfter_78
        · have h := h.2 c39
          refine lv_iconst (v := 1) hx hb dX8_heldAfter_42 (by decide) ?_
          refine lv_goto (tgt := 47) hx hb dX8_heldAfter_43 (by decide) ?_
          refine lv_icmp_ne (tgt := 54) hx hb dX8_heldAfter_47 (by decide) (fun c47 => ?_) (fun c47 => ?_)
          · have h := h.1 c47
            refine lv_iconst (v := 0) hx hb dX8_heldAfter_54 (by decide) ?_
            refine lv_istore (lv' := [(6, .int (0 : Int32)), (5, .int (n5 * r21)), (0, .int n1), (1, .int n2), (2, .int n3), (3, .int n4), (4, .int n5)]) hx hb dX8_heldAfter_55 hl (by decide) rfl (fun ls hl => ?_)
            refine lv_iload hx hb dX8_heldAfter_57 (lv_at hl 0 rfl) ?_
            refine lv_if_eq (tgt := 74) hx hb dX8_heldAfter_59 (by decide) (fun c59 => ?_) (fun c59 => ?_)
            · have h := h.1 c59
              refine lv_iload_n hx hb dX8_heldAfter_74 rfl (lv_at hl 3 rfl) ?_
              refine lv_iload hx hb dX8_heldAfter_75 (lv_at hl 1 rfl) ?_
              refine lv_isub hx hb dX8_heldAfter_77 ?_
              exact ret_i0 hx hb hr hlocks hQ hS  hP h dX8_heldAfter_78
            · have h := h.2 c59
              refine lv_ldc (own := RX8) (index := 198) (v := 99999) hx hb hown (hts (.constant RX8 198 (99999)) (by decide +kernel)) dX8_heldAfter_62 ?_
              refine lv_iload_n hx hb dX8_heldAfter_64 rfl (lv_at hl 3 rfl) ?_
              refine lv_iload hx hb dX8_heldAfter_65 (lv_at hl 1 rfl) ?_
              refine lv_iadd hx hb dX8_heldAfter_67 ?_
              refine va_mmin hx hb (hml.trans hl.1.symm) hown (hts (.methodLink RX8 257 Lib.Math.min.name) (by decide +kernel)) (hts (.static Lib.Math.min.name) (by decide +kernel)) (hts (.initialized "java/lang/Math") (by decide +kernel)) (hts (.code Lib.Math.min.name Lib.Math.min.code 2 (some .int)) (by decide +kernel)) (Nat.le_of_ble_eq_true rfl) (Nat.le_of_ble_eq_true rfl) (Nat.zero_le _) (Nat.zero_le _) dX8_heldAfter_68 ?_
              refine lv_topi (fun r68 e68 => ?_)
              have h := h r68 e68
              refine lv_goto (tgt := 78) hx hb dX8_heldAfter_71 (by decide) ?_
              exact ret_i0 hx hb hr hlocks hQ hS  hP h dX8_heldAfter_78
          · have h := h.2 c47
            refine lv_iconst (v := 1) hx hb dX8_heldAfter_50 (by decide) ?_
            refine lv_goto (tgt := 55) hx hb dX8_heldAfter_51 (by decide) ?_
            refine lv_istore (lv' := [(6, .int (1 : Int32)), (5, .int (n5 * r21)), (0, .int n1), (1, .int n2), (2, .int n3), (3, .int n4), (4, .int n5)]) hx hb dX8_heldAfter_55 hl (by decide) rfl (fun ls hl => ?_)
            refine lv_iload hx hb dX8_heldAfter_57 (lv_at hl 0 rfl) ?_
            refine lv_if_eq (tgt := 74) hx hb dX8_heldAfter_59 (by decide) (fun c59 => ?_) (fun c59 => ?_)
            · have h := h.1 c59
              refine lv_iload_n hx hb dX8_heldAfter_74 rfl (lv_at hl 3 rfl) ?_
              refine lv_iload hx hb dX8_heldAfter_75 (lv_at hl 1 rfl) ?_
              refine lv_isub hx hb dX8_heldAfter_77 ?_
              exact ret_i0 hx hb hr hlocks hQ hS  hP h dX8_heldAfter_78
            · have h := h.2 c59
              refine lv_ldc (own := RX8) (index := 198) (v := 99999) hx hb hown (hts (.constant RX8 198 (99999)) (by decide +kernel)) dX8_heldAfter_62 ?_
              refine lv_iload_n hx hb dX8_heldAfter_64 rfl (lv_at hl 3 rfl) ?_
              refine lv_iload hx hb dX8_heldAfter_65 (lv_at hl 1 rfl) ?_
              refine lv_iadd hx hb dX8_heldAfter_67 ?_
              refine va_mmin hx hb (hml.trans hl.1.symm) hown (hts (.methodLink RX8 257 Lib.Math.min.name) (by decide +kernel)) (hts (.static Lib.Math.min.name) (by decide +kernel)) (hts (.initialized "java/lang/Math") (by decide +kernel)) (hts (.code Lib.Math.min.name Lib.Math.min.code 2 (some .int)) (by decide +kernel)) (Nat.le_of_ble_eq_true rfl) (Nat.le_of_ble_eq_true rfl) (Nat.zero_le _) (Nat.zero_le _) dX8_heldAfter_68 ?_
              refine lv_topi (fun r68 e68 => ?_)
              have h := h r68 e68
              refine lv_goto (tgt := 78) hx hb dX8_heldAfter_71 (by decide) ?_
              exact ret_i0 hx hb hr hlocks hQ hS  hP h dX8_heldAfter_78
      · have h := h.2 c29
        refine lv_iconst (v := 1) hx hb dX8_heldAfter_32 (by decide) ?_
        refine lv_goto (tgt := 37) hx hb dX8_heldAfter_33 (by decide) ?_
        refine lv_iload_n hx hb dX8_heldAfter_37 rfl (lv_at hl 1 rfl) ?_
        refine lv_iconst (v := 1) hx hb dX8_heldAfter_38 (by decide) ?_
        refine lv_icmp_ne (tgt := 46) hx hb dX8_heldAfter_39 (by decide) (fun c39 => ?_) (fun c39 => ?_)
        · have h := h.1 c39
          refine lv_iconst (v := 0) hx hb dX8_heldAfter_46 (by decide) ?_
          refine lv_icmp_ne (tgt := 54) hx hb dX8_heldAfter_47 (by decide) (fun c47 => ?_) (fun c47 => ?_)
          · have h := h.1 c47
            refine lv_iconst (v := 0) hx hb dX8_heldAfter_54 (by decide) ?_
            refine lv_istore (lv' := [(6, .int (0 : Int32)), (5, .int (n5 * r21)), (0, .int n1), (1, .int n2), (2, .int n3), (3, .int n4), (4, .int n5)]) hx hb dX8_heldAfter_55 hl (by decide) rfl (fun ls hl => ?_)
            refine lv_iload hx hb dX8_heldAfter_57 (lv_at hl 0 rfl) ?_
            refine lv_if_eq (tgt := 74) hx hb dX8_heldAfter_59 (by decide) (fun c59 => ?_) (fun c59 => ?_)
            · have h := h.1 c59
              refine lv_iload_n hx hb dX8_heldAfter_74 rfl (lv_at hl 3 rfl) ?_
              refine lv_iload hx hb dX8_heldAfter_75 (lv_at hl 1 rfl) ?_
              refine lv_isub hx hb dX8_heldAfter_77 ?_
              exact ret_i0 hx hb hr hlocks hQ hS  hP h dX8_heldAfter_78
            · have h := h.2 c59
              refine lv_ldc (own := RX8) (index := 198) (v := 99999) hx hb hown (hts (.constant RX8 198 (99999)) (by decide +kernel)) dX8_heldAfter_62 ?_
              refine lv_iload_n hx hb dX8_heldAfter_64 rfl (lv_at hl 3 rfl) ?_
              refine lv_iload hx hb dX8_heldAfter_65 (lv_at hl 1 rfl) ?_
              refine lv_iadd hx hb dX8_heldAfter_67 ?_
              refine va_mmin hx hb (hml.trans hl.1.symm) hown (hts (.methodLink RX8 257 Lib.Math.min.name) (by decide +kernel)) (hts (.static Lib.Math.min.name) (by decide +kernel)) (hts (.initialized "java/lang/Math") (by decide +kernel)) (hts (.code Lib.Math.min.name Lib.Math.min.code 2 (some .int)) (by decide +kernel)) (Nat.le_of_ble_eq_true rfl) (Nat.le_of_ble_eq_true rfl) (Nat.zero_le _) (Nat.zero_le _) dX8_heldAfter_68 ?_
              refine lv_topi (fun r68 e68 => ?_)
              have h := h r68 e68
              refine lv_goto (tgt := 78) hx hb dX8_heldAfter_71 (by decide) ?_
              exact ret_i0 hx hb hr hlocks hQ hS  hP h dX8_heldAfter_78
          · have h := h.2 c47
            refine lv_iconst (v := 1) hx hb dX8_heldAfter_50 (by decide) ?_
            refine lv_goto (tgt := 55) hx hb dX8_heldAfter_51 (by decide) ?_
            refine lv_istore (lv' := [(6, .int (1 : Int32)), (5, .int (n5 * r21)), (0, .int n1), (1, .int n2), (2, .int n3), (3, .int n4), (4, .int n5)]) hx hb dX8_heldAfter_55 hl (by decide) rfl (fun ls hl => ?_)
            refine lv_iload hx hb dX8_heldAfter_57 (lv_at hl 0 rfl) ?_
            refine lv_if_eq (tgt := 74) hx hb dX8_heldAfter_59 (by decide) (fun c59 => ?_) (fun c59 => ?_)
            · have h := h.1 c59
              refine lv_iload_n hx hb dX8_heldAfter_74 rfl (lv_at hl 3 rfl) ?_
              refine lv_iload hx hb dX8_heldAfter_75 (lv_at hl 1 rfl) ?_
              refine lv_isub hx hb dX8_heldAfter_77 ?_
              exact ret_i0 hx hb hr hlocks hQ hS  hP h dX8_heldAfter_78
            · have h := h.2 c59
              refine lv_ldc (own := RX8) (index := 198) (v := 99999) hx hb hown (hts (.constant RX8 198 (99999)) (by decide +kernel)) dX8_heldAfter_62 ?_
              refine lv_iload_n hx hb dX8_heldAfter_64 rfl (lv_at hl 3 rfl) ?_
              refine lv_iload hx hb dX8_heldAfter_65 (lv_at hl 1 rfl) ?_
              refine lv_iadd hx hb dX8_heldAfter_67 ?_
              refine va_mmin hx hb (hml.trans hl.1.symm) hown (hts (.methodLink RX8 257 Lib.Math.min.name) (by decide +kernel)) (hts (.static Lib.Math.min.name) (by decide +kernel)) (hts (.initialized "java/lang/Math") (by decide +kernel)) (hts (.code Lib.Math.min.name Lib.Math.min.code 2 (some .int)) (by decide +kernel)) (Nat.le_of_ble_eq_true rfl) (Nat.le_of_ble_eq_true rfl) (Nat.zero_le _) (Nat.zero_le _) dX8_heldAfter_68 ?_
              refine lv_topi (fun r68 e68 => ?_)
              have h := h r68 e68
              refine lv_goto (tgt := 78) hx hb dX8_heldAfter_71 (by decide) ?_
              exact ret_i0 hx hb hr hlocks hQ hS  hP h dX8_heldAfter_78
        · have h := h.2 c39
          refine lv_iconst (v := 1) hx hb dX8_heldAfter_42 (by decide) ?_
          refine lv_goto (tgt := 47) hx hb dX8_heldAfter_43 (by decide) ?_
          refine lv_icmp_ne (tgt := 54) hx hb dX8_heldAfter_47 (by decide) (fun c47 => ?_) (fun c47 => ?_)
          · have h := h.1 c47
            refine lv_iconst (v := 0) hx hb dX8_heldAfter_54 (by decide) ?_
            refine lv_istore (lv' := [(6, .int (0 : Int32)), (5, .int (n5 * r21)), (0, .int n1), (1, .int n2), (2, .int n3), (3, .int n4), (4, .int n5)]) hx hb dX8_heldAfter_55 hl (by decide) rfl (fun ls hl => ?_)
            refine lv_iload hx hb dX8_heldAfter_57 (lv_at hl 0 rfl) ?_
            refine lv_if_eq (tgt := 74) hx hb dX8_heldAfter_59 (by decide) (fun c59 => ?_) (fun c59 => ?_)
            · have h := h.1 c59
              refine lv_iload_n hx hb dX8_heldAfter_74 rfl (lv_at hl 3 rfl) ?_
              refine lv_iload hx hb dX8_heldAfter_75 (lv_at hl 1 rfl) ?_
              refine lv_isub hx hb dX8_heldAfter_77 ?_
              exact ret_i0 hx hb hr hlocks hQ hS  hP h dX8_heldAfter_78
            · have h := h.2 c59
              refine lv_ldc (own := RX8) (index := 198) (v := 99999) hx hb hown (hts (.constant RX8 198 (99999)) (by decide +kernel)) dX8_heldAfter_62 ?_
              refine lv_iload_n hx hb dX8_heldAfter_64 rfl (lv_at hl 3 rfl) ?_
              refine lv_iload hx hb dX8_heldAfter_65 (lv_at hl 1 rfl) ?_
              refine lv_iadd hx hb dX8_heldAfter_67 ?_
              refine va_mmin hx hb (hml.trans hl.1.symm) hown (hts (.methodLink RX8 257 Lib.Math.min.name) (by decide +kernel)) (hts (.static Lib.Math.min.name) (by decide +kernel)) (hts (.initialized "java/lang/Math") (by decide +kernel)) (hts (.code Lib.Math.min.name Lib.Math.min.code 2 (some .int)) (by decide +kernel)) (Nat.le_of_ble_eq_true rfl) (Nat.le_of_ble_eq_true rfl) (Nat.zero_le _) (Nat.zero_le _) dX8_heldAfter_68 ?_
              refine lv_topi (fun r68 e68 => ?_)
              have h := h r68 e68
              refine lv_goto (tgt := 78) hx hb dX8_heldAfter_71 (by decide) ?_
              exact ret_i0 hx hb hr hlocks hQ hS  hP h dX8_heldAfter_78
          · have h := h.2 c47
            refine lv_iconst (v := 1) hx hb dX8_heldAfter_50 (by decide) ?_
            refine lv_goto (tgt := 55) hx hb dX8_heldAfter_51 (by decide) ?_
            refine lv_istore (lv' := [(6, .int (1 : Int32)), (5, .int (n5 * r21)), (0, .int n1), (1, .int n2), (2, .int n3), (3, .int n4), (4, .int n5)]) hx hb dX8_heldAfter_55 hl (by decide) rfl (fun ls hl => ?_)
            refine lv_iload hx hb dX8_heldAfter_57 (lv_at hl 0 rfl) ?_
            refine lv_if_eq (tgt := 74) hx hb dX8_heldAfter_59 (by decide) (fun c59 => ?_) (fun c59 => ?_)
            · have h := h.1 c59
              refine lv_iload_n hx hb dX8_heldAfter_74 rfl (lv_at hl 3 rfl) ?_
              refine lv_iload hx hb dX8_heldAfter_75 (lv_at hl 1 rfl) ?_
              refine lv_isub hx hb dX8_heldAfter_77 ?_
              exact ret_i0 hx hb hr hlocks hQ hS  hP h dX8_heldAfter_78
            · have h := h.2 c59
              refine lv_ldc (own := RX8) (index := 198) (v := 99999) hx hb hown (hts (.constant RX8 198 (99999)) (by decide +kernel)) dX8_heldAfter_62 ?_
              refine lv_iload_n hx hb dX8_heldAfter_64 rfl (lv_at hl 3 rfl) ?_
              refine lv_iload hx hb dX8_heldAfter_65 (lv_at hl 1 rfl) ?_
              refine lv_iadd hx hb dX8_heldAfter_67 ?_
              refine va_mmin hx hb (hml.trans hl.1.symm) hown (hts (.methodLink RX8 257 Lib.Math.min.name) (by decide +kernel)) (hts (.static Lib.Math.min.name) (by decide +kernel)) (hts (.initialized "java/lang/Math") (by decide +kernel)) (hts (.code Lib.Math.min.name Lib.Math.min.code 2 (some .int)) (by decide +kernel)) (Nat.le_of_ble_eq_true rfl) (Nat.le_of_ble_eq_true rfl) (Nat.zero_le _) (Nat.zero_le _) dX8_heldAfter_68 ?_
              refine lv_topi (fun r68 e68 => ?_)
              have h := h r68 e68
              refine lv_goto (tgt := 78) hx hb dX8_heldAfter_71 (by decide) ?_
              exact ret_i0 hx hb hr hlocks hQ hS  hP h dX8_heldAfter_78
    · have h := h.2 c6
      refine lv_iload_n hx hb dX8_heldAfter_9 rfl (lv_at hl 1 rfl) ?_
      exact ret_i0 hx hb hr hlocks hQ hS  hP h dX8_heldAfter_10
abbrev rm_X8_heldAfterOne : Room := { frames := 3, cells := 0, slots := 0, locals := 108 }
abbrev cw_X8_heldAfterOne (cI cZ : ClassId)  : va_W := []
def wp_X8_heldAfterOne (n1 : Int32) (n2 : Int32) (n3 : Int32) (Post : Int32 → Prop) : Prop := (wp_X8_sharedBy n2 n3 (fun (r5 : Int32) => (wp_X8_heldAfter n1 n2 n3 r5 (1 : Int32) (fun (r9 : Int32) => (Post r9)))))
set_option maxHeartbeats 4000000 in
set_option maxRecDepth 100000 in
theorem c_X8_heldAfterOne (l : Launch) (D : va_G) (cI cZ : ClassId) (sz : Nat) (n1 : Int32) (n2 : Int32) (n3 : Int32) (Post : Int32 → Prop) (h : wp_X8_heldAfterOne n1 n2 n3 Post) : Met l yX8_heldAfterOne wsX8_heldAfterOne rm_X8_heldAfterOne (cPc D cI cZ [.int n1, .int n2, .int n3] (cw_X8_heldAfterOne cI cZ) sz) (cQi0 D Post ((cw_X8_heldAfterOne cI cZ)) (va_A (cw_X8_heldAfterOne cI cZ) sz)) 0 0 (va_A (cw_X8_heldAfterOne cI cZ) sz) := by
  refine ent (cc := cX8_heldAfterOne) (maxL := 3) (ret := (some .int)) (Qc := fun A => cQi0 D Post ((cw_X8_heldAfterOne cI cZ)) A) (by decide) rfl (Nat.le_of_ble_eq_true rfl) ?_
  intro p e s m args below meth c A ls Q hQ hsz hx hb hml hr hts hown hlocks hnm hK hP hD hA hS hl
  have hl : lv_has ls 3 [(0, .int n1), (1, .int n2), (2, .int n3)] := hl
  unfold wp_X8_heldAfterOne at h
  refine lv_iload_n hx hb dX8_heldAfterOne_0 rfl (lv_at hl 0 rfl) ?_
  refine lv_iload_n hx hb dX8_heldAfterOne_1 rfl (lv_at hl 1 rfl) ?_
  refine lv_iload_n hx hb dX8_heldAfterOne_2 rfl (lv_at hl 2 rfl) ?_
  refine lv_iload_n hx hb dX8_heldAfterOne_3 rfl (lv_at hl 1 rfl) ?_
  refine lv_iload_n hx hb dX8_heldAfterOne_4 rfl (lv_at hl 2 rfl) ?_
  refine call_i0 (va_runS (As := [.int n2, .int n3]) (rest := [.int n3, .int n2, .int n1]) ⟨hx, hb, hml, hown, hts⟩ (c_X8_sharedBy l D cI cZ (Array.size s.heap) n2 n3 _ h) (va_cwS 2 hts gX8_heldAfterOne_X8_sharedBy rfl rfl rfl (by decide +kernel) ⟨Nat.le_of_ble_eq_true rfl, Nat.le_of_ble_eq_true rfl⟩) (preS_of hP hD hK [] rfl rfl) rfl rfl hl.1 rfl (lv_room (Nat.le_of_ble_eq_true rfl)) dX8_heldAfterOne_5 ⟨Nat.zero_le _, Nat.zero_le _⟩) hP hD hS hA [] rfl ((cw_X8_heldAfterOne cI cZ)) (rfl) (rfl) (fun r5 H locs h hP hD hS => ?_)
  refine lv_iconst (v := 1) hx hb dX8_heldAfterOne_8 (by decide) ?_
  refine call_i0 (va_runS (As := [.int n1, .int n2, .int n3, .int r5, .int (1 : Int32)]) (rest := []) ⟨hx, hb, hml, hown, hts⟩ (c_X8_heldAfter l D cI cZ (Array.size H) n1 n2 n3 r5 (1 : Int32) _ h) (va_cwS 5 hts gX8_heldAfterOne_X8_heldAfter rfl rfl rfl (by decide +kernel) ⟨Nat.le_of_ble_eq_true rfl, Nat.le_of_ble_eq_true rfl⟩) (preS_of hP hD hK [] rfl rfl) rfl rfl hl.1 rfl (lv_room (Nat.le_of_ble_eq_true rfl)) dX8_heldAfterOne_9 ⟨Nat.zero_le _, Nat.zero_le _⟩) hP hD hS hA [] rfl ((cw_X8_heldAfterOne cI cZ)) (rfl) (rfl) (fun r9 H locs h hP hD hS => ?_)
  exact ret_i0 hx hb hr hlocks hQ hS  hP h dX8_heldAfterOne_12
abbrev rm_X8_makeMeeting : Room := { frames := 3, cells := 0, slots := 0, locals := 108 }
abbrev cw_X8_makeMeeting (cI cZ : ClassId) (h_p1 : Nat) (a_p1 : Nat → Int32) : va_W := [(h_p1, .inl (cI, 8, .inl a_p1))]
def wp_X8_makeMeeting (n2 : Int32) (n3 : Int32) (n4 : Int32) (a_p1 : Nat → Int32) (Post : Int32 → (Nat → Int32) → Prop) : Prop := (vp_in n3 8 ∧ (vp_in n4 8 ∧ (wp_X8_sharedBy (a_p1 (Int32.toNatClampNeg n3)) (a_p1 (Int32.toNatClampNeg n4)) (fun (r14 : Int32) => (wp_X8_heldAfter n2 (a_p1 (Int32.toNatClampNeg n3)) (a_p1 (Int32.toNatClampNeg n4)) r14 (1 : Int32) (fun (r29 : Int32) => (vp_in n3 8 ∧ (wp_X8_heldAfter n2 (a_p1 (Int32.toNatClampNeg n4)) (a_p1 (Int32.toNatClampNeg n3)) r14 (1 : Int32) (fun (r43 : Int32) => (vp_in n4 8 ∧ (vp_in n3 8 ∧ ((¬ ((upd (upd a_p1 (Int32.toNatClampNeg n3) r29) (Int32.toNatClampNeg n4) r43) (Int32.toNatClampNeg n3)) = (a_p1 (Int32.toNatClampNeg n3)) → (Post (1 : Int32) (upd (upd a_p1 (Int32.toNatClampNeg n3) r29) (Int32.toNatClampNeg n4) r43))) ∧ (((upd (upd a_p1 (Int32.toNatClampNeg n3) r29) (Int32.toNatClampNeg n4) r43) (Int32.toNatClampNeg n3)) = (a_p1 (Int32.toNatClampNeg n3)) → (vp_in n4 8 ∧ ((((upd (upd a_p1 (Int32.toNatClampNeg n3) r29) (Int32.toNatClampNeg n4) r43) (Int32.toNatClampNeg n4)) = (a_p1 (Int32.toNatClampNeg n4)) → (Post (0 : Int32) (upd (upd a_p1 (Int32.toNatClampNeg n3) r29) (Int32.toNatClampNeg n4) r43))) ∧ (¬ ((upd (upd a_p1 (Int32.toNatClampNeg n3) r29) (Int32.toNatClampNeg n4) r43) (Int32.toNatClampNeg n4)) = (a_p1 (Int32.toNatClampNeg n4)) → (Post (1 : Int32) (upd (upd a_p1 (Int32.toNatClampNeg n3) r29) (Int32.toNatClampNeg n4) r43))))))))))))))))))
set_option maxHeartbeats 4000000 in
set_option maxRecDepth 100000 in
theorem c_X8_makeMeeting (l : Launch) (D : va_G) (cI cZ : ClassId) (h_p1 : Nat) (sz : Nat) (n2 : Int32) (n3 : Int32) (n4 : Int32) (a_p1 : Nat → Int32) (Post : Int32 → (Nat → Int32) → Prop) (h : wp_X8_makeMeeting n2 n3 n4 a_p1 Post) : Met l yX8_makeMeeting wsX8_makeMeeting rm_X8_makeMeeting (cPc D cI cZ [.ref h_p1, .int n2, .int n3, .int n4] (cw_X8_makeMeeting cI cZ h_p1 a_p1) sz) (cQi1 D Post (fun m_a_p1 => (cw_X8_makeMeeting cI cZ h_p1 m_a_p1)) (va_A (cw_X8_makeMeeting cI cZ h_p1 a_p1) sz)) 0 0 (va_A (cw_X8_makeMeeting cI cZ h_p1 a_p1) sz) := by
  refine ent (cc := cX8_makeMeeting) (maxL := 7) (ret := (some .boolean)) (Qc := fun A => cQi1 D Post (fun m_a_p1 => (cw_X8_makeMeeting cI cZ h_p1 m_a_p1)) A) (by decide) rfl (Nat.le_of_ble_eq_true rfl) ?_
  intro p e s m args below meth c A ls Q hQ hsz hx hb hml hr hts hown hlocks hnm hK hP hD hA hS hl
  have hl : lv_has ls 7 [(0, .ref h_p1), (1, .int n2), (2, .int n3), (3, .int n4)] := hl
  unfold wp_X8_makeMeeting at h
  refine lv_aload_n hx hb dX8_makeMeeting_0 rfl (lv_at hl 0 rfl) ?_
  refine lv_iload_n hx hb dX8_makeMeeting_1 rfl (lv_at hl 2 rfl) ?_
  have h0 := h.1
  have h := h.2
  refine va_iald hx hb hK.1 hP 0 0 rfl rfl h0 dX8_makeMeeting_2 ?_
  refine lv_istore (lv' := [(4, .int (a_p1 (Int32.toNatClampNeg n3))), (0, .ref h_p1), (1, .int n2), (2, .int n3), (3, .int n4)]) hx hb dX8_makeMeeting_3 hl (by decide) rfl (fun ls hl => ?_)
  refine lv_aload_n hx hb dX8_makeMeeting_5 rfl (lv_at hl 1 rfl) ?_
  refine lv_iload_n hx hb dX8_makeMeeting_6 rfl (lv_at hl 4 rfl) ?_
  have h0 := h.1
  have h := h.2
  refine va_iald hx hb hK.1 hP 0 0 rfl rfl h0 dX8_makeMeeting_7 ?_
  refine lv_istore (lv' := [(5, .int (a_p1 (Int32.toNatClampNeg n4))), (4, .int (a_p1 (Int32.toNatClampNeg n3))), (0, .ref h_p1), (1, .int n2), (2, .int n3), (3, .int n4)]) hx hb dX8_makeMeeting_8 hl (by decide) rfl (fun ls hl => ?_)
  refine lv_iload hx hb dX8_makeMeeting_10 (lv_at hl 1 rfl) ?_
  refine lv_iload hx hb dX8_makeMeeting_12 (lv_at hl 0 rfl) ?_
  refine call_i0 (va_runS (As := [.int (a_p1 (Int32.toNatClampNeg n3)), .int (a_p1 (Int32.toNatClampNeg n4))]) (rest := []) ⟨hx, hb, hml, hown, hts⟩ (c_X8_sharedBy l D cI cZ (Array.size s.heap) (a_p1 (Int32.toNatClampNeg n3)) (a_p1 (Int32.toNatClampNeg n4)) _ h) (va_cwS 2 hts gX8_makeMeeting_X8_sharedBy rfl rfl rfl (by decide +kernel) ⟨Nat.le_of_ble_eq_true rfl, Nat.le_of_ble_eq_true rfl⟩) (preS_of hP hD hK [] rfl rfl) rfl rfl hl.1 rfl (lv_room (Nat.le_of_ble_eq_true rfl)) dX8_makeMeeting_14 ⟨Nat.zero_le _, Nat.zero_le _⟩) hP hD hS hA [] rfl ((cw_X8_makeMeeting cI cZ h_p1 a_p1)) (rfl) (rfl) (fun r14 H locs h hP hD hS => ?_)
  refine lv_istore (lv' := [(6, .int r14), (5, .int (a_p1 (Int32.toNatClampNeg n4))), (4, .int (a_p1 (Int32.toNatClampNeg n3))), (0, .ref h_p1), (1, .int n2), (2, .int n3), (3, .int n4)]) hx hb dX8_makeMeeting_17 hl (by decide) rfl (fun ls hl => ?_)
  refine lv_aload_n hx hb dX8_makeMeeting_19 rfl (lv_at hl 3 rfl) ?_
  refine lv_iload_n hx hb dX8_makeMeeting_20 rfl (lv_at hl 5 rfl) ?_
  refine lv_iload_n hx hb dX8_makeMeeting_21 rfl (lv_at hl 4 rfl) ?_
  refine lv_iload hx hb dX8_makeMeeting_22 (lv_at hl 2 rfl) ?_
  refine lv_iload hx hb dX8_makeMeeting_24 (lv_at hl 1 rfl) ?_
  refine lv_iload hx hb dX8_makeMeeting_26 (lv_at hl 0 rfl) ?_
  refine lv_iconst (v := 1) hx hb dX8_makeMeeting_28 (by decide) ?_
  refine call_i0 (va_runS (As := [.int n2, .int (a_p1 (Int32.toNatClampNeg n3)), .int (a_p1 (Int32.toNatClampNeg n4)), .int r14, .int (1 : Int32)]) (rest := [.int n3, .ref h_p1]) ⟨hx, hb, hml, hown, hts⟩ (c_X8_heldAfter l D cI cZ (Array.size H) n2 (a_p1 (Int32.toNatClampNeg n3)) (a_p1 (Int32.toNatClampNeg n4)) r14 (1 : Int32) _ h) (va_cwS 5 hts gX8_makeMeeting_X8_heldAfter rfl rfl rfl (by decide +kernel) ⟨Nat.le_of_ble_eq_true rfl, Nat.le_of_ble_eq_true rfl⟩) (preS_of hP hD hK [] rfl rfl) rfl rfl hl.1 rfl (lv_room (Nat.le_of_ble_eq_true rfl)) dX8_makeMeeting_29 ⟨Nat.zero_le _, Nat.zero_le _⟩) hP hD hS hA [] rfl ((cw_X8_makeMeeting cI cZ h_p1 a_p1)) (rfl) (rfl) (fun r29 H locs h hP hD hS => ?_)
  have h0 := h.1
  have h := h.2
  refine va_iast hx hb hK.1 hP hD hS 0 0 rfl rfl h0 dX8_makeMeeting_32 (fun H locs hP hD hS => ?_)
  have hP : va_P D vwCl (cw_X8_makeMeeting cI cZ h_p1 (upd a_p1 (Int32.toNatClampNeg n3) r29)) H := hP
  have hD : va_D A (cw_X8_makeMeeting cI cZ h_p1 (upd a_p1 (Int32.toNatClampNeg n3) r29)) := hD
  refine lv_aload_n hx hb dX8_makeMeeting_33 rfl (lv_at hl 3 rfl) ?_
  refine lv_iload_n hx hb dX8_makeMeeting_34 rfl (lv_at hl 6 rfl) ?_
  refine lv_iload_n hx hb dX8_makeMeeting_35 rfl (lv_at hl 4 rfl) ?_
  refine lv_iload hx hb dX8_makeMeeting_36 (lv_at hl 1 rfl) ?_
  refine lv_iload hx hb dX8_makeMeeting_38 (lv_at hl 2 rfl) ?_
  refine lv_iload hx hb dX8_makeMeeting_40 (lv_at hl 0 rfl) ?_
  refine lv_iconst (v := 1) hx hb dX8_makeMeeting_42 (by decide) ?_
  refine call_i0 (va_runS (As := [.int n2, .int (a_p1 (Int32.toNatClampNeg n4)), .int (a_p1 (Int32.toNatClampNeg n3)), .int r14, .int (1 : Int32)]) (rest := [.int n4, .ref h_p1]) ⟨hx, hb, hml, hown, hts⟩ (c_X8_heldAfter l D cI cZ (Array.size H) n2 (a_p1 (Int32.toNatClampNeg n4)) (a_p1 (Int32.toNatClampNeg n3)) r14 (1 : Int32) _ h) (va_cwS 5 hts gX8_makeMeeting_X8_heldAfter rfl rfl rfl (by decide +kernel) ⟨Nat.le_of_ble_eq_true rfl, Nat.le_of_ble_eq_true rfl⟩) (preS_of hP hD hK [] rfl rfl) rfl rfl hl.1 rfl (lv_room (Nat.le_of_ble_eq_true rfl)) dX8_makeMeeting_43 ⟨Nat.zero_le _, Nat.zero_le _⟩) hP hD hS hA [] rfl ((cw_X8_makeMeeting cI cZ h_p1 (upd a_p1 (Int32.toNatClampNeg n3) r29))) (rfl) (rfl) (fun r43 H locs h hP hD hS => ?_)
  have h0 := h.1
  have h := h.2
  refine va_iast hx hb hK.1 hP hD hS 0 0 rfl rfl h0 dX8_makeMeeting_46 (fun H locs hP hD hS => ?_)
  have hP : va_P D vwCl (cw_X8_makeMeeting cI cZ h_p1 (upd (upd a_p1 (Int32.toNatClampNeg n3) r29) (Int32.toNatClampNeg n4) r43)) H := hP
  have hD : va_D A (cw_X8_makeMeeting cI cZ h_p1 (upd (upd a_p1 (Int32.toNatClampNeg n3) r29) (Int32.toNatClampNeg n4) r43)) := hD
  refine lv_aload_n hx hb dX8_makeMeeting_47 rfl (lv_at hl 3 rfl) ?_
  refine lv_iload_n hx hb dX8_makeMeeting_48 rfl (lv_at hl 5 rfl) ?_
  have h0 := h.1
  have h := h.2
  refine va_iald hx hb hK.1 hP 0 0 rfl rfl h0 dX8_makeMeeting_49 ?_
  refine lv_iload hx hb dX8_makeMeeting_50 (lv_at hl 2 rfl) ?_
  refine lv_icmp_ne (tgt := 63) hx hb dX8_makeMeeting_52 (by decide) (fun c52 => ?_) (fun c52 => ?_)
  · have h := h.1 c52
    refine lv_iconst (v := 1) hx hb dX8_makeMeeting_63 (by decide) ?_
    refine lv_goto (tgt := 68) hx hb dX8_makeMeeting_64 (by decide) ?_
    exact ret_z1 hx hb hr hlocks hQ hS (by decide) (upd (upd a_p1 (Int32.toNatClampNeg n3) r29) (Int32.toNatClampNeg n4) r43) hP h dX8_makeMeeting_68
  · have h := h.2 c52
    refine lv_aload_n hx hb dX8_makeMeeting_55 rfl (lv_at hl 3 rfl) ?_
    refine lv_iload_n hx hb dX8_makeMeeting_56 rfl (lv_at hl 6 rfl) ?_
    have h0 := h.1
    have h := h.2
    refine va_iald hx hb hK.1 hP 0 0 rfl rfl h0 dX8_makeMeeting_57 ?_
    refine lv_iload hx hb dX8_makeMeeting_58 (lv_at hl 1 rfl) ?_
    refine lv_icmp_eq (tgt := 67) hx hb dX8_makeMeeting_60 (by decide) (fun c60 => ?_) (fun c60 => ?_)
    · have h := h.1 c60
      refine lv_iconst (v := 0) hx hb dX8_makeMeeting_67 (by decide) ?_
      exact ret_z1 hx hb hr hlocks hQ hS (by decide) (upd (upd a_p1 (Int32.toNatClampNeg n3) r29) (Int32.toNatClampNeg n4) r43) hP h dX8_makeMeeting_68
    · have h := h.2 c60
      refine lv_iconst (v := 1) hx hb dX8_makeMeeting_63 (by decide) ?_
      refine lv_goto (tgt := 68) hx hb dX8_makeMeeting_64 (by decide) ?_
      exact ret_z1 hx hb hr hlocks hQ hS (by decide) (upd (upd a_p1 (Int32.toNatClampNeg n3) r29) (Int32.toNatClampNeg n4) r43) hP h dX8_makeMeeting_68
abbrev rm_X2_has : Room := { frames := 0, cells := 0, slots := 0, locals := 0 }
abbrev cw_X2_has (cI cZ : ClassId) (h h_firsts h_seconds : Nat) (v_size : Int32) : va_W := [(h, .inr (2, [.ref h_firsts, .ref h_seconds, .int v_size]))]
theorem inw_X2_has_X2 : ∀ w ∈ u_ws RX2 TX2 3, w ∈ wsX2_has := by decide +kernel
def wp_X2_has (n1 : Int32) (v_size : Int32) (Post : Int32 → Prop) : Prop := ((n1 < 0 → (Post (0 : Int32))) ∧ (¬ n1 < 0 → ((v_size ≤ n1 → (Post (0 : Int32))) ∧ (¬ v_size ≤ n1 → (Post (1 : Int32))))))
set_option maxHeartbeats 4000000 in
set_option maxRecDepth 100000 in
theorem c_X2_has (l : Launch) (D : va_G) (cI cZ : ClassId) (h h_firsts h_seconds : Nat) (sz : Nat) (n1 : Int32) (v_size : Int32) (Post : Int32 → Prop) (h : wp_X2_has n1 v_size Post) : Met l yX2_has wsX2_has rm_X2_has (cPc D cI cZ [.ref h, .int n1] (cw_X2_has cI cZ h h_firsts h_seconds v_size) sz) (cQi0 D Post ((cw_X2_has cI cZ h h_firsts h_seconds v_size)) (va_A (cw_X2_has cI cZ h h_firsts h_seconds v_size) sz)) 0 0 (va_A (cw_X2_has cI cZ h h_firsts h_seconds v_size) sz) := by
  refine ent (cc := cX2_has) (maxL := 2) (ret := (some .boolean)) (Qc := fun A => cQi0 D Post ((cw_X2_has cI cZ h h_firsts h_seconds v_size)) A) (by decide) rfl (Nat.le_of_ble_eq_true rfl) ?_
  intro p e s m args below meth c A ls Q hQ hsz hx hb hml hr hts hown hlocks hnm hK hP hD hA hS hl
  have hl : lv_has ls 2 [(0, .ref h), (1, .int n1)] := hl
  unfold wp_X2_has at h
  refine lv_iload_n hx hb dX2_has_0 rfl (lv_at hl 1 rfl) ?_
  refine lv_if_lt (tgt := 16) hx hb dX2_has_1 (by decide) (fun c1 => ?_) (fun c1 => ?_)
  · have h := h.1 c1
    refine lv_iconst (v := 0) hx hb dX2_has_16 (by decide) ?_
    exact ret_z0 hx hb hr hlocks hQ hS (by decide)  hP h dX2_has_17
  · have h := h.2 c1
    refine lv_iload_n hx hb dX2_has_4 rfl (lv_at hl 1 rfl) ?_
    refine lv_aload_n hx hb dX2_has_5 rfl (lv_at hl 0 rfl) ?_
    refine va_get (D := D) (ci := 2) (v := .int v_size) (C := RX2) (T := TX2) (N := 3) hx hb hts inw_X2_has_X2 hown hK.1 hP 0 rfl rfl 2 (by decide) (hts (.fieldLink RX2 18 "PursesShare$Meetings" "size" "I") (by decide +kernel)) (fun _ h9 => h9) rfl dX2_has_6 ?_
    refine lv_icmp_ge (tgt := 16) hx hb dX2_has_9 (by decide) (fun c9 => ?_) (fun c9 => ?_)
    · have h := h.1 c9
      refine lv_iconst (v := 0) hx hb dX2_has_16 (by decide) ?_
      exact ret_z0 hx hb hr hlocks hQ hS (by decide)  hP h dX2_has_17
    · have h := h.2 c9
      refine lv_iconst (v := 1) hx hb dX2_has_12 (by decide) ?_
      refine lv_goto (tgt := 17) hx hb dX2_has_13 (by decide) ?_
      exact ret_z0 hx hb hr hlocks hQ hS (by decide)  hP h dX2_has_17
abbrev rm_X2_add : Room := { frames := 0, cells := 0, slots := 0, locals := 0 }
abbrev cw_X2_add (cI cZ : ClassId) (h h_firsts h_seconds : Nat) (v_size : Int32) (a_firsts : Nat → Int32) (a_seconds : Nat → Int32) : va_W := [(h, .inr (2, [.ref h_firsts, .ref h_seconds, .int v_size])), (h_firsts, .inl (cI, 16, .inl a_firsts)), (h_seconds, .inl (cI, 16, .inl a_seconds))]
theorem inw_X2_add_X2 : ∀ w ∈ u_ws RX2 TX2 3, w ∈ wsX2_add := by decide +kernel
def wp_X2_add (n1 : Int32) (n2 : Int32) (v_size : Int32) (a_firsts : Nat → Int32) (a_seconds : Nat → Int32) (Post : (Int32) → (Nat → Int32) → (Nat → Int32) → Prop) : Prop := ((v_size < (16 : Int32) → (vp_in v_size 16 ∧ (vp_in v_size 16 ∧ (Post (v_size + (1 : Int32)) (upd a_firsts (Int32.toNatClampNeg v_size) n1) (upd a_seconds (Int32.toNatClampNeg v_size) n2))))) ∧ (¬ v_size < (16 : Int32) → (Post v_size a_firsts a_seconds)))
set_option maxHeartbeats 4000000 in
set_option maxRecDepth 100000 in
theorem c_X2_add (l : Launch) (D : va_G) (cI cZ : ClassId) (h h_firsts h_seconds : Nat) (sz : Nat) (n1 : Int32) (n2 : Int32) (v_size : Int32) (a_firsts : Nat → Int32) (a_seconds : Nat → Int32) (Post : (Int32) → (Nat → Int32) → (Nat → Int32) → Prop) (h : wp_X2_add n1 n2 v_size a_firsts a_seconds Post) : Met l yX2_add wsX2_add rm_X2_add (cPc D cI cZ [.ref h, .int n1, .int n2] (cw_X2_add cI cZ h h_firsts h_seconds v_size a_firsts a_seconds) sz) (cQv3 D Post (fun m_v_size m_a_firsts m_a_seconds => (cw_X2_add cI cZ h h_firsts h_seconds m_v_size m_a_firsts m_a_seconds)) (va_A (cw_X2_add cI cZ h h_firsts h_seconds v_size a_firsts a_seconds) sz)) 0 0 (va_A (cw_X2_add cI cZ h h_firsts h_seconds v_size a_firsts a_seconds) sz) := by
  refine ent (cc := cX2_add) (maxL := 3) (ret := none) (Qc := fun A => cQv3 D Post (fun m_v_size m_a_firsts m_a_seconds => (cw_X2_add cI cZ h h_firsts h_seconds m_v_size m_a_firsts m_a_seconds)) A) (by decide) rfl (Nat.le_of_ble_eq_true rfl) ?_
  intro p e s m args below meth c A ls Q hQ hsz hx hb hml hr hts hown hlocks hnm hK hP hD hA hS hl
  have hl : lv_has ls 3 [(0, .ref h), (1, .int n1), (2, .int n2)] := hl
  unfold wp_X2_add at h
  refine lv_aload_n hx hb dX2_add_0 rfl (lv_at hl 0 rfl) ?_
  refine va_get (D := D) (ci := 2) (v := .int v_size) (C := RX2) (T := TX2) (N := 3) hx hb hts inw_X2_add_X2 hown hK.1 hP 0 rfl rfl 2 (by decide) (hts (.fieldLink RX2 18 "PursesShare$Meetings" "size" "I") (by decide +kernel)) (fun _ h9 => h9) rfl dX2_add_1 ?_
  refine lv_bipush (v := 16) hx hb dX2_add_4 (by decide) ?_
  refine lv_icmp_lt (tgt := 10) hx hb dX2_add_6 (by decide) (fun c6 => ?_) (fun c6 => ?_)
  · have h := h.1 c6
    refine lv_aload_n hx hb dX2_add_10 rfl (lv_at hl 0 rfl) ?_
    refine va_get (D := D) (ci := 2) (v := .ref h_firsts) (C := RX2) (T := TX2) (N := 3) hx hb hts inw_X2_add_X2 hown hK.1 hP 0 rfl rfl 0 (by decide) (hts (.fieldLink RX2 9 "PursesShare$Meetings" "firsts" "[I") (by decide +kernel)) (fun _ h9 => h9) rfl dX2_add_11 ?_
    refine lv_aload_n hx hb dX2_add_14 rfl (lv_at hl 0 rfl) ?_
    refine va_get (D := D) (ci := 2) (v := .int v_size) (C := RX2) (T := TX2) (N := 3) hx hb hts inw_X2_add_X2 hown hK.1 hP 0 rfl rfl 2 (by decide) (hts (.fieldLink RX2 18 "PursesShare$Meetings" "size" "I") (by decide +kernel)) (fun _ h9 => h9) rfl dX2_add_15 ?_
    refine lv_iload_n hx hb dX2_add_18 rfl (lv_at hl 1 rfl) ?_
    have h0 := h.1
    have h := h.2
    refine va_iast hx hb hK.1 hP hD hS 1 0 rfl rfl h0 dX2_add_19 (fun H locs hP hD hS => ?_)
    have hP : va_P D vwCl (cw_X2_add cI cZ h h_firsts h_seconds v_size (upd a_firsts (Int32.toNatClampNeg v_size) n1) a_seconds) H := hP
    have hD : va_D A (cw_X2_add cI cZ h h_firsts h_seconds v_size (upd a_firsts (Int32.toNatClampNeg v_size) n1) a_seconds) := hD
    refine lv_aload_n hx hb dX2_add_20 rfl (lv_at hl 0 rfl) ?_
    refine va_get (D := D) (ci := 2) (v := .ref h_seconds) (C := RX2) (T := TX2) (N := 3) hx hb hts inw_X2_add_X2 hown hK.1 hP 0 rfl rfl 1 (by decide) (hts (.fieldLink RX2 15 "PursesShare$Meetings" "seconds" "[I") (by decide +kernel)) (fun _ h9 => h9) rfl dX2_add_21 ?_
    refine lv_aload_n hx hb dX2_add_24 rfl (lv_at hl 0 rfl) ?_
    refine va_get (D := D) (ci := 2) (v := .int v_size) (C := RX2) (T := TX2) (N := 3) hx hb hts inw_X2_add_X2 hown hK.1 hP 0 rfl rfl 2 (by decide) (hts (.fieldLink RX2 18 "PursesShare$Meetings" "size" "I") (by decide +kernel)) (fun _ h9 => h9) rfl dX2_add_25 ?_
    refine lv_iload_n hx hb dX2_add_28 rfl (lv_at hl 2 rfl) ?_
    have h0 := h.1
    have h := h.2
    refine va_iast hx hb hK.1 hP hD hS 2 0 rfl rfl h0 dX2_add_29 (fun H locs hP hD hS => ?_)
    have hP : va_P D vwCl (cw_X2_add cI cZ h h_firsts h_seconds v_size (upd a_firsts (Int32.toNatClampNeg v_size) n1) (upd a_seconds (Int32.toNatClampNeg v_size) n2)) H := hP
    have hD : va_D A (cw_X2_add cI cZ h h_firsts h_seconds v_size (upd a_firsts (Int32.toNatClampNeg v_size) n1) (upd a_seconds (Int32.toNatClampNeg v_size) n2)) := hD
    refine lv_aload_n hx hb dX2_add_30 rfl (lv_at hl 0 rfl) ?_
    refine lv_dup hx hb dX2_add_31 rfl ?_
    refine va_get (D := D) (ci := 2) (v := .int v_size) (C := RX2) (T := TX2) (N := 3) hx hb hts inw_X2_add_X2 hown hK.1 hP 0 rfl rfl 2 (by decide) (hts (.fieldLink RX2 18 "PursesShare$Meetings" "size" "I") (by decide +kernel)) (fun _ h9 => h9) rfl dX2_add_32 ?_
    refine lv_iconst (v := 1) hx hb dX2_add_35 (by decide) ?_
    refine lv_iadd hx hb dX2_add_36 ?_
    refine va_put (D := D) (ci := 2) (v := .int (v_size + (1 : Int32))) (ty := .int) (C := RX2) (T := TX2) (N := 3) hx hb hts inw_X2_add_X2 tyX2 tyX2_ok nmX2 hown hK.1 hP hD hS 0 rfl rfl 2 (by decide) (hts (.fieldLink RX2 18 "PursesShare$Meetings" "size" "I") (by decide +kernel)) (fun _ h9 => h9) rfl (by decide +kernel) rfl rfl (Nat.le_of_ble_eq_true rfl) dX2_add_37 (fun H locs hP hD hS => ?_)
    have hP : va_P D vwCl (cw_X2_add cI cZ h h_firsts h_seconds (v_size + (1 : Int32)) (upd a_firsts (Int32.toNatClampNeg v_size) n1) (upd a_seconds (Int32.toNatClampNeg v_size) n2)) H := hP
    have hD : va_D A (cw_X2_add cI cZ h h_firsts h_seconds (v_size + (1 : Int32)) (upd a_firsts (Int32.toNatClampNeg v_size) n1) (upd a_seconds (Int32.toNatClampNeg v_size) n2)) := hD
    exact ret_v3 hx hb hr hlocks hQ hS (v_size + (1 : Int32)) (upd a_firsts (Int32.toNatClampNeg v_size) n1) (upd a_seconds (Int32.toNatClampNeg v_size) n2) hP h dX2_add_40
  · have h := h.2 c6
    exact ret_v3 hx hb hr hlocks hQ hS v_size a_firsts a_seconds hP h dX2_add_9
abbrev rm_X2_become : Room := { frames := 1, cells := 0, slots := 0, locals := 60 }
abbrev cw_X2_become (cI cZ : ClassId) (h h_firsts h_seconds h_p1 h_p1_firsts h_p1_seconds : Nat) (v_size : Int32) (a_firsts : Nat → Int32) (a_seconds : Nat → Int32) (v_p1_size : Int32) (a_p1_firsts : Nat → Int32) (a_p1_seconds : Nat → Int32) : va_W := [(h, .inr (2, [.ref h_firsts, .ref h_seconds, .int v_size])), (h_firsts, .inl (cI, 16, .inl a_firsts)), (h_seconds, .inl (cI, 16, .inl a_seconds)), (h_p1, .inr (2, [.ref h_p1_firsts, .ref h_p1_seconds, .int v_p1_size])), (h_p1_firsts, .inl (cI, 16, .inl a_p1_firsts)), (h_p1_seconds, .inl (cI, 16, .inl a_p1_seconds))]
theorem inw_X2_become_X2 : ∀ w ∈ u_ws RX2 TX2 3, w ∈ wsX2_become := by decide +kernel
def wp_X2_become (v_size : Int32) (a_firsts : Nat → Int32) (a_seconds : Nat → Int32) (v_p1_size : Int32) (a_p1_firsts : Nat → Int32) (a_p1_seconds : Nat → Int32) (Post : (Int32) → (Nat → Int32) → (Nat → Int32) → Prop) : Prop := (Post v_p1_size (va_cpy a_p1_firsts a_firsts (Int32.toNatClampNeg (0 : Int32)) (Int32.toNatClampNeg (0 : Int32)) (Int32.toNatClampNeg (16 : Int32))) (va_cpy a_p1_seconds a_seconds (Int32.toNatClampNeg (0 : Int32)) (Int32.toNatClampNeg (0 : Int32)) (Int32.toNatClampNeg (16 : Int32))))
set_option maxHeartbeats 4000000 in
set_option maxRecDepth 100000 in
theorem c_X2_become (l : Launch) (D : va_G) (cI cZ : ClassId) (h h_firsts h_seconds h_p1 h_p1_firsts h_p1_seconds : Nat) (sz : Nat) (v_size : Int32) (a_firsts : Nat → Int32) (a_seconds : Nat → Int32) (v_p1_size : Int32) (a_p1_firsts : Nat → Int32) (a_p1_seconds : Nat → Int32) (Post : (Int32) → (Nat → Int32) → (Nat → Int32) → Prop) (h : wp_X2_become v_size a_firsts a_seconds v_p1_size a_p1_firsts a_p1_seconds Post) : Met l yX2_become wsX2_become rm_X2_become (cPc D cI cZ [.ref h, .ref h_p1] (cw_X2_become cI cZ h h_firsts h_seconds h_p1 h_p1_firsts h_p1_seconds v_size a_firsts a_seconds v_p1_size a_p1_firsts a_p1_seconds) sz) (cQv3 D Post (fun m_v_size m_a_firsts m_a_seconds => (cw_X2_become cI cZ h h_firsts h_seconds h_p1 h_p1_firsts h_p1_seconds m_v_size m_a_firsts m_a_seconds v_p1_size a_p1_firsts a_p1_seconds)) (va_A (cw_X2_become cI cZ h h_firsts h_seconds h_p1 h_p1_firsts h_p1_seconds v_size a_firsts a_seconds v_p1_size a_p1_firsts a_p1_seconds) sz)) 0 0 (va_A (cw_X2_become cI cZ h h_firsts h_seconds h_p1 h_p1_firsts h_p1_seconds v_size a_firsts a_seconds v_p1_size a_p1_firsts a_p1_seconds) sz) := by
  refine ent (cc := cX2_become) (maxL := 2) (ret := none) (Qc := fun A => cQv3 D Post (fun m_v_size m_a_firsts m_a_seconds => (cw_X2_become cI cZ h h_firsts h_seconds h_p1 h_p1_firsts h_p1_seconds m_v_size m_a_firsts m_a_seconds v_p1_size a_p1_firsts a_p1_seconds)) A) (by decide) rfl (Nat.le_of_ble_eq_true rfl) ?_
  intro p e s m args below meth c A ls Q hQ hsz hx hb hml hr hts hown hlocks hnm hK hP hD hA hS hl
  have hl : lv_has ls 2 [(0, .ref h), (1, .ref h_p1)] := hl
  unfold wp_X2_become at h
  refine lv_aload_n hx hb dX2_become_0 rfl (lv_at hl 1 rfl) ?_
  refine va_get (D := D) (ci := 2) (v := .ref h_p1_firsts) (C := RX2) (T := TX2) (N := 3) hx hb hts inw_X2_become_X2 hown hK.1 hP 3 rfl rfl 0 (by decide) (hts (.fieldLink RX2 9 "PursesShare$Meetings" "firsts" "[I") (by decide +kernel)) (fun _ h9 => h9) rfl dX2_become_1 ?_
  refine lv_iconst (v := 0) hx hb dX2_become_4 (by decide) ?_
  refine lv_aload_n hx hb dX2_become_5 rfl (lv_at hl 0 rfl) ?_
  refine va_get (D := D) (ci := 2) (v := .ref h_firsts) (C := RX2) (T := TX2) (N := 3) hx hb hts inw_X2_become_X2 hown hK.1 hP 0 rfl rfl 0 (by decide) (hts (.fieldLink RX2 9 "PursesShare$Meetings" "firsts" "[I") (by decide +kernel)) (fun _ h9 => h9) rfl dX2_become_6 ?_
  refine lv_iconst (v := 0) hx hb dX2_become_9 (by decide) ?_
  refine lv_bipush (v := 16) hx hb dX2_become_10 (by decide) ?_
  refine va_copyi hx hb (hml.trans hl.1.symm) hown (hts (.methodLink RX2 22 arraycopyName) (by decide +kernel)) (hts (.native arraycopyName) (by decide +kernel)) (hts (.static arraycopyName) (by decide +kernel)) (hts (.initialized "java/lang/System") (by decide +kernel)) hK.1 hP hD hS 4 1 0 0 (ty := .int) rfl rfl rfl rfl rfl (by decide) (by decide) (by decide) (by decide) (by decide) (fun _ _ => rfl) (Nat.le_of_ble_eq_true rfl) (Nat.le_of_ble_eq_true rfl) dX2_become_12 (fun H locs hP hD hS => ?_)
  have hP : va_P D vwCl (cw_X2_become cI cZ h h_firsts h_seconds h_p1 h_p1_firsts h_p1_seconds v_size (va_cpy a_p1_firsts a_firsts (Int32.toNatClampNeg (0 : Int32)) (Int32.toNatClampNeg (0 : Int32)) (Int32.toNatClampNeg (16 : Int32))) a_seconds v_p1_size a_p1_firsts a_p1_seconds) H := hP
  have hD : va_D A (cw_X2_become cI cZ h h_firsts h_seconds h_p1 h_p1_firsts h_p1_seconds v_size (va_cpy a_p1_firsts a_firsts (Int32.toNatClampNeg (0 : Int32)) (Int32.toNatClampNeg (0 : Int32)) (Int32.toNatClampNeg (16 : Int32))) a_seconds v_p1_size a_p1_firsts a_p1_seconds) := hD
  refine lv_aload_n hx hb dX2_become_15 rfl (lv_at hl 1 rfl) ?_
  refine va_get (D := D) (ci := 2) (v := .ref h_p1_seconds) (C := RX2) (T := TX2) (N := 3) hx hb hts inw_X2_become_X2 hown hK.1 hP 3 rfl rfl 1 (by decide) (hts (.fieldLink RX2 15 "PursesShare$Meetings" "seconds" "[I") (by decide +kernel)) (fun _ h9 => h9) rfl dX2_become_16 ?_
  refine lv_iconst (v := 0) hx hb dX2_become_19 (by decide) ?_
  refine lv_aload_n hx hb dX2_become_20 rfl (lv_at hl 0 rfl) ?_
  refine va_get (D := D) (ci := 2) (v := .ref h_seconds) (C := RX2) (T := TX2) (N := 3) hx hb hts inw_X2_become_X2 hown hK.1 hP 0 rfl rfl 1 (by decide) (hts (.fieldLink RX2 15 "PursesShare$Meetings" "seconds" "[I") (by decide +kernel)) (fun _ h9 => h9) rfl dX2_become_21 ?_
  refine lv_iconst (v := 0) hx hb dX2_become_24 (by decide) ?_
  refine lv_bipush (v := 16) hx hb dX2_become_25 (by decide) ?_
  refine va_copyi hx hb (hml.trans hl.1.symm) hown (hts (.methodLink RX2 22 arraycopyName) (by decide +kernel)) (hts (.native arraycopyName) (by decide +kernel)) (hts (.static arraycopyName) (by decide +kernel)) (hts (.initialized "java/lang/System") (by decide +kernel)) hK.1 hP hD hS 5 2 0 0 (ty := .int) rfl rfl rfl rfl rfl (by decide) (by decide) (by decide) (by decide) (by decide) (fun _ _ => rfl) (Nat.le_of_ble_eq_true rfl) (Nat.le_of_ble_eq_true rfl) dX2_become_27 (fun H locs hP hD hS => ?_)
  have hP : va_P D vwCl (cw_X2_become cI cZ h h_firsts h_seconds h_p1 h_p1_firsts h_p1_seconds v_size (va_cpy a_p1_firsts a_firsts (Int32.toNatClampNeg (0 : Int32)) (Int32.toNatClampNeg (0 : Int32)) (Int32.toNatClampNeg (16 : Int32))) (va_cpy a_p1_seconds a_seconds (Int32.toNatClampNeg (0 : Int32)) (Int32.toNatClampNeg (0 : Int32)) (Int32.toNatClampNeg (16 : Int32))) v_p1_size a_p1_firsts a_p1_seconds) H := hP
  have hD : va_D A (cw_X2_become cI cZ h h_firsts h_seconds h_p1 h_p1_firsts h_p1_seconds v_size (va_cpy a_p1_firsts a_firsts (Int32.toNatClampNeg (0 : Int32)) (Int32.toNatClampNeg (0 : Int32)) (Int32.toNatClampNeg (16 : Int32))) (va_cpy a_p1_seconds a_seconds (Int32.toNatClampNeg (0 : Int32)) (Int32.toNatClampNeg (0 : Int32)) (Int32.toNatClampNeg (16 : Int32))) v_p1_size a_p1_firsts a_p1_seconds) := hD
  refine lv_aload_n hx hb dX2_become_30 rfl (lv_at hl 0 rfl) ?_
  refine lv_aload_n hx hb dX2_become_31 rfl (lv_at hl 1 rfl) ?_
  refine va_get (D := D) (ci := 2) (v := .int v_p1_size) (C := RX2) (T := TX2) (N := 3) hx hb hts inw_X2_become_X2 hown hK.1 hP 3 rfl rfl 2 (by decide) (hts (.fieldLink RX2 18 "PursesShare$Meetings" "size" "I") (by decide +kernel)) (fun _ h9 => h9) rfl dX2_become_32 ?_
  refine va_put (D := D) (ci := 2) (v := .int v_p1_size) (ty := .int) (C := RX2) (T := TX2) (N := 3) hx hb hts inw_X2_become_X2 tyX2 tyX2_ok nmX2 hown hK.1 hP hD hS 0 rfl rfl 2 (by decide) (hts (.fieldLink RX2 18 "PursesShare$Meetings" "size" "I") (by decide +kernel)) (fun _ h9 => h9) rfl (by decide +kernel) rfl rfl (Nat.le_of_ble_eq_true rfl) dX2_become_35 (fun H locs hP hD hS => ?_)
  have hP : va_P D vwCl (cw_X2_become cI cZ h h_firsts h_seconds h_p1 h_p1_firsts h_p1_seconds v_p1_size (va_cpy a_p1_firsts a_firsts (Int32.toNatClampNeg (0 : Int32)) (Int32.toNatClampNeg (0 : Int32)) (Int32.toNatClampNeg (16 : Int32))) (va_cpy a_p1_seconds a_seconds (Int32.toNatClampNeg (0 : Int32)) (Int32.toNatClampNeg (0 : Int32)) (Int32.toNatClampNeg (16 : Int32))) v_p1_size a_p1_firsts a_p1_seconds) H := hP
  have hD : va_D A (cw_X2_become cI cZ h h_firsts h_seconds h_p1 h_p1_firsts h_p1_seconds v_p1_size (va_cpy a_p1_firsts a_firsts (Int32.toNatClampNeg (0 : Int32)) (Int32.toNatClampNeg (0 : Int32)) (Int32.toNatClampNeg (16 : Int32))) (va_cpy a_p1_seconds a_seconds (Int32.toNatClampNeg (0 : Int32)) (Int32.toNatClampNeg (0 : Int32)) (Int32.toNatClampNeg (16 : Int32))) v_p1_size a_p1_firsts a_p1_seconds) := hD
  exact ret_v3 hx hb hr hlocks hQ hS v_p1_size (va_cpy a_p1_firsts a_firsts (Int32.toNatClampNeg (0 : Int32)) (Int32.toNatClampNeg (0 : Int32)) (Int32.toNatClampNeg (16 : Int32))) (va_cpy a_p1_seconds a_seconds (Int32.toNatClampNeg (0 : Int32)) (Int32.toNatClampNeg (0 : Int32)) (Int32.toNatClampNeg (16 : Int32))) hP h dX2_become_38
abbrev rm_X2_makeOne : Room := { frames := 4, cells := 0, slots := 0, locals := 134 }
abbrev cw_X2_makeOne (cI cZ : ClassId) (h h_firsts h_seconds h_p2 : Nat) (v_size : Int32) (a_firsts : Nat → Int32) (a_seconds : Nat → Int32) (a_p2 : Nat → Int32) : va_W := [(h, .inr (2, [.ref h_firsts, .ref h_seconds, .int v_size])), (h_firsts, .inl (cI, 16, .inl a_firsts)), (h_seconds, .inl (cI, 16, .inl a_seconds)), (h_p2, .inl (cI, 8, .inl a_p2))]
theorem inw_X2_makeOne_X2 : ∀ w ∈ u_ws RX2 TX2 3, w ∈ wsX2_makeOne := by decide +kernel
def wp_X2_makeOne (n1 : Int32) (n3 : Int32) (a_firsts : Nat → Int32) (a_seconds : Nat → Int32) (a_p2 : Nat → Int32) (Post : Int32 → (Nat → Int32) → Prop) : Prop := (vp_in n1 16 ∧ (vp_in n1 16 ∧ (wp_X8_makeMeeting n3 (a_firsts (Int32.toNatClampNeg n1)) (a_seconds (Int32.toNatClampNeg n1)) a_p2 (fun (r14 : Int32) (a_p2_14 : Nat → Int32) => (r14 &&& 1 = r14 ∧ (Post r14 a_p2_14))))))
set_option maxHeartbeats 4000000 in
set_option maxRecDepth 100000 in
theorem c_X2_makeOne (l : Launch) (D : va_G) (cI cZ : ClassId) (h h_firsts h_seconds h_p2 : Nat) (sz : Nat) (n1 : Int32) (n3 : Int32) (v_size : Int32) (a_firsts : Nat → Int32) (a_seconds : Nat → Int32) (a_p2 : Nat → Int32) (Post : Int32 → (Nat → Int32) → Prop) (h : wp_X2_makeOne n1 n3 a_firsts a_seconds a_p2 Post) : Met l yX2_makeOne wsX2_makeOne rm_X2_makeOne (cPc D cI cZ [.ref h, .int n1, .ref h_p2, .int n3] (cw_X2_makeOne cI cZ h h_firsts h_seconds h_p2 v_size a_firsts a_seconds a_p2) sz) (cQi1 D Post (fun m_a_p2 => (cw_X2_makeOne cI cZ h h_firsts h_seconds h_p2 v_size a_firsts a_seconds m_a_p2)) (va_A (cw_X2_makeOne cI cZ h h_firsts h_seconds h_p2 v_size a_firsts a_seconds a_p2) sz)) 0 0 (va_A (cw_X2_makeOne cI cZ h h_firsts h_seconds h_p2 v_size a_firsts a_seconds a_p2) sz) := by
  refine ent (cc := cX2_makeOne) (maxL := 4) (ret := (some .boolean)) (Qc := fun A => cQi1 D Post (fun m_a_p2 => (cw_X2_makeOne cI cZ h h_firsts h_seconds h_p2 v_size a_firsts a_seconds m_a_p2)) A) (by decide) rfl (Nat.le_of_ble_eq_true rfl) ?_
  intro p e s m args below meth c A ls Q hQ hsz hx hb hml hr hts hown hlocks hnm hK hP hD hA hS hl
  have hl : lv_has ls 4 [(0, .ref h), (1, .int n1), (2, .ref h_p2), (3, .int n3)] := hl
  unfold wp_X2_makeOne at h
  refine lv_aload_n hx hb dX2_makeOne_0 rfl (lv_at hl 2 rfl) ?_
  refine lv_iload_n hx hb dX2_makeOne_1 rfl (lv_at hl 3 rfl) ?_
  refine lv_aload_n hx hb dX2_makeOne_2 rfl (lv_at hl 0 rfl) ?_
  refine va_get (D := D) (ci := 2) (v := .ref h_firsts) (C := RX2) (T := TX2) (N := 3) hx hb hts inw_X2_makeOne_X2 hown hK.1 hP 0 rfl rfl 0 (by decide) (hts (.fieldLink RX2 9 "PursesShare$Meetings" "firsts" "[I") (by decide +kernel)) (fun _ h9 => h9) rfl dX2_makeOne_3 ?_
  refine lv_iload_n hx hb dX2_makeOne_6 rfl (lv_at hl 1 rfl) ?_
  have h0 := h.1
  have h := h.2
  refine va_iald hx hb hK.1 hP 1 0 rfl rfl h0 dX2_makeOne_7 ?_
  refine lv_aload_n hx hb dX2_makeOne_8 rfl (lv_at hl 0 rfl) ?_
  refine va_get (D := D) (ci := 2) (v := .ref h_seconds) (C := RX2) (T := TX2) (N := 3) hx hb hts inw_X2_makeOne_X2 hown hK.1 hP 0 rfl rfl 1 (by decide) (hts (.fieldLink RX2 15 "PursesShare$Meetings" "seconds" "[I") (by decide +kernel)) (fun _ h9 => h9) rfl dX2_makeOne_9 ?_
  refine lv_iload_n hx hb dX2_makeOne_12 rfl (lv_at hl 1 rfl) ?_
  have h0 := h.1
  have h := h.2
  refine va_iald hx hb hK.1 hP 2 0 rfl rfl h0 dX2_makeOne_13 ?_
  refine call_i1 (va_runSN (As := [.ref h_p2, .int n3, .int (a_firsts (Int32.toNatClampNeg n1)), .int (a_seconds (Int32.toNatClampNeg n1))]) (rest := []) ⟨hx, hb, hml, hown, hts⟩ (c_X8_makeMeeting l D cI cZ h_p2 (Array.size s.heap) n3 (a_firsts (Int32.toNatClampNeg n1)) (a_seconds (Int32.toNatClampNeg n1)) a_p2 _ h) ⟨va_cnB (own := RX2) 4 hts gX2_makeOne_X8_makeMeeting_n28 rfl rfl rfl (nM_20 hK) (hts (.initialized RX8) (by decide +kernel)) (by decide +kernel) ⟨Nat.le_of_ble_eq_true rfl, Nat.le_of_ble_eq_true rfl⟩, hts (.static yX8_makeMeeting) (by decide +kernel), trivial⟩ (preS_of hP hD hK [3] rfl rfl) rfl rfl hl.1 rfl (lv_room (Nat.le_of_ble_eq_true rfl)) dX2_makeOne_14 ⟨Nat.zero_le _, Nat.zero_le _⟩) hP hD hS hA [3] rfl (fun a_p2_14 => (cw_X2_makeOne cI cZ h h_firsts h_seconds h_p2 v_size a_firsts a_seconds a_p2_14)) (fun _ => rfl) (fun _ => rfl) (fun r14 a_p2_14 H locs h hP hD hS => ?_)
  have hz := h.1
  have h := h.2
  exact ret_z1 hx hb hr hlocks hQ hS hz a_p2_14 hP h dX2_makeOne_17
abbrev rm_X2_makeAll : Room := { frames := 5, cells := 0, slots := 0, locals := 157 }
abbrev cw_X2_makeAll (cI cZ : ClassId) (h h_firsts h_seconds h_p1 : Nat) (v_size : Int32) (a_firsts : Nat → Int32) (a_seconds : Nat → Int32) (a_p1 : Nat → Int32) : va_W := [(h, .inr (2, [.ref h_firsts, .ref h_seconds, .int v_size])), (h_firsts, .inl (cI, 16, .inl a_firsts)), (h_seconds, .inl (cI, 16, .inl a_seconds)), (h_p1, .inl (cI, 8, .inl a_p1))]
theorem inw_X2_makeAll_X2 : ∀ w ∈ u_ws RX2 TX2 3, w ∈ wsX2_makeAll := by decide +kernel
def wp_X2_makeAll (n2 : Int32) (v_size : Int32) (a_firsts : Nat → Int32) (a_seconds : Nat → Int32) (a_p1 : Nat → Int32) (Post : Int32 → (Nat → Int32) → Prop) : Prop := (∀ k5 : (Int32) → (Int32) → (Nat → Int32) → Prop, (∀ (x4_5 : Int32) (x3_5 : Int32) (a_p1_5 : Nat → Int32), ((v_size ≤ x4_5 → (Post x3_5 a_p1_5)) ∧ (¬ v_size ≤ x4_5 → (wp_X2_makeOne x4_5 n2 a_firsts a_seconds a_p1_5 (fun (r19 : Int32) (a_p1_19 : Nat → Int32) => ((r19 = 0 → (k5 (x4_5 + 1) x3_5 a_p1_19)) ∧ (¬ r19 = 0 → (k5 (x4_5 + 1) (x3_5 + 1) a_p1_19))))))) → k5 x4_5 x3_5 a_p1_5) → k5 (0 : Int32) (0 : Int32) a_p1)
set_option maxHeartbeats 4000000 in
set_option maxRecDepth 100000 in
theorem c_X2_makeAll (l : Launch) (D : va_G) (cI cZ : ClassId) (h h_firsts h_seconds h_p1 : Nat) (sz : Nat) (n2 : Int32) (v_size : Int32) (a_firsts : Nat → Int32) (a_seconds : Nat → Int32) (a_p1 : Nat → Int32) (Post : Int32 → (Nat → Int32) → Prop) (h : wp_X2_makeAll n2 v_size a_firsts a_seconds a_p1 Post) : Met l yX2_makeAll wsX2_makeAll rm_X2_makeAll (cPc D cI cZ [.ref h, .ref h_p1, .int n2] (cw_X2_makeAll cI cZ h h_firsts h_seconds h_p1 v_size a_firsts a_seconds a_p1) sz) (cQi1 D Post (fun m_a_p1 => (cw_X2_makeAll cI cZ h h_firsts h_seconds h_p1 v_size a_firsts a_seconds m_a_p1)) (va_A (cw_X2_makeAll cI cZ h h_firsts h_seconds h_p1 v_size a_firsts a_seconds a_p1) sz)) 0 0 (va_A (cw_X2_makeAll cI cZ h h_firsts h_seconds h_p1 v_size a_firsts a_seconds a_p1) sz) := by
  refine ent (cc := cX2_makeAll) (maxL := 5) (ret := (some .int)) (Qc := fun A => cQi1 D Post (fun m_a_p1 => (cw_X2_makeAll cI cZ h h_firsts h_seconds h_p1 v_size a_firsts a_seconds m_a_p1)) A) (by decide) rfl (Nat.le_of_ble_eq_true rfl) ?_
  intro p e s m args below meth c A ls Q hQ hsz hx hb hml hr hts hown hlocks hnm hK hP hD hA hS hl
  have hl : lv_has ls 5 [(0, .ref h), (1, .ref h_p1), (2, .int n2)] := hl
  unfold wp_X2_makeAll at h
  refine lv_iconst (v := 0) hx hb dX2_makeAll_0 (by decide) ?_
  refine lv_istore_n (lv' := [(3, .int (0 : Int32)), (0, .ref h), (1, .ref h_p1), (2, .int n2)]) hx hb dX2_makeAll_1 rfl hl (by decide) rfl (fun ls hl => ?_)
  refine lv_iconst (v := 0) hx hb dX2_makeAll_2 (by decide) ?_
  refine lv_istore (lv' := [(4, .int (0 : Int32)), (3, .int (0 : Int32)), (0, .ref h), (1, .ref h_p1), (2, .int n2)]) hx hb dX2_makeAll_3 hl (by decide) rfl (fun ls hl => ?_)
  refine h (fun x4_5 x3_5 a_p1_5 => ∀ (H : Heap) (locs : List Loc) (ls : Array Slot), lv_has ls 5 [(0, .ref h), (1, .ref h_p1), (2, .int n2), (3, .int x3_5), (4, .int x4_5)] → va_P D vwCl (cw_X2_makeAll cI cZ h h_firsts h_seconds h_p1 v_size a_firsts a_seconds a_p1_5) H → va_D A (cw_X2_makeAll cI cZ h h_firsts h_seconds h_p1 v_size a_firsts a_seconds a_p1_5) → va_S A s.heap H locs → W p l e rm_X2_makeAll s m args below meth c H locs 0 0 Q (F0 m 5 ls [])) ?_ s.heap [] ls (lv_sub hl [2, 3, 4, 1, 0] rfl) hP hD hS
  intro x4_5 x3_5 a_p1_5 h H locs ls hl hP hD hS
  refine lv_iload hx hb dX2_makeAll_5 (lv_at hl 4 rfl) ?_
  refine lv_aload_n hx hb dX2_makeAll_7 rfl (lv_at hl 0 rfl) ?_
  refine va_get (D := D) (ci := 2) (v := .int v_size) (C := RX2) (T := TX2) (N := 3) hx hb hts inw_X2_makeAll_X2 hown hK.1 hP 0 rfl rfl 2 (by decide) (hts (.fieldLink RX2 18 "PursesShare$Meetings" "size" "I") (by decide +kernel)) (fun _ h9 => h9) rfl dX2_makeAll_8 ?_
  refine lv_icmp_ge (tgt := 34) hx hb dX2_makeAll_11 (by decide) (fun c11 => ?_) (fun c11 => ?_)
  · have h := h.1 c11
    refine lv_iload_n hx hb dX2_makeAll_34 rfl (lv_at hl 3 rfl) ?_
    exact ret_i1 hx hb hr hlocks hQ hS a_p1_5 hP h dX2_makeAll_35
  · have h := h.2 c11
    refine lv_aload_n hx hb dX2_makeAll_14 rfl (lv_at hl 0 rfl) ?_
    refine lv_iload hx hb dX2_makeAll_15 (lv_at hl 4 rfl) ?_
    refine lv_aload_n hx hb dX2_makeAll_17 rfl (lv_at hl 1 rfl) ?_
    refine lv_iload_n hx hb dX2_makeAll_18 rfl (lv_at hl 2 rfl) ?_
    refine call_i1 (va_runV (As := [.int x4_5, .ref h_p1, .int n2]) (rest := []) ⟨hx, hb, hml, hown, hts⟩ (c_X2_makeOne l D cI cZ h h_firsts h_seconds h_p1 (Array.size H) x4_5 n2 v_size a_firsts a_seconds a_p1_5 _ h) (cwV 3 hts gX2_makeAll_X2_makeOne rfl rfl rfl (by decide +kernel) ⟨Nat.le_of_ble_eq_true rfl, Nat.le_of_ble_eq_true rfl⟩) (preV_of hP hD hK [0, 1, 2, 3] rfl rfl 0 2 rfl rfl rfl) rfl rfl hl.1 rfl (lv_room (Nat.le_of_ble_eq_true rfl)) dX2_makeAll_19 ⟨Nat.zero_le _, Nat.zero_le _⟩) hP hD hS hA [0, 1, 2, 3] rfl (fun a_p1_19 => (cw_X2_makeAll cI cZ h h_firsts h_seconds h_p1 v_size a_firsts a_seconds a_p1_19)) (fun _ => rfl) (fun _ => rfl) (fun r19 a_p1_19 H locs h hP hD hS => ?_)
    refine lv_if_eq (tgt := 28) hx hb dX2_makeAll_22 (by decide) (fun c22 => ?_) (fun c22 => ?_)
    · have h := h.1 c22
      refine lv_iinc (v := (x4_5 + 1)) (lv' := [(4, .int (x4_5 + 1)), (0, .ref h), (1, .ref h_p1), (2, .int n2), (3, .int x3_5)]) hx hb dX2_makeAll_28 hl (k := 4) rfl rfl (by decide) rfl (fun ls hl => ?_)
      refine lv_goto (tgt := 5) hx hb dX2_makeAll_31 (by decide) ?_
      exact h H locs ls (lv_sub hl [1, 2, 3, 4, 0] rfl) hP hD hS
    · have h := h.2 c22
      refine lv_iinc (v := (x3_5 + 1)) (lv' := [(3, .int (x3_5 + 1)), (0, .ref h), (1, .ref h_p1), (2, .int n2), (4, .int x4_5)]) hx hb dX2_makeAll_25 hl (k := 3) rfl rfl (by decide) rfl (fun ls hl => ?_)
      refine lv_iinc (v := (x4_5 + 1)) (lv' := [(4, .int (x4_5 + 1)), (3, .int (x3_5 + 1)), (0, .ref h), (1, .ref h_p1), (2, .int n2)]) hx hb dX2_makeAll_28 hl (k := 4) rfl rfl (by decide) rfl (fun ls hl => ?_)
      refine lv_goto (tgt := 5) hx hb dX2_makeAll_31 (by decide) ?_
      exact h H locs ls (lv_sub hl [2, 3, 4, 1, 0] rfl) hP hD hS
