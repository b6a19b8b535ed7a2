/-! the law's own reads -/
def wp_L_cell (L : Nat) (xs : Nat → Int32) (n2 : Int32) (Post : Int32 → Prop) : Prop := (¬ n2 < Int32.ofNat L → Post (((15490991 : Int32) * n2 + (3491 : Int32)) &&& (2147483647 : Int32))) ∧ (n2 < Int32.ofNat L → vp_in n2 L ∧ Post (xs (Int32.toNatClampNeg n2) &&& (2147483647 : Int32)))
abbrev rm_L_cell : Room := { frames := 0, cells := 0, slots := 0, locals := 0 }
def xPc (D : va_G) (cI cZ : ClassId) (av : List Value) (b L : Nat) (xs : Nat → Int32) (sz : Nat) : Array Value → State → Prop := va_Pc av (fun U => U.heap.size = sz ∧ KK D cI cZ U ∧ va_X b L xs U U.heap ∧ b < sz)
theorem xPc_blind {D : va_G} {cI cZ : ClassId} {av : List Value} {b L : Nat} {xs : Nat → Int32} {sz : Nat} : FrameBlind (xPc D cI cZ av b L xs sz) := fun a U g mk h => ⟨h.1, h.2.1, h.2.2.1.calling g mk a, va_X.moved (u := U) (U := U.calling g mk a) (Vm.Alike.refl U.vm) h.2.2.2.1, h.2.2.2.2⟩
theorem preX_of {s : State} {H : Heap} {D : va_G} {cI cZ : ClassId} {As : List Value} {b L : Nat} {xs : Nat → Int32} (hK : KK D cI cZ s) (hX : va_X b L xs s H) (hb : b < H.size) : PreS s H (xPc D cI cZ As b L xs H.size) As :=
  ⟨xPc_blind, fun U hU hW => ⟨rfl, by rw [hU], hK.warm hW, by rw [hU]; exact va_X.moved hW.alike hX, hb⟩⟩
set_option maxHeartbeats 4000000 in
set_option maxRecDepth 100000 in
theorem c_L_cell (l : Launch) (D : va_G) (cI cZ : ClassId) (b L : Nat) (xs : Nat → Int32) (sz : Nat) (n2 : Int32) (Post : Int32 → Prop) (h : wp_L_cell L xs n2 Post) : Met l yL_cell wsL_cell rm_L_cell (xPc D cI cZ [.ref b, .int n2] b L xs sz) (cQi0 D Post [] (va_A [] sz)) 0 0 (va_A [] sz) := by
  refine Met.ofW (cc := cL_cell) (maxL := 2) (ret := (some .int)) (by decide) rfl ?_
  intro p e s m args below meth c s₁ B hml hv
  obtain ⟨rfl, hsz, hK, hX, hbs⟩ := hv
  subst hsz
  rw [lg_entry_eq]
  have hl := lv_entry ([.ref b, .int n2]) (n := 2) (Nat.le_of_ble_eq_true rfl)
  generalize (lg_sl ([.ref b, .int n2]) ++ List.replicate (2 - (lg_sl ([.ref b, .int n2])).length) Slot.unset).toArray = ls at hl ⊢
  have hl : lv_has ls 2 [(0, .ref b), (1, .int n2)] := hl
  have hx := B.exec
  have hb := B.bytes
  have hr := B.returns
  have hts := atoms_spec (ws := wsL_cell) B.pre
  have hown := findClass_of_methodNamed B.named
  have hlocks := B.notSynchronized
  have hbA : ¬ va_A [] s.heap.size b := fun h => h.elim (fun ⟨_, _, h⟩ => by simp at h) (fun h => absurd hbs (Nat.not_lt.mpr h))
  have hS : va_S (va_A [] s.heap.size) s.heap s.heap [] := va_S.rf
  have hP : va_P D vwCl [] s.heap := fun k q h => by simp at h
  refine lv_iload_n hx hb dL_cell_0 rfl (lv_at hl 1 rfl) ?_
  refine lv_aload_n hx hb dL_cell_1 rfl (lv_at hl 0 rfl) ?_
  refine va_slen hx hb hX hbs hbA hS dL_cell_2 ?_
  refine lv_icmp_ge (tgt := 12) hx hb dL_cell_3 (by decide) (fun c1 => ?_) (fun c1 => ?_)
  · have h := h.1 (fun hh => absurd hh (Int32.not_lt.mpr c1))
    refine lv_ldc (own := RL) (index := 7) (v := 15490991) hx hb hown (hts (.constant RL 7 (15490991)) (by decide +kernel)) dL_cell_12 ?_
    refine lv_iload_n hx hb dL_cell_14 rfl (lv_at hl 1 rfl) ?_
    refine lv_imul hx hb dL_cell_15 ?_
    refine lv_sipush (v := 3491) hx hb dL_cell_16 (by decide) ?_
    refine lv_iadd hx hb dL_cell_19 ?_
    refine lv_ldc (own := RL) (index := 8) (v := 2147483647) hx hb hown (hts (.constant RL 8 (2147483647)) (by decide +kernel)) dL_cell_20 ?_
    refine lv_iand hx hb dL_cell_22 ?_
    exact ret_i0 hx hb hr hlocks rfl hS hP h dL_cell_23
  · have h := h.2 (Int32.not_le.mp c1)
    refine lv_aload_n hx hb dL_cell_6 rfl (lv_at hl 0 rfl) ?_
    refine lv_iload_n hx hb dL_cell_7 rfl (lv_at hl 1 rfl) ?_
    refine va_sld hx hb hX hbs hbA hS h.1 dL_cell_8 ?_
    refine lv_goto (tgt := 20) hx hb dL_cell_9 (by decide) ?_
    refine lv_ldc (own := RL) (index := 8) (v := 2147483647) hx hb hown (hts (.constant RL 8 (2147483647)) (by decide +kernel)) dL_cell_20 ?_
    refine lv_iand hx hb dL_cell_22 ?_
    exact ret_i0 hx hb hr hlocks rfl hS hP h.2 dL_cell_23
