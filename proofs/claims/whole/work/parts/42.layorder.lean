/-! the reference lays out a row by its number -/
theorem ok9_rows {m l : Nat} {Post : Int32 → Prop} (hm : m ≤ 8) (hl : l ≤ m) (h : Post (nN (pw m l))) : wp_X9_rows (nN m) (nN l) Post := by
  unfold wp_X9_rows
  intro k hk
  have key : ∀ (N i : Nat), l - i < N → i ≤ l → k (nN i) (nN (pw m i)) := by
    intro N
    induction N with
    | zero => intro i g; omega
    | succ N ih =>
      intro i g1 g2
      apply hk
      rw [n_le (by omega) (by omega)]
      refine ⟨fun c => ?_, fun c => ?_⟩
      · have e : i = l := by omega
        rw [e]; exact h
      · rw [show nN i + 1 = nN (i + 1) from n_add _ 1, n_sub (by omega), n_mul, ← pw_succ]
        exact ih (i + 1) (by omega) (by omega)
  exact key (l + 1) 0 (by omega) (by omega)
theorem lay_head {m l c : Nat} {u r : List Nat} (hl : l + 1 ≤ (fr 0 m u).length) (h : (lay m (l + 1) u)[c]? = some r) : ∃ x r', (fr 0 m u)[c / pw ((fr 0 m u).length - 1) l]? = some x ∧ (lay m l (x :: u))[c % pw ((fr 0 m u).length - 1) l]? = some r' ∧ r = x :: r' ∧ x < m ∧ x ∉ u ∧ (fr 0 m (x :: u)).length = (fr 0 m u).length - 1 := by
  unfold lay at h
  obtain ⟨x, h1, h2⟩ := flat_get (s := pw ((fr 0 m u).length - 1) l) (pw_pos _ _ (by omega)) _ _ (fun x hx => by
    rw [List.length_map, lay_len]
    rw [fr_mem] at hx
    have := fr_len m 0 u x (by omega) hx.2.1 hx.2.2
    rw [← this]; rfl) h
  rw [List.getElem?_map, Option.map_eq_some_iff] at h2
  obtain ⟨r', h3, h4⟩ := h2
  have hx := (fr_mem _ _ _ _).mp (List.mem_of_getElem? h1)
  have := fr_len m 0 u x (by omega) hx.2.1 hx.2.2
  exact ⟨x, r', h1, h3, h4.symm, by omega, hx.2.2, by omega⟩
theorem ok9_layOrder {m l c : Nat} {o : List Nat} {A : Nat → Int32} {Post : (Nat → Int32) → Prop} (hm : m ≤ 8) (hl : l ≤ m) (ho : (lay m l [])[c]? = some o) (h : ∀ A', (∀ i, i < l → A' i = nN (o.getD i 0)) → Post A') : wp_X9_layOrder (nN c) (nN m) (nN l) A Post := by
  unfold wp_X9_layOrder
  have hc : c < pw m l := by
    rcases Nat.lt_or_ge c (pw m l) with z | z
    · exact z
    · rw [List.getElem?_eq_none (by rw [lay_len, fr_full]; exact z)] at ho; exact absurd ho (by simp)
  have hpl := pw_le hm (show l ≤ 8 by omega)
  intro k6 hk6
  have start : k6 (nN l) (nN (pw m l)) := by
    apply hk6
    refine ⟨fun _ => ?_, fun z => absurd ((n_le (by omega) (by omega)).mpr (Nat.le_refl l)) z⟩
    intro k36 hk36
    have key : ∀ (l' i k c' : Nat) (u : List Nat) (B : Nat → Int32), l' + i = l → BS k u → (fr 0 m u).length = m - i → (lay m l' u)[c']? = some (o.drop i) → c' ≤ 40320 → (∀ t, t < i → B t = nN (o.getD t 0)) → k36 (nN i) (nN k) (nN c') (nN c) (nN m) (nN l) (nN (pw (m - i) l')) B := by
      intro l'
      induction l' with
      | zero =>
        intro i k c' u B g1 g2 g3 g4 g5 g6
        apply hk36
        refine ⟨fun _ => h B (fun t ht => g6 t (by omega)), fun z => absurd ((n_le (by omega) (by omega)).mpr (by omega)) z⟩
      | succ l' ih =>
        intro i k c' u B g1 g2 g3 g4 g5 g6
        obtain ⟨x, r', e1, e2, e3, e4, e5, e6⟩ := lay_head (by omega) g4
        rw [g3] at e1 e2 e6
        have hsp := pw_pos l' (m - i - 1) (by omega)
        have hsl := pw_le (m := m - i - 1) (l := l') (by omega) (by omega)
        have hsl2 := pw_le (m := m - i) (l := l' + 1) (by omega) (by omega)
        have hdiv : pw (m - i) (l' + 1) / (m - i) = pw (m - i - 1) l' := by
          show (m - i) * pw (m - i - 1) l' / (m - i) = _
          rw [Nat.mul_div_cancel_left _ (by omega)]
        have hq : c' / pw (m - i - 1) l' ≤ c' := Nat.div_le_self _ _
        have hr : c' % pw (m - i - 1) l' ≤ c' := Nat.mod_le _ _
        apply hk36
        rw [n_le (by omega) (by omega), n_sub (show i ≤ m by omega), n_div (by omega) (by omega) (by omega), hdiv, n_div (by omega) hsp (by omega), n_nat (by omega)]
        have z1 : ¬ (nN (m - i) = 0) := by rw [show (0 : Int32) = nN 0 from rfl, n_eq (by omega) (by omega)]; omega
        have z2 : ¬ (nN (pw (m - i - 1) l') = 0) := by rw [show (0 : Int32) = nN 0 from rfl, n_eq (by omega) (by omega)]; omega
        refine ⟨fun z => absurd z (by omega), fun _ => ⟨z1, z2, z2, ?_⟩⟩
        intro k68 hk68
        have key2 : ∀ (kk a p : Nat), a + kk = m → p ≤ 40320 → (fr a kk u)[p]? = some x → k68 (nN a) (nN p) := by
          intro kk
          induction kk with
          | zero =>
            intro a p f1 f2 f3
            unfold fr at f3
            simp at f3
          | succ kk ih2 =>
            intro a p f1 f2 f3
            apply hk68
            have hb := (BS_at g2 (show a < 8 by omega)).1
            rw [hb]
            unfold fr at f3
            rw [show nN a + 1 = nN (a + 1) from n_add _ 1]
            refine ⟨fun y1 => ⟨fun y2 => absurd y1 y2, fun _ => ?_⟩, fun y1 => ⟨fun y2 => ⟨n_in (by omega) (by omega), ?_⟩, fun y2 => ⟨fun _ => ?_, fun y3 => absurd y3 y1⟩⟩⟩
            · rw [if_pos y1] at f3
              rw [show nN p - 0 = nN p from n_sub (a := p) (b := 0) (by omega)]
              exact ih2 (a + 1) p (by omega) f2 f3
            · rw [if_neg y1] at f3
              rw [show (0 : Int32) = nN 0 from rfl, n_le (by omega) (by omega)] at y2
              have ep : p = 0 := by omega
              rw [ep, List.getElem?_cons_zero] at f3
              have ea : a = x := Option.some.inj f3
              subst ea
              obtain ⟨o1, o2⟩ := BS_add g2 (show a < 8 by omega)
              rw [o1, show nN i + 1 = nN (i + 1) from n_add _ 1]
              have hrem : nN c' - nN (c' / pw (m - i - 1) l') * nN (pw (m - i - 1) l') = nN (c' % pw (m - i - 1) l') := by
                rw [← n_div (by omega) hsp (by omega)]; exact n_rem (by omega) hsp (by omega)
              rw [hrem]
              have hd : o.drop (i + 1) = r' := by
                rw [← List.tail_drop, e3]; rfl
              have hget : o.getD i 0 = a := by
                have : (o.drop i)[0]? = some a := by rw [e3]; rfl
                rw [List.getElem?_drop, Nat.add_zero] at this
                rw [List.getD_eq_getElem?_getD, this]; rfl
              have := ih (i + 1) (k ||| 2 ^ a) (c' % pw (m - i - 1) l') (a :: u) (upd B i (nN a)) (by omega) o2 (by omega) (by rw [hd]; exact e2) (by omega) (fun t ht => by
                unfold upd
                by_cases e : t = i
                · rw [if_pos e, e, hget]
                · rw [if_neg e]; exact g6 t (by omega))
              exact this
            · rw [if_neg y1] at f3
              rw [show (0 : Int32) = nN 0 from rfl, n_le (by omega) (by omega)] at y2
              obtain ⟨p', rfl⟩ : ∃ p', p = p' + 1 := ⟨p - 1, by omega⟩
              rw [List.getElem?_cons_succ] at f3
              rw [show nN (p' + 1) - (1 : Int32) = nN p' from n_sub (a := p' + 1) (b := 1) (by omega)]
              exact ih2 (a + 1) p' (by omega) (by omega) f3
        exact key2 m 0 _ (by omega) (by omega) e1
    have := key l 0 0 c [] A (by omega) BS_nil (fr_full m 0) ho (by omega) (fun t ht => by omega)
    exact this
  have key : ∀ (N i : Nat), l - i < N → i ≤ l → k6 (nN i) (nN (pw m i)) := by
    intro N
    induction N with
    | zero => intro i g; omega
    | succ N ih =>
      intro i g1 g2
      by_cases e : i = l
      · rw [e]; exact start
      · apply hk6
        rw [n_le (by omega) (by omega)]
        refine ⟨fun z => absurd z (by omega), fun _ => ?_⟩
        rw [show nN i + 1 = nN (i + 1) from n_add _ 1, n_sub (by omega), n_mul, ← pw_succ]
        exact ih (i + 1) (by omega) (by omega)
  exact key (l + 1) 0 (by omega) (by omega)
