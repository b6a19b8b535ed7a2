/-! what the law asks, step by step, in its own words -/
theorem sv_cell {L i : Nat} {xs : Nat → Int32} {Post : Int32 → Prop} (hL : L ≤ 260) (hi : i ≤ 34) (h : ∀ X, X < 2147483648 → Post (nN X)) : wp_L_cell L xs (nN i) Post := by
  unfold wp_L_cell
  have eL : Int32.ofNat L = nN L := rfl
  rw [eL]
  refine ⟨fun _ => ?_, fun c => ⟨n_in ((n_lt (by omega) (by omega)).mp c) (by omega), ?_⟩⟩
  · obtain ⟨X, h1, h2⟩ := and_cell ((15490991 : Int32) * nN i + (3491 : Int32))
    rw [h2]; exact h X h1
  · obtain ⟨X, h1, h2⟩ := and_cell (xs (Int32.toNatClampNeg (nN i)))
    rw [h2]; exact h X h1
theorem rfl_if {r : Int32} {K : Prop} (h : K) : (¬ r = r → False) ∧ (r = r → K) := ⟨fun c => c rfl, fun _ => h⟩
theorem eq_if {r r' : Int32} {K : Prop} (e : r = r') (h : K) : (¬ r = r' → False) ∧ (r = r' → K) := ⟨fun c => c e, fun _ => h⟩
theorem z0 : (0 : Int32) = nN 0 := rfl
theorem nz {x : Nat} (h : x ≠ 0) (hx : x ≤ 2147483647) : ¬ nN x = 0 := by rw [z0, n_eq hx (by omega)]; exact h
theorem j_had {v c : Nat} {K : Prop} (hv : v ≤ 99999) (hc : c ≤ 99999) (hd : c ∣ v) (h : K) : (nN v < 0 → False) ∧ (¬ nN v < 0 → (((100000 : Int32) ≤ nN v → False) ∧ (¬ (100000 : Int32) ≤ nN v → ((¬ nN c = 0 → (¬ nN c = 0 ∧ ((¬ (nN v - nN v / nN c * nN c) = 0 → False) ∧ ((nN v - nN v / nN c * nN c) = 0 → K)))) ∧ (nN c = 0 → ((¬ nN v = 0 → False) ∧ (nN v = 0 → K))))))) := by
  rw [z0, n_lt (by omega) (by omega), show (100000 : Int32) = nN 100000 from rfl, n_le (by omega) (by omega), n_eq (by omega) (by omega), n_eq (by omega) (by omega)]
  refine ⟨fun c => by omega, fun _ => ⟨fun c => by omega, fun _ => ⟨fun hc0 => ⟨hc0, ?_⟩, fun hc0 => ⟨fun hv0 => hv0 ?_, fun _ => h⟩⟩⟩⟩
  · rw [n_rem (by omega) (by omega) (by omega), Nat.mod_eq_zero_of_dvd hd]
    exact ⟨fun c => c rfl, fun _ => h⟩
  · rw [hc0] at hd
    exact Nat.eq_zero_of_zero_dvd hd
theorem j377 {x y c : Nat} {K : Prop} (hx : x ≤ 99999) (hy : y ≤ 99999) (hc9 : c ≤ 99999) (h1 : c ∣ x) (h2 : c ∣ y) (h : K) : (nN x = 0 → ((¬ nN (sh x y) = 0 → False) ∧ (nN (sh x y) = 0 → K))) ∧ (¬ nN x = 0 → ((¬ nN y = 0 → ((nN (sh x y) ≤ 0 → False) ∧ (¬ nN (sh x y) ≤ 0 → (¬ nN (sh x y) = 0 ∧ ((¬ (nN x - nN x / nN (sh x y) * nN (sh x y)) = 0 → False) ∧ ((nN x - nN x / nN (sh x y) * nN (sh x y)) = 0 → (¬ nN (sh x y) = 0 ∧ ((¬ (nN y - nN y / nN (sh x y) * nN (sh x y)) = 0 → False) ∧ ((nN y - nN y / nN (sh x y) * nN (sh x y)) = 0 → (¬ nN c = 0 ∧ ((¬ (nN (sh x y) - nN (sh x y) / nN c * nN c) = 0 → False) ∧ ((nN (sh x y) - nN (sh x y) / nN c * nN c) = 0 → K)))))))))))) ∧ (nN y = 0 → ((¬ nN (sh x y) = 0 → False) ∧ (nN (sh x y) = 0 → K))))) := by
  have hs := sh_le_l x y
  have e : ∀ z, z ≤ 99999 → ((nN z = 0) ↔ z = 0) := fun z hz => by rw [z0, n_eq (by omega) (by omega)]
  rw [e x hx, e y hy, e (sh x y) (by omega), e c hc9, show (nN (sh x y) ≤ 0) = (nN (sh x y) ≤ nN 0) from rfl, n_le (by omega) (by omega)]
  rcases sh_law h1 h2 with ⟨q1, q2⟩ | ⟨q1, q2, q3, q4, q5, q6, q7⟩
  · rw [q2]
    exact ⟨fun _ => ⟨fun c => c rfl, fun _ => h⟩, fun hx0 => ⟨fun hy0 => by omega, fun _ => ⟨fun c => c rfl, fun _ => h⟩⟩⟩
  · rw [n_rem (by omega) q3 (by omega), n_rem (by omega) q3 (by omega), q4, q5]
    refine ⟨fun c => absurd c q1, fun _ => ⟨fun _ => ⟨fun c => by omega, fun _ => ⟨by omega, fun c => c rfl, fun _ => ⟨by omega, fun c => c rfl, fun _ => ⟨q6, ?_⟩⟩⟩⟩, fun c => absurd c q2⟩⟩
    rw [n_rem (by omega) (by omega) (by omega), q7]
    exact ⟨fun c => c rfl, fun _ => h⟩
theorem j481 {R : Nat} {K : Prop} (hR : R = 1 ∨ R = 2) (h : K) : (nN R = (1 : Int32) → K) ∧ (¬ nN R = (1 : Int32) → ((¬ nN R = (2 : Int32) → False) ∧ (nN R = (2 : Int32) → K))) := by
  refine ⟨fun _ => h, fun c => ⟨fun c2 => ?_, fun _ => h⟩⟩
  rcases hR with rfl | rfl
  · exact c rfl
  · exact c2 rfl
theorem j517 {x y s t : Nat} {K : Prop} (hx : x ≤ 99999) (hy : y ≤ 99999) (hst : s + t ≤ x + y) (h : K) : ((nN x + nN y) < (nN s + nN t) → False) ∧ (¬ (nN x + nN y) < (nN s + nN t) → K) := by
  rw [n_add, n_add, n_lt (by omega) (by omega)]
  exact ⟨fun c => by omega, fun _ => h⟩
theorem j613 {x y L R : Nat} {w : Nat} {K : Prop} (hx : x ≤ 99999) (hy : y ≤ 99999) (hr : RLq w x y L R) (h : K) : (nN (sh x y) ≤ 0 → ((¬ nN L = 0 → False) ∧ (nN L = 0 → ((¬ nN R = (1 : Int32) → False) ∧ (nN R = (1 : Int32) → K))))) ∧ (¬ nN (sh x y) ≤ 0 → ((¬ nN x = nN y → K) ∧ (nN x = nN y → ((¬ nN L = 0 → False) ∧ (nN L = 0 → ((¬ nN R = (1 : Int32) → False) ∧ (nN R = (1 : Int32) → K))))))) := by
  have hs := sh_le_l x y
  rw [show (nN (sh x y) ≤ 0) = (nN (sh x y) ≤ nN 0) from rfl, n_le (by omega) (by omega), n_eq (by omega) (by omega)]
  have fin : (x = y ∨ sh x y = 0) → ((¬ nN L = 0 → False) ∧ (nN L = 0 → ((¬ nN R = (1 : Int32) → False) ∧ (nN R = (1 : Int32) → K)))) := by
    intro hz
    obtain ⟨rfl, rfl⟩ := hr.still hz
    exact ⟨fun c => c rfl, fun _ => ⟨fun c => c rfl, fun _ => h⟩⟩
  exact ⟨fun c => fin (Or.inr (by omega)), fun _ => ⟨fun _ => h, fun c => fin (Or.inl c)⟩⟩
theorem j645 {x t : Nat} : iI ((t : Int) - x + 100000) = ((100000 : Int32) + nN t) - nN x := by
  rw [show (100000 : Int32) = iI 100000 from rfl, i_add, i_sub]
  congr 1; omega
theorem j802 {w x y m : Nat} {K : Prop} (hx : x ≤ 99999) (hp : PN w x y m) (h : K) : (nN m < 0 → False) ∧ (¬ nN m < 0 → ((nN x < nN m → False) ∧ (¬ nN x < nN m → K))) := by
  have := hp.1
  rw [z0, n_lt (by omega) (by omega), n_lt (by omega) (by omega)]
  exact ⟨fun c => by omega, fun _ => ⟨fun c => by omega, fun _ => h⟩⟩
theorem j802b {w x y m : Nat} {K : Prop} (hx : x ≤ 99999) (hp : PN w x y m) (h : K) : (¬ nN m = 0 → ((nN (mt w x y) < nN x → K) ∧ (¬ nN (mt w x y) < nN x → False))) ∧ (nN m = 0 → ((nN (mt w x y) < nN x → False) ∧ (¬ nN (mt w x y) < nN x → K))) := by
  have h1 := hp.1
  have h2 := hp.zero
  have h3 := mt_le (w := w) (b := y) hx
  rw [z0, n_eq (by omega) (by omega), n_lt (by omega) (by omega)]
  refine ⟨fun c => ⟨fun _ => h, fun c2 => c (h2.mpr (by omega))⟩, fun c => ⟨fun c2 => ?_, fun _ => h⟩⟩
  have := h2.mp c
  omega
theorem m9 {x : Nat} (hx : x ≤ 2147483647) : ¬ nN x = (-9 : Int32) := by
  rw [show (-9 : Int32) = iI (-9) from rfl, i_eq (by omega) (by omega) (by omega) (by omega)]; omega
theorem j925 {n w m : Nat} {F G P : Nat → Nat} {rr ll : Int32} {K : Prop} (hd : DR n w m F G P rr ll) (h : K) : (¬ rr = (-9 : Int32) → ((¬ ll = (-9 : Int32) → K) ∧ (ll = (-9 : Int32) → False))) ∧ (rr = (-9 : Int32) → ((¬ ll = (-9 : Int32) → False) ∧ (ll = (-9 : Int32) → K))) := by
  rcases hd.law with ⟨rfl, rfl⟩ | ⟨d, e, h1, h2, rfl, rfl, h3⟩
  · exact ⟨fun c => absurd rfl c, fun _ => ⟨fun c => c rfl, fun _ => h⟩⟩
  · exact ⟨fun _ => ⟨fun _ => h, fun c => m9 (by omega) c⟩, fun c => absurd c (m9 (by omega))⟩
theorem j973 {n w m : Nat} {F G P : Nat → Nat} {rr ll : Int32} {K : Prop} (hm : m ≤ 16) (hd : DR n w m F G P rr ll) (h : K) : (0 < nN m → K) ∧ (¬ 0 < nN m → ((¬ rr = (1 : Int32) → False) ∧ (rr = (1 : Int32) → ((¬ ll = 0 → False) ∧ (ll = 0 → K))))) := by
  rw [z0, n_lt (by omega) (by omega)]
  refine ⟨fun _ => h, fun c => ?_⟩
  have e : m = 0 := by omega
  subst e
  obtain ⟨rfl, rfl⟩ := hd.none
  exact ⟨fun c => c rfl, fun _ => ⟨fun c => c rfl, fun _ => h⟩⟩
theorem bst_nat (w q : Nat) (F G P : Nat → Nat) (p : Nat) : 0 ≤ (bst w q F G P p).1 := by rw [(bst_in w q F G P p).2]; omega
theorem j1011 {w m a : Nat} {F G P : Nat → Nat} {K : Prop} (hb : (bst w m F G P a).1 ≤ 99999) (h : K) : (iI (bst w m F G P a).1 < nN (itD w m F G 1 P a) → False) ∧ (¬ iI (bst w m F G P a).1 < nN (itD w m F G 1 P a) → K) := by
  have h1 := bst_day w m F G P a
  have h2 := bst_nat w m F G P a
  have e : itD w m F G 1 P a = dayN w F G m P a := rfl
  rw [e, i_lt (by omega) (by omega) (by omega) (by omega)]
  exact ⟨fun c => by omega, fun _ => h⟩
theorem j1029 {w m a : Nat} {F G P : Nat → Nat} {K : Prop} (hm : m ≤ 16) (h : K) : (0 < nN m → K) ∧ (¬ 0 < nN m → ((¬ iI (bst w m F G P a).1 = nN (P a) → False) ∧ (iI (bst w m F G P a).1 = nN (P a) → K))) := by
  rw [z0, n_lt (by omega) (by omega)]
  refine ⟨fun _ => h, fun c => ?_⟩
  have e : m = 0 := by omega
  subst e
  rw [bst_none]
  exact ⟨fun c => c rfl, fun _ => h⟩
theorem bst_row (w q : Nat) (F G P : Nat → Nat) (p : Nat) : (bst w q F G P p).2.Nodup ∧ (∀ x, x ∈ (bst w q F G P p).2 → x < q) ∧ (bst w q F G P p).2.length = q := by
  have h := (bst_in w q F G P p).1
  exact ⟨(lay_nodup q _ _ _ h).1, (lay_mem q _ _ _ h).2, (lay_mem q _ _ _ h).1⟩
/-- one more of a row of unlike ones, as a bit -/
theorem j_bit {o u : List Nat} {i k x : Nat} (ho : o.Nodup) (hi : i < o.length) (hx : x = o.getD i 0) (hx8 : x < 8) (hu : x ∉ u) (hb : BS k (met o u i)) : ((nN k >>> (nN x &&& 31)) &&& (1 : Int32)) = 0 ∧ nN k ||| ((1 : Int32) <<< (nN x &&& 31)) = nN (k ||| 2 ^ x) ∧ BS (k ||| 2 ^ x) (met o u (i + 1)) := by
  have hn : x ∉ met o u i := by
    intro hm
    rcases met_mem i hm with h | ⟨j, h1, h2⟩
    · exact hu h
    · exact nodup_at ho h1 hi (by rw [h2, hx])
  have h1 := (BS_at hb hx8).2.mpr hn
  have h2 := BS_add hb hx8
  refine ⟨h1, h2.1, ?_⟩
  have : met o u (i + 1) = x :: met o u i := by rw [hx]; rfl
  rw [this]
  exact h2.2
theorem ru9 {z : Option (List Nat)} {n w g : Nat} {P : Nat → Nat} {i : Nat} (hn : n ≤ 8) (h : RU n w g P i z) : (z = none ∧ ruinV z = -9) ∨ ∃ o, z = some o ∧ ruinV z = nN o.length ∧ o.length < n := by
  match z, h with
  | none, h => exact Or.inl ⟨rfl, rfl⟩
  | some o, h => exact Or.inr ⟨o, rfl, rfl, h.1⟩
theorem j1208 {z : Option (List Nat)} {n w g : Nat} {P : Nat → Nat} {i : Nat} {K : Prop} (hn : n ≤ 8) (hr : RU n w g P i z) (h : K) : (ruinV z = (-9 : Int32) → K) ∧ (¬ ruinV z = (-9 : Int32) → ((ruinV z < 0 → False) ∧ (¬ ruinV z < 0 → ((nN n ≤ ruinV z → False) ∧ (¬ nN n ≤ ruinV z → K))))) := by
  rcases ru9 hn hr with ⟨h1, h2⟩ | ⟨o, h1, h2, h3⟩
  · rw [h2]
    exact ⟨fun _ => h, fun c => absurd rfl c⟩
  · rw [h2, show (nN o.length < 0) = (nN o.length < nN 0) from rfl, n_lt (by omega) (by omega), n_le (by omega) (by omega)]
    exact ⟨fun _ => h, fun _ => ⟨fun c => by omega, fun _ => ⟨fun c => by omega, fun _ => h⟩⟩⟩
theorem j1233 {z : Option (List Nat)} {n w g : Nat} {P : Nat → Nat} {i : Nat} {K : Prop} (hn : n ≤ 8) (hn0 : 0 < n) (hg : g ≤ 99999) (hp : P i ≤ 99999) (hr : RU n w g P i z) (h : K) : (¬ ruinV z = 0 → ((nN g < nN (P i) → K) ∧ (¬ nN g < nN (P i) → False))) ∧ (ruinV z = 0 → ((nN g < nN (P i) → False) ∧ (¬ nN g < nN (P i) → K))) := by
  have hz := hr.zero hn0
  rw [n_lt (by omega) (by omega)]
  rcases ru9 hn hr with ⟨h1, h2⟩ | ⟨o, h1, h2, h3⟩
  · rw [h2]
    refine ⟨fun _ => ⟨fun _ => h, fun c => ?_⟩, fun c => absurd c (by decide)⟩
    have := hz.mp (by omega)
    rw [h1] at this
    exact absurd this (by simp)
  · rw [h2, z0, n_eq (by omega) (by omega)]
    refine ⟨fun c => ⟨fun _ => h, fun c2 => ?_⟩, fun c => ⟨fun c2 => ?_, fun _ => h⟩⟩
    · have := hz.mp (by omega)
      rw [h1] at this
      have e := Option.some.inj this
      rw [e] at c
      exact c rfl
    · have e : o = [] := List.length_eq_zero_iff.mp c
      have := hz.mpr (by rw [h1, e])
      omega
theorem j1249 {z : Option (List Nat)} {n w g : Nat} {P : Nat → Nat} {i : Nat} {K : Int32 → Prop} (hn : n ≤ 8) (hr : RU n w g P i z) (h : ∀ s : Nat, s ≤ 8 → ruinAtV z s = -9 → K (nN s)) : (0 ≤ ruinV z → K (ruinV z)) ∧ (¬ 0 ≤ ruinV z → K 0) := by
  rcases ru9 hn hr with ⟨h1, h2⟩ | ⟨o, h1, h2, h3⟩
  · subst h1
    exact ⟨fun c => absurd c (by rw [h2]; decide), fun _ => h 0 (by omega) rfl⟩
  · rw [h2]
    refine ⟨fun _ => h o.length (by omega) ?_, fun c => absurd (by rw [z0, n_le (by omega) (by omega)]; omega) c⟩
    rw [h1]
    show (if o.length < o.length then nN (o.getD o.length 0) else -9) = -9
    rw [if_neg (by omega)]
theorem j1262 {z : Option (List Nat)} {n w : Nat} {P : Nat → Nat} {i : Nat} {K : Prop} (hn0 : 0 < n) (hr : RU n w (P i) P i z) (h : K) : (¬ ruinV z = 0 → False) ∧ (ruinV z = 0 → K) := by
  have hz := (hr.zero hn0).mp (Nat.le_refl _)
  subst hz
  exact ⟨fun c => c rfl, fun _ => h⟩
theorem j1496 {q N : Nat} {U V : Nat → Nat} {K : Prop} (hq : q ≤ 8) (hN : N ≤ 99999) (h : K) : (0 < nN q → K) ∧ (¬ 0 < nN q → ((¬ nN (tot (fb q U V) (N + 1)) = (nN N + (1 : Int32)) → False) ∧ (nN (tot (fb q U V) (N + 1)) = (nN N + (1 : Int32)) → K))) := by
  rw [z0, n_lt (by omega) (by omega)]
  refine ⟨fun _ => h, fun c => ?_⟩
  have e : q = 0 := by omega
  subst e
  rw [tot_free]
  exact ⟨fun c => c (n_add N 1).symm, fun _ => h⟩
theorem j1517 {f : Nat → Bool} {N : Nat} {K : Prop} (hN : N ≤ 99999) (h : K) : (nN (tot f (N + 1 + 1)) < nN (tot f (N + 1)) → False) ∧ (¬ nN (tot f (N + 1 + 1)) < nN (tot f (N + 1)) → K) := by
  have h1 := tot_le f (N + 1 + 1)
  have h2 := tot_le f (N + 1)
  have h3 := (tot_grow f (N + 1) 1).1
  rw [n_lt (by omega) (by omega)]
  exact ⟨fun c => by omega, fun _ => h⟩
theorem j_charm {v m : Nat} {K : Prop} (hv : v ≤ 99999) (hc : CH v m) (h : K) : (nN m < 0 → False) ∧ (¬ nN m < 0 → (((nN v + nN m) ≤ (1 : Int32) → False) ∧ (¬ (nN v + nN m) ≤ (1 : Int32) → K))) := by
  have h1 := hc.1
  have h2 := hc.law.1
  rw [z0, n_lt (by omega) (by omega), n_add, show (1 : Int32) = nN 1 from rfl, n_le (by omega) (by omega)]
  exact ⟨fun c => by omega, fun _ => ⟨fun c => by omega, fun _ => h⟩⟩
theorem j_ch2 {v m : Nat} {K : Prop} (hv : v ≤ 99999) (hc : CH v m) (h : K) : (((nN v + nN m) - (nN v + nN m) / (2 : Int32) * (2 : Int32)) = (1 : Int32) → K) ∧ (¬ ((nN v + nN m) - (nN v + nN m) / (2 : Int32) * (2 : Int32)) = (1 : Int32) → ((¬ (nN v + nN m) = (2 : Int32) → False) ∧ ((nN v + nN m) = (2 : Int32) → K))) := by
  have h1 := hc.1
  have h2 := hc.law.2.1
  rw [n_add, show (2 : Int32) = nN 2 from rfl, n_rem (by omega) (by omega) (by omega), show (1 : Int32) = nN 1 from rfl, n_eq (by omega) (by omega), n_eq (by omega) (by omega)]
  exact ⟨fun _ => h, fun c => ⟨fun c2 => by omega, fun _ => h⟩⟩
theorem j_ch3 {v m : Nat} {K : Prop} (hv : v ≤ 99999) (hc : CH v m) (h : K) : (0 < ((nN v + nN m) - (nN v + nN m) / (3 : Int32) * (3 : Int32)) → K) ∧ (¬ 0 < ((nN v + nN m) - (nN v + nN m) / (3 : Int32) * (3 : Int32)) → ((¬ (nN v + nN m) = (3 : Int32) → False) ∧ ((nN v + nN m) = (3 : Int32) → K))) := by
  have h1 := hc.1
  have h2 := hc.law.2.2
  rw [n_add, show (3 : Int32) = nN 3 from rfl, n_rem (by omega) (by omega) (by omega), z0, n_lt (by omega) (by omega), n_eq (by omega) (by omega)]
  exact ⟨fun _ => h, fun c => ⟨fun c2 => by omega, fun _ => h⟩⟩
/-! calls whose numbers are reckoned -/
theorem sv_after1 {n w i j : Nat} {P : Nat → Nat} {a : Nat → Int32} {v1 v2 v3 v4 : Int32} {A : Nat → Int32} {Post : Int32 → Int32 → Int32 → Int32 → Int32 → (Nat → Int32) → Prop} (hn : n ≤ 8) (hw : w ≤ 3) (hi : i < n) (hj : j < n) (hij : i ≠ j) (hP : ∀ t, t < n → P t ≤ 99999) (ha : ∀ t, t < n → a t = nN (P t)) (h : ∀ u1 u2 u3 u4 B, Post (nN (mt w (P i) (P j))) u1 u2 u3 u4 B) : wp_X8_after (nN i) (nN j) 1 (nN n) (nN w) a v1 v2 v3 v4 A Post :=
  sv_after (m := 1) hn hw hi hj hij (by omega) hP ha h
theorem sv_after0 {n w i j : Nat} {P : Nat → Nat} {a : Nat → Int32} {v1 v2 v3 v4 : Int32} {A : Nat → Int32} {Post : Int32 → Int32 → Int32 → Int32 → Int32 → (Nat → Int32) → Prop} (hn : n ≤ 8) (hw : w ≤ 3) (hi : i < n) (hj : j < n) (hij : i ≠ j) (hP : ∀ t, t < n → P t ≤ 99999) (ha : ∀ t, t < n → a t = nN (P t)) (h : ∀ u1 u2 u3 u4 B, Post (nN (P i)) u1 u2 u3 u4 B) : wp_X8_after (nN i) (nN j) 0 (nN n) (nN w) a v1 v2 v3 v4 A Post :=
  sv_after (m := 0) hn hw hi hj hij (by omega) hP ha h
theorem sv_afterE {n w i j m : Nat} {x : Int32} {P : Nat → Nat} {a : Nat → Int32} {v1 v2 v3 v4 : Int32} {A : Nat → Int32} {Post : Int32 → Int32 → Int32 → Int32 → Int32 → (Nat → Int32) → Prop} (hx : x = nN m) (hn : n ≤ 8) (hw : w ≤ 3) (hi : i < n) (hj : j < n) (hij : i ≠ j) (hm : m ≤ 999999999) (hP : ∀ t, t < n → P t ≤ 99999) (ha : ∀ t, t < n → a t = nN (P t)) (h : ∀ u1 u2 u3 u4 B, Post (nN (it w (P i) (P j) m).1) u1 u2 u3 u4 B) : wp_X8_after (nN i) (nN j) x (nN n) (nN w) a v1 v2 v3 v4 A Post := by
  rw [hx]
  exact sv_after hn hw hi hj hij hm hP ha h
theorem sv_laterE {n w q i d : Nat} {x : Int32} {F G P : Nat → Nat} {fa sa a la : Nat → Int32} {Post : Int32 → (Nat → Int32) → Prop} (hx : x = nN d) (hn : n ≤ 8) (hw : w ≤ 3) (hi : i < n) (hd3 : d ≤ 300) (hd : DayC n q F G fa sa) (hP : ∀ t, t < n → P t ≤ 99999) (ha : ∀ t, t < n → a t = nN (P t)) (h : ∀ l, Post (nN (itD w q F G d P i)) l) : wp_X8_later (nN i) x (nN q) fa sa (nN n) (nN w) a la Post := by
  rw [hx]
  exact sv_later hn hw hi hd3 hd hP ha h
theorem back_mv {n w k i j : Nat} {P A B C D : Nat → Nat} (hi : i < n) (hj : j < n) : ∀ t, (if t = setN B k j (k + 1 - 1) then setN D k (P j) (k + 1 - 1) else if t = setN A k i (k + 1 - 1) then setN C k (P i) (k + 1 - 1) else mv w P i j t) = P t := by
  intro t
  have e : ∀ (A : Nat → Nat) (x : Nat), setN A k x (k + 1 - 1) = x := fun A x => by unfold setN; rw [if_pos (by omega)]
  rw [e, e, e, e]
  unfold mv
  by_cases h1 : t = j
  · rw [if_pos h1, h1]
  · rw [if_neg h1]
    by_cases h2 : t = i
    · rw [if_pos h2, h2]
    · rw [if_neg h2, if_neg h1, if_neg h2]
theorem mv_i {w i j : Nat} {P : Nat → Nat} (h : i ≠ j) : mv w P i j i = mt w (P i) (P j) := by unfold mv; rw [if_neg h, if_pos rfl]
theorem mv_j {w i j : Nat} {P : Nat → Nat} : mv w P i j j = mt w (P j) (P i) := by unfold mv; rw [if_pos rfl]
theorem RowC.keep {n k : Nat} {x1 x2 x3 x4 : Int32} {A B C D : Nat → Nat} {fa sa ha ga : Nat → Int32} (h : RowC n k A B C D fa sa ha ga) : RowC n k A B C D (upd fa k x1) (upd sa k x2) (upd ha k x3) (upd ga k x4) := by
  refine ⟨h.1, h.2.1, fun j hj => ?_⟩
  have e : ∀ (a : Nat → Int32) (x : Int32), upd a k x j = a j := fun a x => by unfold upd; rw [if_neg (by omega)]
  rw [e, e, e, e]
  exact h.2.2 j hj
