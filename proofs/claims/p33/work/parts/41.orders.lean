/-! rows of unlike items, in their order -/
def fr : Nat → Nat → List Nat → List Nat
  | _, 0, _ => []
  | a, k + 1, u => if a ∈ u then fr (a + 1) k u else a :: fr (a + 1) k u
def lay (m : Nat) : Nat → List Nat → List (List Nat)
  | 0, _ => [[]]
  | l + 1, u => (fr 0 m u).flatMap (fun x => (lay m l (x :: u)).map (x :: ·))
def pw : Nat → Nat → Nat
  | _, 0 => 1
  | c, l + 1 => c * pw (c - 1) l
theorem fr_mem : ∀ (k a : Nat) (u : List Nat) (x : Nat), x ∈ fr a k u ↔ a ≤ x ∧ x < a + k ∧ x ∉ u
  | 0, a, u, x => by simp only [fr, List.not_mem_nil, false_iff]; omega
  | k + 1, a, u, x => by
    unfold fr
    by_cases h : a ∈ u
    · rw [if_pos h, fr_mem k]
      constructor
      · rintro ⟨h1, h2, h3⟩; exact ⟨by omega, by omega, h3⟩
      · rintro ⟨h1, h2, h3⟩
        have : x ≠ a := fun e => h3 (e ▸ h)
        exact ⟨by omega, by omega, h3⟩
    · rw [if_neg h, List.mem_cons, fr_mem k]
      constructor
      · rintro (rfl | ⟨h1, h2, h3⟩)
        · exact ⟨by omega, by omega, h⟩
        · exact ⟨by omega, by omega, h3⟩
      · rintro ⟨h1, h2, h3⟩
        by_cases e : x = a
        · exact Or.inl e
        · exact Or.inr ⟨by omega, by omega, h3⟩
theorem fr_out : ∀ (k a : Nat) (u : List Nat) (x : Nat), x < a → fr a k (x :: u) = fr a k u
  | 0, _, _, _, _ => rfl
  | k + 1, a, u, x, h => by
    unfold fr
    rw [fr_out k (a + 1) u x (by omega)]
    have : (a ∈ x :: u) ↔ a ∈ u := by
      rw [List.mem_cons]
      exact ⟨fun z => z.elim (fun e => by omega) id, Or.inr⟩
    simp only [this]
theorem fr_len : ∀ (k a : Nat) (u : List Nat) (x : Nat), a ≤ x → x < a + k → x ∉ u → (fr a k (x :: u)).length + 1 = (fr a k u).length
  | 0, _, _, _, h1, h2, _ => by omega
  | k + 1, a, u, x, h1, h2, h3 => by
    unfold fr
    by_cases e : x = a
    · subst e
      rw [if_pos (List.mem_cons_self), if_neg h3, fr_out k (x + 1) u x (by omega)]
      rfl
    · have : (a ∈ x :: u) ↔ a ∈ u := by
        rw [List.mem_cons]
        exact ⟨fun z => z.elim (fun e => by omega) id, Or.inr⟩
      by_cases h : a ∈ u
      · rw [if_pos h, if_pos (this.mpr h)]
        exact fr_len k (a + 1) u x (by omega) (by omega) h3
      · rw [if_neg h, if_neg (fun z => h (this.mp z)), List.length_cons, List.length_cons, fr_len k (a + 1) u x (by omega) (by omega) h3]
theorem fr_full : ∀ (k a : Nat), (fr a k []).length = k
  | 0, _ => rfl
  | k + 1, a => by unfold fr; rw [if_neg List.not_mem_nil, List.length_cons, fr_full k]
theorem flat_len {f : Nat → List (List Nat)} {s : Nat} : ∀ xs : List Nat, (∀ x, x ∈ xs → (f x).length = s) → (xs.flatMap f).length = xs.length * s
  | [], _ => by simp
  | x :: xs, h => by
    rw [List.flatMap_cons, List.length_append, h x List.mem_cons_self, flat_len xs (fun y hy => h y (List.mem_cons_of_mem _ hy)), List.length_cons, Nat.succ_mul]
    omega
theorem flat_get {f : Nat → List (List Nat)} {s : Nat} (hs : 0 < s) {o : List Nat} : ∀ (xs : List Nat) (c : Nat), (∀ x, x ∈ xs → (f x).length = s) → (xs.flatMap f)[c]? = some o → ∃ x, xs[c / s]? = some x ∧ (f x)[c % s]? = some o
  | [], c, _, h => by simp at h
  | x :: xs, c, hf, h => by
    have hx := hf x List.mem_cons_self
    rw [List.flatMap_cons] at h
    rcases Nat.lt_or_ge c s with z | z
    · rw [List.getElem?_append_left (by omega)] at h
      rw [Nat.div_eq_of_lt z, Nat.mod_eq_of_lt z]
      exact ⟨x, rfl, h⟩
    · rw [List.getElem?_append_right (by omega), hx] at h
      obtain ⟨y, h1, h2⟩ := flat_get hs xs (c - s) (fun y hy => hf y (List.mem_cons_of_mem _ hy)) h
      refine ⟨y, ?_, ?_⟩
      · rw [Nat.div_eq_sub_div hs z, List.getElem?_cons_succ]; exact h1
      · rw [Nat.mod_eq_sub_mod z]; exact h2
theorem lay_len (m : Nat) : ∀ (l : Nat) (u : List Nat), (lay m l u).length = pw (fr 0 m u).length l
  | 0, _ => rfl
  | l + 1, u => by
    unfold lay pw
    refine flat_len _ (fun x hx => ?_)
    rw [List.length_map, lay_len m l]
    rw [fr_mem] at hx
    have := fr_len m 0 u x (by omega) hx.2.1 hx.2.2
    rw [← this]; rfl
theorem lay_mem (m : Nat) : ∀ (l : Nat) (u o : List Nat), o ∈ lay m l u → o.length = l ∧ ∀ x, x ∈ o → x < m
  | 0, u, o, h => by
    unfold lay at h
    rw [List.mem_singleton] at h
    subst h
    exact ⟨rfl, fun x hx => absurd hx List.not_mem_nil⟩
  | l + 1, u, o, h => by
    unfold lay at h
    rw [List.mem_flatMap] at h
    obtain ⟨x, hx, h⟩ := h
    rw [List.mem_map] at h
    obtain ⟨r, hr, rfl⟩ := h
    obtain ⟨h1, h2⟩ := lay_mem m l _ r hr
    rw [fr_mem] at hx
    refine ⟨by rw [List.length_cons, h1], fun y hy => ?_⟩
    rw [List.mem_cons] at hy
    rcases hy with rfl | hy
    · omega
    · exact h2 y hy
theorem pw_succ : ∀ (i m : Nat), pw m (i + 1) = pw m i * (m - i)
  | 0, m => by simp [pw]
  | i + 1, m => by
    show m * pw (m - 1) (i + 1) = (m * pw (m - 1) i) * (m - (i + 1))
    rw [pw_succ i (m - 1), Nat.mul_assoc, show m - 1 - i = m - (i + 1) by omega]
theorem pw_pos : ∀ (l m : Nat), l ≤ m → 0 < pw m l
  | 0, _, _ => Nat.one_pos
  | l + 1, m, h => Nat.mul_pos (by omega) (pw_pos l (m - 1) (by omega))
theorem pw_le {m l : Nat} (hm : m ≤ 8) (hl : l ≤ 8) : pw m l ≤ 40320 := by
  have : ∀ m : Nat, m < 9 → ∀ l : Nat, l < 9 → pw m l ≤ 40320 := by decide
  exact this m (by omega) l (by omega)
/-- a set of items below 8, as bits -/
def BS (k : Nat) (u : List Nat) : Prop := k < 256 ∧ ∀ x, x < 8 → (Nat.testBit k x = true ↔ x ∈ u)
theorem bit_at : ∀ k : Nat, k < 256 → ∀ x : Nat, x < 8 → ((nN k >>> (nN x &&& 31)) &&& (1 : Int32)) = (if Nat.testBit k x then 1 else 0) := by decide +kernel
theorem bit_or : ∀ k : Nat, k < 256 → ∀ x : Nat, x < 8 → nN k ||| ((1 : Int32) <<< (nN x &&& 31)) = nN (k ||| 2 ^ x) := by decide +kernel
theorem bit_or_lt : ∀ k : Nat, k < 256 → ∀ x : Nat, x < 8 → k ||| 2 ^ x < 256 := by decide +kernel
theorem BS_at {k x : Nat} {u : List Nat} (h : BS k u) (hx : x < 8) : (((nN k >>> (nN x &&& 31)) &&& (1 : Int32)) = 1 ↔ x ∈ u) ∧ (((nN k >>> (nN x &&& 31)) &&& (1 : Int32)) = 0 ↔ x ∉ u) := by
  rw [bit_at k h.1 x hx, ← h.2 x hx]
  by_cases c : Nat.testBit k x = true
  · rw [if_pos c]; exact ⟨⟨fun _ => c, fun _ => rfl⟩, ⟨fun z => absurd z (by decide), fun z => absurd c z⟩⟩
  · rw [if_neg c]; exact ⟨⟨fun z => absurd z (by decide), fun z => absurd z c⟩, ⟨fun _ => c, fun _ => rfl⟩⟩
theorem BS_add {k x : Nat} {u : List Nat} (h : BS k u) (hx : x < 8) : nN k ||| ((1 : Int32) <<< (nN x &&& 31)) = nN (k ||| 2 ^ x) ∧ BS (k ||| 2 ^ x) (x :: u) := by
  refine ⟨bit_or k h.1 x hx, bit_or_lt k h.1 x hx, fun y hy => ?_⟩
  rw [Nat.testBit_or, Nat.testBit_two_pow, Bool.or_eq_true, h.2 y hy, List.mem_cons, decide_eq_true_iff]
  exact ⟨fun z => z.elim Or.inr (fun e => Or.inl e.symm), fun z => z.elim (fun e => Or.inr e.symm) Or.inl⟩
theorem BS_nil : BS 0 [] := ⟨by decide, fun x _ => by rw [Nat.zero_testBit]; exact ⟨fun z => absurd z (by decide), fun z => absurd z List.not_mem_nil⟩⟩
