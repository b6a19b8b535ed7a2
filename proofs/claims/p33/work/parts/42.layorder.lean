theorem lay_head {m l c : Nat} {u r : List Nat} (hl : l + 1 ≤ (fr 0 m u).length) (h : (lay m (l + 1) u)[c]? = some r) : ∃ x r', (fr 0 m u)[c / pw ((fr 0 m u).length - 1) l]? = some x ∧ (lay m l (x :: u))[c % pw ((fr 0 m u).length - 1) l]? = some r' ∧ r = x :: r' ∧ x < m ∧ x ∉ u ∧ (fr 0 m (x :: u)).length = (fr 0 m u).length - 1 := by
  unfold lay at h
  obtain ⟨x, h1, h2⟩ := flat_get (s := pw ((fr 0 m u).length - 1) l) (pw_pos _ _ (by omega)) _ _ (fun x hx => by
    rw [List.length_map, lay_len]
    rw [fr_mem] at hx
    have := fr_len m 0 u x (by omega) hx.2.1 hx.2.2
    rw [← this]; rfl) h
  rw [List.getElem?_map, Option.map_eq_some_iff] at h2
  obtain ⟨r', h3, h4⟩ := h2
  have hx := (fr_mem _ _ _ _).mp (List.mem_of_getElem? h1)
  have := fr_len m 0 u x (by omega) hx.2.1 hx.2.2
  exact ⟨x, r', h1, h3, h4.symm, by omega, hx.2.2, by omega⟩
