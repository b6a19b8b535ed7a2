/-! RUIN: the reference -/
def shp (p x : Nat) : Nat := if x < p then x else x + 1
theorem shp_inj {p x y : Nat} (h : shp p x = shp p y) : x = y := by
  unfold shp at h
  split at h <;> split at h <;> omega
theorem shp_mem {p x : Nat} {u : List Nat} : shp p x ∈ u.map (shp p) ↔ x ∈ u := by
  rw [List.mem_map]
  exact ⟨fun ⟨y, h1, h2⟩ => shp_inj h2 ▸ h1, fun h => ⟨x, h, rfl⟩⟩
theorem fr_shA {p : Nat} {u : List Nat} : ∀ (k a : Nat), p ≤ a → (fr a k u).map (shp p) = fr (a + 1) k (p :: u.map (shp p))
  | 0, _, _ => rfl
  | k + 1, a, h => by
    have hs : shp p a = a + 1 := by unfold shp; rw [if_neg (by omega)]
    have hm : (a + 1 ∈ p :: u.map (shp p)) ↔ a ∈ u := by
      rw [List.mem_cons, ← hs, shp_mem, hs]
      exact ⟨fun z => z.elim (fun e => by omega) id, Or.inr⟩
    unfold fr
    by_cases c : a ∈ u
    · rw [if_pos c, if_pos (hm.mpr c)]; exact fr_shA k (a + 1) (by omega)
    · rw [if_neg c, if_neg (fun z => c (hm.mp z)), List.map_cons, hs, fr_shA k (a + 1) (by omega)]
theorem fr_shB {p : Nat} {u : List Nat} : ∀ (k a : Nat), a ≤ p → p ≤ a + k → (fr a k u).map (shp p) = fr a (k + 1) (p :: u.map (shp p))
  | 0, a, h1, h2 => by
    have : a = p := by omega
    subst this
    show [] = fr a 1 (a :: u.map (shp a))
    unfold fr
    rw [if_pos List.mem_cons_self]; rfl
  | k + 1, a, h1, h2 => by
    by_cases e : a = p
    · subst e
      rw [fr_shA (k + 1) a (Nat.le_refl a)]
      rw [show fr a (k + 1 + 1) (a :: u.map (shp a)) = fr (a + 1) (k + 1) (a :: u.map (shp a)) from by rw [fr, if_pos List.mem_cons_self]]
    · have hs : shp p a = a := by unfold shp; rw [if_pos (by omega)]
      have hm : (a ∈ p :: u.map (shp p)) ↔ a ∈ u := by
        have := shp_mem (p := p) (x := a) (u := u)
        rw [hs] at this
        rw [List.mem_cons, this]
        exact ⟨fun z => z.elim (fun e => by omega) id, Or.inr⟩
      rw [fr, show fr a (k + 1 + 1) (p :: u.map (shp p)) = if a ∈ p :: u.map (shp p) then fr (a + 1) (k + 1) (p :: u.map (shp p)) else a :: fr (a + 1) (k + 1) (p :: u.map (shp p)) from rfl]
      by_cases c : a ∈ u
      · rw [if_pos c, if_pos (hm.mpr c)]; exact fr_shB k (a + 1) (by omega) (by omega)
      · rw [if_neg c, if_neg (fun z => c (hm.mp z)), List.map_cons, hs, fr_shB k (a + 1) (by omega) (by omega)]
theorem lay_shift {m p : Nat} (hm : m + 1 ≤ 8) (hp : p ≤ m) : ∀ (l : Nat) (u : List Nat), (lay m l u).map (List.map (shp p)) = lay (m + 1) l (p :: u.map (shp p))
  | 0, _ => rfl
  | l + 1, u => by
    unfold lay
    rw [← fr_shB m 0 (by omega) (by omega), List.map_flatMap, List.flatMap_map]
    congr 1
    funext x
    have := lay_shift hm hp l (x :: u)
    rw [lay_congr hm l (shp p x :: p :: u.map (shp p)) (p :: (x :: u).map (shp p)) (fun y _ => by rw [List.map_cons, List.mem_cons, List.mem_cons, List.mem_cons, List.mem_cons]; exact ⟨fun z => z.elim (fun e => Or.inr (Or.inl e)) (fun z => z.elim Or.inl (fun e => Or.inr (Or.inr e))), fun z => z.elim (fun e => Or.inr (Or.inl e)) (fun z => z.elim Or.inl (fun e => Or.inr (Or.inr e)))⟩), ← this, List.map_map, List.map_map]
    rfl
