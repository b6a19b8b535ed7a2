/-! AFTER, RING, LEAD -/
def upto (w a b n L : Nat) : Prop := L ≤ n ∧ (∀ j, j < L → ¬ ringed w (it w a b j)) ∧ (L = n ∨ ringed w (it w a b L))
theorem upto_u {w a b n L L' : Nat} (h : upto w a b n L) (h' : upto w a b n L') : L = L' := by
  obtain ⟨h1, h2, h3⟩ := h
  obtain ⟨h1', h2', h3'⟩ := h'
  rcases Nat.lt_trichotomy L L' with z | z | z
  · rcases h3 with e | e
    · omega
    · exact absurd e (h2' L z)
  · exact z
  · rcases h3' with e | e
    · omega
    · exact absurd e (h2 L' z)
theorem upto_far {w a b n n' L : Nat} (hw : w ≤ 3) (ha : a ≤ 99999) (hb : b ≤ 99999) (hn : 100000 ≤ n) (hn' : 100000 ≤ n') (h : upto w a b n L) : upto w a b n' L ∧ ringed w (it w a b L) := by
  obtain ⟨h1, h2, h3⟩ := h
  have := it_short hw ha hb h2
  have h4 : ringed w (it w a b L) := by
    rcases h3 with e | e
    · omega
    · exact e
  exact ⟨⟨by omega, h2, Or.inr h4⟩, h4⟩
theorem many_one {w a b : Nat} (ha : a ≤ 99999) (hb : b ≤ 99999) : many w a b 1 1 := by
  refine ⟨rfl, fun z => by omega, ?_, fun z => ?_, fun z => ?_⟩
  · rw [Nat.one_mul]; exact pas_small ha hb
  · rw [Nat.one_mul]; exact pas_lose z
  · rw [Nat.one_mul, dist_comm, sh_comm]; exact pas_lose z
def rcode (w : Nat) (s : Nat × Nat) (c : Int32) : Prop := (c = 1 ∧ fixd w s.1 s.2) ∨ (c = 2 ∧ ¬ fixd w s.1 s.2 ∧ flips w s.1 s.2) ∨ (c = 0 ∧ ¬ ringed w s)
