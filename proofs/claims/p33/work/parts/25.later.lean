/-! DAYS, one behind the other; what a PERSON has then -/
def itD (w q : Nat) (F G : Nat → Nat) : Nat → (Nat → Nat) → (Nat → Nat)
  | 0, P => P
  | d + 1, P => dayN w F G q (itD w q F G d P)
theorem itD_le {w n q : Nat} {F G P : Nat → Nat} (hF : ∀ i, i < q → F i < n ∧ G i < n ∧ F i ≠ G i) (hP : ∀ t, t < n → P t ≤ 99999) : ∀ d, ∀ t, t < n → itD w q F G d P t ≤ 99999
  | 0 => hP
  | d + 1 => dayN_le (itD_le hF hP d) q (fun i hi => ⟨(hF i hi).1, (hF i hi).2.1⟩)
theorem itD_fix {w q : Nat} {F G P : Nat → Nat} {d : Nat} (h : dayN w F G q (itD w q F G d P) = itD w q F G d P) : ∀ k, itD w q F G (d + k) P = itD w q F G d P
  | 0 => rfl
  | k + 1 => by
    show dayN w F G q (itD w q F G (d + k) P) = _
    rw [itD_fix h k]; exact h
theorem cpy_lo {f g : Nat → Int32} {m t : Nat} (h : t < m) : va_cpy f g (Int32.toNatClampNeg (0 : Int32)) (Int32.toNatClampNeg (0 : Int32)) m t = f t := by
  show (if 0 ≤ t ∧ t < 0 + m then f (0 + (t - 0)) else g t) = f t
  rw [if_pos ⟨by omega, by omega⟩]; congr 1; omega
