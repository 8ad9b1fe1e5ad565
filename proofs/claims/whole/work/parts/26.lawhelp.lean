/-! ENDS of a method that may throw -/
def cX (f : Int32 → PM → Prop) (e1 e2 e3 : PM → Prop) : Ou → PM → Prop := fun o m => match o with
  | .inl (some (.inl x)) => f x m
  | .inr E => if E = 1 then e1 m else if E = 2 then e2 m else if E = 3 then e3 m else False
  | _ => False
theorem cX_ok {f : Int32 → PM → Prop} {e1 e2 e3 : PM → Prop} : ∀ o m', cX f e1 e2 e3 o m' → (∃ x, o = .inl (some (pI x))) ∨ ∃ E, o = .inr E
  | .inl (some (.inl x)), _, _ => Or.inl ⟨x, rfl⟩
  | .inr E, _, _ => Or.inr ⟨E, rfl⟩
theorem cX_E {f : Int32 → PM → Prop} {e1 e2 e3 : PM → Prop} {E : Nat} {m : PM} (h : cX f e1 e2 e3 (.inr E) m) : (E = 1 ∧ e1 m) ∨ (E = 2 ∧ e2 m) ∨ (E = 3 ∧ e3 m) := by
  unfold cX at h
  simp only at h
  by_cases h1 : E = 1
  · rw [if_pos h1] at h; exact Or.inl ⟨h1, h⟩
  · rw [if_neg h1] at h
    by_cases h2 : E = 2
    · rw [if_pos h2] at h; exact Or.inr (Or.inl ⟨h2, h⟩)
    · rw [if_neg h2] at h
      by_cases h3 : E = 3
      · rw [if_pos h3] at h; exact Or.inr (Or.inr ⟨h3, h⟩)
      · rw [if_neg h3] at h; exact h.elim
