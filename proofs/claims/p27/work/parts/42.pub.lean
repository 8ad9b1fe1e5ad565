/-! TESTSLOTS: what happens -/
theorem hasN {X a : Nat} (hX : X ≤ 12) (ha : a < 2 ^ 31) : ((¬ nI a < 0) ∧ (¬ nI X ≤ nI a)) ↔ a < X := by
  rw [nI_leI (by omega) ha]
  exact ⟨fun z => by omega, fun z => ⟨nI_pos ha, by omega⟩⟩
theorem hasX {X : Nat} (hX : X ≤ 12) (x : Int32) : ((¬ x < 0) ∧ (¬ nI X ≤ x)) ↔ ∃ p, p < X ∧ x = nI p := by
  constructor
  · rintro ⟨h1, h2⟩
    rcases pk_ix x (n := X) (by omega) with z | z | ⟨j, hj, e⟩
    · exact absurd z h1
    · exact absurd z h2
    · exact ⟨j, hj, e⟩
  · rintro ⟨p, hp, rfl⟩
    exact (hasN hX (by omega)).mpr hp
theorem cDay_ge {o : Option Nat} (h : ∀ i, o = some i → i < 160) : ¬ cDay o < -1 := by
  cases o with
  | none => decide
  | some i =>
    have hi := h i rfl
    intro z
    have z' := Int32.lt_iff_toInt_lt.mp z
    rw [show cDay (some i) = nI (i / 16) from rfl, nI_toInt (by omega), show (-1 : Int32).toInt = -1 by decide] at z'
    omega
def oAns (E P : Nat) (τ : Nat → Nat → Nat → Int32) (o : Nat × Nat × Nat) : Int32 :=
  if o.1 = 0 then cDay (cCell (oDo E P τ o) (nI o.2.1)) else
  if o.1 = 1 then cBack τ o.2.1 else
  if o.1 = 2 ∨ o.1 = 3 then (match cCell τ (nI o.2.1) with | none => -1 | some i => nI (cRt τ o.2.1 i)) else
  if o.1 = 4 then nI (cMoved P τ o.2.1 o.2.2) else nI (cAway P τ)
section O8
variable {g : GG} {d : Nat} {c n : Nat} {m : PM} {Q : Ou → PM → Nat → Nat → Prop} {r K E P S L : Nat}
theorem od_ask {p : Nat} (hV : Vv K E P (m.1 r)) (hK : K + 3 < 2 ^ 31) (ho : oOk E P (m.1 r) (0, p, 0) = true) (h : ∀ τ', Ap τ' (oDo E P (m.1 r) (0, p, 0)) → Q (.inl (some (pI (oAns E P (m.1 r) (0, p, 0))))) (rset m r τ') c n) : Wq g (d + 3) MX1_letAsk c n 0 [some (pO 0 r 0), some (pI (nI p))] [] m Q := by
  have ho' : p < P ∧ m.1 r 4 p 0 = 0 := by simpa [oOk] using ho
  refine co_letAsk hV.1 (by omega) ho'.1 ho'.2 fun τ' a => ?_
  have := h τ' (by simpa [oDo] using a)
  have e : oAns E P (m.1 r) (0, p, 0) = cDay (cCell τ' (nI p)) := by
    simp only [oAns, oDo, if_pos]
    rw [cCell_ap a]
  rw [e] at this
  exact this
theorem od_quit {p : Nat} (hV : Vv K E P (m.1 r)) (ho : oOk E P (m.1 r) (1, p, 0) = true) (h : ∀ τ', Ap τ' (oDo E P (m.1 r) (1, p, 0)) → Q (.inl (some (pI (oAns E P (m.1 r) (1, p, 0))))) (rset m r τ') c n) : Wq g (d + 3) MX1_letQuit c n 0 [some (pO 0 r 0), some (pI (nI p))] [] m Q := by
  have ho' : p < P ∧ (m.1 r 4 p 0 = 1 ∨ m.1 r 4 p 0 = 2) := by simpa [oOk] using ho
  refine co_letQuit hV.1 ho'.1 fun τ' a => ?_
  have := h τ' (by simpa [oDo] using a)
  simpa [oAns] using this
theorem od_cancel {e D : Nat} (hV : Vv K E P (m.1 r)) (hK : K + 3 < 2 ^ 31) (ho : oOk E P (m.1 r) (4, e, D) = true) (hD : D < 10) (h : ∀ τ', Ap τ' (oDo E P (m.1 r) (4, e, D)) → Q (.inl (some (pI (oAns E P (m.1 r) (4, e, D))))) (rset m r τ') c n) : Wq g (d + 3) MX1_cancelMorning c n 0 [some (pO 0 r 0), some (pI (nI e)), some (pI (nI D))] [] m Q := by
  have ho' : e < E := by simpa [oOk] using ho
  refine co_cancelMorning hV.1 hK ho' hD fun τ' a => ?_
  have := h τ' (by simpa [oDo] using a)
  simpa [oAns] using this
theorem od_next {a b : Nat} (hV : Vv K E P (m.1 r)) (ho : oOk E P (m.1 r) (5, a, b) = true) (h : ∀ τ', Ap τ' (oDo E P (m.1 r) (5, a, b)) → Q (.inl (some (pI (oAns E P (m.1 r) (5, a, b))))) (rset m r τ') c n) : Wq g (d + 3) MX1_goOn c n 0 [some (pO 0 r 0)] [] m Q := by
  have ho' : ¬ 9999 ≤ m.1 r 0 0 0 := by
    have eo : oOk E P (m.1 r) (5, a, b) = decide (¬ 9999 ≤ m.1 r 0 0 0) := by simp [oOk]
    rw [eo, decide_eq_true_eq] at ho
    exact ho
  refine co_goOn hV.1 ?_ fun τ' a => ?_
  · obtain ⟨D, hD, hD2⟩ := hV.1.day
    rw [hD, show (9999 : Int32) = nI 9999 from rfl, nI_leI (by decide) (by omega)] at ho'
    exact ⟨D, hD, by omega⟩
  · have := h τ' (by simpa [oDo] using a)
    simpa [oAns] using this
theorem od_test {p k : Nat} {x : Int32} (hV : Vv K E P (m.1 r)) (hk : (k = 3 ∧ x = 0) ∨ (k = 2 ∧ ¬ x = 0)) (ho : oOk E P (m.1 r) (k, p, 0) = true) (h : ∀ τ', Ap τ' (oDo E P (m.1 r) (k, p, 0)) → Q (.inl (some (pI (oAns E P (m.1 r) (k, p, 0))))) (rset m r τ') c n) : Wq g (d + 2) MX1_holdTest c n 0 [some (pO 0 r 0), some (pI (nI p)), some (pI x)] [] m Q := by
  rcases hk with ⟨rfl, hx⟩ | ⟨rfl, hx⟩
  · have ho' : p < P ∧ cDay (cCell (m.1 r) (nI p)) = 0 := by simpa [oOk] using ho
    obtain ⟨i, ei, _⟩ := cDay_0 ho'.2
    have := h (fTestF (m.1 r) p i) (by simp only [oDo, ei]; simp; exact Ap_rfl)
    simp [oAns, ei] at this
    exact co_holdTest hV.1 ho'.1 ei (fun _ => this) (fun z => absurd hx z)
  · have ho' : p < P ∧ cDay (cCell (m.1 r) (nI p)) = 0 := by simpa [oOk] using ho
    obtain ⟨i, ei, _⟩ := cDay_0 ho'.2
    have := h (fTestP (m.1 r) p i) (by simp only [oDo, ei]; simp; exact Ap_rfl)
    simp [oAns, ei] at this
    exact co_holdTest hV.1 ho'.1 ei (fun z => absurd z hx) (fun _ => this)
theorem oAns_nn {τ : Nat → Nat → Nat → Int32} {o : Nat × Nat × Nat} (hV : Vv K E P τ) (ho : oOk E P τ o = true) (h0 : o.1 ≠ 0) : ¬ oAns E P τ o < 0 := by
  have hP := hV.1.P12
  unfold oOk at ho
  rw [if_neg h0] at ho
  unfold oAns
  rw [if_neg h0]
  by_cases k1 : o.1 = 1
  · rw [if_pos k1] at ho ⊢
    rw [decide_eq_true_eq] at ho
    have hb := hV.2.2.1 o.2.1 ho.1
    unfold cBack
    split
    · exact hb
    · split
      · exact hb
      · decide
  · rw [if_neg k1] at ho ⊢
    by_cases k2 : o.1 = 2 ∨ o.1 = 3
    · rw [if_pos k2] at ho ⊢
      rw [decide_eq_true_eq] at ho
      obtain ⟨i, ei, _⟩ := cDay_0 ho.2
      rw [ei]
      exact nI_pos (by have := cRt_lt (τ := τ) (p := o.2.1) (i := i); omega)
    · rw [if_neg k2]
      split
      · refine nI_pos ?_
        unfold cMoved
        split <;> split <;> decide
      · refine nI_pos ?_
        unfold cAway
        exact Nat.lt_of_le_of_lt (cN_le _ _) (by decide)
end O8
