/-! TESTSLOTS: the public methods that change something -/
theorem inX {hi : Nat} (hh : hi < 2 ^ 30) (x : Int32) : ((¬ x < 0) ∧ (¬ nI hi < x)) ↔ ∃ p, p ≤ hi ∧ x = nI p := by
  constructor
  · rintro ⟨h1, h2⟩
    rcases pk_ix x (n := hi + 1) (by omega) with z | z | ⟨j, hj, e⟩
    · exact absurd z h1
    · have z' := Int32.le_iff_toInt_le.mp z
      rw [Int32.lt_iff_toInt_lt] at h2
      rw [nI_toInt (by omega)] at z' h2
      omega
    · exact ⟨j, by omega, e⟩
  · rintro ⟨p, hp, rfl⟩
    exact ⟨nI_pos (by omega), fun z => by rw [nI_ltI (by omega) (by omega)] at z; omega⟩
theorem rset_c {m : PM} {r r' : Nat} {τ σ : Nat → Nat → Nat → Int32} (h : r ≠ r') : rset (rset m r τ) r' σ = rset (rset m r' σ) r τ := by
  unfold rset
  simp only [Prod.mk.injEq, and_true]
  funext z
  by_cases h1 : z = r
  · subst h1; simp [h]
  · by_cases h2 : z = r'
    · subst h2; simp [h1]
    · simp [h1, h2]
section O9
variable {g : GG} {d : Nat} {c n : Nat} {m : PM} {Q : Ou → PM → Nat → Nat → Prop} {K E P S L : Nat}
theorem SvE.o0 {m1 : PM} (h : SvE S m m1) : m1.1 0 = m.1 0 := h.2.1 0 (by omega)
theorem co_addExaminer (hV : Vv K E P (m.1 0)) (hR : RF m) (hS : m.1 8 10 0 3 = nI S) (hS6 : S ≤ 6) (h1 : E = 4 → Q (.inr 1) m c n) (h : E < 4 → ∀ m1 τ', SvE S m m1 → Ap τ' (give P (fAddE0 E (m.1 0))) → Q (.inl (some (pI (nI E)))) (rset m1 0 τ') c n) : Wq g (d + 6) MX4_addExaminer c n 0 [some (pO 10 8 0)] [] m Q := by
  have hE := hV.1.E4
  refine sgX4_addExaminer ?_
  rw [hV.1.hE, show (4 : Int32) = nI 4 from rfl, nI_ltI (by omega) (by decide)]
  refine ⟨fun q => ?_, fun q => h1 (by omega)⟩
  refine co_save hR hS hS6 fun m1 sv => ⟨rfl, rfl, ?_⟩
  refine co_takeOnExaminer (K := K) (E := E) (P := P) (by rw [sv.o0]; exact hV.1) q fun τ' a => ⟨rfl, rfl, ?_⟩
  rw [sv.o0] at a
  exact h q m1 τ' sv a
theorem co_addPupil (hV : Vv K E P (m.1 0)) (hR : RF m) (hS : m.1 8 10 0 3 = nI S) (hS6 : S ≤ 6) (h1 : P = 12 → Q (.inr 1) m c n) (h : P < 12 → ∀ m1, SvE S m m1 → Q (.inl (some (pI (nI P)))) (rset m1 0 (fAddP P (m.1 0))) c n) : Wq g (d + 6) MX4_addPupil c n 0 [some (pO 10 8 0)] [] m Q := by
  have hP := hV.1.P12
  refine sgX4_addPupil ?_
  rw [hV.1.hP, show (12 : Int32) = nI 12 from rfl, nI_ltI (by omega) (by decide)]
  refine ⟨fun q => ?_, fun q => h1 (by omega)⟩
  refine co_save hR hS hS6 fun m1 sv => ⟨rfl, rfl, ?_⟩
  have := h q m1 sv
  unfold fAddP at this
  dsimp only [cV]
  simp (disch := omega) only [ixn, nI_1, nI_add, pk_mul, nI_p0, of0, of1, of2, of3, of4, of5, of6, of7, of8, dv16, dv4, rm4, at_n, pl_n, ce_n, oe_n, oe0, oe1, oe2, ix_0, ix_1, ix_2, ix_3, ix_4, ix_5, ix_6, ix_7, ix_8, setI_eq, rset_rset, rset_s, rset_2, tI_s, tI_t, tI_j, tI_k, sv.o0, hV.1.hP]
  exact ⟨vp_in_nI q (by decide), this⟩
theorem co_ask {x : Int32} (hV : Vv K E P (m.1 0)) (hK : K + 3 < 2 ^ 31) (hR : RF m) (hS : m.1 8 10 0 3 = nI S) (hS6 : S ≤ 6) (h3 : ¬ (∃ p, p < P ∧ x = nI p) → Q (.inr 3) m c n) (h1 : ∀ p, p < P → x = nI p → oOk E P (m.1 0) (0, p, 0) = false → Q (.inr 1) m c n) (h : ∀ p, p < P → x = nI p → oOk E P (m.1 0) (0, p, 0) = true → ∀ m1 τ', SvE S m m1 → Ap τ' (oDo E P (m.1 0) (0, p, 0)) → Q (.inl (some (pI (oAns E P (m.1 0) (0, p, 0))))) (rset m1 0 τ') c n) : Wq g (d + 6) MX4_ask c n 0 [some (pO 10 8 0), some (pI x)] [] m Q := by
  have hP := hV.1.P12
  refine sgX4_ask ?_
  rw [hV.1.hP, hasX hP x]
  refine ⟨fun q => ?_, fun q => h3 q⟩
  obtain ⟨p, hp, rfl⟩ := q
  rw [ixn (by omega)]
  have eo : oOk E P (m.1 0) (0, p, 0) = decide (p < P ∧ m.1 0 4 p 0 = 0) := by simp [oOk]
  refine ⟨⟨vp_in_nI (by omega) (by decide), trivial⟩, fun q => ?_, fun q => h1 p hp rfl (by rw [eo, decide_eq_false_iff_not]; exact fun z => q z.2)⟩
  have ho : oOk E P (m.1 0) (0, p, 0) = true := by rw [eo, decide_eq_true_eq]; exact ⟨hp, q⟩
  refine co_save hR hS hS6 fun m1 sv => ⟨rfl, rfl, ?_⟩
  refine od_ask (K := K) (E := E) (P := P) (by rw [sv.o0]; exact hV) hK (by rw [sv.o0]; exact ho) fun τ' a => ⟨rfl, rfl, ?_⟩
  rw [sv.o0] at a ⊢
  exact h p hp rfl ho m1 τ' sv a
theorem co_quit {x : Int32} (hV : Vv K E P (m.1 0)) (hR : RF m) (hS : m.1 8 10 0 3 = nI S) (hS6 : S ≤ 6) (h3 : ¬ (∃ p, p < P ∧ x = nI p) → Q (.inr 3) m c n) (h1 : ∀ p, p < P → x = nI p → oOk E P (m.1 0) (1, p, 0) = false → Q (.inr 1) m c n) (h : ∀ p, p < P → x = nI p → oOk E P (m.1 0) (1, p, 0) = true → ∀ m1 τ', SvE S m m1 → Ap τ' (oDo E P (m.1 0) (1, p, 0)) → Q (.inl (some (pI (oAns E P (m.1 0) (1, p, 0))))) (rset m1 0 τ') c n) : Wq g (d + 6) MX4_quit c n 0 [some (pO 10 8 0), some (pI x)] [] m Q := by
  have hP := hV.1.P12
  refine sgX4_quit ?_
  rw [hV.1.hP, hasX hP x]
  refine ⟨fun q => ?_, fun q => h3 q⟩
  obtain ⟨p, hp, rfl⟩ := q
  rw [ixn (by omega)]
  have eo : oOk E P (m.1 0) (1, p, 0) = decide (p < P ∧ (m.1 0 4 p 0 = 1 ∨ m.1 0 4 p 0 = 2)) := by simp [oOk]
  refine ⟨⟨vp_in_nI (by omega) (by decide), trivial⟩, fun q => ?_, fun q => h1 p hp rfl (by rw [eo, decide_eq_false_iff_not]; exact fun z => q z.2)⟩
  have ho : oOk E P (m.1 0) (1, p, 0) = true := by rw [eo, decide_eq_true_eq]; exact ⟨hp, q⟩
  refine co_save hR hS hS6 fun m1 sv => ⟨rfl, rfl, ?_⟩
  refine od_quit (K := K) (E := E) (P := P) (by rw [sv.o0]; exact hV) (by rw [sv.o0]; exact ho) fun τ' a => ⟨rfl, rfl, ?_⟩
  rw [sv.o0] at a ⊢
  exact h p hp rfl ho m1 τ' sv a
theorem co_cancel {x y : Int32} (hV : Vv K E P (m.1 0)) (hK : K + 3 < 2 ^ 31) (hR : RF m) (hS : m.1 8 10 0 3 = nI S) (hS6 : S ≤ 6) (h3 : ¬ (∃ e, e < E ∧ x = nI e) → Q (.inr 3) m c n) (h2 : ∀ e, e < E → x = nI e → ¬ (∃ D, D ≤ 9 ∧ y = nI D) → Q (.inr 2) m c n) (h : ∀ e D, e < E → x = nI e → D ≤ 9 → y = nI D → ∀ m1 τ', SvE S m m1 → Ap τ' (oDo E P (m.1 0) (4, e, D)) → Q (.inl (some (pI (oAns E P (m.1 0) (4, e, D))))) (rset m1 0 τ') c n) : Wq g (d + 6) MX4_cancel c n 0 [some (pO 10 8 0), some (pI x), some (pI y)] [] m Q := by
  have hE := hV.1.E4
  refine sgX4_cancel ?_
  rw [hV.1.hE, hasX (by omega) x, show (9 : Int32) = nI 9 from rfl, inX (by decide) y]
  refine ⟨fun q => ?_, fun q => h3 q⟩
  obtain ⟨e, he, rfl⟩ := q
  refine ⟨fun q => ?_, fun q => h2 e he rfl q⟩
  obtain ⟨D, hD, rfl⟩ := q
  have ho : oOk E P (m.1 0) (4, e, D) = true := by simp [oOk, he]
  refine co_save hR hS hS6 fun m1 sv => ⟨rfl, rfl, ?_⟩
  refine od_cancel (K := K) (E := E) (P := P) (by rw [sv.o0]; exact hV) hK (by rw [sv.o0]; exact ho) (by omega) fun τ' a => ⟨rfl, rfl, ?_⟩
  rw [sv.o0] at a ⊢
  exact h e D he rfl hD rfl m1 τ' sv a
theorem co_test {x y : Int32} {k : Nat} (hk : (k = 3 ∧ y = 0) ∨ (k = 2 ∧ ¬ y = 0)) (hV : Vv K E P (m.1 0)) (hR : RF m) (hS : m.1 8 10 0 3 = nI S) (hS6 : S ≤ 6) (h3 : ¬ (∃ p, p < P ∧ x = nI p) → Q (.inr 3) m c n) (h1 : ∀ p, p < P → x = nI p → oOk E P (m.1 0) (k, p, 0) = false → Q (.inr 1) m c n) (h : ∀ p, p < P → x = nI p → oOk E P (m.1 0) (k, p, 0) = true → ∀ m1 τ', SvE S m m1 → Ap τ' (oDo E P (m.1 0) (k, p, 0)) → Q (.inl (some (pI (oAns E P (m.1 0) (k, p, 0))))) (rset m1 0 τ') c n) : Wq g (d + 6) MX4_test c n 0 [some (pO 10 8 0), some (pI x), some (pI y)] [] m Q := by
  have hP := hV.1.P12
  refine sgX4_test ?_
  rw [hV.1.hP, hasX hP x]
  refine ⟨fun q => ?_, fun q => h3 q⟩
  obtain ⟨p, hp, rfl⟩ := q
  have eo : oOk E P (m.1 0) (k, p, 0) = decide (p < P ∧ cDay (cCell (m.1 0) (nI p)) = 0) := by
    rcases hk with ⟨rfl, _⟩ | ⟨rfl, _⟩ <;> simp [oOk]
  refine co_mayBeTested ⟨rfl, rfl, ?_⟩
  by_cases e : cDay (cCell (m.1 0) (nI p)) = 0
  · rw [if_pos e]
    refine ⟨fun _ => ?_, fun z => absurd z (by decide)⟩
    have ho : oOk E P (m.1 0) (k, p, 0) = true := by rw [eo, decide_eq_true_eq]; exact ⟨hp, e⟩
    refine co_save hR hS hS6 fun m1 sv => ⟨rfl, rfl, ?_⟩
    refine od_test (K := K) (E := E) (P := P) (by rw [sv.o0]; exact hV) hk (by rw [sv.o0]; exact ho) fun τ' a => ⟨rfl, rfl, ?_⟩
    rw [sv.o0] at a ⊢
    exact h p hp rfl ho m1 τ' sv a
  · rw [if_neg e]
    exact ⟨fun z => absurd rfl z, fun _ => h1 p hp rfl (by rw [eo, decide_eq_false_iff_not]; exact fun z => e z.2)⟩
theorem co_next (hV : Vv K E P (m.1 0)) (hR : RF m) (hS : m.1 8 10 0 3 = nI S) (hS6 : S ≤ 6) (h1 : oOk E P (m.1 0) (5, 0, 0) = false → Q (.inr 1) m c n) (h : oOk E P (m.1 0) (5, 0, 0) = true → ∀ m1 τ', SvE S m m1 → Ap τ' (oDo E P (m.1 0) (5, 0, 0)) → Q (.inl (some (pI (oAns E P (m.1 0) (5, 0, 0))))) (rset m1 0 τ') c n) : Wq g (d + 6) MX4_next c n 0 [some (pO 10 8 0)] [] m Q := by
  have eo : oOk E P (m.1 0) (5, 0, 0) = decide (¬ 9999 ≤ m.1 0 0 0 0) := by simp [oOk]
  refine sgX4_next ⟨fun q => ?_, fun q => h1 (by rw [eo, decide_eq_false_iff_not]; exact q)⟩
  have ho : oOk E P (m.1 0) (5, 0, 0) = true := by rw [eo, decide_eq_true_eq]; exact q
  refine co_save hR hS hS6 fun m1 sv => ⟨rfl, rfl, ?_⟩
  refine od_next (K := K) (E := E) (P := P) (a := 0) (b := 0) (by rw [sv.o0]; exact hV) (by rw [sv.o0]; exact ho) fun τ' a => ⟨rfl, rfl, ?_⟩
  rw [sv.o0] at a ⊢
  exact h ho m1 τ' sv a
theorem co_set {x y : Int32} (hR : RF m) (hS : m.1 8 10 0 3 = nI S) (hS6 : S ≤ 6) (h3 : ¬ (∃ k, k ≤ 3 ∧ x = nI k) → Q (.inr 3) m c n) (h2 : ∀ k, k ≤ 3 → x = nI k → ¬ ((¬ y < 0) ∧ ¬ (([20, 1, 9, 999] : List Int32).getD k 0) < y) → Q (.inr 2) m c n) (h : ∀ k, k ≤ 3 → x = nI k → ((¬ y < 0) ∧ ¬ (([20, 1, 9, 999] : List Int32).getD k 0) < y) → ∀ m1, SvE S m m1 → Q (.inl (some (pI (m.1 0 1 0 k)))) (rset m1 0 (tI (m.1 0) 1 0 k y)) c n) : Wq g (d + 6) MX4_set c n 0 [some (pO 10 8 0), some (pI x), some (pI y)] [] m Q := by
  refine sgX4_set ?_
  rw [show ((4 : Int32) - 1) = nI 3 from rfl, inX (by decide) x]
  refine ⟨fun q => ?_, fun q => h3 q⟩
  obtain ⟨k, hk, rfl⟩ := q
  rw [ixn (by omega)]
  refine ⟨vp_in_nI (by omega) (by decide), fun q => ?_, fun q => h2 k hk rfl q⟩
  refine co_save hR hS hS6 fun m1 sv => ⟨rfl, rfl, ?_⟩
  have := h k hk rfl q m1 sv
  dsimp only [cV]
  rw [setI_eq, sv.o0]
  exact ⟨vp_in_nI (by omega) (by decide), vp_in_nI (by omega) (by decide), this⟩
theorem co_undo (hR : RF m) (hS : m.1 8 10 0 3 = nI S) (hS6 : S ≤ 6) (h1 : S = 0 → Q (.inr 1) m c n) (h : 0 < S → ∀ τ', Cp τ' (sv m (S - 1)) → Q (.inl (some (pI (nI (S - 1))))) (rset (rset m 8 (tI (m.1 8) 10 0 3 (nI (S - 1)))) 0 τ') c n) : Wq g (d + 6) MX4_undo c n 0 [some (pO 10 8 0)] [] m Q := by
  refine sgX4_undo ?_
  refine ⟨fun q => ?_, fun q => h1 ?_⟩
  · have hS0 : 0 < S := by
      have := q.1
      rw [hS, show (1 : Int32) = nI 1 from rfl, nI_ltI (by omega) (by decide)] at this
      omega
    have e1 : nI S - 1 = nI (S - 1) := by rw [show (1 : Int32) = nI 1 from rfl, pk_sub (by omega)]
    have hr := hR.1 (S - 1) (by omega)
    simp (disch := omega) only [ixn, nI_1, nI_add, pk_mul, nI_p0, of0, of1, of2, of3, of4, of5, of6, of7, of8, dv16, dv4, rm4, at_n, pl_n, ce_n, oe_n, oe0, oe1, oe2, ix_0, ix_1, ix_2, ix_3, ix_4, ix_5, ix_6, ix_7, ix_8, setI_eq, rset_rset, rset_s, rset_2, tI_s, tI_t, tI_j, tI_k, hS, e1]
    refine ⟨vp_in_nI (by omega) (by decide), hr.2, ?_⟩
    refine co_copyFrom (by omega) fun τ' hC => ⟨rfl, rfl, ?_⟩
    rw [rset_n (by omega)] at hC
    dsimp only [cV]
    simp (disch := omega) only [setI_eq, rset_rset, rset_s, rset_2, tI_s, tI_t, tI_j, tI_k, rset_n]
    exact h hS0 τ' hC
  · rw [hS, show (1 : Int32) = nI 1 from rfl, show (6 : Int32) = nI 6 from rfl, nI_ltI (by omega) (by decide), nI_ltI (by decide) (by omega)] at q
    omega
end O9
