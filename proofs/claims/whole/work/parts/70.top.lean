/-! THE LAW: what is true at its head -/
theorem lg_self (x : Int64) : lg_cmp x x = 0 := by
  unfold lg_cmp
  rw [if_neg (Int64.lt_irrefl), if_pos rfl]
def Svd (K S : Nat) (m : PM) : Prop := ∀ i, i < S → ∃ E P, Vv K E P (sv m i) ∧ Rel E P (sv m i) (fun j => m.1 9 23 0 (341 * i + j))
def Tp (N K E P S L : Nat) (m : PM) : Prop :=
  Vv K E P (m.1 0) ∧ Rel E P (m.1 0) (m.1 9 21 0) ∧ RF m ∧ m.1 8 10 0 3 = nI S ∧ m.1 9 20 0 4 = nI S ∧ S ≤ 6 ∧ Svd K S m ∧ m.1 8 12 0 1 = nI L ∧ m.1 9 20 0 6 = nI L ∧ L ≤ 60 ∧ m.1 8 13 0 = m.1 9 24 0 ∧ K + 4 * L ≤ 4 * N ∧ N ≤ 1048576
def Top (N : Nat) (m : PM) : Prop := ∃ K E P S L, Tp N K E P S L m
/-- how a call's answer is held against the model's -/
def aF (Lp Y : PM → Prop) (r3 : Int32) : Int32 → PM → Prop := fun r5 h6 => (((h6.1 9 20 0 0) = r3 → ((¬ r3 = 0 → Lp h6) ∧ (r3 = 0 → (((lg_cmp (h6.2 0) (Int32.toInt64 r5)) = 0 → Lp h6) ∧ (¬ (lg_cmp (h6.2 0) (Int32.toInt64 r5)) = 0 → Y h6))))) ∧ (¬ (h6.1 9 20 0 0) = r3 → Y h6))
section TP
variable {N K E P S L E2 P2 K2 L2 : Nat} {m m1 M : PM} {Lp Y : PM → Prop} {r3 r5 : Int32} {τ' μ0 μ μ' : Nat → Nat → Nat → Int32}
theorem aF_e (h : M.1 9 20 0 0 = r3) (h3 : ¬ r3 = 0) (hL : Lp M) : aF Lp Y r3 r5 M := ⟨fun _ => ⟨fun _ => hL, fun z => absurd z h3⟩, fun z => absurd h z⟩
theorem aF_0 (h : M.1 9 20 0 0 = 0) (h2 : M.2 0 = Int32.toInt64 r5) (hL : Lp M) : aF Lp Y 0 r5 M := ⟨fun _ => ⟨fun z => absurd rfl z, fun _ => ⟨fun _ => hL, fun z => absurd (by rw [h2]; exact lg_self _) z⟩⟩, fun z => absurd h z⟩
theorem cX_1 {f : Int32 → PM → Prop} {e1 e2 e3 : PM → Prop} (h : e1 m) : cX f e1 e2 e3 (.inr 1) m := h
theorem cX_2 {f : Int32 → PM → Prop} {e1 e2 e3 : PM → Prop} (h : e2 m) : cX f e1 e2 e3 (.inr 2) m := h
theorem cX_3 {f : Int32 → PM → Prop} {e1 e2 e3 : PM → Prop} (h : e3 m) : cX f e1 e2 e3 (.inr 3) m := h
theorem Rel_fn {τ : Nat → Nat → Nat → Int32} {s s' : Nat → Int32} (hE : E ≤ 4) (hP : P ≤ 12) (h : Rel E P τ s) (e : ∀ j, j < 341 → s' j = s j) : Rel E P τ s' := Rel_row hE hP e h
theorem Svd_step (hV : Vv K E P (m.1 0)) (hR : Rel E P (m.1 0) (m.1 9 21 0)) (hS6 : S ≤ 6) (hSv : Svd K S m) (sv' : SvE S m m1) (hs : SvM S μ0 μ) (f23 : μ0 23 0 = m.1 9 23 0) (f21 : μ0 21 0 = m.1 9 21 0) (hM23 : M.1 9 23 = μ 23) (h27 : ∀ r, 2 ≤ r → r < 8 → M.1 r = m1.1 r) (h11 : M.1 8 11 = m1.1 8 11) : Svd K (min (S + 1) 6) M := by
  obtain ⟨rf, -, -, -, -, sA, sB⟩ := sv'
  obtain ⟨-, -, -, mA, mB⟩ := hs
  have es : ∀ i, i < 6 → sv M i = sv m1 i := fun i hi => by
    unfold sv
    rw [h11]
    exact h27 _ (rf.1 i hi).1 (rf.1 i hi).2
  intro i hi
  rw [es i (by omega), hM23]
  by_cases c6 : S = 6
  · obtain ⟨b1, b2⟩ := sB c6
    obtain ⟨q1, q2⟩ := mB c6
    by_cases i5 : i < 5
    · obtain ⟨E', P', v, r⟩ := hSv (i + 1) (by omega)
      rw [b1 i i5]
      refine ⟨E', P', v, Rel_fn v.1.E4 v.1.P12 r fun j hj => ?_⟩
      rw [q1 i i5 j hj, f23]
    · have : i = 5 := by omega
      subst this
      refine ⟨E, P, Cp_Vv b2 hV, Rel_fn hV.1.E4 hV.1.P12 (Cp_Rel b2 hV.1.E4 hV.1.P12 hR) fun j hj => ?_⟩
      rw [q2 j hj, f21]
  · obtain ⟨b1, b2⟩ := sA (by omega)
    obtain ⟨q1, q2⟩ := mA (by omega)
    by_cases iS : i < S
    · obtain ⟨E', P', v, r⟩ := hSv i iS
      rw [b1 i iS]
      refine ⟨E', P', v, Rel_fn v.1.E4 v.1.P12 r fun j hj => ?_⟩
      rw [q1 i iS j hj, f23]
    · have : i = S := by omega
      subst this
      refine ⟨E, P, Cp_Vv b2 hV, Rel_fn hV.1.E4 hV.1.P12 (Cp_Rel b2 hV.1.E4 hV.1.P12 hR) fun j hj => ?_⟩
      rw [q2 j hj, f21]
theorem Svd_up (h : Svd K S m) (hk : K ≤ K2) : Svd K2 S m := fun i hi => by
  obtain ⟨E, P, v, r⟩ := h i hi
  exact ⟨E, P, Vv_up hk v, r⟩
theorem Top_w (hV : Vv K E P (m.1 0)) (hR : Rel E P (m.1 0) (m.1 9 21 0)) (hS6 : S ≤ 6) (hSv : Svd K S m) (sv' : SvE S m m1) (hs : SvM S μ0 μ) (f23 : μ0 23 0 = m.1 9 23 0) (f21 : μ0 21 0 = m.1 9 21 0) (f24 : μ0 24 0 = m.1 8 13 0) (h9 : M.1 9 = μ') (g23 : μ' 23 = μ 23) (g24 : μ' 24 = μ 24) (g4 : μ' 20 0 4 = μ 20 0 4) (hR2 : Rel E2 P2 τ' (μ' 21 0)) (h0 : M.1 0 = τ') (hV2 : Vv K2 E2 P2 τ') (h27 : ∀ r, 2 ≤ r → r < 8 → M.1 r = m1.1 r) (h8 : ∀ t, t ≠ 12 → M.1 8 t = m1.1 8 t) (hl8 : M.1 8 12 0 1 = nI L2) (hl9 : μ' 20 0 6 = nI L2) (hL2 : L2 ≤ 60) (hK : K ≤ K2) (hK2 : K2 + 4 * L2 ≤ 4 * N) (hN : N ≤ 1048576) : Top N M := by
  have rfM : RF M := by
    have := sv'.1
    unfold RF at this ⊢
    rw [h8 11 (by decide)]
    exact this
  refine ⟨K2, E2, P2, min (S + 1) 6, L2, by rw [h0]; exact hV2, by rw [h0, h9]; exact hR2, rfM, by rw [h8 10 (by decide)]; exact sv'.2.2.2.2.1, by rw [h9, g4]; exact hs.2.2.1, Nat.min_le_right _ _, Svd_up (Svd_step hV hR hS6 hSv sv' hs f23 f21 (by rw [h9, g23]) h27 (h8 11 (by decide))) hK, hl8, by rw [h9]; exact hl9, hL2, ?_, hK2, hN⟩
  rw [h8 13 (by decide), sv'.2.2.1 13 (by decide) (by decide), h9, g24, hs.1 24 (by decide) (by decide), f24]
/-- a look leaves what is true -/
theorem Top_l (h : Tp N K E P S L m) (h07 : ∀ r, r ≠ 1 → r < 8 → M.1 r = m.1 r) (h8 : ∀ t, t = 10 ∨ t = 11 ∨ t = 13 → M.1 8 t = m.1 8 t) (hl8 : M.1 8 12 0 1 = nI L) (h9 : ∀ t, t = 23 ∨ t = 24 → M.1 9 t = m.1 9 t) (h4 : M.1 9 20 0 4 = m.1 9 20 0 4) (h6 : M.1 9 20 0 6 = m.1 9 20 0 6) (h21 : ∀ j, j < 341 → M.1 9 21 0 j = m.1 9 21 0 j) (hN : N + 1 ≤ 1048576) : Top (N + 1) M := by
  obtain ⟨t1, t2, t3, t4, t5, t6, t7, t8, t9, t10, t11, t12, t13⟩ := h
  have es : ∀ i, i < 6 → sv M i = sv m i := fun i hi => by
    unfold sv
    rw [h8 11 (Or.inr (Or.inl rfl))]
    have := (t3.1 i hi)
    exact h07 _ (by omega) this.2
  refine ⟨K, E, P, S, L, by rw [h07 0 (by decide) (by decide)]; exact t1, by rw [h07 0 (by decide) (by decide)]; exact Rel_fn t1.1.E4 t1.1.P12 t2 h21, ?_, by rw [h8 10 (Or.inl rfl)]; exact t4, by rw [h4]; exact t5, t6, fun i hi => ?_, hl8, by rw [h6]; exact t9, t10, by rw [h8 13 (Or.inr (Or.inr rfl)), h9 24 (Or.inr rfl)]; exact t11, by omega, hN⟩
  · unfold RF at t3 ⊢
    rw [h8 11 (Or.inr (Or.inl rfl))]
    exact t3
  · rw [es i (by omega), h9 23 (Or.inl rfl)]
    exact t7 i hi
theorem oRun_Vv : ∀ {l : List (Nat × Nat × Nat)} {K : Nat} {τ : Nat → Nat → Nat → Int32}, Vv K E P τ → (∀ o ∈ l, o.2.2 < 10) → K + 4 * l.length < 2 ^ 31 → Vv (K + 4 * l.length) E P (oRun E P l τ).2
  | [], K, τ, h, _, _ => h
  | o :: l, K, τ, h, hb, hK => by
    have hb' : o.2.2 < 10 := hb o (by simp)
    have hl : (o :: l).length = l.length + 1 := rfl
    rw [hl] at hK ⊢
    rw [oRun]
    by_cases c : oOk E P τ o = true
    · rw [if_pos c]
      have := oRun_Vv (l := l) (oDo_Vv h c hb' (by omega)) (fun o ho => hb o (by simp [ho])) (by omega)
      rw [show K + 4 * (l.length + 1) = K + 4 + 4 * l.length by omega]
      exact this
    · rw [if_neg c]
      exact Vv_up (by omega) h
end TP
