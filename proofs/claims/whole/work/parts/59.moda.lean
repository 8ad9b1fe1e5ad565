/-! THE MODEL: saves; public methods that change something -/
def SvM (S : Nat) (μ0 μ : Nat → Nat → Nat → Int32) : Prop := (∀ t, t ≠ 20 → t ≠ 23 → μ t = μ0 t) ∧ (∀ k, k ≠ 4 → μ 20 0 k = μ0 20 0 k) ∧ μ 20 0 4 = nI (min (S + 1) 6) ∧ (S < 6 → (∀ i, i < S → ∀ j, j < 341 → μ 23 0 (341 * i + j) = μ0 23 0 (341 * i + j)) ∧ ∀ j, j < 341 → μ 23 0 (341 * S + j) = μ0 21 0 j) ∧ (S = 6 → (∀ i, i < 5 → ∀ j, j < 341 → μ 23 0 (341 * i + j) = μ0 23 0 (341 * (i + 1) + j)) ∧ ∀ j, j < 341 → μ 23 0 (341 * 5 + j) = μ0 21 0 j)
theorem Rel_row {E P : Nat} {τ : Nat → Nat → Nat → Int32} {s s' : Nat → Int32} (hE : E ≤ 4) (hP : P ≤ 12) (e : ∀ j, j < 341 → s' j = s j) (h : Rel E P τ s) : Rel E P τ s' := by
  obtain ⟨h1, h2, h3, h4, h5⟩ := h
  refine ⟨fun k hk => ?_, fun k hk => ?_, fun i hi he => ?_, fun p hp k hk => ?_, fun f hf => ?_⟩
  · rw [e _ (by omega)]; exact h1 k hk
  · rw [e _ (by omega)]; exact h2 k hk
  · rw [e _ (by omega)]; exact h3 i hi he
  · rw [e _ (by omega)]; exact h4 p hp k hk
  · obtain ⟨a, b, c, d⟩ := h5 f hf
    refine ⟨?_, ?_, ?_, fun k hk => ?_⟩
    · rw [e _ (by omega)]; exact a
    · rw [e _ (by omega)]; exact b
    · rw [e _ (by omega)]; exact c
    · rw [e _ (by omega)]; exact d k hk
section MA
variable {g : GG} {d : Nat} {c n : Nat} {m : PM} {Q : Ou → PM → Nat → Nat → Prop} {K E P S L : Nat} {τ : Nat → Nat → Nat → Int32}
theorem mo_save_52 {s : Nat} {μ : Nat → Nat → Nat → Int32} (hs : s < 6) (hS : μ 20 0 4 = nI s) (h : ∀ μ', (∀ t, t ≠ 20 → t ≠ 23 → μ' t = μ t) → (∀ k, k ≠ 4 → μ' 20 0 k = μ 20 0 k) → μ' 20 0 4 = nI (s + 1) → (∀ j, j < 341 → μ' 23 0 (341 * s + j) = μ 21 0 j) → (∀ j, j < 341 * s → μ' 23 0 j = μ 23 0 j) → Q (.inl none) (rset m 9 μ') c n) : Wq g d MX5_save c n 52 [some (pO 20 9 0), some (pI 0)] [] (rset m 9 μ) Q := by
  refine Wq.up (S := Nat → Nat → Nat → Int32) 341 (fun k _ => [some (pO 20 9 0), some (pI (nI k))]) (fun _ ν => rset m 9 ν) (fun k ν => (∀ t, t ≠ 23 → ν t = μ t) ∧ (∀ j, j < k → ν 23 0 (341 * s + j) = μ 21 0 j) ∧ (∀ j, j < 341 * s → ν 23 0 j = μ 23 0 j)) (fun ν hL => ?_) (fun k ν hk hL ih => ?_) 0 μ (by omega) ⟨fun _ _ => rfl, fun j hj => absurd hj (Nat.not_lt_zero j), fun _ _ => rfl⟩
  · obtain ⟨f, a, b⟩ := hL
    refine sgX5_save_52 ⟨fun _ => ?_, fun q => absurd (geL (Nat.le_refl 341) (by decide)) q⟩
    simp (disch := omega) only [ixn, nI_1, nI_add, pk_mul, nI_p0, of0, of1, of2, of3, of4, of5, of6, of7, of8, dv16, dv4, rm4, at_n, pl_n, ce_n, oe_n, oe0, oe1, oe2, ix_0, ix_1, ix_2, ix_3, ix_4, ix_5, ix_6, ix_7, ix_8, setI_eq, rset_rset, rset_s, rset_2, tI_s, tI_t, tI_j, tI_k]
    rw [f 20 (by decide), hS]
    refine h _ (fun t q r => by rw [tI_t q, f t r]) (fun k q => by rw [tI_k q, f 20 (by decide)]) (by rw [tI_s]; exact nI_add _ 1) (fun j hj => by rw [tI_t (by decide)]; exact a j hj) (fun j hj => by rw [tI_t (by decide)]; exact b j hj)
  · obtain ⟨f, a, b⟩ := hL
    refine sgX5_save_52 ⟨fun q => absurd q (ngeL hk (by decide)), fun _ => ?_⟩
    have e : 341 * nI s + nI k = nI (341 * s + k) := by rw [show (341 : Int32) = nI 341 from rfl, pk_mul, nI_add]
    rw [rset_s, f 20 (by decide), hS, e, f 21 (by decide), ixn (by omega), ixn (by omega), nI_1, setI_eq, rset_rset, rset_s]
    refine ⟨vp_in_nI (by omega) (by decide), vp_in_nI (by omega) (by decide), ih _ ⟨fun t q => by rw [tI_t q, f t q], fun j hj => ?_, fun j hj => ?_⟩⟩
    · by_cases z : j = k
      · subst z
        rw [tI_s]
      · rw [tI_k (by omega)]
        exact a j (by omega)
    · rw [tI_k (by omega)]
      exact b j hj
theorem mo_save (hS : m.1 9 20 0 4 = nI S) (hS6 : S ≤ 6) (h : ∀ μ, SvM S (m.1 9) μ → Q (.inl none) (rset m 9 μ) c n) : Wq g d MX5_save c n 0 [some (pO 20 9 0)] [] m Q := by
  refine sgX5_save ?_
  rw [hS]
  by_cases e : S = 6
  · subst e
    refine ⟨fun z => absurd rfl z, fun _ => ?_⟩
    have key := Wq.up (g := g) (d := d) (M := MX5_save) (c := c) (n := n) (pc := 11) (Q := Q) (S := Nat → Nat → Nat → Int32) 1705 (fun k _ => [some (pO 20 9 0), some (pI (nI k))]) (fun _ ν => rset m 9 ν) (fun k ν => (∀ t, t ≠ 23 → ν t = m.1 9 t) ∧ (∀ j, ν 23 0 j = if j < k then m.1 9 23 0 (341 + j) else m.1 9 23 0 j)) (fun ν hL => ?_) (fun k ν hk hL ih => ?_) 0 (m.1 9) (by omega) ⟨fun _ _ => rfl, fun j => by rw [if_neg (by omega)]⟩
    · rw [rset_id] at key
      exact key
    · obtain ⟨f, a⟩ := hL
      refine sgX5_save_11 ⟨fun _ => ?_, fun q => absurd (geL (Nat.le_refl 1705) (by decide)) q⟩
      rw [rset_s, f 20 (by decide), hS, setI_eq, rset_rset, rset_s, show nI 6 - 1 = nI 5 from by decide]
      refine mo_save_52 (s := 5) (by decide) tI_s fun μ' g1 g2 g3 g4 g5 => h μ' ⟨fun t q r => by rw [g1 t q r, tI_t q, f t r], fun k q => by rw [g2 k q, tI_k q, f 20 (by decide)], g3, fun z => absurd z (by decide), fun _ => ⟨fun i hi j hj => ?_, fun j hj => ?_⟩⟩
      · rw [g5 _ (by omega), tI_t (by decide), a, if_pos (by omega)]
        refine congrArg (m.1 9 23 0) ?_
        omega
      · rw [g4 j hj, tI_t (by decide), f 21 (by decide)]
    · obtain ⟨f, a⟩ := hL
      refine sgX5_save_11 ⟨fun q => absurd q (ngeL hk (by decide)), fun _ => ?_⟩
      rw [show (341 : Int32) + nI k = nI (341 + k) from nI_add 341 k, ixn (by omega), ixn (by omega), nI_1, rset_s, setI_eq, rset_rset, rset_s]
      refine ⟨vp_in_nI (by omega) (by decide), vp_in_nI (by omega) (by decide), ih _ ⟨fun t q => by rw [tI_t q, f t q], fun j => ?_⟩⟩
      by_cases z : j = k
      · subst z
        rw [tI_s, a, if_neg (by omega), if_pos (by omega)]
      · rw [tI_k z, a]
        by_cases y : j < k
        · rw [if_pos y, if_pos (by omega)]
        · rw [if_neg y, if_neg (by omega)]
  · have n6 : ¬ nI S = 6 := fun z => e (nI_i (by omega) (by decide) (show nI S = nI 6 from z))
    refine ⟨fun _ => ?_, fun z => absurd z n6⟩
    have := mo_save_52 (g := g) (d := d) (c := c) (n := n) (Q := Q) (m := m) (s := S) (μ := m.1 9) (by omega) hS fun μ' g1 g2 g3 g4 g5 => h μ' ⟨g1, g2, by rw [g3]; congr 1; omega, fun _ => ⟨fun i hi j hj => g5 _ (by
      have : 341 * (i + 1) ≤ 341 * S := Nat.mul_le_mul_left 341 hi
      omega), g4⟩, fun z => absurd z e⟩
    rw [rset_id] at this
    exact this
/-- saved, with the fault told -/
def SvF (S : Nat) (μ0 μ : Nat → Nat → Nat → Int32) : Prop := SvM S (tI μ0 20 0 0 0) μ
theorem SvF.r {μ : Nat → Nat → Nat → Int32} (h : SvF S (m.1 9) μ) (hR : Rel E P τ (m.1 9 21 0)) : Rel E P τ ((rset m 9 μ).1 9 21 0) := by
  rw [rset_s, h.1 21 (by decide) (by decide), tI_t (by decide)]
  exact hR
theorem sv_f (hS : m.1 9 20 0 4 = nI S) (hS6 : S ≤ 6) {K' : Ou → PM → Nat → Nat → Prop} (h : ∀ μ, SvF S (m.1 9) μ → K' (.inl none) (rset m 9 μ) c n) : Wq g d MX5_save c n 0 [some (pO 20 9 0)] [] (setI m 20 9 0 0 0) K' := by
  refine mo_save (S := S) (by rw [setI_eq, rset_s, tI_k (by decide)]; exact hS) hS6 fun μ s => ?_
  rw [setI_eq, rset_s] at s
  rw [setI_eq, rset_rset]
  exact h μ s
theorem mo_undo (hS : m.1 9 20 0 4 = nI S) (hS6 : S ≤ 6) (h1 : S = 0 → Q (.inl (some (pI 0))) (setI m 20 9 0 0 1) c n) (h : 0 < S → ∀ μ, (∀ t, t ≠ 20 → t ≠ 21 → μ t = m.1 9 t) → (∀ k, k ≠ 0 → k ≠ 4 → μ 20 0 k = m.1 9 20 0 k) → μ 20 0 0 = 0 → μ 20 0 4 = nI (S - 1) → (∀ j, j < 341 → μ 21 0 j = m.1 9 23 0 (341 * (S - 1) + j)) → Q (.inl (some (pI (nI (S - 1))))) (rset m 9 μ) c n) : Wq g (d + 1) MX5_undo c n 0 [some (pO 20 9 0)] [] m Q := by
  refine sgX5_undo ?_
  rw [hS, show (0 : Int32) = nI 0 from rfl, nI_leI (by omega) (by omega)]
  refine ⟨fun q => h1 (by omega), fun q => ?_⟩
  have e : nI S - 1 = nI (S - 1) := by
    rw [show nI S = nI (S - 1) + nI 1 by rw [nI_add]; congr 1; omega]
    exact Int32.add_sub_cancel _ _
  rw [show nI 0 = 0 from rfl]
  simp (disch := omega) only [setI_eq, rset_rset, rset_s, tI_k]
  rw [hS, e]
  refine Wq.up (S := Nat → Nat → Nat → Int32) 341 (fun k _ => [some (pO 20 9 0), some (pI (nI k))]) (fun _ ν => rset m 9 ν) (fun k ν => (∀ t, t ≠ 20 → t ≠ 21 → ν t = m.1 9 t) ∧ (∀ k, k ≠ 0 → k ≠ 4 → ν 20 0 k = m.1 9 20 0 k) ∧ ν 20 0 0 = 0 ∧ ν 20 0 4 = nI (S - 1) ∧ (∀ j, j < k → ν 21 0 j = m.1 9 23 0 (341 * (S - 1) + j))) (fun ν hL => ?_) (fun k ν hk hL ih => ?_) 0 _ (by omega) ⟨fun t a b => by rw [tI_t a, tI_t a], fun k a b => by rw [tI_k b, tI_k a], by rw [tI_k (by decide), tI_s], tI_s, fun j hj => absurd hj (Nat.not_lt_zero j)⟩
  · obtain ⟨a1, a2, a3, a4, a5⟩ := hL
    refine sgX5_undo_33 ⟨fun _ => ?_, fun q => absurd (geL (Nat.le_refl 341) (by decide)) q⟩
    rw [rset_s, a4]
    exact h (by omega) ν a1 a2 a3 a4 a5
  · obtain ⟨a1, a2, a3, a4, a5⟩ := hL
    refine sgX5_undo_33 ⟨fun q => absurd q (ngeL hk (by decide)), fun _ => ?_⟩
    have e2 : 341 * nI (S - 1) + nI k = nI (341 * (S - 1) + k) := by rw [show (341 : Int32) = nI 341 from rfl, pk_mul, nI_add]
    rw [rset_s, a4, e2, ixn (by omega), ixn (by omega), nI_1, a1 23 (by decide) (by decide), setI_eq, rset_rset, rset_s]
    refine ⟨vp_in_nI (by omega) (by decide), vp_in_nI (by omega) (by decide), ih _ ⟨fun t q r => by rw [tI_t r, a1 t q r], fun k q r => by rw [tI_t (by decide)]; exact a2 k q r, by rw [tI_t (by decide)]; exact a3, by rw [tI_t (by decide)]; exact a4, fun j hj => ?_⟩⟩
    by_cases z : j = k
    · subst z
      rw [tI_s]
    · rw [tI_k z]
      exact a5 j (by omega)
theorem mo_set {x y : Int32} (hR : Rel E P τ (m.1 9 21 0)) (hE : E ≤ 4) (hS : m.1 9 20 0 4 = nI S) (hS6 : S ≤ 6) (h3 : ¬ (∃ k, k ≤ 3 ∧ x = nI k) → Q (.inl (some (pI 0))) (setI m 20 9 0 0 1) c n) (h2 : ∀ k, k ≤ 3 → x = nI k → ¬ ((¬ y < 0) ∧ ¬ (([20, 1, 9, 999] : List Int32).getD k 0) < y) → Q (.inl (some (pI 0))) (setI m 20 9 0 0 2) c n) (h : ∀ k, k ≤ 3 → x = nI k → ((¬ y < 0) ∧ ¬ (([20, 1, 9, 999] : List Int32).getD k 0) < y) → ∀ μ, SvF S (m.1 9) μ → Rel E P (tI τ 1 0 k y) (tI μ 21 0 (5 + k) y 21 0) → Q (.inl (some (pI (τ 1 0 k)))) (rset m 9 (tI μ 21 0 (5 + k) y)) c n) : Wq g (d + 1) MX5_set c n 0 [some (pO 20 9 0), some (pI x), some (pI y)] [] m Q := by
  have go : ∀ k, k ≤ 3 → x = nI k → ((¬ y < 0) ∧ ¬ (([20, 1, 9, 999] : List Int32).getD k 0) < y) → Wp g d MX5_save 0 [some (pO 20 9 0)] [] (setI m 20 9 0 0 0) (cV fun m7 => (vp_in (5 + x) 341 ∧ (vp_in (5 + x) 341 ∧ Q (.inl (some (pI (m7.1 9 21 0 (ix (5 + x)))))) (setI m7 21 9 0 (ix (5 + x)) y) c n))) := fun k hk e q => by
    subst e
    refine sv_f hS hS6 fun μ s => ⟨rfl, rfl, ?_⟩
    have hr := s.r hR
    dsimp only [cV]
    rw [show (5 : Int32) = nI 5 from rfl, nI_add, ixn (by omega), hr.s (by omega), setI_eq, rset_rset, rset_s]
    refine ⟨vp_in_nI (by omega) (by decide), vp_in_nI (by omega) (by decide), h k hk rfl q μ s ?_⟩
    rw [rset_s] at hr
    rw [tI_r]
    exact Rel_st hr hE (by omega) y
  have xk : ∀ k, k ≤ 3 → x = nI k → (¬ x < 0) ∧ ¬ (3 : Int32) < x := fun k hk e => (inX (hi := 3) (by decide) x).mpr ⟨k, hk, e⟩
  refine sgX5_set ⟨fun n0 => ⟨fun n1 => ⟨fun n2 => ⟨fun q => ?_, fun q => h3 fun z => q ((inX (hi := 3) (by decide) x).mpr z)⟩, fun e => ?_⟩, fun e => ?_⟩, fun e => ?_⟩
  · obtain ⟨k, hk, e⟩ := (inX (hi := 3) (by decide) x).mp q
    have k3 : k = 3 := by
      have : k = 0 ∨ k = 1 ∨ k = 2 ∨ k = 3 := by omega
      rcases this with rfl | rfl | rfl | rfl
      · exact absurd e n0
      · exact absurd e n1
      · exact absurd e n2
      · rfl
    subst k3
    exact ⟨fun q2 => go 3 (by decide) e q2, fun q2 => h2 3 (by decide) e q2⟩
  · exact ⟨fun _ => ⟨fun q2 => go 2 (by decide) e q2, fun q2 => h2 2 (by decide) e q2⟩, fun q => absurd (xk 2 (by decide) e) q⟩
  · exact ⟨fun _ => ⟨fun q2 => go 1 (by decide) e q2, fun q2 => h2 1 (by decide) e q2⟩, fun q => absurd (xk 1 (by decide) e) q⟩
  · exact ⟨fun _ => ⟨fun q2 => go 0 (by decide) e q2, fun q2 => h2 0 (by decide) e q2⟩, fun q => absurd (xk 0 (by decide) e) q⟩
theorem mo_ask {x : Int32} (hR : Rel E P τ (m.1 9 21 0)) (hV : Vv K E P τ) (hK : K + 5 < 2 ^ 31) (hS : m.1 9 20 0 4 = nI S) (hS6 : S ≤ 6) (h3 : ¬ (∃ p, p < P ∧ x = nI p) → Q (.inl (some (pI 0))) (setI m 20 9 0 0 1) c n) (h1 : ∀ p, p < P → x = nI p → oOk E P τ (0, p, 0) = false → Q (.inl (some (pI 0))) (setI m 20 9 0 0 2) c n) (h : ∀ p, p < P → x = nI p → oOk E P τ (0, p, 0) = true → ∀ μ μ', SvF S (m.1 9) μ → Fr μ' μ → Rel E P (oDo E P τ (0, p, 0)) (μ' 21 0) → Q (.inl (some (pI (oAns E P τ (0, p, 0))))) (rset m 9 μ') c n) : Wq g (d + 6) MX5_ask c n 0 [some (pO 20 9 0), some (pI x)] [] m Q := by
  have hI := hV.1
  have hP := hI.P12
  have e2 := hR.h (k := 2) (by decide)
  rw [hI.hP] at e2
  refine sgX5_ask ?_
  rw [ix_2, e2]
  by_cases q : ∃ p, p < P ∧ x = nI p
  · have q' := (in_1 hP x).mpr q
    rw [if_pos q']
    obtain ⟨p, hp, e⟩ := q
    subst e
    have ra := hR.p hp (k := 0) (by decide)
    rw [of0, ixn (by omega), ra]
    refine ⟨fun _ => ⟨vp_in_nI (by omega) (by decide), trivial⟩, ?_⟩
    by_cases s : τ 4 p 0 = 0
    · rw [if_pos s]
      have ho : oOk E P τ (0, p, 0) = true := by simp [oOk, hp, s]
      refine ⟨fun z => absurd rfl z, fun _ => sv_f hS hS6 fun μ sv => ⟨rfl, rfl, ?_⟩⟩
      refine mo_asks (m := rset m 9 μ) (sv.r hR) hI (by omega) hp s fun μ' f r => ⟨rfl, rfl, ?_⟩
      rw [rset_s] at f
      rw [rset_rset]
      exact h p hp rfl ho μ μ' sv f (by simp only [oDo]; simp; exact r)
    · rw [if_neg s]
      exact ⟨fun _ => h1 p hp rfl (by simp [oOk, s]), fun z => absurd z (by decide)⟩
  · have q' : ¬ _ := fun z => q ((in_1 hP x).mp z)
    rw [if_neg q']
    exact ⟨fun z => absurd z q', fun _ => h3 q, fun z => absurd z (by decide)⟩
theorem mo_quit {x : Int32} (hR : Rel E P τ (m.1 9 21 0)) (hV : Vv K E P τ) (hK : K + 5 < 2 ^ 31) (hS : m.1 9 20 0 4 = nI S) (hS6 : S ≤ 6) (h3 : ¬ (∃ p, p < P ∧ x = nI p) → Q (.inl (some (pI 0))) (setI m 20 9 0 0 1) c n) (h1 : ∀ p, p < P → x = nI p → oOk E P τ (1, p, 0) = false → Q (.inl (some (pI 0))) (setI m 20 9 0 0 2) c n) (h : ∀ p, p < P → x = nI p → oOk E P τ (1, p, 0) = true → ∀ μ μ', SvF S (m.1 9) μ → Fr μ' μ → Rel E P (oDo E P τ (1, p, 0)) (μ' 21 0) → Q (.inl (some (pI (oAns E P τ (1, p, 0))))) (rset m 9 μ') c n) : Wq g (d + 6) MX5_quit c n 0 [some (pO 20 9 0), some (pI x)] [] m Q := by
  have hI := hV.1
  have hP := hI.P12
  have e2 := hR.h (k := 2) (by decide)
  rw [hI.hP] at e2
  refine sgX5_quit ?_
  rw [ix_2, e2]
  by_cases q : ∃ p, p < P ∧ x = nI p
  · have q' := (in_1 hP x).mpr q
    rw [if_pos q']
    obtain ⟨p, hp, e⟩ := q
    subst e
    have ra := hR.p hp (k := 0) (by decide)
    rw [of0, ixn (by omega), ra]
    refine ⟨fun _ => ⟨vp_in_nI (by omega) (by decide), trivial⟩, ?_⟩
    have s2 : ((¬ τ 4 p 0 < (1 : Int32)) ∧ (¬ (2 : Int32) < τ 4 p 0)) ↔ (τ 4 p 0 = 1 ∨ τ 4 p 0 = 2) := by
      obtain ⟨v, hv, hv4⟩ := hI.2.2.2.2.2.1 p hp
      rw [hv]
      have : v = 0 ∨ v = 1 ∨ v = 2 ∨ v = 3 := by omega
      rcases this with rfl | rfl | rfl | rfl <;> decide
    by_cases s : τ 4 p 0 = 1 ∨ τ 4 p 0 = 2
    · rw [if_pos (s2.mpr s)]
      have ho : oOk E P τ (1, p, 0) = true := by simp [oOk, hp, s]
      refine ⟨fun z => absurd rfl z, fun _ => sv_f hS hS6 fun μ sv => ⟨rfl, rfl, ?_⟩⟩
      refine mo_quits (m := rset m 9 μ) (sv.r hR) hI (by omega) hp fun μ' f r => ⟨rfl, rfl, ?_⟩
      rw [rset_s] at f
      rw [rset_rset]
      exact h p hp rfl ho μ μ' sv f (by simp only [oDo]; simp; exact r)
    · rw [if_neg (fun z => s (s2.mp z))]
      exact ⟨fun _ => h1 p hp rfl (by simp only [oOk]; simp [s]), fun z => absurd z (by decide)⟩
  · have q' : ¬ _ := fun z => q ((in_1 hP x).mp z)
    rw [if_neg q']
    exact ⟨fun z => absurd z q', fun _ => h3 q, fun z => absurd z (by decide)⟩
theorem mo_cancel {x y : Int32} (hR : Rel E P τ (m.1 9 21 0)) (hV : Vv K E P τ) (hK : K + 5 < 2 ^ 31) (hS : m.1 9 20 0 4 = nI S) (hS6 : S ≤ 6) (h3 : ¬ (∃ e, e < E ∧ x = nI e) → Q (.inl (some (pI 0))) (setI m 20 9 0 0 1) c n) (h2 : ∀ e, e < E → x = nI e → ¬ (∃ D, D ≤ 9 ∧ y = nI D) → Q (.inl (some (pI 0))) (setI m 20 9 0 0 2) c n) (h : ∀ e D, e < E → x = nI e → D ≤ 9 → y = nI D → ∀ μ μ', SvF S (m.1 9) μ → Fr μ' μ → Rel E P (oDo E P τ (4, e, D)) (μ' 21 0) → Q (.inl (some (pI (oAns E P τ (4, e, D))))) (rset m 9 μ') c n) : Wq g (d + 6) MX5_cancel c n 0 [some (pO 20 9 0), some (pI x), some (pI y)] [] m Q := by
  have hI := hV.1
  have hE := hI.E4
  have e1 := hR.h (k := 1) (by decide)
  rw [hI.hE] at e1
  refine sgX5_cancel ?_
  rw [ix_1, e1]
  by_cases q : ∃ e, e < E ∧ x = nI e
  · have q' := (in_1 (X := E) (by omega) x).mpr q
    rw [if_pos q']
    obtain ⟨e, he, ee⟩ := q
    subst ee
    by_cases q2 : ∃ D, D ≤ 9 ∧ y = nI D
    · have q2' := (inX (hi := 9) (by decide) y).mpr q2
      obtain ⟨D, hD, eD⟩ := q2
      rw [if_pos (show (¬ y < 0) ∧ ¬ (9 : Int32) < y from q2')]
      subst eD
      refine ⟨fun z => absurd rfl z, fun _ => sv_f hS hS6 fun μ sv => ⟨rfl, rfl, ?_⟩⟩
      refine mo_cancels (m := rset m 9 μ) (sv.r hR) hI (by omega) he (by omega) fun μ' f r => ⟨rfl, rfl, ?_⟩
      rw [rset_s] at f
      rw [rset_rset]
      exact h e D he rfl hD rfl μ μ' sv f (by simp only [oDo]; simp; exact r)
    · rw [if_neg (show ¬ ((¬ y < 0) ∧ ¬ (9 : Int32) < y) from fun z => q2 ((inX (hi := 9) (by decide) y).mp z))]
      exact ⟨fun _ => h2 e he rfl q2, fun z => absurd z (by decide)⟩
  · have q' : ¬ _ := fun z => q ((in_1 (X := E) (by omega) x).mp z)
    rw [if_neg q']
    exact ⟨fun _ => h3 q, fun z => absurd z (by decide)⟩
theorem mo_next (hR : Rel E P τ (m.1 9 21 0)) (hV : Vv K E P τ) (hK : K + 5 < 2 ^ 31) (hS : m.1 9 20 0 4 = nI S) (hS6 : S ≤ 6) (h1 : oOk E P τ (5, 0, 0) = false → Q (.inl (some (pI 0))) (setI m 20 9 0 0 1) c n) (h : oOk E P τ (5, 0, 0) = true → ∀ μ μ', SvF S (m.1 9) μ → Fr μ' μ → Rel E P (oDo E P τ (5, 0, 0)) (μ' 21 0) → Q (.inl (some (pI (oAns E P τ (5, 0, 0))))) (rset m 9 μ') c n) : Wq g (d + 6) MX5_next c n 0 [some (pO 20 9 0)] [] m Q := by
  have hI := hV.1
  obtain ⟨D, hD, hD9⟩ := hI.2.2.1
  have ok : oOk E P τ (5, 0, 0) = decide (D < 9999) := by
    simp only [oOk, hD]
    simp
    rw [show (9999 : Int32) = nI 9999 from rfl, ← Int32.not_le, nI_leI (a := 9999) (b := D) (by decide) (by omega)]
    omega
  refine sgX5_next ?_
  rw [ix_0, hR.h (k := 0) (by decide), hD]
  by_cases q : D < 9999
  · have q' : ¬ nI D = 9999 := fun z => by have := nI_i (by omega) (by decide) (show nI D = nI 9999 from z); omega
    rw [if_pos q']
    refine ⟨fun z => absurd rfl z, fun _ => sv_f hS hS6 fun μ sv => ⟨rfl, rfl, ?_⟩⟩
    refine mo_goesOn (m := rset m 9 μ) (sv.r hR) hI (by omega) ⟨D, hD, q⟩ fun μ' f r => ⟨rfl, rfl, ?_⟩
    rw [rset_s] at f
    rw [rset_rset]
    exact h (by rw [ok]; exact decide_eq_true q) μ μ' sv f (by simp only [oDo]; simp; exact r)
  · have q' : D = 9999 := by omega
    subst q'
    rw [if_neg (fun z => z rfl)]
    exact ⟨fun _ => h1 (by rw [ok]; decide), fun z => absurd z (by decide)⟩
theorem mo_test {x y : Int32} {k : Nat} (hk : (k = 3 ∧ y = 0) ∨ (k = 2 ∧ ¬ y = 0)) (hR : Rel E P τ (m.1 9 21 0)) (hV : Vv K E P τ) (hS : m.1 9 20 0 4 = nI S) (hS6 : S ≤ 6) (h3 : ¬ (∃ p, p < P ∧ x = nI p) → Q (.inl (some (pI 0))) (setI m 20 9 0 0 1) c n) (h1 : ∀ p, p < P → x = nI p → oOk E P τ (k, p, 0) = false → Q (.inl (some (pI 0))) (setI m 20 9 0 0 2) c n) (h : ∀ p, p < P → x = nI p → oOk E P τ (k, p, 0) = true → ∀ μ μ', SvF S (m.1 9) μ → Fr μ' μ → Rel E P (oDo E P τ (k, p, 0)) (μ' 21 0) → Q (.inl (some (pI (oAns E P τ (k, p, 0))))) (rset m 9 μ') c n) : Wq g (d + 4) MX5_test c n 0 [some (pO 20 9 0), some (pI x), some (pI y)] [] m Q := by
  have ok : ∀ p, p < P → oOk E P τ (k, p, 0) = decide (cDay (cCell τ (nI p)) = 0) := fun p hp => by
    rcases hk with ⟨rfl, _⟩ | ⟨rfl, _⟩ <;> simp [oOk, hp]
  refine sgX5_test (mo_testFault hR hV.1 (fun q => ⟨rfl, rfl, ?_⟩) (fun p hp e q => ⟨rfl, rfl, ?_⟩) (fun p hp e q => ⟨rfl, rfl, ?_⟩))
  · exact ⟨fun _ => h3 q, fun z => absurd z (by decide)⟩
  · exact ⟨fun _ => h1 p hp e (by rw [ok p hp]; exact decide_eq_false q), fun z => absurd z (by decide)⟩
  · subst e
    refine ⟨fun z => absurd rfl z, fun _ => sv_f hS hS6 fun μ sv => ⟨rfl, rfl, ?_⟩⟩
    have ho : oOk E P τ (k, p, 0) = true := by rw [ok p hp]; exact decide_eq_true q
    refine mo_od (m := rset m 9 μ) (sv.r hR) hV hk ho fun μ' f r => ⟨rfl, rfl, ?_⟩
    rw [rset_s] at f
    rw [rset_rset]
    exact h p hp rfl ho μ μ' sv f r
end MA
