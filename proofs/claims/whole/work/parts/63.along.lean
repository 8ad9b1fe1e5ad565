/-! THE MODEL: who could have a slot -/
theorem s16 {D k : Nat} : (16 * nI D) + nI k = nI (16 * D + k) := by
  rw [show (16 : Int32) = nI 16 from rfl, pk_mul, nI_add]
/-- on the way along: by whom a slot was reached, who is on the way -/
def Jv (τ : Nat → Nat → Nat → Int32) (D P : Nat) (h mn by' on : Nat → Int32) (ρ : Nat → Nat) (V : Nat) : Prop :=
  (∀ i, i < 16 → by' i = -1 ∨ ∃ p, p < P ∧ by' i = nI p ∧ on p = 1 ∧ gCan τ D p i = true) ∧
  (∀ p, p < P → on p = 0 ∨ (on p = 1 ∧ gEl τ p = true)) ∧
  (∀ i, i < 16 → ¬ by' i = -1 → ρ i < V ∧ ∀ p j, p < P → j < 16 → by' i = nI p → mn p = nI j → ¬ by' j = -1 ∧ ρ j < ρ i) ∧
  (∀ p j, p < P → j < 16 → on p = 1 → mn p = nI j → ¬ by' j = -1)
def Jc (P : Nat) (h by' on : Nat → Int32) : Prop := ∀ i, i < 16 → ¬ by' i = -1 → ∃ p, p < P ∧ h i = nI p ∧ on p = 1
def bV (by' : Nat → Int32) : Nat := cN (fun i => !decide (by' i = -1)) 16
def Fm (μ μ0 : Nat → Nat → Nat → Int32) : Prop := ∀ t, t ≠ 29 → t ≠ 30 → μ t = μ0 t
section ML
variable {g : GG} {d : Nat} {c n : Nat} {m : PM} {Q : Ou → PM → Nat → Nat → Prop} {K E P D : Nat} {τ : Nat → Nat → Nat → Int32} {μ0 : Nat → Nat → Nat → Int32}
/-- a slot is reached -/
theorem Jv_add {h mn by' on : Nat → Int32} {ρ : Nat → Nat} {V p i : Nat} (hP : P ≤ 12) (hM : Mt τ D P h mn) (hJ : Jv τ D P h mn by' on ρ V) (hp : p < P) (hi : i < 16) (ho : on p = 1) (hcan : gCan τ D p i = true) (hb : by' i = -1) : Jv τ D P h mn (upd by' i (nI p)) on (fun j => if j = i then V else ρ j) (V + 1) := by
  obtain ⟨a, b, e, f⟩ := hJ
  refine ⟨fun j hj => ?_, b, fun j hj hb' => ?_, fun q j hq hj ho' hm => ?_⟩
  · by_cases z : j = i
    · subst z
      rw [upd_e]
      exact Or.inr ⟨p, hp, rfl, ho, hcan⟩
    · rw [upd_o z]
      exact a j hj
  · by_cases z : j = i
    · subst z
      dsimp only
      rw [if_pos rfl]
      refine ⟨Nat.lt_succ_self V, fun q k hq hk e1 e2 => ?_⟩
      rw [upd_e] at e1
      have := nI_i (by omega) (by omega) e1
      subst this
      have hv := f p k hp hk ho e2
      have kj : k ≠ j := fun z => by rw [z] at hv; exact hv hb
      rw [upd_o kj, if_neg kj]
      exact ⟨hv, (e k hk hv).1⟩
    · rw [upd_o z] at hb' ⊢
      dsimp only
      rw [if_neg z]
      obtain ⟨e1, e2⟩ := e j hj hb'
      refine ⟨by omega, fun q k hq hk g1 g2 => ?_⟩
      obtain ⟨x1, x2⟩ := e2 q k hq hk g1 g2
      have kj : k ≠ i := fun z => by rw [z] at x1; exact x1 hb
      rw [upd_o kj, if_neg kj]
      exact ⟨x1, x2⟩
  · have hv := f q j hq hj ho' hm
    have kj : j ≠ i := fun z => by rw [z] at hv; exact hv hb
    rw [upd_o kj]
    exact hv
/-- who has it is on the way -/
theorem Jv_on {h mn by' on : Nat → Int32} {ρ : Nat → Nat} {V q i : Nat} (hJ : Jv τ D P h mn by' on ρ V) (hq : q < P) (hi : i < 16) (he : gEl τ q = true) (hm : mn q = nI i) (hb : ¬ by' i = -1) : Jv τ D P h mn by' (upd on q 1) ρ V := by
  obtain ⟨a, b, e, f⟩ := hJ
  refine ⟨fun j hj => ?_, fun p hp => ?_, e, fun p j hp hj ho hm' => ?_⟩
  · rcases a j hj with z | ⟨p, hp, e1, e2, e3⟩
    · exact Or.inl z
    · refine Or.inr ⟨p, hp, e1, ?_, e3⟩
      by_cases z : p = q
      · subst z; exact upd_e
      · rw [upd_o z]; exact e2
  · by_cases z : p = q
    · subst z
      exact Or.inr ⟨upd_e, he⟩
    · rw [upd_o z]
      exact b p hp
  · by_cases z : p = q
    · subst z
      rw [hm] at hm'
      have := nI_i (by omega) (by omega) hm'
      subst this
      exact hb
    · rw [upd_o z] at ho
      exact f p j hp hj ho hm'
theorem bV_add {by' : Nat → Int32} {p i : Nat} (hi : i < 16) (hp : p < 12) (hb : by' i = -1) : bV (upd by' i (nI p)) = bV by' + 1 := by
  refine cN_one (j := i) (fun k hk hne => ?_) hi ?_ ?_
  · rw [upd_o hne]
  · simp [hb]
  · rw [upd_e]
    simp [nI_m1 (show p < 2 ^ 31 by omega)]
theorem mo_goAlong (hR : Rel E P τ (μ0 21 0)) (hI : Iv K E P τ) (hD : D < 10) (hM : Mt τ D P (μ0 27 0) (μ0 28 0)) (hA : ∀ μ ρ V i, Fm μ μ0 → Jv τ D P (μ0 27 0) (μ0 28 0) (μ 29 0) (μ 30 0) ρ V → i < 16 → μ0 27 0 i = -1 → ¬ μ 29 0 i = -1 → Q (.inl (some (pI (nI i)))) (rset m 9 μ) c n) (hB : ∀ μ ρ V, Fm μ μ0 → Jv τ D P (μ0 27 0) (μ0 28 0) (μ 29 0) (μ 30 0) ρ V → Jc P (μ0 27 0) (μ 29 0) (μ 30 0) → (∀ p, p < P → μ 30 0 p = 1 → ∀ i, i < 16 → gCan τ D p i = true → ¬ μ 29 0 i = -1) → (∀ p, p < P → μ0 30 0 p = 1 → μ 30 0 p = 1) → Q (.inl (some (pI (-1)))) (rset m 9 μ) c n) : ∀ (N : Nat) (μ : Nat → Nat → Nat → Int32) (ρ : Nat → Nat) (V : Nat), 16 ≤ bV (μ 29 0) + N → Fm μ μ0 → Jv τ D P (μ0 27 0) (μ0 28 0) (μ 29 0) (μ 30 0) ρ V → Jc P (μ0 27 0) (μ 29 0) (μ 30 0) → (∀ p, p < P → μ0 30 0 p = 1 → μ 30 0 p = 1) → Wq g (d + 3) MX5_goAlong c n 2 [some (pO 20 9 0), some (pI (nI D)), some (pI 1), none, none] [] (rset m 9 μ) Q := by
  have hP := hI.P12
  have hE := hI.E4
  intro N
  induction N with
  | zero => ?_
  | succ N ihN => ?_
  all_goals
    intro μ ρ V hN hF hJ hC hO
    refine sgX5_goAlong_2 ⟨fun z => absurd z (by decide), fun _ => ?_⟩
    refine Wq.up (S := (Nat → Nat → Nat → Int32) × (Nat → Nat) × Nat × Bool) P (fun p s => [some (pO 20 9 0), some (pI (nI D)), some (pI (if s.2.2.2 then 1 else 0)), some (pI (nI p)), none]) (fun _ s => rset m 9 s.1) (fun p s => Fm s.1 μ0 ∧ Jv τ D P (μ0 27 0) (μ0 28 0) (s.1 29 0) (s.1 30 0) s.2.1 s.2.2.1 ∧ Jc P (μ0 27 0) (s.1 29 0) (s.1 30 0) ∧ (∀ p, p < P → μ0 30 0 p = 1 → s.1 30 0 p = 1) ∧ bV (μ 29 0) + (if s.2.2.2 = true then 1 else 0) ≤ bV (s.1 29 0) ∧ (s.2.2.2 = false → ∀ q, q < p → s.1 30 0 q = 1 → ∀ i, i < 16 → gCan τ D q i = true → ¬ s.1 29 0 i = -1)) (fun s hL => ?_) (fun p s hp hL ih => ?_) 0 (μ, ρ, V, false) (by omega) ⟨hF, hJ, hC, hO, Nat.le_refl _, fun _ q hq => absurd hq (Nat.not_lt_zero q)⟩
    · obtain ⟨μ1, ρ1, V1, x⟩ := s
      obtain ⟨l1, l2, l3, l4, l5, l6⟩ := hL
      dsimp only at l1 l2 l3 l4 l5 l6 ⊢
      refine sgX5_goAlong_10 ⟨fun _ => ?_, fun q => absurd ?_ q⟩
      · cases x with
        | false =>
          refine sgX5_goAlong_2 ⟨fun _ => ?_, fun z => absurd rfl z⟩
          exact hB μ1 ρ1 V1 l1 l2 l3 (l6 rfl) l4
        | true =>
          have := l5
          rw [if_pos rfl] at this
          first
            | exact absurd (cN_le (fun i => !decide (μ1 29 0 i = -1)) 16) (by unfold bV at this hN; omega)
            | exact ihN μ1 ρ1 V1 (by omega) l1 l2 l3 l4
      · rw [rset_s, ix_2, l1 21 (by decide) (by decide), hR.1 2 (by decide), hI.hP]
        exact geL (Nat.le_refl P) (by omega)
    · obtain ⟨μ1, ρ1, V1, x⟩ := s
      obtain ⟨l1, l2, l3, l4, l5, l6⟩ := hL
      dsimp only at l1 l2 l3 l4 l5 l6 ih ⊢
      refine sgX5_goAlong_10 ⟨fun q => absurd ?_ (ngeL hp (show P < 2 ^ 31 by omega)), fun _ => ?_⟩
      · rw [rset_s, ix_2, l1 21 (by decide) (by decide), hR.1 2 (by decide), hI.hP] at q
        exact q
      · refine Wq.up (S := (Nat → Nat → Nat → Int32) × (Nat → Nat) × Nat × Bool) 16 (fun i s => [some (pO 20 9 0), some (pI (nI D)), some (pI (if s.2.2.2 then 1 else 0)), some (pI (nI p)), some (pI (nI i))]) (fun _ s => rset m 9 s.1) (fun i s => Fm s.1 μ0 ∧ Jv τ D P (μ0 27 0) (μ0 28 0) (s.1 29 0) (s.1 30 0) s.2.1 s.2.2.1 ∧ Jc P (μ0 27 0) (s.1 29 0) (s.1 30 0) ∧ (∀ p, p < P → μ0 30 0 p = 1 → s.1 30 0 p = 1) ∧ bV (μ 29 0) + (if s.2.2.2 = true then 1 else 0) ≤ bV (s.1 29 0) ∧ (s.2.2.2 = false → (∀ q, q < p → s.1 30 0 q = 1 → ∀ i, i < 16 → gCan τ D q i = true → ¬ s.1 29 0 i = -1) ∧ (s.1 30 0 p = 1 → ∀ j, j < i → gCan τ D p j = true → ¬ s.1 29 0 j = -1))) (fun s hL => ?_) (fun i s hi hL ih2 => ?_) 0 (μ1, ρ1, V1, x) (by omega) ⟨l1, l2, l3, l4, l5, fun z => ⟨l6 z, fun _ j hj => absurd hj (Nat.not_lt_zero j)⟩⟩
        · obtain ⟨μ2, ρ2, V2, y⟩ := s
          obtain ⟨k1, k2, k3, k4, k5, k6⟩ := hL
          dsimp only at k1 k2 k3 k4 k5 k6 ⊢
          refine sgX5_goAlong_23 ⟨fun _ => ?_, fun q => absurd (geL (Nat.le_refl 16) (by decide)) q⟩
          rw [nI_1]
          refine ih (μ2, ρ2, V2, y) ⟨k1, k2, k3, k4, k5, fun z q hq ho j hj hc => ?_⟩
          obtain ⟨z1, z2⟩ := k6 z
          by_cases e : q = p
          · subst e
            exact z2 ho j hj hc
          · exact z1 q (by omega) ho j hj hc
        · obtain ⟨μ2, ρ2, V2, y⟩ := s
          obtain ⟨k1, k2, k3, k4, k5, k6⟩ := hL
          dsimp only at k1 k2 k3 k4 k5 k6 ih2 ⊢
          have hR2 : Rel E P τ ((rset m 9 μ2).1 9 21 0) := by rw [rset_s, k1 21 (by decide) (by decide)]; exact hR
          have hcan := can_iff (m := rset m 9 μ2) hR2 hI hp (i := 16 * D + i) (by omega)
          have skip : (y = false → μ2 30 0 p = 1 → gCan τ D p i = true → ¬ μ2 29 0 i = -1) → Wq g (d + 3) MX5_goAlong c n 23 [some (pO 20 9 0), some (pI (nI D)), some (pI (if y = true then 1 else 0)), some (pI (nI p)), some (pI (nI (i + 1)))] [] (rset m 9 μ2) Q := fun hs => by
            refine ih2 (μ2, ρ2, V2, y) ⟨k1, k2, k3, k4, k5, fun z => ⟨(k6 z).1, fun ho j hj hc => ?_⟩⟩
            by_cases e : j = i
            · subst e
              exact hs z ho hc
            · exact (k6 z).2 ho j (by omega) hc
          refine sgX5_goAlong_23 ⟨fun q => absurd q (ngeL hi (by decide)), fun _ => ⟨vp_in_nI (by omega) (by decide), ?_⟩⟩
          rw [ixn (by omega)]
          refine ⟨fun q => ?_, fun q => ?_⟩
          · rw [rset_s] at q
            rw [nI_1]
            refine ih (μ2, ρ2, V2, y) ⟨k1, k2, k3, k4, k5, fun z q' hq ho j hj hc => ?_⟩
            by_cases e : q' = p
            · subst e
              have ho' : μ2 30 0 q' = 1 := ho
              rw [q] at ho'
              exact absurd ho' (by decide)
            · exact (k6 z).1 q' (by omega) ho j hj hc
          · rw [rset_s] at q
            have hon : μ2 30 0 p = 1 ∧ gEl τ p = true := by
              rcases k2.2.1 p hp with z | z
              · exact absurd z q
              · exact z
            refine ⟨vp_in_nI (by omega) (by decide), ?_⟩
            rw [ixn (by omega), nI_1]
            refine ⟨fun q2 => ?_, fun q2 => ?_⟩
            · rw [rset_s] at q2
              exact skip fun _ _ _ => q2
            · rw [rset_s] at q2
              simp (disch := omega) only [s16, dv16, rm4, dv4, at_n, pl_n, of2, of4, ixn, ix_0, ix_1, ix_6]
              refine ⟨fun _ => ⟨vp_in_nI (by omega) (by decide), fun _ => ⟨vp_in_nI (by omega) (by decide), fun _ _ => ⟨vp_in_nI (by omega) (by decide), trivial⟩⟩⟩, fun q3 => ?_, fun q3 => ?_⟩
              · exact skip fun _ _ hc => absurd (hcan.mpr hc) q3
              · have hc : gCan τ D p i = true := hcan.mp q3
                have hJ2 := Jv_add hP hM k2 hp hi hon.1 hc q2
                have e29 : tI μ2 29 0 i (nI p) 29 0 = upd (μ2 29 0) i (nI p) := tI_r
                have e30 : tI μ2 29 0 i (nI p) 30 0 = μ2 30 0 := by rw [tI_t (by decide)]
                have e27 : tI μ2 29 0 i (nI p) 27 0 = μ0 27 0 := by rw [tI_t (by decide), k1 27 (by decide) (by decide)]
                have hF2 : Fm (tI μ2 29 0 i (nI p)) μ0 := fun t a b => by rw [tI_t a]; exact k1 t a b
                simp only [setI_eq, rset_rset, rset_s]
                rw [e27]
                refine ⟨vp_in_nI (by omega) (by decide), vp_in_nI (by omega) (by decide), fun q4 => ?_, fun q4 => ?_⟩
                · rcases hM.1 i hi with z | ⟨q5, hq5, g1, g2, g3, g4⟩
                  · exact absurd z q4
                  · rw [g1, ixn (by omega)]
                    refine ⟨vp_in_nI (by omega) (by decide), vp_in_nI (by omega) (by decide), ?_⟩
                    have hJ3 := Jv_on hJ2 hq5 hi g4 g2 (by rw [upd_e]; exact nI_m1 (by omega))
                    have f29 : tI (tI μ2 29 0 i (nI p)) 30 0 q5 1 29 0 = upd (μ2 29 0) i (nI p) := by rw [tI_t (by decide), e29]
                    have f30 : tI (tI μ2 29 0 i (nI p)) 30 0 q5 1 30 0 = upd (μ2 30 0) q5 1 := by rw [tI_r, e30]
                    refine ih2 (tI (tI μ2 29 0 i (nI p)) 30 0 q5 1, (fun j => if j = i then V2 else ρ2 j), V2 + 1, true) ⟨fun t a b => by dsimp only; rw [tI_t b]; exact hF2 t a b, by dsimp only; rw [f29, f30]; exact hJ3, ?_, ?_, ?_, fun z => absurd z.symm Bool.false_ne_true⟩
                    · dsimp only
                      rw [f29, f30]
                      intro j hj hb
                      by_cases e : j = i
                      · subst e
                        exact ⟨q5, hq5, g1, upd_e⟩
                      · rw [upd_o e] at hb
                        obtain ⟨r1, r2, r3, r4⟩ := k3 j hj hb
                        refine ⟨r1, r2, r3, ?_⟩
                        by_cases e2 : r1 = q5
                        · subst e2; exact upd_e
                        · rw [upd_o e2]; exact r4
                    · dsimp only
                      rw [f30]
                      intro r hr hor
                      by_cases e2 : r = q5
                      · subst e2; exact upd_e
                      · rw [upd_o e2]; exact k4 r hr hor
                    · dsimp only
                      rw [f29, bV_add hi (by omega) q2, if_pos rfl]
                      have := k5
                      split at this <;> omega
                · refine hA _ _ _ i hF2 (by rw [e29, e30]; exact hJ2) hi q4 ?_
                  rw [e29, upd_e]
                  exact nI_m1 (by omega)
end ML
