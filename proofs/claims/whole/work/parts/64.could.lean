/-! THE MODEL: as many as could have a slot -/
/-- a matching but for slot i -/
def Mx (τ : Nat → Nat → Nat → Int32) (D P : Nat) (h mn : Nat → Int32) (i : Nat) : Prop :=
  (∀ j, j < 16 → j ≠ i → h j = -1 ∨ ∃ p, p < P ∧ h j = nI p ∧ mn p = nI j ∧ gCan τ D p j = true ∧ gEl τ p = true) ∧ (∀ p, p < P → mn p = -1 ∨ ∃ j, j < 16 ∧ j ≠ i ∧ mn p = nI j ∧ h j = nI p)
def Gm (μ μ0 : Nat → Nat → Nat → Int32) : Prop := ∀ t, t ≠ 27 → t ≠ 28 → t ≠ 29 → t ≠ 30 → μ t = μ0 t
section MK
variable {g : GG} {d : Nat} {c n : Nat} {m : PM} {Q : Ou → PM → Nat → Nat → Prop} {K E P D : Nat} {τ : Nat → Nat → Nat → Int32}
theorem mo_walk {x2 x3 : Int32} {ρ : Nat → Nat} {B : Nat → Int32} {μ0 : Nat → Nat → Nat → Int32} {k : Nat} (hP : P ≤ 12) (hB : ∀ i, i < 16 → B i = -1 ∨ ∃ p, p < P ∧ B i = nI p ∧ gEl τ p = true ∧ gCan τ D p i = true) (h : ∀ μ', Gm μ' μ0 → Mt τ D P (μ' 27 0) (μ' 28 0) → mC (μ' 28 0) P = k + 1 → Wq g (d + 4) MX5_could c n 46 [some (pO 20 9 0), some (pI (nI D)), some (pI x2), some (pI x3), none, none, none] [] (rset m 9 μ') Q) : ∀ (N : Nat) (μ : Nat → Nat → Nat → Int32) (i : Nat), i < 16 → ρ i < N → μ 29 0 = B → Gm μ μ0 → Mx τ D P (μ 27 0) (μ 28 0) i → mC (μ 28 0) P = k → ¬ B i = -1 → (∀ i2, i2 < 16 → ¬ B i2 = -1 → ρ i2 ≤ ρ i → ∀ p j, p < P → j < 16 → B i2 = nI p → μ 28 0 p = nI j → ¬ B j = -1 ∧ ρ j < ρ i2) → Wq g (d + 4) MX5_could c n 163 [some (pO 20 9 0), some (pI (nI D)), some (pI x2), some (pI x3), some (pI (nI i)), none, none] [] (rset m 9 μ) Q := by
  intro N
  induction N with
  | zero => intro μ i _ hr; omega
  | succ N ih =>
    intro μ i hi hr h29 hG hX hC hBi hW
    rcases hB i hi with z | ⟨p, hp, e1, e2, e3⟩
    · exact absurd z hBi
    · refine sgX5_could_163 ⟨fun z => absurd z (nI_m1 (by omega)), fun _ => ?_⟩
      rw [rset_s, ixn (by omega), h29, e1, ixn (by omega)]
      simp only [setI_eq, rset_rset, rset_s]
      refine ⟨vp_in_nI (by omega) (by decide), vp_in_nI (by omega) (by decide), vp_in_nI (by omega) (by decide), vp_in_nI (by omega) (by decide), ?_⟩
      have f28 : tI (tI μ 28 0 p (nI i)) 27 0 i (nI p) 28 0 = upd (μ 28 0) p (nI i) := by rw [tI_t (by decide), tI_r]
      have f27 : tI (tI μ 28 0 p (nI i)) 27 0 i (nI p) 27 0 = upd (μ 27 0) i (nI p) := by rw [tI_r, tI_t (by decide)]
      have f29 : tI (tI μ 28 0 p (nI i)) 27 0 i (nI p) 29 0 = B := by rw [tI_t (by decide), tI_t (by decide), h29]
      have fG : Gm (tI (tI μ 28 0 p (nI i)) 27 0 i (nI p)) μ0 := fun t a b c d => by rw [tI_t a, tI_t b]; exact hG t a b c d
      rcases hX.2 p hp with q | ⟨j, hj, hji, ej, hh⟩
      · rw [q]
        refine sgX5_could_163 ⟨fun _ => ?_, fun z => absurd rfl z⟩
        refine h _ fG ⟨fun j hj => ?_, fun p' hp' => ?_⟩ ?_
        · rw [f27, f28]
          by_cases z : j = i
          · subst z
            rw [upd_e]
            exact Or.inr ⟨p, hp, rfl, upd_e, e3, e2⟩
          · rw [upd_o z]
            rcases hX.1 j hj z with y | ⟨p', hp', g1, g2, g3⟩
            · exact Or.inl y
            · refine Or.inr ⟨p', hp', g1, ?_, g3⟩
              by_cases y : p' = p
              · subst y
                rw [q] at g2
                exact absurd g2.symm (nI_m1 (by omega))
              · rw [upd_o y]
                exact g2
        · rw [f27, f28]
          by_cases z : p' = p
          · subst z
            exact Or.inr ⟨i, hi, upd_e, upd_e⟩
          · rw [upd_o z]
            rcases hX.2 p' hp' with y | ⟨j, hj, hji, g1, g2⟩
            · exact Or.inl y
            · exact Or.inr ⟨j, hj, g1, by rw [upd_o hji]; exact g2⟩
        · rw [f28, ← hC]
          refine cN_one (j := p) (fun r hr hne => by rw [upd_o hne]) hp (by rw [q]; decide) ?_
          rw [upd_e]
          simp [nI_m1 (show i < 2 ^ 31 by omega)]
      · rw [ej]
        obtain ⟨w1, w2⟩ := hW i hi hBi (Nat.le_refl _) p j hp hj e1 ej
        refine ih _ j hj (by omega) f29 fG ⟨fun r hr hne => ?_, fun p' hp' => ?_⟩ ?_ w1 (fun i2 hi2 hb2 hle p2 j2 hp2 hj2 b1 b2 => ?_)
        · rw [f27, f28]
          by_cases z : r = i
          · subst z
            rw [upd_e]
            exact Or.inr ⟨p, hp, rfl, upd_e, e3, e2⟩
          · rw [upd_o z]
            rcases hX.1 r hr z with y | ⟨p', hp', g1, g2, g3⟩
            · exact Or.inl y
            · refine Or.inr ⟨p', hp', g1, ?_, g3⟩
              by_cases y : p' = p
              · subst y
                rw [ej] at g2
                exact absurd (nI_i (by omega) (by omega) g2).symm hne
              · rw [upd_o y]
                exact g2
        · rw [f27, f28]
          by_cases z : p' = p
          · subst z
            exact Or.inr ⟨i, hi, fun y => hji y.symm, upd_e, upd_e⟩
          · rw [upd_o z]
            rcases hX.2 p' hp' with y | ⟨r, hr, hri, g1, g2⟩
            · exact Or.inl y
            · refine Or.inr ⟨r, hr, fun y => ?_, g1, by rw [upd_o hri]; exact g2⟩
              subst y
              rw [hh] at g2
              exact z (nI_i (by omega) (by omega) g2).symm
        · rw [f28, ← hC]
          refine cN_congr fun r hr => ?_
          by_cases z : r = p
          · subst z
            rw [upd_e, ej]
            simp [nI_m1 (show i < 2 ^ 31 by omega), nI_m1 (show j < 2 ^ 31 by omega)]
          · rw [upd_o z]
        · rw [f28] at b2
          by_cases z : p2 = p
          · subst z
            have := hW i2 hi2 hb2 (by omega) p2 j hp hj b1 ej
            omega
          · rw [upd_o z] at b2
            exact hW i2 hi2 hb2 (by omega) p2 j2 hp2 hj2 b1 b2
theorem mo_could_46 (hR : Rel E P τ (m.1 9 21 0)) (hI : Iv K E P τ) (hD : D < 10) (h : ∀ μ, Gm μ (m.1 9) → Q (.inl (some (pI (nI (cMost τ E P D 16))))) (rset m 9 μ) c n) : ∀ (N k : Nat) (μ : Nat → Nat → Nat → Int32), 13 ≤ k + N → Gm μ (m.1 9) → Mt τ D P (μ 27 0) (μ 28 0) → mC (μ 28 0) P = k → Wq g (d + 4) MX5_could c n 46 [some (pO 20 9 0), some (pI (nI D)), some (pI (nI k)), some (pI 1), none, none, none] [] (rset m 9 μ) Q := by
  have hP := hI.P12
  have hE := hI.E4
  intro N
  induction N with
  | zero =>
    intro k μ hk _ _ hC
    have := cN_le (fun p => !decide (μ 28 0 p = -1)) P
    unfold mC at hC
    omega
  | succ N ih =>
    intro k μ hk hG hM hC
    refine sgX5_could_46 ⟨fun z => absurd z (by decide), fun _ => ?_⟩
    refine Wq.up (S := Nat → Nat → Nat → Int32) 16 (fun i _ => [some (pO 20 9 0), some (pI (nI D)), some (pI (nI k)), none, some (pI (nI i)), none, none]) (fun _ ν => rset m 9 ν) (fun i ν => (∀ t, t ≠ 29 → ν t = μ t) ∧ ∀ j, j < i → ν 29 0 j = -1) (fun ν hL => ?_) (fun i ν hi hL ih2 => ?_) 0 μ (by omega) ⟨fun _ _ => rfl, fun j hj => absurd hj (Nat.not_lt_zero j)⟩
    · obtain ⟨f, a⟩ := hL
      refine sgX5_could_53 ⟨fun _ => ?_, fun q => absurd (geL (Nat.le_refl 16) (by decide)) q⟩
      refine Wq.up (S := Nat → Nat → Nat → Int32) P (fun p _ => [some (pO 20 9 0), some (pI (nI D)), some (pI (nI k)), none, some (pI (nI p)), none, none]) (fun _ ν => rset m 9 ν) (fun p ν => (∀ t, t ≠ 29 → t ≠ 30 → ν t = μ t) ∧ (∀ j, j < 16 → ν 29 0 j = -1) ∧ ∀ q, q < p → ν 30 0 q = if gEl τ q = true ∧ μ 28 0 q = -1 then 1 else 0) (fun ν hL => ?_) (fun p ν hp hL ih2 => ?_) 0 ν (by omega) ⟨fun t q _ => f t q, a, fun q hq => absurd hq (Nat.not_lt_zero q)⟩
      · obtain ⟨f, a, b⟩ := hL
        have g27 : ν 27 0 = μ 27 0 := by rw [f 27 (by decide) (by decide)]
        have g28 : ν 28 0 = μ 28 0 := by rw [f 28 (by decide) (by decide)]
        have hR' : Rel E P τ (ν 21 0) := by rw [f 21 (by decide) (by decide), hG 21 (by decide) (by decide) (by decide) (by decide)]; exact hR
        have hM' : Mt τ D P (ν 27 0) (ν 28 0) := by rw [g27, g28]; exact hM
        have J0 : Jv τ D P (ν 27 0) (ν 28 0) (ν 29 0) (ν 30 0) (fun _ => 0) 0 := by
          refine ⟨fun i hi => Or.inl (a i hi), fun p hp => ?_, fun i hi hb => absurd (a i hi) hb, fun p j hp hj ho hm => ?_⟩
          · rw [b p hp]
            by_cases z : gEl τ p = true ∧ μ 28 0 p = -1
            · rw [if_pos z]
              exact Or.inr ⟨rfl, z.1⟩
            · rw [if_neg z]
              exact Or.inl rfl
          · rw [b p hp] at ho
            by_cases z : gEl τ p = true ∧ μ 28 0 p = -1
            · rw [g28, z.2] at hm
              exact absurd hm.symm (nI_m1 (by omega))
            · rw [if_neg z] at ho
              exact absurd ho (by decide)
        refine sgX5_could_77 ⟨fun _ => ?_, fun q => absurd ?_ q⟩
        · refine sgX5_goAlong (mo_goAlong (μ0 := ν) (τ := τ) (K := K) (E := E) (P := P) (D := D) hR' hI hD hM' (fun μ1 ρ V i f1 hJ hi h27 hb => ⟨rfl, rfl, ?_⟩) (fun μ1 ρ V f1 hJ hc hcl ho => ⟨rfl, rfl, ?_⟩) 16 ν (fun _ => 0) 0 (by omega) (fun _ _ _ => rfl) J0 (fun i hi hb => absurd (a i hi) hb) (fun _ _ z => z))
          · dsimp only [cI]
            refine ⟨fun z => absurd z (nI_m1 (by omega)), fun _ => ?_⟩
            rw [show nI k + 1 = nI (k + 1) from nI_add _ 1]
            have j27 : μ1 27 0 = ν 27 0 := by rw [f1 27 (by decide) (by decide)]
            have j28 : μ1 28 0 = ν 28 0 := by rw [f1 28 (by decide) (by decide)]
            refine mo_walk (τ := τ) (P := P) (ρ := ρ) (B := μ1 29 0) (μ0 := m.1 9) (k := k) hP (fun i hi => ?_) (fun μ' gG gM gC => ih (k + 1) μ' (by omega) gG gM gC) (ρ i + 1) μ1 i hi (Nat.lt_succ_self _) rfl (fun t a1 a2 a3 a4 => by rw [f1 t a3 a4, f t a3 a4]; exact hG t a1 a2 a3 a4) ⟨fun j hj _ => ?_, fun p hp => ?_⟩ (by rw [j28, g28]; exact hC) hb (fun i2 hi2 hb2 _ p j hp hj b1 b2 => ?_)
            · rcases hJ.1 i hi with z | ⟨p, hp, e1, e2, e3⟩
              · exact Or.inl z
              · refine Or.inr ⟨p, hp, e1, ?_, e3⟩
                rcases hJ.2.1 p hp with z | z
                · rw [z] at e2; exact absurd e2 (by decide)
                · exact z.2
            · rw [j27, j28]
              exact hM'.1 j hj
            · rw [j27, j28]
              rcases hM'.2 p hp with z | ⟨j, hj, e1, e2⟩
              · exact Or.inl z
              · refine Or.inr ⟨j, hj, fun z => ?_, e1, e2⟩
                subst z
                rw [h27] at e2
                exact absurd e2.symm (nI_m1 (by omega))
            · rw [j28] at b2
              exact (hJ.2.2.1 i2 hi2 hb2).2 p j hp hj b1 b2
          · dsimp only [cI]
            refine ⟨fun _ => ?_, fun z => absurd rfl z⟩
            rw [Int32.add_zero]
            refine sgX5_could_163 ⟨fun _ => ?_, fun z => absurd rfl z⟩
            refine sgX5_could_46 ⟨fun _ => ?_, fun z => absurd rfl z⟩
            have e := Mt_most hI hD hM' hJ.1 hc hcl (fun p hp he hm => ho p hp (by rw [b p hp, if_pos ⟨he, by rw [← g28]; exact hm⟩]))
            rw [g28, hC] at e
            rw [e]
            exact h μ1 fun t a1 a2 a3 a4 => by rw [f1 t a3 a4, f t a3 a4]; exact hG t a1 a2 a3 a4
        · rw [rset_s, ix_2, hR'.1 2 (by decide), hI.hP]
          exact geL (Nat.le_refl P) (by omega)
      · obtain ⟨f, a, b⟩ := hL
        have hR' : Rel E P τ (ν 21 0) := by rw [f 21 (by decide) (by decide), hG 21 (by decide) (by decide) (by decide) (by decide)]; exact hR
        have st : ∀ x, x = (if gEl τ p = true ∧ μ 28 0 p = -1 then (1 : Int32) else 0) → Wq g (d + 4) MX5_could c n 77 [some (pO 20 9 0), some (pI (nI D)), some (pI (nI k)), none, some (pI (nI (p + 1))), none, none] [] (rset m 9 (tI ν 30 0 p x)) Q := fun x hx => by
          refine ih2 _ ⟨fun t q1 q2 => by rw [tI_t q2]; exact f t q1 q2, fun j hj => by rw [tI_t (by decide)]; exact a j hj, fun q hq => ?_⟩
          by_cases z : q = p
          · subst z
            rw [tI_s]
            exact hx
          · rw [tI_k z]
            exact b q (by omega)
        obtain ⟨v, hv, hv4⟩ := hI.2.2.2.2.2.1 p hp
        have c2 : (2 : Int32) ≤ nI v ↔ 2 ≤ v := by rw [show (2 : Int32) = nI 2 from rfl, nI_leI (by decide) (by omega)]
        have eg : gEl τ p = true ↔ v < 2 := by
          unfold gEl
          rw [hv]
          have : v = 0 ∨ v = 1 ∨ v = 2 ∨ v = 3 := by omega
          rcases this with rfl | rfl | rfl | rfl <;> decide
        refine sgX5_could_77 ⟨fun q => absurd ?_ (ngeL hp (show P < 2 ^ 31 by omega)), fun _ => ?_⟩
        · rw [rset_s, ix_2, hR'.1 2 (by decide), hI.hP] at q
          exact q
        · rw [of0, ixn (by omega), rset_s, hR'.2.2.2.1 p hp 0 (by decide), hv, c2, ixn (by omega), nI_1, setI_eq, setI_eq, rset_rset, rset_s, rset_rset]
          refine ⟨vp_in_nI (by omega) (by decide), fun q => ⟨vp_in_nI (by omega) (by decide), st 0 (by rw [if_neg (fun z => by have := eg.mp z.1; omega)])⟩, fun q => ⟨vp_in_nI (by omega) (by decide), fun q2 => ⟨vp_in_nI (by omega) (by decide), st 0 ?_⟩, fun q2 => ⟨vp_in_nI (by omega) (by decide), st 1 ?_⟩⟩⟩
          · rw [f 28 (by decide) (by decide)] at q2
            rw [if_neg (fun z => q2 z.2)]
          · rw [f 28 (by decide) (by decide)] at q2
            rw [if_pos ⟨eg.mpr (by omega), q2⟩]
    · obtain ⟨f, a⟩ := hL
      refine sgX5_could_53 ⟨fun q => absurd q (ngeL hi (by decide)), fun _ => ?_⟩
      rw [ixn (by omega), nI_1, setI_eq, rset_rset, rset_s]
      refine ⟨vp_in_nI (by omega) (by decide), ih2 _ ⟨fun t q => by rw [tI_t q]; exact f t q, fun j hj => ?_⟩⟩
      by_cases z : j = i
      · subst z; rw [tI_s]
      · rw [tI_k z]; exact a j (by omega)
theorem mo_could (hR : Rel E P τ (m.1 9 21 0)) (hI : Iv K E P τ) (hD : D < 10) (h : ∀ μ, Gm μ (m.1 9) → Q (.inl (some (pI (nI (cMost τ E P D 16))))) (rset m 9 μ) c n) : Wq g (d + 4) MX5_could c n 0 [some (pO 20 9 0), some (pI (nI D))] [] m Q := by
  have hP := hI.P12
  refine sgX5_could ?_
  have key := Wq.up (g := g) (d := d + 4) (M := MX5_could) (c := c) (n := n) (pc := 4) (Q := Q) (S := Nat → Nat → Nat → Int32) 16 (fun i _ => [some (pO 20 9 0), some (pI (nI D)), some (pI 0), some (pI (nI i)), none, none, none]) (fun _ ν => rset m 9 ν) (fun i ν => (∀ t, t ≠ 27 → ν t = m.1 9 t) ∧ ∀ j, j < i → ν 27 0 j = -1) (fun ν hL => ?_) (fun i ν hi hL ih2 => ?_) 0 (m.1 9) (by omega) ⟨fun _ _ => rfl, fun j hj => absurd hj (Nat.not_lt_zero j)⟩
  · rw [rset_id] at key
    exact key
  · obtain ⟨f, a⟩ := hL
    refine sgX5_could_4 ⟨fun _ => ?_, fun q => absurd (geL (Nat.le_refl 16) (by decide)) q⟩
    refine Wq.up (S := Nat → Nat → Nat → Int32) 12 (fun i _ => [some (pO 20 9 0), some (pI (nI D)), some (pI 0), some (pI (nI i)), none, none, none]) (fun _ ν => rset m 9 ν) (fun i ν => (∀ t, t ≠ 27 → t ≠ 28 → ν t = m.1 9 t) ∧ (∀ j, j < 16 → ν 27 0 j = -1) ∧ ∀ j, j < i → ν 28 0 j = -1) (fun ν hL => ?_) (fun i ν hi hL ih2 => ?_) 0 ν (by omega) ⟨fun t q _ => f t q, a, fun j hj => absurd hj (Nat.not_lt_zero j)⟩
    · obtain ⟨f, a, b⟩ := hL
      refine sgX5_could_25 ⟨fun _ => ?_, fun q => absurd (geL (Nat.le_refl 12) (by decide)) q⟩
      refine mo_could_46 hR hI hD h 13 0 ν (by omega) (fun t q1 q2 _ _ => f t q1 q2) ⟨fun i hi => Or.inl (a i hi), fun p hp => Or.inl (b p (by omega))⟩ ?_
      unfold mC
      have : ∀ k, k ≤ 12 → cN (fun p => !decide (ν 28 0 p = -1)) k = 0 := fun k => by
        induction k with
        | zero => intro _; rfl
        | succ k ih =>
          intro hk
          rw [cN, ih (by omega), b k (by omega)]
          rfl
      exact this P hP
    · obtain ⟨f, a, b⟩ := hL
      refine sgX5_could_25 ⟨fun q => absurd q (ngeL hi (by decide)), fun _ => ?_⟩
      rw [ixn (by omega), nI_1, setI_eq, rset_rset, rset_s]
      refine ⟨vp_in_nI (by omega) (by decide), ih2 _ ⟨fun t q1 q2 => by rw [tI_t q2]; exact f t q1 q2, fun j hj => by rw [tI_t (by decide)]; exact a j hj, fun j hj => ?_⟩⟩
      by_cases z : j = i
      · subst z; rw [tI_s]
      · rw [tI_k z]; exact b j (by omega)
  · obtain ⟨f, a⟩ := hL
    refine sgX5_could_4 ⟨fun q => absurd q (ngeL hi (by decide)), fun _ => ?_⟩
    rw [ixn (by omega), nI_1, setI_eq, rset_rset, rset_s]
    refine ⟨vp_in_nI (by omega) (by decide), ih2 _ ⟨fun t q => by rw [tI_t q]; exact f t q, fun j hj => ?_⟩⟩
    by_cases z : j = i
    · subst z; rw [tI_s]
    · rw [tI_k z]; exact a j (by omega)
theorem mo_couldHave {x : Int32} (hR : Rel E P τ (m.1 9 21 0)) (hI : Iv K E P τ) (h2 : ¬ (∃ D, D ≤ 9 ∧ x = nI D) → Q (.inl (some (pI 0))) (setI m 20 9 0 0 1) c n) (h : ∀ D, D ≤ 9 → x = nI D → ∀ μ, Gm μ (tI (m.1 9) 20 0 0 0) → Q (.inl (some (pI (nI (cMost τ E P D 16))))) (rset m 9 μ) c n) : Wq g (d + 5) MX5_couldHave c n 0 [some (pO 20 9 0), some (pI x)] [] m Q := by
  refine sgX5_couldHave ?_
  rw [show (9 : Int32) = nI 9 from rfl, inX (by decide)]
  refine ⟨h2, fun ⟨D, hD, e⟩ => ?_⟩
  subst e
  refine mo_could (m := setI m 20 9 0 0 0) (by rw [flR]; exact hR) hI (by omega) fun μ f => ⟨rfl, rfl, ?_⟩
  rw [setI_eq, rset_rset]
  rw [setI_eq, rset_s] at f
  exact h D hD rfl μ f
end MK
